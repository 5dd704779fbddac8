theorem dX5_append_0 : decode cX5_append 0 = .ok (.aload_n 0, 1) := by decide +kernel
theorem dX5_append_1 : decode cX5_append 1 = .ok (.getfield 15, 3) := by decide +kernel
theorem dX5_append_4 : decode cX5_append 4 = .ok (.bipush 80, 2) := by decide +kernel
theorem dX5_append_6 : decode cX5_append 6 = .ok (.if_icmp .ge 24, 3) := by decide +kernel
theorem dX5_append_9 : decode cX5_append 9 = .ok (.aload_n 0, 1) := by decide +kernel
theorem dX5_append_10 : decode cX5_append 10 = .ok (.getfield 9, 3) := by decide +kernel
theorem dX5_append_13 : decode cX5_append 13 = .ok (.aload_n 0, 1) := by decide +kernel
theorem dX5_append_14 : decode cX5_append 14 = .ok (.getfield 15, 3) := by decide +kernel
theorem dX5_append_17 : decode cX5_append 17 = .ok (.iload_n 1, 1) := by decide +kernel
theorem dX5_append_18 : decode cX5_append 18 = .ok (.i2b, 1) := by decide +kernel
theorem dX5_append_19 : decode cX5_append 19 = .ok (.bastore, 1) := by decide +kernel
theorem dX5_append_20 : decode cX5_append 20 = .ok (.aload_n 0, 1) := by decide +kernel
theorem dX5_append_21 : decode cX5_append 21 = .ok (.dup, 1) := by decide +kernel
theorem dX5_append_22 : decode cX5_append 22 = .ok (.getfield 15, 3) := by decide +kernel
theorem dX5_append_25 : decode cX5_append 25 = .ok (.iconst 1, 1) := by decide +kernel
theorem dX5_append_26 : decode cX5_append 26 = .ok (.iadd, 1) := by decide +kernel
theorem dX5_append_27 : decode cX5_append 27 = .ok (.putfield 15, 3) := by decide +kernel
theorem dX5_append_30 : decode cX5_append 30 = .ok (.return_, 1) := by decide +kernel
def rm_fSc_append : Room := { frames := 1, cells := 0, slots := 0, locals := 60 }
set_option maxHeartbeats 4000000 in
set_option maxRecDepth 100000 in
theorem c_fSc_append (l : Launch) (X : eX) (sz : Nat) (a1 : Int32) (σ : sT) (σz : sT) (h0 : fSc_append a1 σ = some σz) : ctV l yX5_append cX5_append 2 none rm_fSc_append [.ref (X.2.1 26), .int a1] (wC X) (tC X) (aC X) X sz σ σz := by
  refine ct_of (by decide +kernel) (Nat.le_of_ble_eq_true rfl) ?_
  intro p e s m args below meth c ls hz B hl Z
  have B : Bd p s m args meth c RX5 cX5_append 2 none := B
  have hl : lv_has ls 2 [(0, .ref (X.2.1 26)), (1, .int a1)] := hl
  have hx := B.1
  have hb := B.2.1
  unfold fSc_append at h0
  refine lv_aload_n hx hb dX5_append_0 rfl (lv_at hl 0 rfl) ?_
  refine g_26_1 B Z kf_RX5_15 dX5_append_1 ?_
  refine lv_bipush (v := (80 : Int32)) hx hb dX5_append_4 (by decide) ?_
  refine lv_icmp_ge (tgt := 30) hx hb dX5_append_6 (by decide) (fun c1 => ?_) (fun c1 => ?_)
  · have h1 := dit h0 c1
    clear h0
    exact reV B Z hz h1 dX5_append_30
  · have h2 := dif h0 c1
    clear h0
    refine lv_aload_n hx hb dX5_append_9 rfl (lv_at hl 0 rfl) ?_
    refine g_26_0 B Z kf_RX5_9 dX5_append_10 ?_
    refine lv_aload_n hx hb dX5_append_13 rfl (lv_at hl 0 rfl) ?_
    refine g_26_1 B Z kf_RX5_15 dX5_append_14 ?_
    refine lv_iload_n hx hb dX5_append_17 rfl (lv_at hl 1 rfl) ?_
    refine lv_i2b hx hb dX5_append_18 rfl ?_
    obtain ⟨z2, h3⟩ := dck_s h2
    clear h2
    refine st_27 B Z z2 dX5_append_19 (fun H locs Z => ?_)
    obtain ⟨σ3, eσ3, h4⟩ := dlt_s h3
    clear h3
    replace Z := Wd.eq eσ3 Z
    clear eσ3
    refine lv_aload_n hx hb dX5_append_20 rfl (lv_at hl 0 rfl) ?_
    refine lv_dup hx hb dX5_append_21 rfl ?_
    refine g_26_1 B Z kf_RX5_15 dX5_append_22 ?_
    refine lv_iconst (v := (1 : Int32)) hx hb dX5_append_25 (by decide) ?_
    refine lv_iadd hx hb dX5_append_26 ?_
    refine s_26_1 B Z kf_RX5_15 dX5_append_27 (fun H locs Z => ?_)
    obtain ⟨σ4, eσ4, h5⟩ := dlt_s h4
    clear h4
    replace Z := Wd.eq eσ4 Z
    clear eσ4
    exact reV B Z hz h5 dX5_append_30
theorem dX11_type_0 : decode cX11_type 0 = .ok (.iload_n 1, 1) := by decide +kernel
theorem dX11_type_1 : decode cX11_type 1 = .ok (.iconst 0, 1) := by decide +kernel
theorem dX11_type_2 : decode cX11_type 2 = .ok (.bipush 127, 2) := by decide +kernel
theorem dX11_type_4 : decode cX11_type 4 = .ok (.invokestatic 106, 3) := by decide +kernel
theorem dX11_type_7 : decode cX11_type 7 = .ok (.ifCond .ne 8, 3) := by decide +kernel
theorem dX11_type_10 : decode cX11_type 10 = .ok (.aload_n 0, 1) := by decide +kernel
theorem dX11_type_11 : decode cX11_type 11 = .ok (.invokevirtual 77, 3) := by decide +kernel
theorem dX11_type_14 : decode cX11_type 14 = .ok (.ireturn, 1) := by decide +kernel
theorem dX11_type_15 : decode cX11_type 15 = .ok (.aload_n 0, 1) := by decide +kernel
theorem dX11_type_16 : decode cX11_type 16 = .ok (.getfield 44, 3) := by decide +kernel
theorem dX11_type_19 : decode cX11_type 19 = .ok (.getfield 213, 3) := by decide +kernel
theorem dX11_type_22 : decode cX11_type 22 = .ok (.bipush 80, 2) := by decide +kernel
theorem dX11_type_24 : decode cX11_type 24 = .ok (.if_icmp .lt 8, 3) := by decide +kernel
theorem dX11_type_27 : decode cX11_type 27 = .ok (.aload_n 0, 1) := by decide +kernel
theorem dX11_type_28 : decode cX11_type 28 = .ok (.invokevirtual 89, 3) := by decide +kernel
theorem dX11_type_31 : decode cX11_type 31 = .ok (.ireturn, 1) := by decide +kernel
theorem dX11_type_32 : decode cX11_type 32 = .ok (.aload_n 0, 1) := by decide +kernel
theorem dX11_type_33 : decode cX11_type 33 = .ok (.getfield 44, 3) := by decide +kernel
theorem dX11_type_36 : decode cX11_type 36 = .ok (.iload_n 1, 1) := by decide +kernel
theorem dX11_type_37 : decode cX11_type 37 = .ok (.invokevirtual 216, 3) := by decide +kernel
theorem dX11_type_40 : decode cX11_type 40 = .ok (.aload_n 0, 1) := by decide +kernel
theorem dX11_type_41 : decode cX11_type 41 = .ok (.getfield 44, 3) := by decide +kernel
theorem dX11_type_44 : decode cX11_type 44 = .ok (.getfield 213, 3) := by decide +kernel
theorem dX11_type_47 : decode cX11_type 47 = .ok (.ireturn, 1) := by decide +kernel
def rm_fRM_type : Room := { frames := 2, cells := 0, slots := 0, locals := 82 }
set_option maxHeartbeats 4000000 in
set_option maxRecDepth 100000 in
theorem c_fRM_type (l : Launch) (X : eX) (sz : Nat) (a1 : Int32) (σ : sT) (rz : Int32) (σz : sT) (h0 : fRM_type a1 σ = some (rz, σz)) : ctI l yX11_type cX11_type 2 (some .int) rm_fRM_type [.ref (X.2.1 0), .int a1] (wC X) (tC X) (aC X) X sz σ rz σz := by
  refine ct_of (by decide +kernel) (Nat.le_of_ble_eq_true rfl) ?_
  intro p e s m args below meth c ls hz B hl Z
  have B : Bd p s m args meth c RX11 cX11_type 2 (some .int) := B
  have hl : lv_has ls 2 [(0, .ref (X.2.1 0)), (1, .int a1)] := hl
  have hx := B.1
  have hb := B.2.1
  unfold fRM_type at h0
  refine lv_iload_n hx hb dX11_type_0 rfl (lv_at hl 1 rfl) ?_
  refine lv_iconst (v := (0 : Int32)) hx hb dX11_type_1 (by decide) ?_
  refine lv_bipush (v := (127 : Int32)) hx hb dX11_type_2 (by decide) ?_
  obtain ⟨r2, hc0, h1⟩ := db1_s h0
  clear h0
  refine cS_I [.int a1, .int (0 : Int32), .int (127 : Int32)] [] B mx_yX11_isWithin (c_fRM_isWithin l X _ a1 (0 : Int32) (127 : Int32) σ r2 hc0) kl_RX11_106 ks_yX11_isWithin Z hl rfl rfl ⟨Nat.le_of_ble_eq_true rfl, Nat.le_of_ble_eq_true rfl⟩ rfl rfl (Nat.le_of_ble_eq_true rfl) dX11_type_4 (fun H locs Z => ?_)
  clear hc0
  refine lv_if_ne (tgt := 15) hx hb dX11_type_7 (by decide) (fun c3 => ?_) (fun c3 => ?_)
  · have h2 := dif h1 c3
    clear h1
    refine lv_aload_n hx hb dX11_type_15 rfl (lv_at hl 0 rfl) ?_
    refine g_0_4 B Z kf_RX11_44 dX11_type_16 ?_
    refine gn_26_1 B Z kx_RX11_213 dX11_type_19 ?_
    refine lv_bipush (v := (80 : Int32)) hx hb dX11_type_22 (by decide) ?_
    refine lv_icmp_lt (tgt := 32) hx hb dX11_type_24 (by decide) (fun c4 => ?_) (fun c4 => ?_)
    · have h3 := dit h2 c4
      clear h2
      refine lv_aload_n hx hb dX11_type_32 rfl (lv_at hl 0 rfl) ?_
      refine g_0_4 B Z kf_RX11_44 dX11_type_33 ?_
      refine lv_iload_n hx hb dX11_type_36 rfl (lv_at hl 1 rfl) ?_
      obtain ⟨σ6, hc4, h4⟩ := db1_s h3
      clear h3
      refine cV_V [.int a1] [] B mx_yX5_append (c_fSc_append l X _ a1 σ σ6 hc4) kl_RX11_216 mi_yX5_append (rv_26 _ _) hcl_5 Z hl rfl rfl ⟨Nat.le_of_ble_eq_true rfl, Nat.le_of_ble_eq_true rfl⟩ rfl rfl (Nat.le_of_ble_eq_true rfl) dX11_type_37 (fun H locs Z => ?_)
      clear hc4
      refine lv_aload_n hx hb dX11_type_40 rfl (lv_at hl 0 rfl) ?_
      refine g_0_4 B Z kf_RX11_44 dX11_type_41 ?_
      refine gn_26_1 B Z kx_RX11_213 dX11_type_44 ?_
      exact reI B Z rfl hz h4 dX11_type_47
    · have h5 := dif h2 c4
      clear h2
      refine lv_aload_n hx hb dX11_type_27 rfl (lv_at hl 0 rfl) ?_
      obtain ⟨r8, σ9, hc6, h6⟩ := db2_s h5
      clear h5
      refine cV_I [] [] B mx_yX11_full (c_fRM_full l X _ σ r8 σ9 hc6) kl_RX11_89 mi_yX11_full (rv_0 _ _) hcl_11 Z hl rfl rfl ⟨Nat.le_of_ble_eq_true rfl, Nat.le_of_ble_eq_true rfl⟩ rfl rfl (Nat.le_of_ble_eq_true rfl) dX11_type_28 (fun H locs Z => ?_)
      clear hc6
      exact reI B Z rfl hz h6 dX11_type_31
  · have h7 := dit h1 c3
    clear h1
    refine lv_aload_n hx hb dX11_type_10 rfl (lv_at hl 0 rfl) ?_
    obtain ⟨r11, σ12, hc9, h8⟩ := db2_s h7
    clear h7
    refine cV_I [] [] B mx_yX11_bad (c_fRM_bad l X _ σ r11 σ12 hc9) kl_RX11_77 mi_yX11_bad (rv_0 _ _) hcl_11 Z hl rfl rfl ⟨Nat.le_of_ble_eq_true rfl, Nat.le_of_ble_eq_true rfl⟩ rfl rfl (Nat.le_of_ble_eq_true rfl) dX11_type_11 (fun H locs Z => ?_)
    clear hc9
    exact reI B Z rfl hz h8 dX11_type_14
theorem dX11_clear_0 : decode cX11_clear 0 = .ok (.aload_n 0, 1) := by decide +kernel
theorem dX11_clear_1 : decode cX11_clear 1 = .ok (.getfield 44, 3) := by decide +kernel
theorem dX11_clear_4 : decode cX11_clear 4 = .ok (.getfield 213, 3) := by decide +kernel
theorem dX11_clear_7 : decode cX11_clear 7 = .ok (.istore_n 1, 1) := by decide +kernel
theorem dX11_clear_8 : decode cX11_clear 8 = .ok (.aload_n 0, 1) := by decide +kernel
theorem dX11_clear_9 : decode cX11_clear 9 = .ok (.getfield 44, 3) := by decide +kernel
theorem dX11_clear_12 : decode cX11_clear 12 = .ok (.iconst 0, 1) := by decide +kernel
theorem dX11_clear_13 : decode cX11_clear 13 = .ok (.putfield 213, 3) := by decide +kernel
theorem dX11_clear_16 : decode cX11_clear 16 = .ok (.iload_n 1, 1) := by decide +kernel
theorem dX11_clear_17 : decode cX11_clear 17 = .ok (.ireturn, 1) := by decide +kernel
def rm_fRM_clear : Room := { frames := 1, cells := 0, slots := 0, locals := 60 }
set_option maxHeartbeats 4000000 in
set_option maxRecDepth 100000 in
theorem c_fRM_clear (l : Launch) (X : eX) (sz : Nat)  (σ : sT) (rz : Int32) (σz : sT) (h0 : fRM_clear σ = some (rz, σz)) : ctI l yX11_clear cX11_clear 2 (some .int) rm_fRM_clear [.ref (X.2.1 0)] (wC X) (tC X) (aC X) X sz σ rz σz := by
  refine ct_of (by decide +kernel) (Nat.le_of_ble_eq_true rfl) ?_
  intro p e s m args below meth c ls hz B hl Z
  have B : Bd p s m args meth c RX11 cX11_clear 2 (some .int) := B
  have hl : lv_has ls 2 [(0, .ref (X.2.1 0))] := hl
  have hx := B.1
  have hb := B.2.1
  unfold fRM_clear at h0
  refine lv_aload_n hx hb dX11_clear_0 rfl (lv_at hl 0 rfl) ?_
  refine g_0_4 B Z kf_RX11_44 dX11_clear_1 ?_
  refine gn_26_1 B Z kx_RX11_213 dX11_clear_4 ?_
  refine lv_topi (fun x1 ex1 => ?_)
  have h1 := dlt_e ex1 h0
  clear ex1 h0
  refine lv_istore_n (lv' := [(1, .int x1), (0, .ref (X.2.1 0))]) hx hb dX11_clear_7 rfl hl (by decide) rfl (fun ls hl => ?_)
  refine lv_aload_n hx hb dX11_clear_8 rfl (lv_at hl 1 rfl) ?_
  refine g_0_4 B Z kf_RX11_44 dX11_clear_9 ?_
  refine lv_iconst (v := (0 : Int32)) hx hb dX11_clear_12 (by decide) ?_
  refine sn_26_1 B Z kx_RX11_213 dX11_clear_13 (fun H locs Z => ?_)
  obtain ⟨σ2, eσ2, h2⟩ := dlt_s h1
  clear h1
  replace Z := Wd.eq eσ2 Z
  clear eσ2
  refine lv_iload_n hx hb dX11_clear_16 rfl (lv_at hl 0 rfl) ?_
  exact reI B Z rfl hz h2 dX11_clear_17
theorem dX2_readRight_0 : decode cX2_readRight 0 = .ok (.aload_n 0, 1) := by decide +kernel
theorem dX2_readRight_1 : decode cX2_readRight 1 = .ok (.getfield 15, 3) := by decide +kernel
theorem dX2_readRight_4 : decode cX2_readRight 4 = .ok (.invokevirtual 42, 3) := by decide +kernel
theorem dX2_readRight_7 : decode cX2_readRight 7 = .ok (.bipush 45, 2) := by decide +kernel
theorem dX2_readRight_9 : decode cX2_readRight 9 = .ok (.if_icmp .ne 7, 3) := by decide +kernel
theorem dX2_readRight_12 : decode cX2_readRight 12 = .ok (.iconst 1, 1) := by decide +kernel
theorem dX2_readRight_13 : decode cX2_readRight 13 = .ok (.goto 4, 3) := by decide +kernel
theorem dX2_readRight_16 : decode cX2_readRight 16 = .ok (.iconst 0, 1) := by decide +kernel
theorem dX2_readRight_17 : decode cX2_readRight 17 = .ok (.istore_n 1, 1) := by decide +kernel
theorem dX2_readRight_18 : decode cX2_readRight 18 = .ok (.iload_n 1, 1) := by decide +kernel
theorem dX2_readRight_19 : decode cX2_readRight 19 = .ok (.ifCond .eq 18, 3) := by decide +kernel
theorem dX2_readRight_22 : decode cX2_readRight 22 = .ok (.aload_n 0, 1) := by decide +kernel
theorem dX2_readRight_23 : decode cX2_readRight 23 = .ok (.getfield 15, 3) := by decide +kernel
theorem dX2_readRight_26 : decode cX2_readRight 26 = .ok (.invokevirtual 46, 3) := by decide +kernel
theorem dX2_readRight_29 : decode cX2_readRight 29 = .ok (.aload_n 0, 1) := by decide +kernel
theorem dX2_readRight_30 : decode cX2_readRight 30 = .ok (.getfield 15, 3) := by decide +kernel
theorem dX2_readRight_33 : decode cX2_readRight 33 = .ok (.invokevirtual 42, 3) := by decide +kernel
theorem dX2_readRight_36 : decode cX2_readRight 36 = .ok (.pop, 1) := by decide +kernel
theorem dX2_readRight_37 : decode cX2_readRight 37 = .ok (.aload_n 0, 1) := by decide +kernel
theorem dX2_readRight_38 : decode cX2_readRight 38 = .ok (.getfield 15, 3) := by decide +kernel
theorem dX2_readRight_41 : decode cX2_readRight 41 = .ok (.bipush 50, 2) := by decide +kernel
theorem dX2_readRight_43 : decode cX2_readRight 43 = .ok (.invokevirtual 82, 3) := by decide +kernel
theorem dX2_readRight_46 : decode cX2_readRight 46 = .ok (.istore_n 2, 1) := by decide +kernel
theorem dX2_readRight_47 : decode cX2_readRight 47 = .ok (.iload_n 1, 1) := by decide +kernel
theorem dX2_readRight_48 : decode cX2_readRight 48 = .ok (.ifCond .eq 8, 3) := by decide +kernel
theorem dX2_readRight_51 : decode cX2_readRight 51 = .ok (.iload_n 2, 1) := by decide +kernel
theorem dX2_readRight_52 : decode cX2_readRight 52 = .ok (.ineg, 1) := by decide +kernel
theorem dX2_readRight_53 : decode cX2_readRight 53 = .ok (.goto 4, 3) := by decide +kernel
theorem dX2_readRight_56 : decode cX2_readRight 56 = .ok (.iload_n 2, 1) := by decide +kernel
theorem dX2_readRight_57 : decode cX2_readRight 57 = .ok (.ireturn, 1) := by decide +kernel
def rm_fOR_readRight : Room := { frames := 3, cells := 0, slots := 0, locals := 106 }
set_option maxHeartbeats 4000000 in
set_option maxRecDepth 100000 in
theorem c_fOR_readRight (l : Launch) (X : eX) (sz : Nat)  (σ : sT) (rz : Int32) (σz : sT) (h0 : fOR_readRight σ = some (rz, σz)) : ctI l yX2_readRight cX2_readRight 3 (some .int) rm_fOR_readRight [.ref (X.2.1 29)] (wC X) (tC X) (aC X) X sz σ rz σz := by
  refine ct_of (by decide +kernel) (Nat.le_of_ble_eq_true rfl) ?_
  intro p e s m args below meth c ls hz B hl Z
  have B : Bd p s m args meth c RX2 cX2_readRight 3 (some .int) := B
  have hl : lv_has ls 3 [(0, .ref (X.2.1 29))] := hl
  have hx := B.1
  have hb := B.2.1
  unfold fOR_readRight at h0
  refine lv_aload_n hx hb dX2_readRight_0 rfl (lv_at hl 0 rfl) ?_
  refine g_29_0 B Z kf_RX2_15 dX2_readRight_1 ?_
  obtain ⟨r2, σ3, hc0, h1⟩ := db2_s h0
  clear h0
  refine cV_I [] [] B mx_yX5_peek (c_fSc_peek l X _ σ r2 σ3 hc0) kl_RX2_42 mi_yX5_peek (rv_26 _ _) hcl_5 Z hl rfl rfl ⟨Nat.le_of_ble_eq_true rfl, Nat.le_of_ble_eq_true rfl⟩ rfl rfl (Nat.le_of_ble_eq_true rfl) dX2_readRight_4 (fun H locs Z => ?_)
  clear hc0
  refine lv_bipush (v := (45 : Int32)) hx hb dX2_readRight_7 (by decide) ?_
  obtain ⟨J5, eJ5, h12⟩ := dlt_s h1
  clear h1
  have kJ5 : ∀ (x4 : Int32) (H : Heap) (locs : List Loc) (ls : Array Slot), Wd (wC X) (tC X) (aC X) X s σ3 H locs → lv_has ls 3 [(0, .ref (X.2.1 29))] → J5 x4 = some (rz, σz) → W p l e rm_fOR_readRight s m args below meth c H locs 0 0 (MQ below (va_Qi (fun a u => a = rz ∧ u = σz) (poW (wC X) (tC X) (aC X) X sz) (aA (aC X) sz)) args s 0 0 (aA (aC X) sz)) (F0 m 17 ls [.int x4]) := by
    intro x4 H locs ls Z hl h2
    rw [eJ5] at h2
    refine lv_istore_n (lv' := [(1, .int x4), (0, .ref (X.2.1 29))]) hx hb dX2_readRight_17 rfl hl (by decide) rfl (fun ls hl => ?_)
    refine lv_iload_n hx hb dX2_readRight_18 rfl (lv_at hl 0 rfl) ?_
    obtain ⟨J7, eJ7, h7⟩ := dlt_s h2
    clear h2
    have kJ7 : ∀ (σ6 : sT) (H : Heap) (locs : List Loc) (ls : Array Slot), Wd (wC X) (tC X) (aC X) X s σ6 H locs → lv_has ls 3 [(0, .ref (X.2.1 29)), (1, .int x4)] → J7 σ6 = some (rz, σz) → W p l e rm_fOR_readRight s m args below meth c H locs 0 0 (MQ below (va_Qi (fun a u => a = rz ∧ u = σz) (poW (wC X) (tC X) (aC X) X sz) (aA (aC X) sz)) args s 0 0 (aA (aC X) sz)) (F0 m 37 ls []) := by
      intro σ6 H locs ls Z hl h3
      rw [eJ7] at h3
      refine lv_aload_n hx hb dX2_readRight_37 rfl (lv_at hl 0 rfl) ?_
      refine g_29_0 B Z kf_RX2_15 dX2_readRight_38 ?_
      refine lv_bipush (v := (50 : Int32)) hx hb dX2_readRight_41 (by decide) ?_
      obtain ⟨r9, σ10, hc7, h4⟩ := db2_s h3
      clear h3
      refine cV_I [.int (50 : Int32)] [] B mx_yX5_readNumber (c_fSc_readNumber l X _ (50 : Int32) σ6 r9 σ10 hc7) kl_RX2_82 mi_yX5_readNumber (rv_26 _ _) hcl_5 Z hl rfl rfl ⟨Nat.le_of_ble_eq_true rfl, Nat.le_of_ble_eq_true rfl⟩ rfl rfl (Nat.le_of_ble_eq_true rfl) dX2_readRight_43 (fun H locs Z => ?_)
      clear hc7
      refine lv_istore_n (lv' := [(2, .int r9), (0, .ref (X.2.1 29)), (1, .int x4)]) hx hb dX2_readRight_46 rfl hl (by decide) rfl (fun ls hl => ?_)
      refine lv_iload_n hx hb dX2_readRight_47 rfl (lv_at hl 2 rfl) ?_
      refine lv_if_eq (tgt := 56) hx hb dX2_readRight_48 (by decide) (fun c11 => ?_) (fun c11 => ?_)
      · have h5 := dit h4 c11
        clear h4
        refine lv_iload_n hx hb dX2_readRight_56 rfl (lv_at hl 0 rfl) ?_
        exact reI B Z rfl hz h5 dX2_readRight_57
      · have h6 := dif h4 c11
        clear h4
        refine lv_iload_n hx hb dX2_readRight_51 rfl (lv_at hl 0 rfl) ?_
        refine lv_ineg hx hb dX2_readRight_52 ?_
        refine lv_goto (tgt := 57) hx hb dX2_readRight_53 (by decide) ?_
        exact reI B Z rfl hz h6 dX2_readRight_57
    clear eJ7
    refine lv_if_eq (tgt := 37) hx hb dX2_readRight_19 (by decide) (fun c12 => ?_) (fun c12 => ?_)
    · have h8 := dit h7 c12
      clear h7
      exact kJ7 σ3 _ _ _ Z (lv_sub hl [1, 0] rfl) h8
    · have h9 := dif h7 c12
      clear h7
      refine lv_aload_n hx hb dX2_readRight_22 rfl (lv_at hl 1 rfl) ?_
      refine g_29_0 B Z kf_RX2_15 dX2_readRight_23 ?_
      obtain ⟨σ14, hc12, h10⟩ := db1_s h9
      clear h9
      refine cV_V [] [] B mx_yX5_step (c_fSc_step l X _ σ3 σ14 hc12) kl_RX2_46 mi_yX5_step (rv_26 _ _) hcl_5 Z hl rfl rfl ⟨Nat.le_of_ble_eq_true rfl, Nat.le_of_ble_eq_true rfl⟩ rfl rfl (Nat.le_of_ble_eq_true rfl) dX2_readRight_26 (fun H locs Z => ?_)
      clear hc12
      refine lv_aload_n hx hb dX2_readRight_29 rfl (lv_at hl 1 rfl) ?_
      refine g_29_0 B Z kf_RX2_15 dX2_readRight_30 ?_
      obtain ⟨r16, σ17, hc14, h11⟩ := db2_s h10
      clear h10
      refine cV_I [] [] B mx_yX5_peek (c_fSc_peek l X _ σ14 r16 σ17 hc14) kl_RX2_42 mi_yX5_peek (rv_26 _ _) hcl_5 Z hl rfl rfl ⟨Nat.le_of_ble_eq_true rfl, Nat.le_of_ble_eq_true rfl⟩ rfl rfl (Nat.le_of_ble_eq_true rfl) dX2_readRight_33 (fun H locs Z => ?_)
      clear hc14
      refine lv_pop hx hb dX2_readRight_36 rfl ?_
      exact kJ7 σ17 _ _ _ Z (lv_sub hl [1, 0] rfl) h11
  clear eJ5
  refine lv_icmp_ne (tgt := 16) hx hb dX2_readRight_9 (by decide) (fun c18 => ?_) (fun c18 => ?_)
  · have h13 := dif h12 c18
    clear h12
    refine lv_iconst (v := (0 : Int32)) hx hb dX2_readRight_16 (by decide) ?_
    exact kJ5 (0 : Int32) _ _ _ Z (lv_sub hl [0] rfl) h13
  · have h14 := dit h12 c18
    clear h12
    refine lv_iconst (v := (1 : Int32)) hx hb dX2_readRight_12 (by decide) ?_
    refine lv_goto (tgt := 17) hx hb dX2_readRight_13 (by decide) ?_
    exact kJ5 (1 : Int32) _ _ _ Z (lv_sub hl [0] rfl) h14
theorem dX2_readKind_0 : decode cX2_readKind 0 = .ok (.aload_n 0, 1) := by decide +kernel
theorem dX2_readKind_1 : decode cX2_readKind 1 = .ok (.getfield 15, 3) := by decide +kernel
theorem dX2_readKind_4 : decode cX2_readKind 4 = .ok (.invokevirtual 42, 3) := by decide +kernel
theorem dX2_readKind_7 : decode cX2_readKind 7 = .ok (.istore_n 1, 1) := by decide +kernel
theorem dX2_readKind_8 : decode cX2_readKind 8 = .ok (.iload_n 1, 1) := by decide +kernel
theorem dX2_readKind_9 : decode cX2_readKind 9 = .ok (.bipush 60, 2) := by decide +kernel
theorem dX2_readKind_11 : decode cX2_readKind 11 = .ok (.if_icmp .eq 25, 3) := by decide +kernel
theorem dX2_readKind_14 : decode cX2_readKind 14 = .ok (.iload_n 1, 1) := by decide +kernel
theorem dX2_readKind_15 : decode cX2_readKind 15 = .ok (.bipush 61, 2) := by decide +kernel
theorem dX2_readKind_17 : decode cX2_readKind 17 = .ok (.if_icmp .eq 19, 3) := by decide +kernel
theorem dX2_readKind_20 : decode cX2_readKind 20 = .ok (.aload_n 0, 1) := by decide +kernel
theorem dX2_readKind_21 : decode cX2_readKind 21 = .ok (.getfield 15, 3) := by decide +kernel
theorem dX2_readKind_24 : decode cX2_readKind 24 = .ok (.aload_n 0, 1) := by decide +kernel
theorem dX2_readKind_25 : decode cX2_readKind 25 = .ok (.getfield 15, 3) := by decide +kernel
theorem dX2_readKind_28 : decode cX2_readKind 28 = .ok (.getfield 72, 3) := by decide +kernel
theorem dX2_readKind_31 : decode cX2_readKind 31 = .ok (.invokevirtual 76, 3) := by decide +kernel
theorem dX2_readKind_34 : decode cX2_readKind 34 = .ok (.iconst 0, 1) := by decide +kernel
theorem dX2_readKind_35 : decode cX2_readKind 35 = .ok (.ireturn, 1) := by decide +kernel
theorem dX2_readKind_36 : decode cX2_readKind 36 = .ok (.aload_n 0, 1) := by decide +kernel
theorem dX2_readKind_37 : decode cX2_readKind 37 = .ok (.getfield 15, 3) := by decide +kernel
theorem dX2_readKind_40 : decode cX2_readKind 40 = .ok (.invokevirtual 46, 3) := by decide +kernel
theorem dX2_readKind_43 : decode cX2_readKind 43 = .ok (.iload_n 1, 1) := by decide +kernel
theorem dX2_readKind_44 : decode cX2_readKind 44 = .ok (.bipush 61, 2) := by decide +kernel
theorem dX2_readKind_46 : decode cX2_readKind 46 = .ok (.if_icmp .ne 5, 3) := by decide +kernel
theorem dX2_readKind_49 : decode cX2_readKind 49 = .ok (.iconst 2, 1) := by decide +kernel
theorem dX2_readKind_50 : decode cX2_readKind 50 = .ok (.ireturn, 1) := by decide +kernel
theorem dX2_readKind_51 : decode cX2_readKind 51 = .ok (.aload_n 0, 1) := by decide +kernel
theorem dX2_readKind_52 : decode cX2_readKind 52 = .ok (.getfield 15, 3) := by decide +kernel
theorem dX2_readKind_55 : decode cX2_readKind 55 = .ok (.invokevirtual 79, 3) := by decide +kernel
theorem dX2_readKind_58 : decode cX2_readKind 58 = .ok (.bipush 61, 2) := by decide +kernel
theorem dX2_readKind_60 : decode cX2_readKind 60 = .ok (.if_icmp .eq 5, 3) := by decide +kernel
theorem dX2_readKind_63 : decode cX2_readKind 63 = .ok (.iconst 0, 1) := by decide +kernel
theorem dX2_readKind_64 : decode cX2_readKind 64 = .ok (.ireturn, 1) := by decide +kernel
theorem dX2_readKind_65 : decode cX2_readKind 65 = .ok (.aload_n 0, 1) := by decide +kernel
theorem dX2_readKind_66 : decode cX2_readKind 66 = .ok (.getfield 15, 3) := by decide +kernel
theorem dX2_readKind_69 : decode cX2_readKind 69 = .ok (.invokevirtual 46, 3) := by decide +kernel
theorem dX2_readKind_72 : decode cX2_readKind 72 = .ok (.iconst 1, 1) := by decide +kernel
theorem dX2_readKind_73 : decode cX2_readKind 73 = .ok (.ireturn, 1) := by decide +kernel
def rm_fOR_readKind : Room := { frames := 2, cells := 0, slots := 0, locals := 81 }
set_option maxHeartbeats 4000000 in
set_option maxRecDepth 100000 in
theorem c_fOR_readKind (l : Launch) (X : eX) (sz : Nat)  (σ : sT) (rz : Int32) (σz : sT) (h0 : fOR_readKind σ = some (rz, σz)) : ctI l yX2_readKind cX2_readKind 2 (some .int) rm_fOR_readKind [.ref (X.2.1 29)] (wC X) (tC X) (aC X) X sz σ rz σz := by
  refine ct_of (by decide +kernel) (Nat.le_of_ble_eq_true rfl) ?_
  intro p e s m args below meth c ls hz B hl Z
  have B : Bd p s m args meth c RX2 cX2_readKind 2 (some .int) := B
  have hl : lv_has ls 2 [(0, .ref (X.2.1 29))] := hl
  have hx := B.1
  have hb := B.2.1
  unfold fOR_readKind at h0
  refine lv_aload_n hx hb dX2_readKind_0 rfl (lv_at hl 0 rfl) ?_
  refine g_29_0 B Z kf_RX2_15 dX2_readKind_1 ?_
  obtain ⟨r2, σ3, hc0, h1⟩ := db2_s h0
  clear h0
  refine cV_I [] [] B mx_yX5_peek (c_fSc_peek l X _ σ r2 σ3 hc0) kl_RX2_42 mi_yX5_peek (rv_26 _ _) hcl_5 Z hl rfl rfl ⟨Nat.le_of_ble_eq_true rfl, Nat.le_of_ble_eq_true rfl⟩ rfl rfl (Nat.le_of_ble_eq_true rfl) dX2_readKind_4 (fun H locs Z => ?_)
  clear hc0
  refine lv_istore_n (lv' := [(1, .int r2), (0, .ref (X.2.1 29))]) hx hb dX2_readKind_7 rfl hl (by decide) rfl (fun ls hl => ?_)
  refine lv_iload_n hx hb dX2_readKind_8 rfl (lv_at hl 0 rfl) ?_
  refine lv_bipush (v := (60 : Int32)) hx hb dX2_readKind_9 (by decide) ?_
  obtain ⟨J4, eJ4, h10⟩ := dlt_s h1
  clear h1
  have kJ4 : ∀ (H : Heap) (locs : List Loc) (ls : Array Slot), Wd (wC X) (tC X) (aC X) X s σ3 H locs → lv_has ls 2 [(0, .ref (X.2.1 29)), (1, .int r2)] → J4 () = some (rz, σz) → W p l e rm_fOR_readKind s m args below meth c H locs 0 0 (MQ below (va_Qi (fun a u => a = rz ∧ u = σz) (poW (wC X) (tC X) (aC X) X sz) (aA (aC X) sz)) args s 0 0 (aA (aC X) sz)) (F0 m 36 ls []) := by
    intro  H locs ls Z hl h2
    rw [eJ4] at h2
    refine lv_aload_n hx hb dX2_readKind_36 rfl (lv_at hl 0 rfl) ?_
    refine g_29_0 B Z kf_RX2_15 dX2_readKind_37 ?_
    obtain ⟨σ6, hc4, h3⟩ := db1_s h2
    clear h2
    refine cV_V [] [] B mx_yX5_step (c_fSc_step l X _ σ3 σ6 hc4) kl_RX2_46 mi_yX5_step (rv_26 _ _) hcl_5 Z hl rfl rfl ⟨Nat.le_of_ble_eq_true rfl, Nat.le_of_ble_eq_true rfl⟩ rfl rfl (Nat.le_of_ble_eq_true rfl) dX2_readKind_40 (fun H locs Z => ?_)
    clear hc4
    refine lv_iload_n hx hb dX2_readKind_43 rfl (lv_at hl 1 rfl) ?_
    refine lv_bipush (v := (61 : Int32)) hx hb dX2_readKind_44 (by decide) ?_
    refine lv_icmp_ne (tgt := 51) hx hb dX2_readKind_46 (by decide) (fun c7 => ?_) (fun c7 => ?_)
    · have h4 := dif h3 c7
      clear h3
      refine lv_aload_n hx hb dX2_readKind_51 rfl (lv_at hl 0 rfl) ?_
      refine g_29_0 B Z kf_RX2_15 dX2_readKind_52 ?_
      obtain ⟨r9, hc7, h5⟩ := db1_s h4
      clear h4
      refine cV_I [] [] B mx_yX5_here (c_fSc_here l X _ σ6 r9 hc7) kl_RX2_79 mi_yX5_here (rv_26 _ _) hcl_5 Z hl rfl rfl ⟨Nat.le_of_ble_eq_true rfl, Nat.le_of_ble_eq_true rfl⟩ rfl rfl (Nat.le_of_ble_eq_true rfl) dX2_readKind_55 (fun H locs Z => ?_)
      clear hc7
      refine lv_bipush (v := (61 : Int32)) hx hb dX2_readKind_58 (by decide) ?_
      refine lv_icmp_eq (tgt := 65) hx hb dX2_readKind_60 (by decide) (fun c10 => ?_) (fun c10 => ?_)
      · have h6 := dit h5 c10
        clear h5
        refine lv_aload_n hx hb dX2_readKind_65 rfl (lv_at hl 0 rfl) ?_
        refine g_29_0 B Z kf_RX2_15 dX2_readKind_66 ?_
        obtain ⟨σ12, hc10, h7⟩ := db1_s h6
        clear h6
        refine cV_V [] [] B mx_yX5_step (c_fSc_step l X _ σ6 σ12 hc10) kl_RX2_46 mi_yX5_step (rv_26 _ _) hcl_5 Z hl rfl rfl ⟨Nat.le_of_ble_eq_true rfl, Nat.le_of_ble_eq_true rfl⟩ rfl rfl (Nat.le_of_ble_eq_true rfl) dX2_readKind_69 (fun H locs Z => ?_)
        clear hc10
        refine lv_iconst (v := (1 : Int32)) hx hb dX2_readKind_72 (by decide) ?_
        exact reI B Z rfl hz h7 dX2_readKind_73
      · have h8 := dif h5 c10
        clear h5
        refine lv_iconst (v := (0 : Int32)) hx hb dX2_readKind_63 (by decide) ?_
        exact reI B Z rfl hz h8 dX2_readKind_64
    · have h9 := dit h3 c7
      clear h3
      refine lv_iconst (v := (2 : Int32)) hx hb dX2_readKind_49 (by decide) ?_
      exact reI B Z rfl hz h9 dX2_readKind_50
  clear eJ4
  refine lv_icmp_eq (tgt := 36) hx hb dX2_readKind_11 (by decide) (fun c13 => ?_) (fun c13 => ?_)
  · have h11 := dit h10 c13
    clear h10
    exact kJ4  _ _ _ Z (lv_sub hl [1, 0] rfl) h11
  · have h12 := dif h10 c13
    clear h10
    refine lv_iload_n hx hb dX2_readKind_14 rfl (lv_at hl 0 rfl) ?_
    refine lv_bipush (v := (61 : Int32)) hx hb dX2_readKind_15 (by decide) ?_
    refine lv_icmp_eq (tgt := 36) hx hb dX2_readKind_17 (by decide) (fun c14 => ?_) (fun c14 => ?_)
    · have h13 := dit h12 c14
      clear h12
      exact kJ4  _ _ _ Z (lv_sub hl [1, 0] rfl) h13
    · have h14 := dif h12 c14
      clear h12
      refine lv_aload_n hx hb dX2_readKind_20 rfl (lv_at hl 1 rfl) ?_
      refine g_29_0 B Z kf_RX2_15 dX2_readKind_21 ?_
      refine lv_aload_n hx hb dX2_readKind_24 rfl (lv_at hl 1 rfl) ?_
      refine g_29_0 B Z kf_RX2_15 dX2_readKind_25 ?_
      refine gn_26_2 B Z kx_RX2_72 dX2_readKind_28 ?_
      obtain ⟨σ16, hc14, h15⟩ := db1_s h14
      clear h14
      refine cV_V [.int (σ3.1 26 2)] [] B mx_yX5_failAt (c_fSc_failAt l X _ (σ3.1 26 2) σ3 σ16 hc14) kl_RX2_76 mi_yX5_failAt (rv_26 _ _) hcl_5 Z hl rfl rfl ⟨Nat.le_of_ble_eq_true rfl, Nat.le_of_ble_eq_true rfl⟩ rfl rfl (Nat.le_of_ble_eq_true rfl) dX2_readKind_31 (fun H locs Z => ?_)
      clear hc14
      refine lv_iconst (v := (0 : Int32)) hx hb dX2_readKind_34 (by decide) ?_
      exact reI B Z rfl hz h15 dX2_readKind_35
theorem dX2_readSign_0 : decode cX2_readSign 0 = .ok (.aload_n 0, 1) := by decide +kernel
theorem dX2_readSign_1 : decode cX2_readSign 1 = .ok (.getfield 15, 3) := by decide +kernel
theorem dX2_readSign_4 : decode cX2_readSign 4 = .ok (.invokevirtual 42, 3) := by decide +kernel
theorem dX2_readSign_7 : decode cX2_readSign 7 = .ok (.istore_n 2, 1) := by decide +kernel
theorem dX2_readSign_8 : decode cX2_readSign 8 = .ok (.iload_n 2, 1) := by decide +kernel
theorem dX2_readSign_9 : decode cX2_readSign 9 = .ok (.bipush 45, 2) := by decide +kernel
theorem dX2_readSign_11 : decode cX2_readSign 11 = .ok (.if_icmp .ne 12, 3) := by decide +kernel
theorem dX2_readSign_14 : decode cX2_readSign 14 = .ok (.aload_n 0, 1) := by decide +kernel
theorem dX2_readSign_15 : decode cX2_readSign 15 = .ok (.getfield 15, 3) := by decide +kernel
theorem dX2_readSign_18 : decode cX2_readSign 18 = .ok (.invokevirtual 46, 3) := by decide +kernel
theorem dX2_readSign_21 : decode cX2_readSign 21 = .ok (.iconst (-1), 1) := by decide +kernel
theorem dX2_readSign_22 : decode cX2_readSign 22 = .ok (.ireturn, 1) := by decide +kernel
theorem dX2_readSign_23 : decode cX2_readSign 23 = .ok (.iload_n 2, 1) := by decide +kernel
theorem dX2_readSign_24 : decode cX2_readSign 24 = .ok (.bipush 43, 2) := by decide +kernel
theorem dX2_readSign_26 : decode cX2_readSign 26 = .ok (.if_icmp .ne 16, 3) := by decide +kernel
theorem dX2_readSign_29 : decode cX2_readSign 29 = .ok (.iload_n 1, 1) := by decide +kernel
theorem dX2_readSign_30 : decode cX2_readSign 30 = .ok (.ifCond .ne 12, 3) := by decide +kernel
theorem dX2_readSign_33 : decode cX2_readSign 33 = .ok (.aload_n 0, 1) := by decide +kernel
theorem dX2_readSign_34 : decode cX2_readSign 34 = .ok (.getfield 15, 3) := by decide +kernel
theorem dX2_readSign_37 : decode cX2_readSign 37 = .ok (.invokevirtual 46, 3) := by decide +kernel
theorem dX2_readSign_40 : decode cX2_readSign 40 = .ok (.iconst 1, 1) := by decide +kernel
theorem dX2_readSign_41 : decode cX2_readSign 41 = .ok (.ireturn, 1) := by decide +kernel
theorem dX2_readSign_42 : decode cX2_readSign 42 = .ok (.iload_n 1, 1) := by decide +kernel
theorem dX2_readSign_43 : decode cX2_readSign 43 = .ok (.ifCond .eq 7, 3) := by decide +kernel
theorem dX2_readSign_46 : decode cX2_readSign 46 = .ok (.iconst 1, 1) := by decide +kernel
theorem dX2_readSign_47 : decode cX2_readSign 47 = .ok (.goto 4, 3) := by decide +kernel
theorem dX2_readSign_50 : decode cX2_readSign 50 = .ok (.iconst 0, 1) := by decide +kernel
theorem dX2_readSign_51 : decode cX2_readSign 51 = .ok (.ireturn, 1) := by decide +kernel
def rm_fOR_readSign : Room := { frames := 2, cells := 0, slots := 0, locals := 80 }
set_option maxHeartbeats 4000000 in
set_option maxRecDepth 100000 in
theorem c_fOR_readSign (l : Launch) (X : eX) (sz : Nat) (a1 : Int32) (σ : sT) (rz : Int32) (σz : sT) (h0 : fOR_readSign a1 σ = some (rz, σz)) : ctI l yX2_readSign cX2_readSign 3 (some .int) rm_fOR_readSign [.ref (X.2.1 29), .int a1] (wC X) (tC X) (aC X) X sz σ rz σz := by
  refine ct_of (by decide +kernel) (Nat.le_of_ble_eq_true rfl) ?_
  intro p e s m args below meth c ls hz B hl Z
  have B : Bd p s m args meth c RX2 cX2_readSign 3 (some .int) := B
  have hl : lv_has ls 3 [(0, .ref (X.2.1 29)), (1, .int a1)] := hl
  have hx := B.1
  have hb := B.2.1
  unfold fOR_readSign at h0
  refine lv_aload_n hx hb dX2_readSign_0 rfl (lv_at hl 0 rfl) ?_
  refine g_29_0 B Z kf_RX2_15 dX2_readSign_1 ?_
  obtain ⟨r2, σ3, hc0, h1⟩ := db2_s h0
  clear h0
  refine cV_I [] [] B mx_yX5_peek (c_fSc_peek l X _ σ r2 σ3 hc0) kl_RX2_42 mi_yX5_peek (rv_26 _ _) hcl_5 Z hl rfl rfl ⟨Nat.le_of_ble_eq_true rfl, Nat.le_of_ble_eq_true rfl⟩ rfl rfl (Nat.le_of_ble_eq_true rfl) dX2_readSign_4 (fun H locs Z => ?_)
  clear hc0
  refine lv_istore_n (lv' := [(2, .int r2), (0, .ref (X.2.1 29)), (1, .int a1)]) hx hb dX2_readSign_7 rfl hl (by decide) rfl (fun ls hl => ?_)
  refine lv_iload_n hx hb dX2_readSign_8 rfl (lv_at hl 0 rfl) ?_
  refine lv_bipush (v := (45 : Int32)) hx hb dX2_readSign_9 (by decide) ?_
  refine lv_icmp_ne (tgt := 23) hx hb dX2_readSign_11 (by decide) (fun c4 => ?_) (fun c4 => ?_)
  · have h2 := dif h1 c4
    clear h1
    refine lv_iload_n hx hb dX2_readSign_23 rfl (lv_at hl 0 rfl) ?_
    refine lv_bipush (v := (43 : Int32)) hx hb dX2_readSign_24 (by decide) ?_
    obtain ⟨J5, eJ5, h6⟩ := dlt_s h2
    clear h2
    have kJ5 : ∀ (H : Heap) (locs : List Loc) (ls : Array Slot), Wd (wC X) (tC X) (aC X) X s σ3 H locs → lv_has ls 3 [(1, .int a1)] → J5 () = some (rz, σz) → W p l e rm_fOR_readSign s m args below meth c H locs 0 0 (MQ below (va_Qi (fun a u => a = rz ∧ u = σz) (poW (wC X) (tC X) (aC X) X sz) (aA (aC X) sz)) args s 0 0 (aA (aC X) sz)) (F0 m 42 ls []) := by
      intro  H locs ls Z hl h3
      rw [eJ5] at h3
      refine lv_iload_n hx hb dX2_readSign_42 rfl (lv_at hl 0 rfl) ?_
      refine lv_if_eq (tgt := 50) hx hb dX2_readSign_43 (by decide) (fun c6 => ?_) (fun c6 => ?_)
      · have h4 := dit h3 c6
        clear h3
        refine lv_iconst (v := (0 : Int32)) hx hb dX2_readSign_50 (by decide) ?_
        exact reI B Z rfl hz h4 dX2_readSign_51
      · have h5 := dif h3 c6
        clear h3
        refine lv_iconst (v := (1 : Int32)) hx hb dX2_readSign_46 (by decide) ?_
        refine lv_goto (tgt := 51) hx hb dX2_readSign_47 (by decide) ?_
        exact reI B Z rfl hz h5 dX2_readSign_51
    clear eJ5
    refine lv_icmp_ne (tgt := 42) hx hb dX2_readSign_26 (by decide) (fun c7 => ?_) (fun c7 => ?_)
    · have h7 := dif h6 c7
      clear h6
      exact kJ5  _ _ _ Z (lv_sub hl [2] rfl) h7
    · have h8 := dit h6 c7
      clear h6
      refine lv_iload_n hx hb dX2_readSign_29 rfl (lv_at hl 2 rfl) ?_
      refine lv_if_ne (tgt := 42) hx hb dX2_readSign_30 (by decide) (fun c8 => ?_) (fun c8 => ?_)
      · have h9 := dif h8 c8
        clear h8
        exact kJ5  _ _ _ Z (lv_sub hl [2] rfl) h9
      · have h10 := dit h8 c8
        clear h8
        refine lv_aload_n hx hb dX2_readSign_33 rfl (lv_at hl 1 rfl) ?_
        refine g_29_0 B Z kf_RX2_15 dX2_readSign_34 ?_
        obtain ⟨σ10, hc8, h11⟩ := db1_s h10
        clear h10
        refine cV_V [] [] B mx_yX5_step (c_fSc_step l X _ σ3 σ10 hc8) kl_RX2_46 mi_yX5_step (rv_26 _ _) hcl_5 Z hl rfl rfl ⟨Nat.le_of_ble_eq_true rfl, Nat.le_of_ble_eq_true rfl⟩ rfl rfl (Nat.le_of_ble_eq_true rfl) dX2_readSign_37 (fun H locs Z => ?_)
        clear hc8
        refine lv_iconst (v := (1 : Int32)) hx hb dX2_readSign_40 (by decide) ?_
        exact reI B Z rfl hz h11 dX2_readSign_41
  · have h12 := dit h1 c4
    clear h1
    refine lv_aload_n hx hb dX2_readSign_14 rfl (lv_at hl 1 rfl) ?_
    refine g_29_0 B Z kf_RX2_15 dX2_readSign_15 ?_
    obtain ⟨σ12, hc10, h13⟩ := db1_s h12
    clear h12
    refine cV_V [] [] B mx_yX5_step (c_fSc_step l X _ σ3 σ12 hc10) kl_RX2_46 mi_yX5_step (rv_26 _ _) hcl_5 Z hl rfl rfl ⟨Nat.le_of_ble_eq_true rfl, Nat.le_of_ble_eq_true rfl⟩ rfl rfl (Nat.le_of_ble_eq_true rfl) dX2_readSign_18 (fun H locs Z => ?_)
    clear hc10
    refine lv_iconst (v := (-1 : Int32)) hx hb dX2_readSign_21 (by decide) ?_
    exact reI B Z rfl hz h13 dX2_readSign_22
theorem dX2_readDigit_0 : decode cX2_readDigit 0 = .ok (.aload_n 0, 1) := by decide +kernel
theorem dX2_readDigit_1 : decode cX2_readDigit 1 = .ok (.getfield 15, 3) := by decide +kernel
theorem dX2_readDigit_4 : decode cX2_readDigit 4 = .ok (.invokevirtual 42, 3) := by decide +kernel
theorem dX2_readDigit_7 : decode cX2_readDigit 7 = .ok (.istore_n 1, 1) := by decide +kernel
theorem dX2_readDigit_8 : decode cX2_readDigit 8 = .ok (.iload_n 1, 1) := by decide +kernel
theorem dX2_readDigit_9 : decode cX2_readDigit 9 = .ok (.bipush 49, 2) := by decide +kernel
theorem dX2_readDigit_11 : decode cX2_readDigit 11 = .ok (.bipush 53, 2) := by decide +kernel
theorem dX2_readDigit_13 : decode cX2_readDigit 13 = .ok (.invokestatic 19, 3) := by decide +kernel
theorem dX2_readDigit_16 : decode cX2_readDigit 16 = .ok (.ifCond .ne 5, 3) := by decide +kernel
theorem dX2_readDigit_19 : decode cX2_readDigit 19 = .ok (.iconst 1, 1) := by decide +kernel
theorem dX2_readDigit_20 : decode cX2_readDigit 20 = .ok (.ireturn, 1) := by decide +kernel
theorem dX2_readDigit_21 : decode cX2_readDigit 21 = .ok (.aload_n 0, 1) := by decide +kernel
theorem dX2_readDigit_22 : decode cX2_readDigit 22 = .ok (.getfield 15, 3) := by decide +kernel
theorem dX2_readDigit_25 : decode cX2_readDigit 25 = .ok (.invokevirtual 46, 3) := by decide +kernel
theorem dX2_readDigit_28 : decode cX2_readDigit 28 = .ok (.iload_n 1, 1) := by decide +kernel
theorem dX2_readDigit_29 : decode cX2_readDigit 29 = .ok (.bipush 48, 2) := by decide +kernel
theorem dX2_readDigit_31 : decode cX2_readDigit 31 = .ok (.isub, 1) := by decide +kernel
theorem dX2_readDigit_32 : decode cX2_readDigit 32 = .ok (.ireturn, 1) := by decide +kernel
def rm_fOR_readDigit : Room := { frames := 2, cells := 0, slots := 0, locals := 82 }
set_option maxHeartbeats 4000000 in
set_option maxRecDepth 100000 in
theorem c_fOR_readDigit (l : Launch) (X : eX) (sz : Nat)  (σ : sT) (rz : Int32) (σz : sT) (h0 : fOR_readDigit σ = some (rz, σz)) : ctI l yX2_readDigit cX2_readDigit 2 (some .int) rm_fOR_readDigit [.ref (X.2.1 29)] (wC X) (tC X) (aC X) X sz σ rz σz := by
  refine ct_of (by decide +kernel) (Nat.le_of_ble_eq_true rfl) ?_
  intro p e s m args below meth c ls hz B hl Z
  have B : Bd p s m args meth c RX2 cX2_readDigit 2 (some .int) := B
  have hl : lv_has ls 2 [(0, .ref (X.2.1 29))] := hl
  have hx := B.1
  have hb := B.2.1
  unfold fOR_readDigit at h0
  refine lv_aload_n hx hb dX2_readDigit_0 rfl (lv_at hl 0 rfl) ?_
  refine g_29_0 B Z kf_RX2_15 dX2_readDigit_1 ?_
  obtain ⟨r2, σ3, hc0, h1⟩ := db2_s h0
  clear h0
  refine cV_I [] [] B mx_yX5_peek (c_fSc_peek l X _ σ r2 σ3 hc0) kl_RX2_42 mi_yX5_peek (rv_26 _ _) hcl_5 Z hl rfl rfl ⟨Nat.le_of_ble_eq_true rfl, Nat.le_of_ble_eq_true rfl⟩ rfl rfl (Nat.le_of_ble_eq_true rfl) dX2_readDigit_4 (fun H locs Z => ?_)
  clear hc0
  refine lv_istore_n (lv' := [(1, .int r2), (0, .ref (X.2.1 29))]) hx hb dX2_readDigit_7 rfl hl (by decide) rfl (fun ls hl => ?_)
  refine lv_iload_n hx hb dX2_readDigit_8 rfl (lv_at hl 0 rfl) ?_
  refine lv_bipush (v := (49 : Int32)) hx hb dX2_readDigit_9 (by decide) ?_
  refine lv_bipush (v := (53 : Int32)) hx hb dX2_readDigit_11 (by decide) ?_
  obtain ⟨r5, hc3, h2⟩ := db1_s h1
  clear h1
  refine cSN_I [.int r2, .int (49 : Int32), .int (53 : Int32)] [] B mx_yX11_isWithin (c_fRM_isWithin l X _ r2 (49 : Int32) (53 : Int32) σ3 r5 hc3) kx_RX2_19 ks_yX11_isWithin Z hl rfl rfl ⟨Nat.le_of_ble_eq_true rfl, Nat.le_of_ble_eq_true rfl⟩ rfl rfl (Nat.le_of_ble_eq_true rfl) dX2_readDigit_13 (fun H locs Z => ?_)
  clear hc3
  refine lv_if_ne (tgt := 21) hx hb dX2_readDigit_16 (by decide) (fun c6 => ?_) (fun c6 => ?_)
  · have h3 := dif h2 c6
    clear h2
    refine lv_aload_n hx hb dX2_readDigit_21 rfl (lv_at hl 1 rfl) ?_
    refine g_29_0 B Z kf_RX2_15 dX2_readDigit_22 ?_
    obtain ⟨σ8, hc6, h4⟩ := db1_s h3
    clear h3
    refine cV_V [] [] B mx_yX5_step (c_fSc_step l X _ σ3 σ8 hc6) kl_RX2_46 mi_yX5_step (rv_26 _ _) hcl_5 Z hl rfl rfl ⟨Nat.le_of_ble_eq_true rfl, Nat.le_of_ble_eq_true rfl⟩ rfl rfl (Nat.le_of_ble_eq_true rfl) dX2_readDigit_25 (fun H locs Z => ?_)
    clear hc6
    refine lv_iload_n hx hb dX2_readDigit_28 rfl (lv_at hl 0 rfl) ?_
    refine lv_bipush (v := (48 : Int32)) hx hb dX2_readDigit_29 (by decide) ?_
    refine lv_isub hx hb dX2_readDigit_31 ?_
    exact reI B Z rfl hz h4 dX2_readDigit_32
  · have h5 := dit h2 c6
    clear h2
    refine lv_iconst (v := (1 : Int32)) hx hb dX2_readDigit_19 (by decide) ?_
    exact reI B Z rfl hz h5 dX2_readDigit_20
theorem dX2_readTerms_0 : decode cX2_readTerms 0 = .ok (.iconst 0, 1) := by decide +kernel
theorem dX2_readTerms_1 : decode cX2_readTerms 1 = .ok (.istore_n 2, 1) := by decide +kernel
theorem dX2_readTerms_2 : decode cX2_readTerms 2 = .ok (.iconst 0, 1) := by decide +kernel
theorem dX2_readTerms_3 : decode cX2_readTerms 3 = .ok (.istore_n 3, 1) := by decide +kernel
theorem dX2_readTerms_4 : decode cX2_readTerms 4 = .ok (.iload_n 3, 1) := by decide +kernel
theorem dX2_readTerms_5 : decode cX2_readTerms 5 = .ok (.iconst 4, 1) := by decide +kernel
theorem dX2_readTerms_6 : decode cX2_readTerms 6 = .ok (.if_icmp .ge 110, 3) := by decide +kernel
theorem dX2_readTerms_9 : decode cX2_readTerms 9 = .ok (.aload_n 0, 1) := by decide +kernel
theorem dX2_readTerms_10 : decode cX2_readTerms 10 = .ok (.iload_n 3, 1) := by decide +kernel
theorem dX2_readTerms_11 : decode cX2_readTerms 11 = .ok (.ifCond .ne 7, 3) := by decide +kernel
theorem dX2_readTerms_14 : decode cX2_readTerms 14 = .ok (.iconst 1, 1) := by decide +kernel
theorem dX2_readTerms_15 : decode cX2_readTerms 15 = .ok (.goto 4, 3) := by decide +kernel
theorem dX2_readTerms_18 : decode cX2_readTerms 18 = .ok (.iconst 0, 1) := by decide +kernel
theorem dX2_readTerms_19 : decode cX2_readTerms 19 = .ok (.invokevirtual 61, 3) := by decide +kernel
theorem dX2_readTerms_22 : decode cX2_readTerms 22 = .ok (.istore 4, 2) := by decide +kernel
theorem dX2_readTerms_24 : decode cX2_readTerms 24 = .ok (.iload 4, 2) := by decide +kernel
theorem dX2_readTerms_26 : decode cX2_readTerms 26 = .ok (.ifCond .ne 4, 3) := by decide +kernel
theorem dX2_readTerms_29 : decode cX2_readTerms 29 = .ok (.return_, 1) := by decide +kernel
theorem dX2_readTerms_30 : decode cX2_readTerms 30 = .ok (.aload_n 0, 1) := by decide +kernel
theorem dX2_readTerms_31 : decode cX2_readTerms 31 = .ok (.invokevirtual 65, 3) := by decide +kernel
theorem dX2_readTerms_34 : decode cX2_readTerms 34 = .ok (.istore 5, 2) := by decide +kernel
theorem dX2_readTerms_36 : decode cX2_readTerms 36 = .ok (.aload_n 0, 1) := by decide +kernel
theorem dX2_readTerms_37 : decode cX2_readTerms 37 = .ok (.getfield 15, 3) := by decide +kernel
theorem dX2_readTerms_40 : decode cX2_readTerms 40 = .ok (.invokevirtual 42, 3) := by decide +kernel
theorem dX2_readTerms_43 : decode cX2_readTerms 43 = .ok (.bipush 120, 2) := by decide +kernel
theorem dX2_readTerms_45 : decode cX2_readTerms 45 = .ok (.isub, 1) := by decide +kernel
theorem dX2_readTerms_46 : decode cX2_readTerms 46 = .ok (.istore 6, 2) := by decide +kernel
theorem dX2_readTerms_48 : decode cX2_readTerms 48 = .ok (.iload 6, 2) := by decide +kernel
theorem dX2_readTerms_50 : decode cX2_readTerms 50 = .ok (.iconst 0, 1) := by decide +kernel
theorem dX2_readTerms_51 : decode cX2_readTerms 51 = .ok (.iconst 2, 1) := by decide +kernel
theorem dX2_readTerms_52 : decode cX2_readTerms 52 = .ok (.invokestatic 19, 3) := by decide +kernel
theorem dX2_readTerms_55 : decode cX2_readTerms 55 = .ok (.ifCond .eq 12, 3) := by decide +kernel
theorem dX2_readTerms_58 : decode cX2_readTerms 58 = .ok (.iload_n 2, 1) := by decide +kernel
theorem dX2_readTerms_59 : decode cX2_readTerms 59 = .ok (.iload 6, 2) := by decide +kernel
theorem dX2_readTerms_61 : decode cX2_readTerms 61 = .ok (.invokestatic 68, 3) := by decide +kernel
theorem dX2_readTerms_64 : decode cX2_readTerms 64 = .ok (.ifCond .eq 18, 3) := by decide +kernel
theorem dX2_readTerms_67 : decode cX2_readTerms 67 = .ok (.aload_n 0, 1) := by decide +kernel
theorem dX2_readTerms_68 : decode cX2_readTerms 68 = .ok (.getfield 15, 3) := by decide +kernel
theorem dX2_readTerms_71 : decode cX2_readTerms 71 = .ok (.aload_n 0, 1) := by decide +kernel
theorem dX2_readTerms_72 : decode cX2_readTerms 72 = .ok (.getfield 15, 3) := by decide +kernel
theorem dX2_readTerms_75 : decode cX2_readTerms 75 = .ok (.getfield 72, 3) := by decide +kernel
theorem dX2_readTerms_78 : decode cX2_readTerms 78 = .ok (.invokevirtual 76, 3) := by decide +kernel
theorem dX2_readTerms_81 : decode cX2_readTerms 81 = .ok (.return_, 1) := by decide +kernel
theorem dX2_readTerms_82 : decode cX2_readTerms 82 = .ok (.aload_n 0, 1) := by decide +kernel
theorem dX2_readTerms_83 : decode cX2_readTerms 83 = .ok (.getfield 15, 3) := by decide +kernel
theorem dX2_readTerms_86 : decode cX2_readTerms 86 = .ok (.invokevirtual 46, 3) := by decide +kernel
theorem dX2_readTerms_89 : decode cX2_readTerms 89 = .ok (.iload_n 2, 1) := by decide +kernel
theorem dX2_readTerms_90 : decode cX2_readTerms 90 = .ok (.iconst 1, 1) := by decide +kernel
theorem dX2_readTerms_91 : decode cX2_readTerms 91 = .ok (.iload 6, 2) := by decide +kernel
theorem dX2_readTerms_93 : decode cX2_readTerms 93 = .ok (.ishl, 1) := by decide +kernel
theorem dX2_readTerms_94 : decode cX2_readTerms 94 = .ok (.ior, 1) := by decide +kernel
theorem dX2_readTerms_95 : decode cX2_readTerms 95 = .ok (.istore_n 2, 1) := by decide +kernel
theorem dX2_readTerms_96 : decode cX2_readTerms 96 = .ok (.aload_n 0, 1) := by decide +kernel
theorem dX2_readTerms_97 : decode cX2_readTerms 97 = .ok (.getfield 9, 3) := by decide +kernel
theorem dX2_readTerms_100 : decode cX2_readTerms 100 = .ok (.iload_n 1, 1) := by decide +kernel
theorem dX2_readTerms_101 : decode cX2_readTerms 101 = .ok (.iload 6, 2) := by decide +kernel
theorem dX2_readTerms_103 : decode cX2_readTerms 103 = .ok (.iadd, 1) := by decide +kernel
theorem dX2_readTerms_104 : decode cX2_readTerms 104 = .ok (.iload 4, 2) := by decide +kernel
theorem dX2_readTerms_106 : decode cX2_readTerms 106 = .ok (.iload 5, 2) := by decide +kernel
theorem dX2_readTerms_108 : decode cX2_readTerms 108 = .ok (.imul, 1) := by decide +kernel
theorem dX2_readTerms_109 : decode cX2_readTerms 109 = .ok (.iastore, 1) := by decide +kernel
theorem dX2_readTerms_110 : decode cX2_readTerms 110 = .ok (.iinc 3 1, 3) := by decide +kernel
theorem dX2_readTerms_113 : decode cX2_readTerms 113 = .ok (.goto (-109), 3) := by decide +kernel
theorem dX2_readTerms_116 : decode cX2_readTerms 116 = .ok (.return_, 1) := by decide +kernel
def rm_fOR_readTerms : Room := { frames := 3, cells := 0, slots := 0, locals := 103 }
set_option maxHeartbeats 4000000 in
set_option maxRecDepth 100000 in
theorem c_fOR_readTerms (l : Launch) (X : eX) (sz : Nat) (a1 : Int32) (σ : sT) (σz : sT) (h0 : fOR_readTerms a1 σ = some σz) : ctV l yX2_readTerms cX2_readTerms 7 none rm_fOR_readTerms [.ref (X.2.1 29), .int a1] (wC X) (tC X) (aC X) X sz σ σz := by
  refine ct_of (by decide +kernel) (Nat.le_of_ble_eq_true rfl) ?_
  intro p e s m args below meth c ls hz B hl Z
  have B : Bd p s m args meth c RX2 cX2_readTerms 7 none := B
  have hl : lv_has ls 7 [(0, .ref (X.2.1 29)), (1, .int a1)] := hl
  have hx := B.1
  have hb := B.2.1
  unfold fOR_readTerms at h0
  refine lv_iconst (v := (0 : Int32)) hx hb dX2_readTerms_0 (by decide) ?_
  refine lv_istore_n (lv' := [(2, .int (0 : Int32)), (0, .ref (X.2.1 29)), (1, .int a1)]) hx hb dX2_readTerms_1 rfl hl (by decide) rfl (fun ls hl => ?_)
  refine lv_iconst (v := (0 : Int32)) hx hb dX2_readTerms_2 (by decide) ?_
  refine lv_istore_n (lv' := [(3, .int (0 : Int32)), (2, .int (0 : Int32)), (0, .ref (X.2.1 29)), (1, .int a1)]) hx hb dX2_readTerms_3 rfl hl (by decide) rfl (fun ls hl => ?_)
  obtain ⟨K5, eK5, h3⟩ := dlt_s h0
  clear h0
  have kK5 : ∀ (σ4 : sT) (H : Heap) (locs : List Loc) (ls : Array Slot), Wd (wC X) (tC X) (aC X) X s σ4 H locs → lv_has ls 7 [(0, .ref (X.2.1 29))] → K5 σ4 = some σz → W p l e rm_fOR_readTerms s m args below meth c H locs 0 0 (MQ below (va_Qv (fun u => u = σz) (poW (wC X) (tC X) (aC X) X sz) (aA (aC X) sz)) args s 0 0 (aA (aC X) sz)) (F0 m 67 ls []) := by
    intro σ4 H locs ls Z hl h1
    rw [eK5] at h1
    refine lv_aload_n hx hb dX2_readTerms_67 rfl (lv_at hl 0 rfl) ?_
    refine g_29_0 B Z kf_RX2_15 dX2_readTerms_68 ?_
    refine lv_aload_n hx hb dX2_readTerms_71 rfl (lv_at hl 0 rfl) ?_
    refine g_29_0 B Z kf_RX2_15 dX2_readTerms_72 ?_
    refine gn_26_2 B Z kx_RX2_72 dX2_readTerms_75 ?_
    obtain ⟨σ7, hc5, h2⟩ := db1_s h1
    clear h1
    refine cV_V [.int (σ4.1 26 2)] [] B mx_yX5_failAt (c_fSc_failAt l X _ (σ4.1 26 2) σ4 σ7 hc5) kl_RX2_76 mi_yX5_failAt (rv_26 _ _) hcl_5 Z hl rfl rfl ⟨Nat.le_of_ble_eq_true rfl, Nat.le_of_ble_eq_true rfl⟩ rfl rfl (Nat.le_of_ble_eq_true rfl) dX2_readTerms_78 (fun H locs Z => ?_)
    clear hc5
    exact reV B Z hz h2 dX2_readTerms_81
  clear eK5
  have lL4 : ∀ (n : Nat), ∀ (x1 : Int32) (x2 : Int32) (σ3 : sT) (H : Heap) (locs : List Loc) (ls : Array Slot), Wd (wC X) (tC X) (aC X) X s σ3 H locs → lv_has ls 7 [(0, .ref (X.2.1 29)), (1, .int a1), (2, .int x1), (3, .int x2)] → fOR_readTerms_L4 a1 K5 n x1 x2 σ3 = some σz → W p l e rm_fOR_readTerms s m args below meth c H locs 0 0 (MQ below (va_Qv (fun u => u = σz) (poW (wC X) (tC X) (aC X) X sz) (aA (aC X) sz)) args s 0 0 (aA (aC X) sz)) (F0 m 4 ls []) := by
    intro n
    induction n with
    | zero =>
      intro x1 x2 σ3 H locs ls Z hl h
      exact nomatch (show (none : Option (sT)) = some _ from h)
    | succ n8 ih4 =>
      intro x1 x2 σ3 H locs ls Z hl h4
      unfold fOR_readTerms_L4 at h4
      refine lv_iload_n hx hb dX2_readTerms_4 rfl (lv_at hl 3 rfl) ?_
      refine lv_iconst (v := (4 : Int32)) hx hb dX2_readTerms_5 (by decide) ?_
      refine lv_icmp_ge (tgt := 116) hx hb dX2_readTerms_6 (by decide) (fun c9 => ?_) (fun c9 => ?_)
      · have h5 := dit h4 c9
        clear h4
        exact reV B Z hz h5 dX2_readTerms_116
      · have h6 := dif h4 c9
        clear h4
        refine lv_aload_n hx hb dX2_readTerms_9 rfl (lv_at hl 0 rfl) ?_
        refine lv_iload_n hx hb dX2_readTerms_10 rfl (lv_at hl 3 rfl) ?_
        obtain ⟨J11, eJ11, h24⟩ := dlt_s h6
        clear h6
        have kJ11 : ∀ (x10 : Int32) (H : Heap) (locs : List Loc) (ls : Array Slot), Wd (wC X) (tC X) (aC X) X s σ3 H locs → lv_has ls 7 [(0, .ref (X.2.1 29)), (1, .int a1), (2, .int x1), (3, .int x2)] → J11 x10 = some σz → W p l e rm_fOR_readTerms s m args below meth c H locs 0 0 (MQ below (va_Qv (fun u => u = σz) (poW (wC X) (tC X) (aC X) X sz) (aA (aC X) sz)) args s 0 0 (aA (aC X) sz)) (F0 m 19 ls [.int x10, .ref (X.2.1 29)]) := by
          intro x10 H locs ls Z hl h7
          rw [eJ11] at h7
          obtain ⟨r13, σ14, hc11, h8⟩ := db2_s h7
          clear h7
          refine cV_I [.int x10] [] B mx_yX2_readSign (c_fOR_readSign l X _ x10 σ3 r13 σ14 hc11) kl_RX2_61 mi_yX2_readSign (rv_29 _ _) hcl_2 Z hl rfl rfl ⟨Nat.le_of_ble_eq_true rfl, Nat.le_of_ble_eq_true rfl⟩ rfl rfl (Nat.le_of_ble_eq_true rfl) dX2_readTerms_19 (fun H locs Z => ?_)
          clear hc11
          refine lv_istore (lv' := [(4, .int r13), (0, .ref (X.2.1 29)), (1, .int a1), (2, .int x1), (3, .int x2)]) hx hb dX2_readTerms_22 hl (by decide) rfl (fun ls hl => ?_)
          refine lv_iload hx hb dX2_readTerms_24 (lv_at hl 0 rfl) ?_
          refine lv_if_ne (tgt := 30) hx hb dX2_readTerms_26 (by decide) (fun c15 => ?_) (fun c15 => ?_)
          · have h9 := dif h8 c15
            clear h8
            refine lv_aload_n hx hb dX2_readTerms_30 rfl (lv_at hl 1 rfl) ?_
            obtain ⟨r17, σ18, hc15, h10⟩ := db2_s h9
            clear h9
            refine cV_I [] [] B mx_yX2_readDigit (c_fOR_readDigit l X _ σ14 r17 σ18 hc15) kl_RX2_65 mi_yX2_readDigit (rv_29 _ _) hcl_2 Z hl rfl rfl ⟨Nat.le_of_ble_eq_true rfl, Nat.le_of_ble_eq_true rfl⟩ rfl rfl (Nat.le_of_ble_eq_true rfl) dX2_readTerms_31 (fun H locs Z => ?_)
            clear hc15
            refine lv_istore (lv' := [(5, .int r17), (4, .int r13), (0, .ref (X.2.1 29)), (1, .int a1), (2, .int x1), (3, .int x2)]) hx hb dX2_readTerms_34 hl (by decide) rfl (fun ls hl => ?_)
            refine lv_aload_n hx hb dX2_readTerms_36 rfl (lv_at hl 2 rfl) ?_
            refine g_29_0 B Z kf_RX2_15 dX2_readTerms_37 ?_
            obtain ⟨r20, σ21, hc18, h11⟩ := db2_s h10
            clear h10
            refine cV_I [] [] B mx_yX5_peek (c_fSc_peek l X _ σ18 r20 σ21 hc18) kl_RX2_42 mi_yX5_peek (rv_26 _ _) hcl_5 Z hl rfl rfl ⟨Nat.le_of_ble_eq_true rfl, Nat.le_of_ble_eq_true rfl⟩ rfl rfl (Nat.le_of_ble_eq_true rfl) dX2_readTerms_40 (fun H locs Z => ?_)
            clear hc18
            refine lv_bipush (v := (120 : Int32)) hx hb dX2_readTerms_43 (by decide) ?_
            refine lv_isub hx hb dX2_readTerms_45 ?_
            refine lv_topi (fun x22 ex22 => ?_)
            have h12 := dlt_e ex22 h11
            clear ex22 h11
            refine lv_istore (lv' := [(6, .int x22), (5, .int r17), (4, .int r13), (0, .ref (X.2.1 29)), (1, .int a1), (2, .int x1), (3, .int x2)]) hx hb dX2_readTerms_46 hl (by decide) rfl (fun ls hl => ?_)
            refine lv_iload hx hb dX2_readTerms_48 (lv_at hl 0 rfl) ?_
            refine lv_iconst (v := (0 : Int32)) hx hb dX2_readTerms_50 (by decide) ?_
            refine lv_iconst (v := (2 : Int32)) hx hb dX2_readTerms_51 (by decide) ?_
            obtain ⟨r24, hc22, h13⟩ := db1_s h12
            clear h12
            refine cSN_I [.int x22, .int (0 : Int32), .int (2 : Int32)] [] B mx_yX11_isWithin (c_fRM_isWithin l X _ x22 (0 : Int32) (2 : Int32) σ21 r24 hc22) kx_RX2_19 ks_yX11_isWithin Z hl rfl rfl ⟨Nat.le_of_ble_eq_true rfl, Nat.le_of_ble_eq_true rfl⟩ rfl rfl (Nat.le_of_ble_eq_true rfl) dX2_readTerms_52 (fun H locs Z => ?_)
            clear hc22
            refine lv_if_eq (tgt := 67) hx hb dX2_readTerms_55 (by decide) (fun c25 => ?_) (fun c25 => ?_)
            · have h14 := dit h13 c25
              clear h13
              exact kK5 σ21 _ _ _ Z (lv_sub hl [3] rfl) h14
            · have h15 := dif h13 c25
              clear h13
              refine lv_iload_n hx hb dX2_readTerms_58 rfl (lv_at hl 5 rfl) ?_
              refine lv_iload hx hb dX2_readTerms_59 (lv_at hl 0 rfl) ?_
              obtain ⟨r27, hc25, h16⟩ := db1_s h15
              clear h15
              refine cSN_I [.int x1, .int x22] [] B mx_yX11_isIn (c_fRM_isIn l X _ x1 x22 σ21 r27 hc25) kx_RX2_68 ks_yX11_isIn Z hl rfl rfl ⟨Nat.le_of_ble_eq_true rfl, Nat.le_of_ble_eq_true rfl⟩ rfl rfl (Nat.le_of_ble_eq_true rfl) dX2_readTerms_61 (fun H locs Z => ?_)
              clear hc25
              refine lv_if_eq (tgt := 82) hx hb dX2_readTerms_64 (by decide) (fun c28 => ?_) (fun c28 => ?_)
              · have h17 := dit h16 c28
                clear h16
                refine lv_aload_n hx hb dX2_readTerms_82 rfl (lv_at hl 3 rfl) ?_
                refine g_29_0 B Z kf_RX2_15 dX2_readTerms_83 ?_
                obtain ⟨σ30, hc28, h18⟩ := db1_s h17
                clear h17
                refine cV_V [] [] B mx_yX5_step (c_fSc_step l X _ σ21 σ30 hc28) kl_RX2_46 mi_yX5_step (rv_26 _ _) hcl_5 Z hl rfl rfl ⟨Nat.le_of_ble_eq_true rfl, Nat.le_of_ble_eq_true rfl⟩ rfl rfl (Nat.le_of_ble_eq_true rfl) dX2_readTerms_86 (fun H locs Z => ?_)
                clear hc28
                refine lv_iload_n hx hb dX2_readTerms_89 rfl (lv_at hl 5 rfl) ?_
                refine lv_iconst (v := (1 : Int32)) hx hb dX2_readTerms_90 (by decide) ?_
                refine lv_iload hx hb dX2_readTerms_91 (lv_at hl 0 rfl) ?_
                refine lv_ishl hx hb dX2_readTerms_93 ?_
                refine lv_ior hx hb dX2_readTerms_94 ?_
                refine lv_topi (fun x31 ex31 => ?_)
                have h19 := dlt_e ex31 h18
                clear ex31 h18
                refine lv_istore_n (lv' := [(2, .int x31), (6, .int x22), (5, .int r17), (4, .int r13), (0, .ref (X.2.1 29)), (1, .int a1), (3, .int x2)]) hx hb dX2_readTerms_95 rfl hl (by decide) rfl (fun ls hl => ?_)
                refine lv_aload_n hx hb dX2_readTerms_96 rfl (lv_at hl 4 rfl) ?_
                refine g_29_1 B Z kf_RX2_9 dX2_readTerms_97 ?_
                refine lv_iload_n hx hb dX2_readTerms_100 rfl (lv_at hl 5 rfl) ?_
                refine lv_iload hx hb dX2_readTerms_101 (lv_at hl 1 rfl) ?_
                refine lv_iadd hx hb dX2_readTerms_103 ?_
                refine lv_iload hx hb dX2_readTerms_104 (lv_at hl 3 rfl) ?_
                refine lv_iload hx hb dX2_readTerms_106 (lv_at hl 2 rfl) ?_
                refine lv_imul hx hb dX2_readTerms_108 ?_
                obtain ⟨z32, h20⟩ := dck_s h19
                clear h19
                refine st_30 B Z z32 dX2_readTerms_109 (fun H locs Z => ?_)
                obtain ⟨σ33, eσ33, h21⟩ := dlt_s h20
                clear h20
                replace Z := Wd.eq eσ33 Z
                clear eσ33
                refine lv_iinc (v := x2 + (1 : Int32)) (lv' := [(3, .int (x2 + (1 : Int32))), (2, .int x31), (6, .int x22), (5, .int r17), (4, .int r13), (0, .ref (X.2.1 29)), (1, .int a1)]) hx hb dX2_readTerms_110 hl (k := 6) rfl (by rfl) (by decide) rfl (fun ls hl => ?_)
                refine lv_goto (tgt := 4) hx hb dX2_readTerms_113 (by decide) ?_
                exact ih4 x31 (x2 + (1 : Int32)) σ33 _ _ _ Z (lv_sub hl [5, 6, 1, 0] rfl) h21
              · have h22 := dif h16 c28
                clear h16
                exact kK5 σ21 _ _ _ Z (lv_sub hl [3] rfl) h22
          · have h23 := dit h8 c15
            clear h8
            exact reV B Z hz h23 dX2_readTerms_29
        clear eJ11
        refine lv_if_ne (tgt := 18) hx hb dX2_readTerms_11 (by decide) (fun c34 => ?_) (fun c34 => ?_)
        · have h25 := dif h24 c34
          clear h24
          refine lv_iconst (v := (0 : Int32)) hx hb dX2_readTerms_18 (by decide) ?_
          exact kJ11 (0 : Int32) _ _ _ Z (lv_sub hl [0, 1, 2, 3] rfl) h25
        · have h26 := dit h24 c34
          clear h24
          refine lv_iconst (v := (1 : Int32)) hx hb dX2_readTerms_14 (by decide) ?_
          refine lv_goto (tgt := 19) hx hb dX2_readTerms_15 (by decide) ?_
          exact kJ11 (1 : Int32) _ _ _ Z (lv_sub hl [0, 1, 2, 3] rfl) h26
  exact lL4 FU (0 : Int32) (0 : Int32) σ _ _ _ Z (lv_sub hl [2, 3, 1, 0] rfl) h3
theorem dX2_readOrder_0 : decode cX2_readOrder 0 = .ok (.iconst 0, 1) := by decide +kernel
theorem dX2_readOrder_1 : decode cX2_readOrder 1 = .ok (.istore_n 2, 1) := by decide +kernel
theorem dX2_readOrder_2 : decode cX2_readOrder 2 = .ok (.iload_n 2, 1) := by decide +kernel
theorem dX2_readOrder_3 : decode cX2_readOrder 3 = .ok (.iconst 3, 1) := by decide +kernel
theorem dX2_readOrder_4 : decode cX2_readOrder 4 = .ok (.if_icmp .ge 18, 3) := by decide +kernel
theorem dX2_readOrder_7 : decode cX2_readOrder 7 = .ok (.aload_n 0, 1) := by decide +kernel
theorem dX2_readOrder_8 : decode cX2_readOrder 8 = .ok (.getfield 9, 3) := by decide +kernel
theorem dX2_readOrder_11 : decode cX2_readOrder 11 = .ok (.iload_n 1, 1) := by decide +kernel
theorem dX2_readOrder_12 : decode cX2_readOrder 12 = .ok (.iload_n 2, 1) := by decide +kernel
theorem dX2_readOrder_13 : decode cX2_readOrder 13 = .ok (.iadd, 1) := by decide +kernel
theorem dX2_readOrder_14 : decode cX2_readOrder 14 = .ok (.iconst 0, 1) := by decide +kernel
theorem dX2_readOrder_15 : decode cX2_readOrder 15 = .ok (.iastore, 1) := by decide +kernel
theorem dX2_readOrder_16 : decode cX2_readOrder 16 = .ok (.iinc 2 1, 3) := by decide +kernel
theorem dX2_readOrder_19 : decode cX2_readOrder 19 = .ok (.goto (-17), 3) := by decide +kernel
theorem dX2_readOrder_22 : decode cX2_readOrder 22 = .ok (.aload_n 0, 1) := by decide +kernel
theorem dX2_readOrder_23 : decode cX2_readOrder 23 = .ok (.getfield 15, 3) := by decide +kernel
theorem dX2_readOrder_26 : decode cX2_readOrder 26 = .ok (.invokevirtual 42, 3) := by decide +kernel
theorem dX2_readOrder_29 : decode cX2_readOrder 29 = .ok (.bipush 48, 2) := by decide +kernel
theorem dX2_readOrder_31 : decode cX2_readOrder 31 = .ok (.if_icmp .ne 13, 3) := by decide +kernel
theorem dX2_readOrder_34 : decode cX2_readOrder 34 = .ok (.aload_n 0, 1) := by decide +kernel
theorem dX2_readOrder_35 : decode cX2_readOrder 35 = .ok (.getfield 15, 3) := by decide +kernel
theorem dX2_readOrder_38 : decode cX2_readOrder 38 = .ok (.invokevirtual 46, 3) := by decide +kernel
theorem dX2_readOrder_41 : decode cX2_readOrder 41 = .ok (.goto 8, 3) := by decide +kernel
theorem dX2_readOrder_44 : decode cX2_readOrder 44 = .ok (.aload_n 0, 1) := by decide +kernel
theorem dX2_readOrder_45 : decode cX2_readOrder 45 = .ok (.iload_n 1, 1) := by decide +kernel
theorem dX2_readOrder_46 : decode cX2_readOrder 46 = .ok (.invokevirtual 49, 3) := by decide +kernel
theorem dX2_readOrder_49 : decode cX2_readOrder 49 = .ok (.aload_n 0, 1) := by decide +kernel
theorem dX2_readOrder_50 : decode cX2_readOrder 50 = .ok (.getfield 15, 3) := by decide +kernel
theorem dX2_readOrder_53 : decode cX2_readOrder 53 = .ok (.invokevirtual 38, 3) := by decide +kernel
theorem dX2_readOrder_56 : decode cX2_readOrder 56 = .ok (.ifCond .ne 15, 3) := by decide +kernel
theorem dX2_readOrder_59 : decode cX2_readOrder 59 = .ok (.aload_n 0, 1) := by decide +kernel
theorem dX2_readOrder_60 : decode cX2_readOrder 60 = .ok (.getfield 9, 3) := by decide +kernel
theorem dX2_readOrder_63 : decode cX2_readOrder 63 = .ok (.iload_n 1, 1) := by decide +kernel
theorem dX2_readOrder_64 : decode cX2_readOrder 64 = .ok (.iconst 3, 1) := by decide +kernel
theorem dX2_readOrder_65 : decode cX2_readOrder 65 = .ok (.iadd, 1) := by decide +kernel
theorem dX2_readOrder_66 : decode cX2_readOrder 66 = .ok (.aload_n 0, 1) := by decide +kernel
theorem dX2_readOrder_67 : decode cX2_readOrder 67 = .ok (.invokevirtual 52, 3) := by decide +kernel
theorem dX2_readOrder_70 : decode cX2_readOrder 70 = .ok (.iastore, 1) := by decide +kernel
theorem dX2_readOrder_71 : decode cX2_readOrder 71 = .ok (.aload_n 0, 1) := by decide +kernel
theorem dX2_readOrder_72 : decode cX2_readOrder 72 = .ok (.getfield 15, 3) := by decide +kernel
theorem dX2_readOrder_75 : decode cX2_readOrder 75 = .ok (.invokevirtual 38, 3) := by decide +kernel
theorem dX2_readOrder_78 : decode cX2_readOrder 78 = .ok (.ifCond .ne 15, 3) := by decide +kernel
theorem dX2_readOrder_81 : decode cX2_readOrder 81 = .ok (.aload_n 0, 1) := by decide +kernel
theorem dX2_readOrder_82 : decode cX2_readOrder 82 = .ok (.getfield 9, 3) := by decide +kernel
theorem dX2_readOrder_85 : decode cX2_readOrder 85 = .ok (.iload_n 1, 1) := by decide +kernel
theorem dX2_readOrder_86 : decode cX2_readOrder 86 = .ok (.iconst 4, 1) := by decide +kernel
theorem dX2_readOrder_87 : decode cX2_readOrder 87 = .ok (.iadd, 1) := by decide +kernel
theorem dX2_readOrder_88 : decode cX2_readOrder 88 = .ok (.aload_n 0, 1) := by decide +kernel
theorem dX2_readOrder_89 : decode cX2_readOrder 89 = .ok (.invokevirtual 55, 3) := by decide +kernel
theorem dX2_readOrder_92 : decode cX2_readOrder 92 = .ok (.iastore, 1) := by decide +kernel
theorem dX2_readOrder_93 : decode cX2_readOrder 93 = .ok (.aload_n 0, 1) := by decide +kernel
theorem dX2_readOrder_94 : decode cX2_readOrder 94 = .ok (.getfield 15, 3) := by decide +kernel
theorem dX2_readOrder_97 : decode cX2_readOrder 97 = .ok (.invokevirtual 38, 3) := by decide +kernel
theorem dX2_readOrder_100 : decode cX2_readOrder 100 = .ok (.ifCond .ne 12, 3) := by decide +kernel
theorem dX2_readOrder_103 : decode cX2_readOrder 103 = .ok (.aload_n 0, 1) := by decide +kernel
theorem dX2_readOrder_104 : decode cX2_readOrder 104 = .ok (.getfield 15, 3) := by decide +kernel
theorem dX2_readOrder_107 : decode cX2_readOrder 107 = .ok (.bipush 59, 2) := by decide +kernel
theorem dX2_readOrder_109 : decode cX2_readOrder 109 = .ok (.invokevirtual 58, 3) := by decide +kernel
theorem dX2_readOrder_112 : decode cX2_readOrder 112 = .ok (.return_, 1) := by decide +kernel
def rm_fOR_readOrder : Room := { frames := 4, cells := 0, slots := 0, locals := 129 }
set_option maxHeartbeats 4000000 in
set_option maxRecDepth 100000 in
theorem c_fOR_readOrder (l : Launch) (X : eX) (sz : Nat) (a1 : Int32) (σ : sT) (σz : sT) (h0 : fOR_readOrder a1 σ = some σz) : ctV l yX2_readOrder cX2_readOrder 3 none rm_fOR_readOrder [.ref (X.2.1 29), .int a1] (wC X) (tC X) (aC X) X sz σ σz := by
  refine ct_of (by decide +kernel) (Nat.le_of_ble_eq_true rfl) ?_
  intro p e s m args below meth c ls hz B hl Z
  have B : Bd p s m args meth c RX2 cX2_readOrder 3 none := B
  have hl : lv_has ls 3 [(0, .ref (X.2.1 29)), (1, .int a1)] := hl
  have hx := B.1
  have hb := B.2.1
  unfold fOR_readOrder at h0
  refine lv_iconst (v := (0 : Int32)) hx hb dX2_readOrder_0 (by decide) ?_
  refine lv_istore_n (lv' := [(2, .int (0 : Int32)), (0, .ref (X.2.1 29)), (1, .int a1)]) hx hb dX2_readOrder_1 rfl hl (by decide) rfl (fun ls hl => ?_)
  obtain ⟨K4, eK4, h29⟩ := dlt_s h0
  clear h0
  have kK4 : ∀ (σ3 : sT) (H : Heap) (locs : List Loc) (ls : Array Slot), Wd (wC X) (tC X) (aC X) X s σ3 H locs → lv_has ls 3 [(0, .ref (X.2.1 29)), (1, .int a1)] → K4 σ3 = some σz → W p l e rm_fOR_readOrder s m args below meth c H locs 0 0 (MQ below (va_Qv (fun u => u = σz) (poW (wC X) (tC X) (aC X) X sz) (aA (aC X) sz)) args s 0 0 (aA (aC X) sz)) (F0 m 22 ls []) := by
    intro σ3 H locs ls Z hl h1
    rw [eK4] at h1
    refine lv_aload_n hx hb dX2_readOrder_22 rfl (lv_at hl 0 rfl) ?_
    refine g_29_0 B Z kf_RX2_15 dX2_readOrder_23 ?_
    obtain ⟨r6, σ7, hc4, h2⟩ := db2_s h1
    clear h1
    refine cV_I [] [] B mx_yX5_peek (c_fSc_peek l X _ σ3 r6 σ7 hc4) kl_RX2_42 mi_yX5_peek (rv_26 _ _) hcl_5 Z hl rfl rfl ⟨Nat.le_of_ble_eq_true rfl, Nat.le_of_ble_eq_true rfl⟩ rfl rfl (Nat.le_of_ble_eq_true rfl) dX2_readOrder_26 (fun H locs Z => ?_)
    clear hc4
    refine lv_bipush (v := (48 : Int32)) hx hb dX2_readOrder_29 (by decide) ?_
    obtain ⟨J9, eJ9, h24⟩ := dlt_s h2
    clear h2
    have kJ9 : ∀ (σ8 : sT) (H : Heap) (locs : List Loc) (ls : Array Slot), Wd (wC X) (tC X) (aC X) X s σ8 H locs → lv_has ls 3 [(0, .ref (X.2.1 29)), (1, .int a1)] → J9 σ8 = some σz → W p l e rm_fOR_readOrder s m args below meth c H locs 0 0 (MQ below (va_Qv (fun u => u = σz) (poW (wC X) (tC X) (aC X) X sz) (aA (aC X) sz)) args s 0 0 (aA (aC X) sz)) (F0 m 49 ls []) := by
      intro σ8 H locs ls Z hl h3
      rw [eJ9] at h3
      refine lv_aload_n hx hb dX2_readOrder_49 rfl (lv_at hl 0 rfl) ?_
      refine g_29_0 B Z kf_RX2_15 dX2_readOrder_50 ?_
      obtain ⟨r11, hc9, h4⟩ := db1_s h3
      clear h3
      refine cV_I [] [] B mx_yX5_hasFailed (c_fSc_hasFailed l X _ σ8 r11 hc9) kl_RX2_38 mi_yX5_hasFailed (rv_26 _ _) hcl_5 Z hl rfl rfl ⟨Nat.le_of_ble_eq_true rfl, Nat.le_of_ble_eq_true rfl⟩ rfl rfl (Nat.le_of_ble_eq_true rfl) dX2_readOrder_53 (fun H locs Z => ?_)
      clear hc9
      obtain ⟨J13, eJ13, h18⟩ := dlt_s h4
      clear h4
      have kJ13 : ∀ (σ12 : sT) (H : Heap) (locs : List Loc) (ls : Array Slot), Wd (wC X) (tC X) (aC X) X s σ12 H locs → lv_has ls 3 [(0, .ref (X.2.1 29)), (1, .int a1)] → J13 σ12 = some σz → W p l e rm_fOR_readOrder s m args below meth c H locs 0 0 (MQ below (va_Qv (fun u => u = σz) (poW (wC X) (tC X) (aC X) X sz) (aA (aC X) sz)) args s 0 0 (aA (aC X) sz)) (F0 m 71 ls []) := by
        intro σ12 H locs ls Z hl h5
        rw [eJ13] at h5
        refine lv_aload_n hx hb dX2_readOrder_71 rfl (lv_at hl 0 rfl) ?_
        refine g_29_0 B Z kf_RX2_15 dX2_readOrder_72 ?_
        obtain ⟨r15, hc13, h6⟩ := db1_s h5
        clear h5
        refine cV_I [] [] B mx_yX5_hasFailed (c_fSc_hasFailed l X _ σ12 r15 hc13) kl_RX2_38 mi_yX5_hasFailed (rv_26 _ _) hcl_5 Z hl rfl rfl ⟨Nat.le_of_ble_eq_true rfl, Nat.le_of_ble_eq_true rfl⟩ rfl rfl (Nat.le_of_ble_eq_true rfl) dX2_readOrder_75 (fun H locs Z => ?_)
        clear hc13
        obtain ⟨J17, eJ17, h12⟩ := dlt_s h6
        clear h6
        have kJ17 : ∀ (σ16 : sT) (H : Heap) (locs : List Loc) (ls : Array Slot), Wd (wC X) (tC X) (aC X) X s σ16 H locs → lv_has ls 3 [(0, .ref (X.2.1 29))] → J17 σ16 = some σz → W p l e rm_fOR_readOrder s m args below meth c H locs 0 0 (MQ below (va_Qv (fun u => u = σz) (poW (wC X) (tC X) (aC X) X sz) (aA (aC X) sz)) args s 0 0 (aA (aC X) sz)) (F0 m 93 ls []) := by
          intro σ16 H locs ls Z hl h7
          rw [eJ17] at h7
          refine lv_aload_n hx hb dX2_readOrder_93 rfl (lv_at hl 0 rfl) ?_
          refine g_29_0 B Z kf_RX2_15 dX2_readOrder_94 ?_
          obtain ⟨r19, hc17, h8⟩ := db1_s h7
          clear h7
          refine cV_I [] [] B mx_yX5_hasFailed (c_fSc_hasFailed l X _ σ16 r19 hc17) kl_RX2_38 mi_yX5_hasFailed (rv_26 _ _) hcl_5 Z hl rfl rfl ⟨Nat.le_of_ble_eq_true rfl, Nat.le_of_ble_eq_true rfl⟩ rfl rfl (Nat.le_of_ble_eq_true rfl) dX2_readOrder_97 (fun H locs Z => ?_)
          clear hc17
          refine lv_if_ne (tgt := 112) hx hb dX2_readOrder_100 (by decide) (fun c20 => ?_) (fun c20 => ?_)
          · have h9 := dif h8 c20
            clear h8
            exact reV B Z hz h9 dX2_readOrder_112
          · have h10 := dit h8 c20
            clear h8
            refine lv_aload_n hx hb dX2_readOrder_103 rfl (lv_at hl 0 rfl) ?_
            refine g_29_0 B Z kf_RX2_15 dX2_readOrder_104 ?_
            refine lv_bipush (v := (59 : Int32)) hx hb dX2_readOrder_107 (by decide) ?_
            obtain ⟨σ22, hc20, h11⟩ := db1_s h10
            clear h10
            refine cV_V [.int (59 : Int32)] [] B mx_yX5_expect (c_fSc_expect l X _ (59 : Int32) σ16 σ22 hc20) kl_RX2_58 mi_yX5_expect (rv_26 _ _) hcl_5 Z hl rfl rfl ⟨Nat.le_of_ble_eq_true rfl, Nat.le_of_ble_eq_true rfl⟩ rfl rfl (Nat.le_of_ble_eq_true rfl) dX2_readOrder_109 (fun H locs Z => ?_)
            clear hc20
            exact reV B Z hz h11 dX2_readOrder_112
        clear eJ17
        refine lv_if_ne (tgt := 93) hx hb dX2_readOrder_78 (by decide) (fun c23 => ?_) (fun c23 => ?_)
        · have h13 := dif h12 c23
          clear h12
          exact kJ17 σ12 _ _ _ Z (lv_sub hl [0] rfl) h13
        · have h14 := dit h12 c23
          clear h12
          refine lv_aload_n hx hb dX2_readOrder_81 rfl (lv_at hl 0 rfl) ?_
          refine g_29_1 B Z kf_RX2_9 dX2_readOrder_82 ?_
          refine lv_iload_n hx hb dX2_readOrder_85 rfl (lv_at hl 1 rfl) ?_
          refine lv_iconst (v := (4 : Int32)) hx hb dX2_readOrder_86 (by decide) ?_
          refine lv_iadd hx hb dX2_readOrder_87 ?_
          refine lv_aload_n hx hb dX2_readOrder_88 rfl (lv_at hl 0 rfl) ?_
          obtain ⟨r25, σ26, hc23, h15⟩ := db2_s h14
          clear h14
          refine cV_I [] [.int (a1 + (4 : Int32)), .ref (X.2.1 30)] B mx_yX2_readRight (c_fOR_readRight l X _ σ12 r25 σ26 hc23) kl_RX2_55 mi_yX2_readRight (rv_29 _ _) hcl_2 Z hl rfl rfl ⟨Nat.le_of_ble_eq_true rfl, Nat.le_of_ble_eq_true rfl⟩ rfl rfl (Nat.le_of_ble_eq_true rfl) dX2_readOrder_89 (fun H locs Z => ?_)
          clear hc23
          obtain ⟨z27, h16⟩ := dck_s h15
          clear h15
          refine st_30 B Z z27 dX2_readOrder_92 (fun H locs Z => ?_)
          obtain ⟨σ28, eσ28, h17⟩ := dlt_s h16
          clear h16
          replace Z := Wd.eq eσ28 Z
          clear eσ28
          exact kJ17 σ28 _ _ _ Z (lv_sub hl [0] rfl) h17
      clear eJ13
      refine lv_if_ne (tgt := 71) hx hb dX2_readOrder_56 (by decide) (fun c29 => ?_) (fun c29 => ?_)
      · have h19 := dif h18 c29
        clear h18
        exact kJ13 σ8 _ _ _ Z (lv_sub hl [0, 1] rfl) h19
      · have h20 := dit h18 c29
        clear h18
        refine lv_aload_n hx hb dX2_readOrder_59 rfl (lv_at hl 0 rfl) ?_
        refine g_29_1 B Z kf_RX2_9 dX2_readOrder_60 ?_
        refine lv_iload_n hx hb dX2_readOrder_63 rfl (lv_at hl 1 rfl) ?_
        refine lv_iconst (v := (3 : Int32)) hx hb dX2_readOrder_64 (by decide) ?_
        refine lv_iadd hx hb dX2_readOrder_65 ?_
        refine lv_aload_n hx hb dX2_readOrder_66 rfl (lv_at hl 0 rfl) ?_
        obtain ⟨r31, σ32, hc29, h21⟩ := db2_s h20
        clear h20
        refine cV_I [] [.int (a1 + (3 : Int32)), .ref (X.2.1 30)] B mx_yX2_readKind (c_fOR_readKind l X _ σ8 r31 σ32 hc29) kl_RX2_52 mi_yX2_readKind (rv_29 _ _) hcl_2 Z hl rfl rfl ⟨Nat.le_of_ble_eq_true rfl, Nat.le_of_ble_eq_true rfl⟩ rfl rfl (Nat.le_of_ble_eq_true rfl) dX2_readOrder_67 (fun H locs Z => ?_)
        clear hc29
        obtain ⟨z33, h22⟩ := dck_s h21
        clear h21
        refine st_30 B Z z33 dX2_readOrder_70 (fun H locs Z => ?_)
        obtain ⟨σ34, eσ34, h23⟩ := dlt_s h22
        clear h22
        replace Z := Wd.eq eσ34 Z
        clear eσ34
        exact kJ13 σ34 _ _ _ Z (lv_sub hl [0, 1] rfl) h23
    clear eJ9
    refine lv_icmp_ne (tgt := 44) hx hb dX2_readOrder_31 (by decide) (fun c35 => ?_) (fun c35 => ?_)
    · have h25 := dif h24 c35
      clear h24
      refine lv_aload_n hx hb dX2_readOrder_44 rfl (lv_at hl 0 rfl) ?_
      refine lv_iload_n hx hb dX2_readOrder_45 rfl (lv_at hl 1 rfl) ?_
      obtain ⟨σ37, hc35, h26⟩ := db1_s h25
      clear h25
      refine cV_V [.int a1] [] B mx_yX2_readTerms (c_fOR_readTerms l X _ a1 σ7 σ37 hc35) kl_RX2_49 mi_yX2_readTerms (rv_29 _ _) hcl_2 Z hl rfl rfl ⟨Nat.le_of_ble_eq_true rfl, Nat.le_of_ble_eq_true rfl⟩ rfl rfl (Nat.le_of_ble_eq_true rfl) dX2_readOrder_46 (fun H locs Z => ?_)
      clear hc35
      exact kJ9 σ37 _ _ _ Z (lv_sub hl [0, 1] rfl) h26
    · have h27 := dit h24 c35
      clear h24
      refine lv_aload_n hx hb dX2_readOrder_34 rfl (lv_at hl 0 rfl) ?_
      refine g_29_0 B Z kf_RX2_15 dX2_readOrder_35 ?_
      obtain ⟨σ39, hc37, h28⟩ := db1_s h27
      clear h27
      refine cV_V [] [] B mx_yX5_step (c_fSc_step l X _ σ7 σ39 hc37) kl_RX2_46 mi_yX5_step (rv_26 _ _) hcl_5 Z hl rfl rfl ⟨Nat.le_of_ble_eq_true rfl, Nat.le_of_ble_eq_true rfl⟩ rfl rfl (Nat.le_of_ble_eq_true rfl) dX2_readOrder_38 (fun H locs Z => ?_)
      clear hc37
      refine lv_goto (tgt := 49) hx hb dX2_readOrder_41 (by decide) ?_
      exact kJ9 σ39 _ _ _ Z (lv_sub hl [0, 1] rfl) h28
  clear eK4
  have lL2 : ∀ (n : Nat), ∀ (x1 : Int32) (σ2 : sT) (H : Heap) (locs : List Loc) (ls : Array Slot), Wd (wC X) (tC X) (aC X) X s σ2 H locs → lv_has ls 3 [(0, .ref (X.2.1 29)), (1, .int a1), (2, .int x1)] → fOR_readOrder_L2 a1 K4 n x1 σ2 = some σz → W p l e rm_fOR_readOrder s m args below meth c H locs 0 0 (MQ below (va_Qv (fun u => u = σz) (poW (wC X) (tC X) (aC X) X sz) (aA (aC X) sz)) args s 0 0 (aA (aC X) sz)) (F0 m 2 ls []) := by
    intro n
    induction n with
    | zero =>
      intro x1 σ2 H locs ls Z hl h
      exact nomatch (show (none : Option (sT)) = some _ from h)
    | succ n40 ih2 =>
      intro x1 σ2 H locs ls Z hl h30
      unfold fOR_readOrder_L2 at h30
      refine lv_iload_n hx hb dX2_readOrder_2 rfl (lv_at hl 2 rfl) ?_
      refine lv_iconst (v := (3 : Int32)) hx hb dX2_readOrder_3 (by decide) ?_
      refine lv_icmp_ge (tgt := 22) hx hb dX2_readOrder_4 (by decide) (fun c41 => ?_) (fun c41 => ?_)
      · have h31 := dit h30 c41
        clear h30
        exact kK4 σ2 _ _ _ Z (lv_sub hl [0, 1] rfl) h31
      · have h32 := dif h30 c41
        clear h30
        refine lv_aload_n hx hb dX2_readOrder_7 rfl (lv_at hl 0 rfl) ?_
        refine g_29_1 B Z kf_RX2_9 dX2_readOrder_8 ?_
        refine lv_iload_n hx hb dX2_readOrder_11 rfl (lv_at hl 1 rfl) ?_
        refine lv_iload_n hx hb dX2_readOrder_12 rfl (lv_at hl 2 rfl) ?_
        refine lv_iadd hx hb dX2_readOrder_13 ?_
        refine lv_iconst (v := (0 : Int32)) hx hb dX2_readOrder_14 (by decide) ?_
        obtain ⟨z42, h33⟩ := dck_s h32
        clear h32
        refine st_30 B Z z42 dX2_readOrder_15 (fun H locs Z => ?_)
        obtain ⟨σ43, eσ43, h34⟩ := dlt_s h33
        clear h33
        replace Z := Wd.eq eσ43 Z
        clear eσ43
        refine lv_iinc (v := x1 + (1 : Int32)) (lv' := [(2, .int (x1 + (1 : Int32))), (0, .ref (X.2.1 29)), (1, .int a1)]) hx hb dX2_readOrder_16 hl (k := 2) rfl (by rfl) (by decide) rfl (fun ls hl => ?_)
        refine lv_goto (tgt := 2) hx hb dX2_readOrder_19 (by decide) ?_
        exact ih2 (x1 + (1 : Int32)) σ43 _ _ _ Z (lv_sub hl [1, 2, 0] rfl) h34
  exact lL2 FU (0 : Int32) σ _ _ _ Z (lv_sub hl [1, 2, 0] rfl) h29
theorem dX2_read_0 : decode cX2_read 0 = .ok (.aload_n 0, 1) := by decide +kernel
theorem dX2_read_1 : decode cX2_read 1 = .ok (.getfield 15, 3) := by decide +kernel
theorem dX2_read_4 : decode cX2_read 4 = .ok (.invokevirtual 23, 3) := by decide +kernel
theorem dX2_read_7 : decode cX2_read 7 = .ok (.iconst 0, 1) := by decide +kernel
theorem dX2_read_8 : decode cX2_read 8 = .ok (.istore_n 1, 1) := by decide +kernel
theorem dX2_read_9 : decode cX2_read 9 = .ok (.aload_n 0, 1) := by decide +kernel
theorem dX2_read_10 : decode cX2_read 10 = .ok (.iload_n 1, 1) := by decide +kernel
theorem dX2_read_11 : decode cX2_read 11 = .ok (.bipush 12, 2) := by decide +kernel
theorem dX2_read_13 : decode cX2_read 13 = .ok (.invokestatic 28, 3) := by decide +kernel
theorem dX2_read_16 : decode cX2_read 16 = .ok (.bipush 6, 2) := by decide +kernel
theorem dX2_read_18 : decode cX2_read 18 = .ok (.imul, 1) := by decide +kernel
theorem dX2_read_19 : decode cX2_read 19 = .ok (.invokevirtual 34, 3) := by decide +kernel
theorem dX2_read_22 : decode cX2_read 22 = .ok (.iinc 1 1, 3) := by decide +kernel
theorem dX2_read_25 : decode cX2_read 25 = .ok (.iload_n 1, 1) := by decide +kernel
theorem dX2_read_26 : decode cX2_read 26 = .ok (.bipush 80, 2) := by decide +kernel
theorem dX2_read_28 : decode cX2_read 28 = .ok (.if_icmp .ge 24, 3) := by decide +kernel
theorem dX2_read_31 : decode cX2_read 31 = .ok (.aload_n 0, 1) := by decide +kernel
theorem dX2_read_32 : decode cX2_read 32 = .ok (.getfield 15, 3) := by decide +kernel
theorem dX2_read_35 : decode cX2_read 35 = .ok (.invokevirtual 38, 3) := by decide +kernel
theorem dX2_read_38 : decode cX2_read 38 = .ok (.ifCond .ne 14, 3) := by decide +kernel
theorem dX2_read_41 : decode cX2_read 41 = .ok (.aload_n 0, 1) := by decide +kernel
theorem dX2_read_42 : decode cX2_read 42 = .ok (.getfield 15, 3) := by decide +kernel
theorem dX2_read_45 : decode cX2_read 45 = .ok (.invokevirtual 42, 3) := by decide +kernel
theorem dX2_read_48 : decode cX2_read 48 = .ok (.iconst (-1), 1) := by decide +kernel
theorem dX2_read_49 : decode cX2_read 49 = .ok (.if_icmp .ne (-40), 3) := by decide +kernel
theorem dX2_read_52 : decode cX2_read 52 = .ok (.iload_n 1, 1) := by decide +kernel
theorem dX2_read_53 : decode cX2_read 53 = .ok (.ireturn, 1) := by decide +kernel
def rm_fOR_read : Room := { frames := 5, cells := 0, slots := 0, locals := 151 }
set_option maxHeartbeats 4000000 in
set_option maxRecDepth 100000 in
theorem c_fOR_read (l : Launch) (X : eX) (sz : Nat)  (σ : sT) (rz : Int32) (σz : sT) (h0 : fOR_read σ = some (rz, σz)) : ctI l yX2_read cX2_read 2 (some .int) rm_fOR_read [.ref (X.2.1 29)] (wC X) (tC X) (aC X) X sz σ rz σz := by
  refine ct_of (by decide +kernel) (Nat.le_of_ble_eq_true rfl) ?_
  intro p e s m args below meth c ls hz B hl Z
  have B : Bd p s m args meth c RX2 cX2_read 2 (some .int) := B
  have hl : lv_has ls 2 [(0, .ref (X.2.1 29))] := hl
  have hx := B.1
  have hb := B.2.1
  unfold fOR_read at h0
  refine lv_aload_n hx hb dX2_read_0 rfl (lv_at hl 0 rfl) ?_
  refine g_29_0 B Z kf_RX2_15 dX2_read_1 ?_
  obtain ⟨σ2, hc0, h1⟩ := db1_s h0
  clear h0
  refine cV_V [] [] B mx_yX5_start (c_fSc_start l X _ σ σ2 hc0) kl_RX2_23 mi_yX5_start (rv_26 _ _) hcl_5 Z hl rfl rfl ⟨Nat.le_of_ble_eq_true rfl, Nat.le_of_ble_eq_true rfl⟩ rfl rfl (Nat.le_of_ble_eq_true rfl) dX2_read_4 (fun H locs Z => ?_)
  clear hc0
  refine lv_iconst (v := (0 : Int32)) hx hb dX2_read_7 (by decide) ?_
  refine lv_istore_n (lv' := [(1, .int (0 : Int32)), (0, .ref (X.2.1 29))]) hx hb dX2_read_8 rfl hl (by decide) rfl (fun ls hl => ?_)
  have lL9 : ∀ (n : Nat), ∀ (x3 : Int32) (σ4 : sT) (H : Heap) (locs : List Loc) (ls : Array Slot), Wd (wC X) (tC X) (aC X) X s σ4 H locs → lv_has ls 2 [(0, .ref (X.2.1 29)), (1, .int x3)] → fOR_read_L9 n x3 σ4 = some (rz, σz) → W p l e rm_fOR_read s m args below meth c H locs 0 0 (MQ below (va_Qi (fun a u => a = rz ∧ u = σz) (poW (wC X) (tC X) (aC X) X sz) (aA (aC X) sz)) args s 0 0 (aA (aC X) sz)) (F0 m 9 ls []) := by
    intro n
    induction n with
    | zero =>
      intro x3 σ4 H locs ls Z hl h
      exact nomatch (show (none : Option (Int32 × sT)) = some _ from h)
    | succ n5 ih5 =>
      intro x3 σ4 H locs ls Z hl h2
      unfold fOR_read_L9 at h2
      refine lv_aload_n hx hb dX2_read_9 rfl (lv_at hl 0 rfl) ?_
      refine lv_iload_n hx hb dX2_read_10 rfl (lv_at hl 1 rfl) ?_
      refine lv_bipush (v := (12 : Int32)) hx hb dX2_read_11 (by decide) ?_
      refine va_mmin hx hb (B.2.2.1.trans hl.1.symm) B.2.2.2.1 (B.2.2.2.2.1 _ kl_RX2_28) (B.2.2.2.2.1 _ ks_Jmin) (B.2.2.2.2.1 _ kz_RJ9) (B.2.2.2.2.1 _ kd_Jmin) (Nat.le_of_ble_eq_true rfl) (Nat.le_of_ble_eq_true rfl) (Nat.zero_le _) (Nat.zero_le _) dX2_read_13 ?_
      refine lv_bipush (v := (6 : Int32)) hx hb dX2_read_16 (by decide) ?_
      refine lv_imul hx hb dX2_read_18 ?_
      obtain ⟨σ7, hc5, h3⟩ := db1_s h2
      clear h2
      refine cV_V [.int ((if (12 : Int32) < x3 then (12 : Int32) else x3) * (6 : Int32))] [] B mx_yX2_readOrder (c_fOR_readOrder l X _ ((if (12 : Int32) < x3 then (12 : Int32) else x3) * (6 : Int32)) σ4 σ7 hc5) kl_RX2_34 mi_yX2_readOrder (rv_29 _ _) hcl_2 Z hl rfl rfl ⟨Nat.le_of_ble_eq_true rfl, Nat.le_of_ble_eq_true rfl⟩ rfl rfl (Nat.le_of_ble_eq_true rfl) dX2_read_19 (fun H locs Z => ?_)
      clear hc5
      refine lv_iinc (v := x3 + (1 : Int32)) (lv' := [(1, .int (x3 + (1 : Int32))), (0, .ref (X.2.1 29))]) hx hb dX2_read_22 hl (k := 1) rfl (by rfl) (by decide) rfl (fun ls hl => ?_)
      refine lv_iload_n hx hb dX2_read_25 rfl (lv_at hl 0 rfl) ?_
      refine lv_bipush (v := (80 : Int32)) hx hb dX2_read_26 (by decide) ?_
      refine lv_icmp_ge (tgt := 52) hx hb dX2_read_28 (by decide) (fun c8 => ?_) (fun c8 => ?_)
      · have h4 := dit h3 c8
        clear h3
        refine lv_iload_n hx hb dX2_read_52 rfl (lv_at hl 0 rfl) ?_
        exact reI B Z rfl hz h4 dX2_read_53
      · have h5 := dif h3 c8
        clear h3
        refine lv_aload_n hx hb dX2_read_31 rfl (lv_at hl 1 rfl) ?_
        refine g_29_0 B Z kf_RX2_15 dX2_read_32 ?_
        obtain ⟨r10, hc8, h6⟩ := db1_s h5
        clear h5
        refine cV_I [] [] B mx_yX5_hasFailed (c_fSc_hasFailed l X _ σ7 r10 hc8) kl_RX2_38 mi_yX5_hasFailed (rv_26 _ _) hcl_5 Z hl rfl rfl ⟨Nat.le_of_ble_eq_true rfl, Nat.le_of_ble_eq_true rfl⟩ rfl rfl (Nat.le_of_ble_eq_true rfl) dX2_read_35 (fun H locs Z => ?_)
        clear hc8
        refine lv_if_ne (tgt := 52) hx hb dX2_read_38 (by decide) (fun c11 => ?_) (fun c11 => ?_)
        · have h7 := dif h6 c11
          clear h6
          refine lv_iload_n hx hb dX2_read_52 rfl (lv_at hl 0 rfl) ?_
          exact reI B Z rfl hz h7 dX2_read_53
        · have h8 := dit h6 c11
          clear h6
          refine lv_aload_n hx hb dX2_read_41 rfl (lv_at hl 1 rfl) ?_
          refine g_29_0 B Z kf_RX2_15 dX2_read_42 ?_
          obtain ⟨r13, σ14, hc11, h9⟩ := db2_s h8
          clear h8
          refine cV_I [] [] B mx_yX5_peek (c_fSc_peek l X _ σ7 r13 σ14 hc11) kl_RX2_42 mi_yX5_peek (rv_26 _ _) hcl_5 Z hl rfl rfl ⟨Nat.le_of_ble_eq_true rfl, Nat.le_of_ble_eq_true rfl⟩ rfl rfl (Nat.le_of_ble_eq_true rfl) dX2_read_45 (fun H locs Z => ?_)
          clear hc11
          refine lv_iconst (v := (-1 : Int32)) hx hb dX2_read_48 (by decide) ?_
          refine lv_icmp_ne (tgt := 9) hx hb dX2_read_49 (by decide) (fun c15 => ?_) (fun c15 => ?_)
          · have h10 := dif h9 c15
            clear h9
            exact ih5 (x3 + (1 : Int32)) σ14 _ _ _ Z (lv_sub hl [1, 0] rfl) h10
          · have h11 := dit h9 c15
            clear h9
            refine lv_iload_n hx hb dX2_read_52 rfl (lv_at hl 0 rfl) ?_
            exact reI B Z rfl hz h11 dX2_read_53
  exact lL9 FU (0 : Int32) σ2 _ _ _ Z (lv_sub hl [1, 0] rfl) h1
theorem dX2_get_0 : decode cX2_get 0 = .ok (.iload_n 1, 1) := by decide +kernel
theorem dX2_get_1 : decode cX2_get 1 = .ok (.iconst 0, 1) := by decide +kernel
theorem dX2_get_2 : decode cX2_get 2 = .ok (.bipush 12, 2) := by decide +kernel
theorem dX2_get_4 : decode cX2_get 4 = .ok (.invokestatic 19, 3) := by decide +kernel
theorem dX2_get_7 : decode cX2_get 7 = .ok (.ifCond .eq 26, 3) := by decide +kernel
theorem dX2_get_10 : decode cX2_get 10 = .ok (.iload_n 2, 1) := by decide +kernel
theorem dX2_get_11 : decode cX2_get 11 = .ok (.iconst 0, 1) := by decide +kernel
theorem dX2_get_12 : decode cX2_get 12 = .ok (.iconst 5, 1) := by decide +kernel
theorem dX2_get_13 : decode cX2_get 13 = .ok (.invokestatic 19, 3) := by decide +kernel
theorem dX2_get_16 : decode cX2_get 16 = .ok (.ifCond .eq 17, 3) := by decide +kernel
theorem dX2_get_19 : decode cX2_get 19 = .ok (.aload_n 0, 1) := by decide +kernel
theorem dX2_get_20 : decode cX2_get 20 = .ok (.getfield 9, 3) := by decide +kernel
theorem dX2_get_23 : decode cX2_get 23 = .ok (.iload_n 1, 1) := by decide +kernel
theorem dX2_get_24 : decode cX2_get 24 = .ok (.bipush 6, 2) := by decide +kernel
theorem dX2_get_26 : decode cX2_get 26 = .ok (.imul, 1) := by decide +kernel
theorem dX2_get_27 : decode cX2_get 27 = .ok (.iload_n 2, 1) := by decide +kernel
theorem dX2_get_28 : decode cX2_get 28 = .ok (.iadd, 1) := by decide +kernel
theorem dX2_get_29 : decode cX2_get 29 = .ok (.iaload, 1) := by decide +kernel
theorem dX2_get_30 : decode cX2_get 30 = .ok (.goto 4, 3) := by decide +kernel
theorem dX2_get_33 : decode cX2_get 33 = .ok (.iconst 0, 1) := by decide +kernel
theorem dX2_get_34 : decode cX2_get 34 = .ok (.ireturn, 1) := by decide +kernel
def rm_fOR_get : Room := { frames := 2, cells := 0, slots := 0, locals := 82 }
set_option maxHeartbeats 4000000 in
set_option maxRecDepth 100000 in
theorem c_fOR_get (l : Launch) (X : eX) (sz : Nat) (a1 : Int32) (a2 : Int32) (σ : sT) (rz : Int32) (h0 : fOR_get a1 a2 σ = some rz) : ctI l yX2_get cX2_get 3 (some .int) rm_fOR_get [.ref (X.2.1 29), .int a1, .int a2] (wC X) (tC X) (aC X) X sz σ rz σ := by
  refine ct_of (by decide +kernel) (Nat.le_of_ble_eq_true rfl) ?_
  intro p e s m args below meth c ls hz B hl Z
  have B : Bd p s m args meth c RX2 cX2_get 3 (some .int) := B
  have hl : lv_has ls 3 [(0, .ref (X.2.1 29)), (1, .int a1), (2, .int a2)] := hl
  have hx := B.1
  have hb := B.2.1
  unfold fOR_get at h0
  refine lv_iload_n hx hb dX2_get_0 rfl (lv_at hl 1 rfl) ?_
  refine lv_iconst (v := (0 : Int32)) hx hb dX2_get_1 (by decide) ?_
  refine lv_bipush (v := (12 : Int32)) hx hb dX2_get_2 (by decide) ?_
  obtain ⟨r2, hc0, h1⟩ := db1_s h0
  clear h0
  refine cSN_I [.int a1, .int (0 : Int32), .int (12 : Int32)] [] B mx_yX11_isWithin (c_fRM_isWithin l X _ a1 (0 : Int32) (12 : Int32) σ r2 hc0) kx_RX2_19 ks_yX11_isWithin Z hl rfl rfl ⟨Nat.le_of_ble_eq_true rfl, Nat.le_of_ble_eq_true rfl⟩ rfl rfl (Nat.le_of_ble_eq_true rfl) dX2_get_4 (fun H locs Z => ?_)
  clear hc0
  refine lv_if_eq (tgt := 33) hx hb dX2_get_7 (by decide) (fun c3 => ?_) (fun c3 => ?_)
  · have h2 := dit h1 c3
    clear h1
    refine lv_iconst (v := (0 : Int32)) hx hb dX2_get_33 (by decide) ?_
    exact reI B Z rfl hz (congrArg (Option.map (fun q => (q, σ))) h2) dX2_get_34
  · have h3 := dif h1 c3
    clear h1
    refine lv_iload_n hx hb dX2_get_10 rfl (lv_at hl 2 rfl) ?_
    refine lv_iconst (v := (0 : Int32)) hx hb dX2_get_11 (by decide) ?_
    refine lv_iconst (v := (5 : Int32)) hx hb dX2_get_12 (by decide) ?_
    obtain ⟨r5, hc3, h4⟩ := db1_s h3
    clear h3
    refine cSN_I [.int a2, .int (0 : Int32), .int (5 : Int32)] [] B mx_yX11_isWithin (c_fRM_isWithin l X _ a2 (0 : Int32) (5 : Int32) σ r5 hc3) kx_RX2_19 ks_yX11_isWithin Z hl rfl rfl ⟨Nat.le_of_ble_eq_true rfl, Nat.le_of_ble_eq_true rfl⟩ rfl rfl (Nat.le_of_ble_eq_true rfl) dX2_get_13 (fun H locs Z => ?_)
    clear hc3
    refine lv_if_eq (tgt := 33) hx hb dX2_get_16 (by decide) (fun c6 => ?_) (fun c6 => ?_)
    · have h5 := dit h4 c6
      clear h4
      refine lv_iconst (v := (0 : Int32)) hx hb dX2_get_33 (by decide) ?_
      exact reI B Z rfl hz (congrArg (Option.map (fun q => (q, σ))) h5) dX2_get_34
    · have h6 := dif h4 c6
      clear h4
      refine lv_aload_n hx hb dX2_get_19 rfl (lv_at hl 0 rfl) ?_
      refine g_29_1 B Z kf_RX2_9 dX2_get_20 ?_
      refine lv_iload_n hx hb dX2_get_23 rfl (lv_at hl 1 rfl) ?_
      refine lv_bipush (v := (6 : Int32)) hx hb dX2_get_24 (by decide) ?_
      refine lv_imul hx hb dX2_get_26 ?_
      refine lv_iload_n hx hb dX2_get_27 rfl (lv_at hl 2 rfl) ?_
      refine lv_iadd hx hb dX2_get_28 ?_
      obtain ⟨z7, h7⟩ := dck_s h6
      clear h6
      refine ld_30 B Z z7 dX2_get_29 ?_
      refine lv_goto (tgt := 34) hx hb dX2_get_30 (by decide) ?_
      exact reI B Z rfl hz (congrArg (Option.map (fun q => (q, σ))) h7) dX2_get_34
theorem dX11_reads_0 : decode cX11_reads 0 = .ok (.aload_n 0, 1) := by decide +kernel
theorem dX11_reads_1 : decode cX11_reads 1 = .ok (.getfield 62, 3) := by decide +kernel
theorem dX11_reads_4 : decode cX11_reads 4 = .ok (.invokevirtual 218, 3) := by decide +kernel
theorem dX11_reads_7 : decode cX11_reads 7 = .ok (.istore_n 1, 1) := by decide +kernel
theorem dX11_reads_8 : decode cX11_reads 8 = .ok (.aload_n 0, 1) := by decide +kernel
theorem dX11_reads_9 : decode cX11_reads 9 = .ok (.getfield 44, 3) := by decide +kernel
theorem dX11_reads_12 : decode cX11_reads 12 = .ok (.invokevirtual 203, 3) := by decide +kernel
theorem dX11_reads_15 : decode cX11_reads 15 = .ok (.ifCond .eq 14, 3) := by decide +kernel
theorem dX11_reads_18 : decode cX11_reads 18 = .ok (.bipush (-10), 2) := by decide +kernel
theorem dX11_reads_20 : decode cX11_reads 20 = .ok (.aload_n 0, 1) := by decide +kernel
theorem dX11_reads_21 : decode cX11_reads 21 = .ok (.getfield 44, 3) := by decide +kernel
theorem dX11_reads_24 : decode cX11_reads 24 = .ok (.getfield 207, 3) := by decide +kernel
theorem dX11_reads_27 : decode cX11_reads 27 = .ok (.isub, 1) := by decide +kernel
theorem dX11_reads_28 : decode cX11_reads 28 = .ok (.ireturn, 1) := by decide +kernel
theorem dX11_reads_29 : decode cX11_reads 29 = .ok (.iload_n 1, 1) := by decide +kernel
theorem dX11_reads_30 : decode cX11_reads 30 = .ok (.bipush 12, 2) := by decide +kernel
theorem dX11_reads_32 : decode cX11_reads 32 = .ok (.aload_n 0, 1) := by decide +kernel
theorem dX11_reads_33 : decode cX11_reads 33 = .ok (.getfield 10, 3) := by decide +kernel
theorem dX11_reads_36 : decode cX11_reads 36 = .ok (.getfield 85, 3) := by decide +kernel
theorem dX11_reads_39 : decode cX11_reads 39 = .ok (.isub, 1) := by decide +kernel
theorem dX11_reads_40 : decode cX11_reads 40 = .ok (.if_icmp .le 8, 3) := by decide +kernel
theorem dX11_reads_43 : decode cX11_reads 43 = .ok (.aload_n 0, 1) := by decide +kernel
theorem dX11_reads_44 : decode cX11_reads 44 = .ok (.invokevirtual 89, 3) := by decide +kernel
theorem dX11_reads_47 : decode cX11_reads 47 = .ok (.ireturn, 1) := by decide +kernel
theorem dX11_reads_48 : decode cX11_reads 48 = .ok (.aload_n 0, 1) := by decide +kernel
theorem dX11_reads_49 : decode cX11_reads 49 = .ok (.getfield 10, 3) := by decide +kernel
theorem dX11_reads_52 : decode cX11_reads 52 = .ok (.invokevirtual 92, 3) := by decide +kernel
theorem dX11_reads_55 : decode cX11_reads 55 = .ok (.iconst 0, 1) := by decide +kernel
theorem dX11_reads_56 : decode cX11_reads 56 = .ok (.istore_n 2, 1) := by decide +kernel
theorem dX11_reads_57 : decode cX11_reads 57 = .ok (.iload_n 2, 1) := by decide +kernel
theorem dX11_reads_58 : decode cX11_reads 58 = .ok (.iload_n 1, 1) := by decide +kernel
theorem dX11_reads_59 : decode cX11_reads 59 = .ok (.if_icmp .ge 62, 3) := by decide +kernel
theorem dX11_reads_62 : decode cX11_reads 62 = .ok (.aload_n 0, 1) := by decide +kernel
theorem dX11_reads_63 : decode cX11_reads 63 = .ok (.getfield 10, 3) := by decide +kernel
theorem dX11_reads_66 : decode cX11_reads 66 = .ok (.aload_n 0, 1) := by decide +kernel
theorem dX11_reads_67 : decode cX11_reads 67 = .ok (.getfield 62, 3) := by decide +kernel
theorem dX11_reads_70 : decode cX11_reads 70 = .ok (.iload_n 2, 1) := by decide +kernel
theorem dX11_reads_71 : decode cX11_reads 71 = .ok (.iconst 0, 1) := by decide +kernel
theorem dX11_reads_72 : decode cX11_reads 72 = .ok (.invokevirtual 219, 3) := by decide +kernel
theorem dX11_reads_75 : decode cX11_reads 75 = .ok (.aload_n 0, 1) := by decide +kernel
theorem dX11_reads_76 : decode cX11_reads 76 = .ok (.getfield 62, 3) := by decide +kernel
theorem dX11_reads_79 : decode cX11_reads 79 = .ok (.iload_n 2, 1) := by decide +kernel
theorem dX11_reads_80 : decode cX11_reads 80 = .ok (.iconst 1, 1) := by decide +kernel
theorem dX11_reads_81 : decode cX11_reads 81 = .ok (.invokevirtual 219, 3) := by decide +kernel
theorem dX11_reads_84 : decode cX11_reads 84 = .ok (.aload_n 0, 1) := by decide +kernel
theorem dX11_reads_85 : decode cX11_reads 85 = .ok (.getfield 62, 3) := by decide +kernel
theorem dX11_reads_88 : decode cX11_reads 88 = .ok (.iload_n 2, 1) := by decide +kernel
theorem dX11_reads_89 : decode cX11_reads 89 = .ok (.iconst 2, 1) := by decide +kernel
theorem dX11_reads_90 : decode cX11_reads 90 = .ok (.invokevirtual 219, 3) := by decide +kernel
theorem dX11_reads_93 : decode cX11_reads 93 = .ok (.aload_n 0, 1) := by decide +kernel
theorem dX11_reads_94 : decode cX11_reads 94 = .ok (.getfield 62, 3) := by decide +kernel
theorem dX11_reads_97 : decode cX11_reads 97 = .ok (.iload_n 2, 1) := by decide +kernel
theorem dX11_reads_98 : decode cX11_reads 98 = .ok (.iconst 3, 1) := by decide +kernel
theorem dX11_reads_99 : decode cX11_reads 99 = .ok (.invokevirtual 219, 3) := by decide +kernel
theorem dX11_reads_102 : decode cX11_reads 102 = .ok (.aload_n 0, 1) := by decide +kernel
theorem dX11_reads_103 : decode cX11_reads 103 = .ok (.getfield 62, 3) := by decide +kernel
theorem dX11_reads_106 : decode cX11_reads 106 = .ok (.iload_n 2, 1) := by decide +kernel
theorem dX11_reads_107 : decode cX11_reads 107 = .ok (.iconst 4, 1) := by decide +kernel
theorem dX11_reads_108 : decode cX11_reads 108 = .ok (.invokevirtual 219, 3) := by decide +kernel
theorem dX11_reads_111 : decode cX11_reads 111 = .ok (.iconst 0, 1) := by decide +kernel
theorem dX11_reads_112 : decode cX11_reads 112 = .ok (.invokevirtual 95, 3) := by decide +kernel
theorem dX11_reads_115 : decode cX11_reads 115 = .ok (.iinc 2 1, 3) := by decide +kernel
theorem dX11_reads_118 : decode cX11_reads 118 = .ok (.goto (-61), 3) := by decide +kernel
theorem dX11_reads_121 : decode cX11_reads 121 = .ok (.iload_n 1, 1) := by decide +kernel
theorem dX11_reads_122 : decode cX11_reads 122 = .ok (.ireturn, 1) := by decide +kernel
def rm_fRM_reads : Room := { frames := 6, cells := 0, slots := 0, locals := 172 }
set_option maxHeartbeats 4000000 in
set_option maxRecDepth 100000 in
theorem c_fRM_reads (l : Launch) (X : eX) (sz : Nat)  (σ : sT) (rz : Int32) (σz : sT) (h0 : fRM_reads σ = some (rz, σz)) : ctI l yX11_reads cX11_reads 3 (some .int) rm_fRM_reads [.ref (X.2.1 0)] (wC X) (tC X) (aC X) X sz σ rz σz := by
  refine ct_of (by decide +kernel) (Nat.le_of_ble_eq_true rfl) ?_
  intro p e s m args below meth c ls hz B hl Z
  have B : Bd p s m args meth c RX11 cX11_reads 3 (some .int) := B
  have hl : lv_has ls 3 [(0, .ref (X.2.1 0))] := hl
  have hx := B.1
  have hb := B.2.1
  unfold fRM_reads at h0
  refine lv_aload_n hx hb dX11_reads_0 rfl (lv_at hl 0 rfl) ?_
  refine g_0_6 B Z kf_RX11_62 dX11_reads_1 ?_
  obtain ⟨r2, σ3, hc0, h1⟩ := db2_s h0
  clear h0
  refine cV_I [] [] B mx_yX2_read (c_fOR_read l X _ σ r2 σ3 hc0) kl_RX11_218 mi_yX2_read (rv_29 _ _) hcl_2 Z hl rfl rfl ⟨Nat.le_of_ble_eq_true rfl, Nat.le_of_ble_eq_true rfl⟩ rfl rfl (Nat.le_of_ble_eq_true rfl) dX11_reads_4 (fun H locs Z => ?_)
  clear hc0
  refine lv_istore_n (lv' := [(1, .int r2), (0, .ref (X.2.1 0))]) hx hb dX11_reads_7 rfl hl (by decide) rfl (fun ls hl => ?_)
  refine lv_aload_n hx hb dX11_reads_8 rfl (lv_at hl 1 rfl) ?_
  refine g_0_4 B Z kf_RX11_44 dX11_reads_9 ?_
  obtain ⟨r5, hc3, h2⟩ := db1_s h1
  clear h1
  refine cV_I [] [] B mx_yX5_hasFailed (c_fSc_hasFailed l X _ σ3 r5 hc3) kl_RX11_203 mi_yX5_hasFailed (rv_26 _ _) hcl_5 Z hl rfl rfl ⟨Nat.le_of_ble_eq_true rfl, Nat.le_of_ble_eq_true rfl⟩ rfl rfl (Nat.le_of_ble_eq_true rfl) dX11_reads_12 (fun H locs Z => ?_)
  clear hc3
  refine lv_if_eq (tgt := 29) hx hb dX11_reads_15 (by decide) (fun c6 => ?_) (fun c6 => ?_)
  · have h3 := dit h2 c6
    clear h2
    refine lv_iload_n hx hb dX11_reads_29 rfl (lv_at hl 0 rfl) ?_
    refine lv_bipush (v := (12 : Int32)) hx hb dX11_reads_30 (by decide) ?_
    refine lv_aload_n hx hb dX11_reads_32 rfl (lv_at hl 1 rfl) ?_
    refine g_0_0 B Z kf_RX11_10 dX11_reads_33 ?_
    refine gn_1_3 B Z kx_RX11_85 dX11_reads_36 ?_
    refine lv_isub hx hb dX11_reads_39 ?_
    refine lv_icmp_le (tgt := 48) hx hb dX11_reads_40 (by decide) (fun c7 => ?_) (fun c7 => ?_)
    · have h4 := dit h3 c7
      clear h3
      refine lv_aload_n hx hb dX11_reads_48 rfl (lv_at hl 1 rfl) ?_
      refine g_0_0 B Z kf_RX11_10 dX11_reads_49 ?_
      obtain ⟨σ9, hc7, h5⟩ := db1_s h4
      clear h4
      refine cV_V [] [] B mx_yX0_remember (c_fBk_remember l X _ σ3 σ9 hc7) kl_RX11_92 mi_yX0_remember (rv_1 _ _) hcl_0 Z hl rfl rfl ⟨Nat.le_of_ble_eq_true rfl, Nat.le_of_ble_eq_true rfl⟩ rfl rfl (Nat.le_of_ble_eq_true rfl) dX11_reads_52 (fun H locs Z => ?_)
      clear hc7
      refine lv_iconst (v := (0 : Int32)) hx hb dX11_reads_55 (by decide) ?_
      refine lv_istore_n (lv' := [(2, .int (0 : Int32)), (1, .int r2), (0, .ref (X.2.1 0))]) hx hb dX11_reads_56 rfl hl (by decide) rfl (fun ls hl => ?_)
      have lL57 : ∀ (n : Nat), ∀ (x10 : Int32) (σ11 : sT) (H : Heap) (locs : List Loc) (ls : Array Slot), Wd (wC X) (tC X) (aC X) X s σ11 H locs → lv_has ls 3 [(0, .ref (X.2.1 0)), (1, .int r2), (2, .int x10)] → fRM_reads_L57 r2 n x10 σ11 = some (rz, σz) → W p l e rm_fRM_reads s m args below meth c H locs 0 0 (MQ below (va_Qi (fun a u => a = rz ∧ u = σz) (poW (wC X) (tC X) (aC X) X sz) (aA (aC X) sz)) args s 0 0 (aA (aC X) sz)) (F0 m 57 ls []) := by
        intro n
        induction n with
        | zero =>
          intro x10 σ11 H locs ls Z hl h
          exact nomatch (show (none : Option (Int32 × sT)) = some _ from h)
        | succ n12 ih29 =>
          intro x10 σ11 H locs ls Z hl h6
          unfold fRM_reads_L57 at h6
          refine lv_iload_n hx hb dX11_reads_57 rfl (lv_at hl 2 rfl) ?_
          refine lv_iload_n hx hb dX11_reads_58 rfl (lv_at hl 1 rfl) ?_
          refine lv_icmp_ge (tgt := 121) hx hb dX11_reads_59 (by decide) (fun c13 => ?_) (fun c13 => ?_)
          · have h7 := dit h6 c13
            clear h6
            refine lv_iload_n hx hb dX11_reads_121 rfl (lv_at hl 1 rfl) ?_
            exact reI B Z rfl hz h7 dX11_reads_122
          · have h8 := dif h6 c13
            clear h6
            refine lv_aload_n hx hb dX11_reads_62 rfl (lv_at hl 0 rfl) ?_
            refine g_0_0 B Z kf_RX11_10 dX11_reads_63 ?_
            refine lv_aload_n hx hb dX11_reads_66 rfl (lv_at hl 0 rfl) ?_
            refine g_0_6 B Z kf_RX11_62 dX11_reads_67 ?_
            refine lv_iload_n hx hb dX11_reads_70 rfl (lv_at hl 2 rfl) ?_
            refine lv_iconst (v := (0 : Int32)) hx hb dX11_reads_71 (by decide) ?_
            obtain ⟨r15, hc13, h9⟩ := db1_s h8
            clear h8
            refine cV_I [.int x10, .int (0 : Int32)] [.ref (X.2.1 1)] B mx_yX2_get (c_fOR_get l X _ x10 (0 : Int32) σ11 r15 hc13) kl_RX11_219 mi_yX2_get (rv_29 _ _) hcl_2 Z hl rfl rfl ⟨Nat.le_of_ble_eq_true rfl, Nat.le_of_ble_eq_true rfl⟩ rfl rfl (Nat.le_of_ble_eq_true rfl) dX11_reads_72 (fun H locs Z => ?_)
            clear hc13
            refine lv_aload_n hx hb dX11_reads_75 rfl (lv_at hl 0 rfl) ?_
            refine g_0_6 B Z kf_RX11_62 dX11_reads_76 ?_
            refine lv_iload_n hx hb dX11_reads_79 rfl (lv_at hl 2 rfl) ?_
            refine lv_iconst (v := (1 : Int32)) hx hb dX11_reads_80 (by decide) ?_
            obtain ⟨r17, hc15, h10⟩ := db1_s h9
            clear h9
            refine cV_I [.int x10, .int (1 : Int32)] [.int r15, .ref (X.2.1 1)] B mx_yX2_get (c_fOR_get l X _ x10 (1 : Int32) σ11 r17 hc15) kl_RX11_219 mi_yX2_get (rv_29 _ _) hcl_2 Z hl rfl rfl ⟨Nat.le_of_ble_eq_true rfl, Nat.le_of_ble_eq_true rfl⟩ rfl rfl (Nat.le_of_ble_eq_true rfl) dX11_reads_81 (fun H locs Z => ?_)
            clear hc15
            refine lv_aload_n hx hb dX11_reads_84 rfl (lv_at hl 0 rfl) ?_
            refine g_0_6 B Z kf_RX11_62 dX11_reads_85 ?_
            refine lv_iload_n hx hb dX11_reads_88 rfl (lv_at hl 2 rfl) ?_
            refine lv_iconst (v := (2 : Int32)) hx hb dX11_reads_89 (by decide) ?_
            obtain ⟨r19, hc17, h11⟩ := db1_s h10
            clear h10
            refine cV_I [.int x10, .int (2 : Int32)] [.int r17, .int r15, .ref (X.2.1 1)] B mx_yX2_get (c_fOR_get l X _ x10 (2 : Int32) σ11 r19 hc17) kl_RX11_219 mi_yX2_get (rv_29 _ _) hcl_2 Z hl rfl rfl ⟨Nat.le_of_ble_eq_true rfl, Nat.le_of_ble_eq_true rfl⟩ rfl rfl (Nat.le_of_ble_eq_true rfl) dX11_reads_90 (fun H locs Z => ?_)
            clear hc17
            refine lv_aload_n hx hb dX11_reads_93 rfl (lv_at hl 0 rfl) ?_
            refine g_0_6 B Z kf_RX11_62 dX11_reads_94 ?_
            refine lv_iload_n hx hb dX11_reads_97 rfl (lv_at hl 2 rfl) ?_
            refine lv_iconst (v := (3 : Int32)) hx hb dX11_reads_98 (by decide) ?_
            obtain ⟨r21, hc19, h12⟩ := db1_s h11
            clear h11
            refine cV_I [.int x10, .int (3 : Int32)] [.int r19, .int r17, .int r15, .ref (X.2.1 1)] B mx_yX2_get (c_fOR_get l X _ x10 (3 : Int32) σ11 r21 hc19) kl_RX11_219 mi_yX2_get (rv_29 _ _) hcl_2 Z hl rfl rfl ⟨Nat.le_of_ble_eq_true rfl, Nat.le_of_ble_eq_true rfl⟩ rfl rfl (Nat.le_of_ble_eq_true rfl) dX11_reads_99 (fun H locs Z => ?_)
            clear hc19
            refine lv_aload_n hx hb dX11_reads_102 rfl (lv_at hl 0 rfl) ?_
            refine g_0_6 B Z kf_RX11_62 dX11_reads_103 ?_
            refine lv_iload_n hx hb dX11_reads_106 rfl (lv_at hl 2 rfl) ?_
            refine lv_iconst (v := (4 : Int32)) hx hb dX11_reads_107 (by decide) ?_
            obtain ⟨r23, hc21, h13⟩ := db1_s h12
            clear h12
            refine cV_I [.int x10, .int (4 : Int32)] [.int r21, .int r19, .int r17, .int r15, .ref (X.2.1 1)] B mx_yX2_get (c_fOR_get l X _ x10 (4 : Int32) σ11 r23 hc21) kl_RX11_219 mi_yX2_get (rv_29 _ _) hcl_2 Z hl rfl rfl ⟨Nat.le_of_ble_eq_true rfl, Nat.le_of_ble_eq_true rfl⟩ rfl rfl (Nat.le_of_ble_eq_true rfl) dX11_reads_108 (fun H locs Z => ?_)
            clear hc21
            refine lv_iconst (v := (0 : Int32)) hx hb dX11_reads_111 (by decide) ?_
            obtain ⟨σ25, hc23, h14⟩ := db1_s h13
            clear h13
            refine cV_V [.int r15, .int r17, .int r19, .int r21, .int r23, .int (0 : Int32)] [] B mx_yX0_append (c_fBk_append l X _ r15 r17 r19 r21 r23 (0 : Int32) σ11 σ25 hc23) kl_RX11_95 mi_yX0_append (rv_1 _ _) hcl_0 Z hl rfl rfl ⟨Nat.le_of_ble_eq_true rfl, Nat.le_of_ble_eq_true rfl⟩ rfl rfl (Nat.le_of_ble_eq_true rfl) dX11_reads_112 (fun H locs Z => ?_)
            clear hc23
            refine lv_iinc (v := x10 + (1 : Int32)) (lv' := [(2, .int (x10 + (1 : Int32))), (0, .ref (X.2.1 0)), (1, .int r2)]) hx hb dX11_reads_115 hl (k := 2) rfl (by rfl) (by decide) rfl (fun ls hl => ?_)
            refine lv_goto (tgt := 57) hx hb dX11_reads_118 (by decide) ?_
            exact ih29 (x10 + (1 : Int32)) σ25 _ _ _ Z (lv_sub hl [1, 2, 0] rfl) h14
      exact lL57 FU (0 : Int32) σ9 _ _ _ Z (lv_sub hl [2, 1, 0] rfl) h5
    · have h15 := dif h3 c7
      clear h3
      refine lv_aload_n hx hb dX11_reads_43 rfl (lv_at hl 1 rfl) ?_
      obtain ⟨r27, σ28, hc25, h16⟩ := db2_s h15
      clear h15
      refine cV_I [] [] B mx_yX11_full (c_fRM_full l X _ σ3 r27 σ28 hc25) kl_RX11_89 mi_yX11_full (rv_0 _ _) hcl_11 Z hl rfl rfl ⟨Nat.le_of_ble_eq_true rfl, Nat.le_of_ble_eq_true rfl⟩ rfl rfl (Nat.le_of_ble_eq_true rfl) dX11_reads_44 (fun H locs Z => ?_)
      clear hc25
      exact reI B Z rfl hz h16 dX11_reads_47
  · have h17 := dif h2 c6
    clear h2
    refine lv_bipush (v := (-10 : Int32)) hx hb dX11_reads_18 (by decide) ?_
    refine lv_aload_n hx hb dX11_reads_20 rfl (lv_at hl 1 rfl) ?_
    refine g_0_4 B Z kf_RX11_44 dX11_reads_21 ?_
    refine gn_26_3 B Z kx_RX11_207 dX11_reads_24 ?_
    refine lv_isub hx hb dX11_reads_27 ?_
    exact reI B Z rfl hz h17 dX11_reads_28
theorem dX10_put_0 : decode cX10_put 0 = .ok (.aload_n 0, 1) := by decide +kernel
theorem dX10_put_1 : decode cX10_put 1 = .ok (.getfield 19, 3) := by decide +kernel
theorem dX10_put_4 : decode cX10_put 4 = .ok (.bipush 14, 2) := by decide +kernel
theorem dX10_put_6 : decode cX10_put 6 = .ok (.if_icmp .ge 24, 3) := by decide +kernel
theorem dX10_put_9 : decode cX10_put 9 = .ok (.aload_n 0, 1) := by decide +kernel
theorem dX10_put_10 : decode cX10_put 10 = .ok (.getfield 11, 3) := by decide +kernel
theorem dX10_put_13 : decode cX10_put 13 = .ok (.aload_n 0, 1) := by decide +kernel
theorem dX10_put_14 : decode cX10_put 14 = .ok (.getfield 19, 3) := by decide +kernel
theorem dX10_put_17 : decode cX10_put 17 = .ok (.iload_n 1, 1) := by decide +kernel
theorem dX10_put_18 : decode cX10_put 18 = .ok (.i2b, 1) := by decide +kernel
theorem dX10_put_19 : decode cX10_put 19 = .ok (.bastore, 1) := by decide +kernel
theorem dX10_put_20 : decode cX10_put 20 = .ok (.aload_n 0, 1) := by decide +kernel
theorem dX10_put_21 : decode cX10_put 21 = .ok (.dup, 1) := by decide +kernel
theorem dX10_put_22 : decode cX10_put 22 = .ok (.getfield 19, 3) := by decide +kernel
theorem dX10_put_25 : decode cX10_put 25 = .ok (.iconst 1, 1) := by decide +kernel
theorem dX10_put_26 : decode cX10_put 26 = .ok (.iadd, 1) := by decide +kernel
theorem dX10_put_27 : decode cX10_put 27 = .ok (.putfield 19, 3) := by decide +kernel
theorem dX10_put_30 : decode cX10_put 30 = .ok (.return_, 1) := by decide +kernel
def rm_fWr_put : Room := { frames := 1, cells := 0, slots := 0, locals := 60 }
set_option maxHeartbeats 4000000 in
set_option maxRecDepth 100000 in
theorem c_fWr_put (l : Launch) (X : eX) (sz : Nat) (a1 : Int32) (σ : sT) (σz : sT) (h0 : fWr_put a1 σ = some σz) : ctV l yX10_put cX10_put 2 none rm_fWr_put [.ref (X.2.1 31), .int a1] (wC X) (tC X) (aC X) X sz σ σz := by
  refine ct_of (by decide +kernel) (Nat.le_of_ble_eq_true rfl) ?_
  intro p e s m args below meth c ls hz B hl Z
  have B : Bd p s m args meth c RX10 cX10_put 2 none := B
  have hl : lv_has ls 2 [(0, .ref (X.2.1 31)), (1, .int a1)] := hl
  have hx := B.1
  have hb := B.2.1
  unfold fWr_put at h0
  refine lv_aload_n hx hb dX10_put_0 rfl (lv_at hl 0 rfl) ?_
  refine g_31_2 B Z kf_RX10_19 dX10_put_1 ?_
  refine lv_bipush (v := (14 : Int32)) hx hb dX10_put_4 (by decide) ?_
  refine lv_icmp_ge (tgt := 30) hx hb dX10_put_6 (by decide) (fun c1 => ?_) (fun c1 => ?_)
  · have h1 := dit h0 c1
    clear h0
    exact reV B Z hz h1 dX10_put_30
  · have h2 := dif h0 c1
    clear h0
    refine lv_aload_n hx hb dX10_put_9 rfl (lv_at hl 0 rfl) ?_
    refine g_31_1 B Z kf_RX10_11 dX10_put_10 ?_
    refine lv_aload_n hx hb dX10_put_13 rfl (lv_at hl 0 rfl) ?_
    refine g_31_2 B Z kf_RX10_19 dX10_put_14 ?_
    refine lv_iload_n hx hb dX10_put_17 rfl (lv_at hl 1 rfl) ?_
    refine lv_i2b hx hb dX10_put_18 rfl ?_
    obtain ⟨z2, h3⟩ := dck_s h2
    clear h2
    refine st_32 B Z z2 dX10_put_19 (fun H locs Z => ?_)
    obtain ⟨σ3, eσ3, h4⟩ := dlt_s h3
    clear h3
    replace Z := Wd.eq eσ3 Z
    clear eσ3
    refine lv_aload_n hx hb dX10_put_20 rfl (lv_at hl 0 rfl) ?_
    refine lv_dup hx hb dX10_put_21 rfl ?_
    refine g_31_2 B Z kf_RX10_19 dX10_put_22 ?_
    refine lv_iconst (v := (1 : Int32)) hx hb dX10_put_25 (by decide) ?_
    refine lv_iadd hx hb dX10_put_26 ?_
    refine s_31_2 B Z kf_RX10_19 dX10_put_27 (fun H locs Z => ?_)
    obtain ⟨σ4, eσ4, h5⟩ := dlt_s h4
    clear h4
    replace Z := Wd.eq eσ4 Z
    clear eσ4
    exact reV B Z hz h5 dX10_put_30
