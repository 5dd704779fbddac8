theorem dX10_writeKind_0 : decode cX10_writeKind 0 = .ok (.iload_n 1, 1) := by decide +kernel
theorem dX10_writeKind_1 : decode cX10_writeKind 1 = .ok (.iconst 2, 1) := by decide +kernel
theorem dX10_writeKind_2 : decode cX10_writeKind 2 = .ok (.if_icmp .eq 9, 3) := by decide +kernel
theorem dX10_writeKind_5 : decode cX10_writeKind 5 = .ok (.aload_n 0, 1) := by decide +kernel
theorem dX10_writeKind_6 : decode cX10_writeKind 6 = .ok (.bipush 60, 2) := by decide +kernel
theorem dX10_writeKind_8 : decode cX10_writeKind 8 = .ok (.invokevirtual 34, 3) := by decide +kernel
theorem dX10_writeKind_11 : decode cX10_writeKind 11 = .ok (.iload_n 1, 1) := by decide +kernel
theorem dX10_writeKind_12 : decode cX10_writeKind 12 = .ok (.ifCond .eq 9, 3) := by decide +kernel
theorem dX10_writeKind_15 : decode cX10_writeKind 15 = .ok (.aload_n 0, 1) := by decide +kernel
theorem dX10_writeKind_16 : decode cX10_writeKind 16 = .ok (.bipush 61, 2) := by decide +kernel
theorem dX10_writeKind_18 : decode cX10_writeKind 18 = .ok (.invokevirtual 34, 3) := by decide +kernel
theorem dX10_writeKind_21 : decode cX10_writeKind 21 = .ok (.return_, 1) := by decide +kernel
def rm_fWr_writeKind : Room := { frames := 2, cells := 0, slots := 0, locals := 81 }
set_option maxHeartbeats 4000000 in
set_option maxRecDepth 100000 in
theorem c_fWr_writeKind (l : Launch) (X : eX) (sz : Nat) (a1 : Int32) (σ : sT) (σz : sT) (h0 : fWr_writeKind a1 σ = some σz) : ctV l yX10_writeKind cX10_writeKind 2 none rm_fWr_writeKind [.ref (X.2.1 31), .int a1] (wC X) (tC X) (aC X) X sz σ σz := by
  refine ct_of (by decide +kernel) (Nat.le_of_ble_eq_true rfl) ?_
  intro p e s m args below meth c ls hz B hl Z
  have B : Bd p s m args meth c RX10 cX10_writeKind 2 none := B
  have hl : lv_has ls 2 [(0, .ref (X.2.1 31)), (1, .int a1)] := hl
  have hx := B.1
  have hb := B.2.1
  unfold fWr_writeKind at h0
  refine lv_iload_n hx hb dX10_writeKind_0 rfl (lv_at hl 1 rfl) ?_
  refine lv_iconst (v := (2 : Int32)) hx hb dX10_writeKind_1 (by decide) ?_
  obtain ⟨J2, eJ2, h5⟩ := dlt_s h0
  clear h0
  have kJ2 : ∀ (σ1 : sT) (H : Heap) (locs : List Loc) (ls : Array Slot), Wd (wC X) (tC X) (aC X) X s σ1 H locs → lv_has ls 2 [(0, .ref (X.2.1 31)), (1, .int a1)] → J2 σ1 = some σz → W p l e rm_fWr_writeKind s m args below meth c H locs 0 0 (MQ below (va_Qv (fun u => u = σz) (poW (wC X) (tC X) (aC X) X sz) (aA (aC X) sz)) args s 0 0 (aA (aC X) sz)) (F0 m 11 ls []) := by
    intro σ1 H locs ls Z hl h1
    rw [eJ2] at h1
    refine lv_iload_n hx hb dX10_writeKind_11 rfl (lv_at hl 1 rfl) ?_
    refine lv_if_eq (tgt := 21) hx hb dX10_writeKind_12 (by decide) (fun c3 => ?_) (fun c3 => ?_)
    · have h2 := dit h1 c3
      clear h1
      exact reV B Z hz h2 dX10_writeKind_21
    · have h3 := dif h1 c3
      clear h1
      refine lv_aload_n hx hb dX10_writeKind_15 rfl (lv_at hl 0 rfl) ?_
      refine lv_bipush (v := (61 : Int32)) hx hb dX10_writeKind_16 (by decide) ?_
      obtain ⟨σ5, hc3, h4⟩ := db1_s h3
      clear h3
      refine cV_V [.int (61 : Int32)] [] B mx_yX10_put (c_fWr_put l X _ (61 : Int32) σ1 σ5 hc3) kl_RX10_34 mi_yX10_put (rv_31 _ _) hcl_10 Z hl rfl rfl ⟨Nat.le_of_ble_eq_true rfl, Nat.le_of_ble_eq_true rfl⟩ rfl rfl (Nat.le_of_ble_eq_true rfl) dX10_writeKind_18 (fun H locs Z => ?_)
      clear hc3
      exact reV B Z hz h4 dX10_writeKind_21
  clear eJ2
  refine lv_icmp_eq (tgt := 11) hx hb dX10_writeKind_2 (by decide) (fun c6 => ?_) (fun c6 => ?_)
  · have h6 := dit h5 c6
    clear h5
    exact kJ2 σ _ _ _ Z (lv_sub hl [0, 1] rfl) h6
  · have h7 := dif h5 c6
    clear h5
    refine lv_aload_n hx hb dX10_writeKind_5 rfl (lv_at hl 0 rfl) ?_
    refine lv_bipush (v := (60 : Int32)) hx hb dX10_writeKind_6 (by decide) ?_
    obtain ⟨σ8, hc6, h8⟩ := db1_s h7
    clear h7
    refine cV_V [.int (60 : Int32)] [] B mx_yX10_put (c_fWr_put l X _ (60 : Int32) σ σ8 hc6) kl_RX10_34 mi_yX10_put (rv_31 _ _) hcl_10 Z hl rfl rfl ⟨Nat.le_of_ble_eq_true rfl, Nat.le_of_ble_eq_true rfl⟩ rfl rfl (Nat.le_of_ble_eq_true rfl) dX10_writeKind_8 (fun H locs Z => ?_)
    clear hc6
    exact kJ2 σ8 _ _ _ Z (lv_sub hl [0, 1] rfl) h8
theorem dX10_writeRight_0 : decode cX10_writeRight 0 = .ok (.iload_n 1, 1) := by decide +kernel
theorem dX10_writeRight_1 : decode cX10_writeRight 1 = .ok (.invokestatic 44, 3) := by decide +kernel
theorem dX10_writeRight_4 : decode cX10_writeRight 4 = .ok (.istore_n 2, 1) := by decide +kernel
theorem dX10_writeRight_5 : decode cX10_writeRight 5 = .ok (.iload_n 1, 1) := by decide +kernel
theorem dX10_writeRight_6 : decode cX10_writeRight 6 = .ok (.ifCond .ge 9, 3) := by decide +kernel
theorem dX10_writeRight_9 : decode cX10_writeRight 9 = .ok (.aload_n 0, 1) := by decide +kernel
theorem dX10_writeRight_10 : decode cX10_writeRight 10 = .ok (.bipush 45, 2) := by decide +kernel
theorem dX10_writeRight_12 : decode cX10_writeRight 12 = .ok (.invokevirtual 34, 3) := by decide +kernel
theorem dX10_writeRight_15 : decode cX10_writeRight 15 = .ok (.iload_n 2, 1) := by decide +kernel
theorem dX10_writeRight_16 : decode cX10_writeRight 16 = .ok (.bipush 10, 2) := by decide +kernel
theorem dX10_writeRight_18 : decode cX10_writeRight 18 = .ok (.if_icmp .lt 14, 3) := by decide +kernel
theorem dX10_writeRight_21 : decode cX10_writeRight 21 = .ok (.aload_n 0, 1) := by decide +kernel
theorem dX10_writeRight_22 : decode cX10_writeRight 22 = .ok (.bipush 48, 2) := by decide +kernel
theorem dX10_writeRight_24 : decode cX10_writeRight 24 = .ok (.iload_n 2, 1) := by decide +kernel
theorem dX10_writeRight_25 : decode cX10_writeRight 25 = .ok (.bipush 10, 2) := by decide +kernel
theorem dX10_writeRight_27 : decode cX10_writeRight 27 = .ok (.idiv, 1) := by decide +kernel
theorem dX10_writeRight_28 : decode cX10_writeRight 28 = .ok (.iadd, 1) := by decide +kernel
theorem dX10_writeRight_29 : decode cX10_writeRight 29 = .ok (.invokevirtual 34, 3) := by decide +kernel
theorem dX10_writeRight_32 : decode cX10_writeRight 32 = .ok (.aload_n 0, 1) := by decide +kernel
theorem dX10_writeRight_33 : decode cX10_writeRight 33 = .ok (.bipush 48, 2) := by decide +kernel
theorem dX10_writeRight_35 : decode cX10_writeRight 35 = .ok (.iload_n 2, 1) := by decide +kernel
theorem dX10_writeRight_36 : decode cX10_writeRight 36 = .ok (.bipush 10, 2) := by decide +kernel
theorem dX10_writeRight_38 : decode cX10_writeRight 38 = .ok (.irem, 1) := by decide +kernel
theorem dX10_writeRight_39 : decode cX10_writeRight 39 = .ok (.iadd, 1) := by decide +kernel
theorem dX10_writeRight_40 : decode cX10_writeRight 40 = .ok (.invokevirtual 34, 3) := by decide +kernel
theorem dX10_writeRight_43 : decode cX10_writeRight 43 = .ok (.return_, 1) := by decide +kernel
def rm_fWr_writeRight : Room := { frames := 2, cells := 0, slots := 0, locals := 81 }
set_option maxHeartbeats 4000000 in
set_option maxRecDepth 100000 in
theorem c_fWr_writeRight (l : Launch) (X : eX) (sz : Nat) (a1 : Int32) (σ : sT) (σz : sT) (h0 : fWr_writeRight a1 σ = some σz) : ctV l yX10_writeRight cX10_writeRight 3 none rm_fWr_writeRight [.ref (X.2.1 31), .int a1] (wC X) (tC X) (aC X) X sz σ σz := by
  refine ct_of (by decide +kernel) (Nat.le_of_ble_eq_true rfl) ?_
  intro p e s m args below meth c ls hz B hl Z
  have B : Bd p s m args meth c RX10 cX10_writeRight 3 none := B
  have hl : lv_has ls 3 [(0, .ref (X.2.1 31)), (1, .int a1)] := hl
  have hx := B.1
  have hb := B.2.1
  unfold fWr_writeRight at h0
  refine lv_iload_n hx hb dX10_writeRight_0 rfl (lv_at hl 1 rfl) ?_
  refine va_mabs hx hb (B.2.2.1.trans hl.1.symm) B.2.2.2.1 (B.2.2.2.2.1 _ kl_RX10_44) (B.2.2.2.2.1 _ ks_JabsI) (B.2.2.2.2.1 _ kz_RJ9) (B.2.2.2.2.1 _ kd_JabsI) (Nat.le_of_ble_eq_true rfl) (Nat.le_of_ble_eq_true rfl) (Nat.zero_le _) (Nat.zero_le _) dX10_writeRight_1 ?_
  refine lv_topi (fun x1 ex1 => ?_)
  have h1 := dlt_e ex1 h0
  clear ex1 h0
  refine lv_istore_n (lv' := [(2, .int x1), (0, .ref (X.2.1 31)), (1, .int a1)]) hx hb dX10_writeRight_4 rfl hl (by decide) rfl (fun ls hl => ?_)
  refine lv_iload_n hx hb dX10_writeRight_5 rfl (lv_at hl 2 rfl) ?_
  obtain ⟨J3, eJ3, h9⟩ := dlt_s h1
  clear h1
  have kJ3 : ∀ (σ2 : sT) (H : Heap) (locs : List Loc) (ls : Array Slot), Wd (wC X) (tC X) (aC X) X s σ2 H locs → lv_has ls 3 [(0, .ref (X.2.1 31)), (2, .int x1)] → J3 σ2 = some σz → W p l e rm_fWr_writeRight s m args below meth c H locs 0 0 (MQ below (va_Qv (fun u => u = σz) (poW (wC X) (tC X) (aC X) X sz) (aA (aC X) sz)) args s 0 0 (aA (aC X) sz)) (F0 m 15 ls []) := by
    intro σ2 H locs ls Z hl h2
    rw [eJ3] at h2
    refine lv_iload_n hx hb dX10_writeRight_15 rfl (lv_at hl 1 rfl) ?_
    refine lv_bipush (v := (10 : Int32)) hx hb dX10_writeRight_16 (by decide) ?_
    obtain ⟨J5, eJ5, h5⟩ := dlt_s h2
    clear h2
    have kJ5 : ∀ (σ4 : sT) (H : Heap) (locs : List Loc) (ls : Array Slot), Wd (wC X) (tC X) (aC X) X s σ4 H locs → lv_has ls 3 [(0, .ref (X.2.1 31)), (2, .int x1)] → J5 σ4 = some σz → W p l e rm_fWr_writeRight s m args below meth c H locs 0 0 (MQ below (va_Qv (fun u => u = σz) (poW (wC X) (tC X) (aC X) X sz) (aA (aC X) sz)) args s 0 0 (aA (aC X) sz)) (F0 m 32 ls []) := by
      intro σ4 H locs ls Z hl h3
      rw [eJ5] at h3
      refine lv_aload_n hx hb dX10_writeRight_32 rfl (lv_at hl 0 rfl) ?_
      refine lv_bipush (v := (48 : Int32)) hx hb dX10_writeRight_33 (by decide) ?_
      refine lv_iload_n hx hb dX10_writeRight_35 rfl (lv_at hl 1 rfl) ?_
      refine lv_bipush (v := (10 : Int32)) hx hb dX10_writeRight_36 (by decide) ?_
      refine lv_irem hx hb dX10_writeRight_38 (by decide) ?_
      refine lv_iadd hx hb dX10_writeRight_39 ?_
      obtain ⟨σ7, hc5, h4⟩ := db1_s h3
      clear h3
      refine cV_V [.int ((48 : Int32) + (x1 - x1 / (10 : Int32) * (10 : Int32)))] [] B mx_yX10_put (c_fWr_put l X _ ((48 : Int32) + (x1 - x1 / (10 : Int32) * (10 : Int32))) σ4 σ7 hc5) kl_RX10_34 mi_yX10_put (rv_31 _ _) hcl_10 Z hl rfl rfl ⟨Nat.le_of_ble_eq_true rfl, Nat.le_of_ble_eq_true rfl⟩ rfl rfl (Nat.le_of_ble_eq_true rfl) dX10_writeRight_40 (fun H locs Z => ?_)
      clear hc5
      exact reV B Z hz h4 dX10_writeRight_43
    clear eJ5
    refine lv_icmp_lt (tgt := 32) hx hb dX10_writeRight_18 (by decide) (fun c8 => ?_) (fun c8 => ?_)
    · have h6 := dit h5 c8
      clear h5
      exact kJ5 σ2 _ _ _ Z (lv_sub hl [0, 1] rfl) h6
    · have h7 := dif h5 c8
      clear h5
      refine lv_aload_n hx hb dX10_writeRight_21 rfl (lv_at hl 0 rfl) ?_
      refine lv_bipush (v := (48 : Int32)) hx hb dX10_writeRight_22 (by decide) ?_
      refine lv_iload_n hx hb dX10_writeRight_24 rfl (lv_at hl 1 rfl) ?_
      refine lv_bipush (v := (10 : Int32)) hx hb dX10_writeRight_25 (by decide) ?_
      refine lv_idiv hx hb dX10_writeRight_27 (by decide) ?_
      refine lv_iadd hx hb dX10_writeRight_28 ?_
      obtain ⟨σ10, hc8, h8⟩ := db1_s h7
      clear h7
      refine cV_V [.int ((48 : Int32) + (x1 / (10 : Int32)))] [] B mx_yX10_put (c_fWr_put l X _ ((48 : Int32) + (x1 / (10 : Int32))) σ2 σ10 hc8) kl_RX10_34 mi_yX10_put (rv_31 _ _) hcl_10 Z hl rfl rfl ⟨Nat.le_of_ble_eq_true rfl, Nat.le_of_ble_eq_true rfl⟩ rfl rfl (Nat.le_of_ble_eq_true rfl) dX10_writeRight_29 (fun H locs Z => ?_)
      clear hc8
      exact kJ5 σ10 _ _ _ Z (lv_sub hl [0, 1] rfl) h8
  clear eJ3
  refine lv_if_ge (tgt := 15) hx hb dX10_writeRight_6 (by decide) (fun c11 => ?_) (fun c11 => ?_)
  · have h10 := dit h9 c11
    clear h9
    exact kJ3 σ _ _ _ Z (lv_sub hl [1, 0] rfl) h10
  · have h11 := dif h9 c11
    clear h9
    refine lv_aload_n hx hb dX10_writeRight_9 rfl (lv_at hl 1 rfl) ?_
    refine lv_bipush (v := (45 : Int32)) hx hb dX10_writeRight_10 (by decide) ?_
    obtain ⟨σ13, hc11, h12⟩ := db1_s h11
    clear h11
    refine cV_V [.int (45 : Int32)] [] B mx_yX10_put (c_fWr_put l X _ (45 : Int32) σ σ13 hc11) kl_RX10_34 mi_yX10_put (rv_31 _ _) hcl_10 Z hl rfl rfl ⟨Nat.le_of_ble_eq_true rfl, Nat.le_of_ble_eq_true rfl⟩ rfl rfl (Nat.le_of_ble_eq_true rfl) dX10_writeRight_12 (fun H locs Z => ?_)
    clear hc11
    exact kJ3 σ13 _ _ _ Z (lv_sub hl [1, 0] rfl) h12
theorem dX10_writeTerm_0 : decode cX10_writeTerm 0 = .ok (.iload_n 1, 1) := by decide +kernel
theorem dX10_writeTerm_1 : decode cX10_writeTerm 1 = .ok (.ifCond .ne 4, 3) := by decide +kernel
theorem dX10_writeTerm_4 : decode cX10_writeTerm 4 = .ok (.return_, 1) := by decide +kernel
theorem dX10_writeTerm_5 : decode cX10_writeTerm 5 = .ok (.iload_n 1, 1) := by decide +kernel
theorem dX10_writeTerm_6 : decode cX10_writeTerm 6 = .ok (.ifCond .ge 12, 3) := by decide +kernel
theorem dX10_writeTerm_9 : decode cX10_writeTerm 9 = .ok (.aload_n 0, 1) := by decide +kernel
theorem dX10_writeTerm_10 : decode cX10_writeTerm 10 = .ok (.bipush 45, 2) := by decide +kernel
theorem dX10_writeTerm_12 : decode cX10_writeTerm 12 = .ok (.invokevirtual 34, 3) := by decide +kernel
theorem dX10_writeTerm_15 : decode cX10_writeTerm 15 = .ok (.goto 16, 3) := by decide +kernel
theorem dX10_writeTerm_18 : decode cX10_writeTerm 18 = .ok (.aload_n 0, 1) := by decide +kernel
theorem dX10_writeTerm_19 : decode cX10_writeTerm 19 = .ok (.getfield 19, 3) := by decide +kernel
theorem dX10_writeTerm_22 : decode cX10_writeTerm 22 = .ok (.ifCond .le 9, 3) := by decide +kernel
theorem dX10_writeTerm_25 : decode cX10_writeTerm 25 = .ok (.aload_n 0, 1) := by decide +kernel
theorem dX10_writeTerm_26 : decode cX10_writeTerm 26 = .ok (.bipush 43, 2) := by decide +kernel
theorem dX10_writeTerm_28 : decode cX10_writeTerm 28 = .ok (.invokevirtual 34, 3) := by decide +kernel
theorem dX10_writeTerm_31 : decode cX10_writeTerm 31 = .ok (.iload_n 1, 1) := by decide +kernel
theorem dX10_writeTerm_32 : decode cX10_writeTerm 32 = .ok (.invokestatic 44, 3) := by decide +kernel
theorem dX10_writeTerm_35 : decode cX10_writeTerm 35 = .ok (.iconst 1, 1) := by decide +kernel
theorem dX10_writeTerm_36 : decode cX10_writeTerm 36 = .ok (.if_icmp .le 14, 3) := by decide +kernel
theorem dX10_writeTerm_39 : decode cX10_writeTerm 39 = .ok (.aload_n 0, 1) := by decide +kernel
theorem dX10_writeTerm_40 : decode cX10_writeTerm 40 = .ok (.bipush 48, 2) := by decide +kernel
theorem dX10_writeTerm_42 : decode cX10_writeTerm 42 = .ok (.iload_n 1, 1) := by decide +kernel
theorem dX10_writeTerm_43 : decode cX10_writeTerm 43 = .ok (.invokestatic 44, 3) := by decide +kernel
theorem dX10_writeTerm_46 : decode cX10_writeTerm 46 = .ok (.iadd, 1) := by decide +kernel
theorem dX10_writeTerm_47 : decode cX10_writeTerm 47 = .ok (.invokevirtual 34, 3) := by decide +kernel
theorem dX10_writeTerm_50 : decode cX10_writeTerm 50 = .ok (.aload_n 0, 1) := by decide +kernel
theorem dX10_writeTerm_51 : decode cX10_writeTerm 51 = .ok (.iload_n 2, 1) := by decide +kernel
theorem dX10_writeTerm_52 : decode cX10_writeTerm 52 = .ok (.invokevirtual 34, 3) := by decide +kernel
theorem dX10_writeTerm_55 : decode cX10_writeTerm 55 = .ok (.return_, 1) := by decide +kernel
def rm_fWr_writeTerm : Room := { frames := 2, cells := 0, slots := 0, locals := 81 }
set_option maxHeartbeats 4000000 in
set_option maxRecDepth 100000 in
theorem c_fWr_writeTerm (l : Launch) (X : eX) (sz : Nat) (a1 : Int32) (a2 : Int32) (σ : sT) (σz : sT) (h0 : fWr_writeTerm a1 a2 σ = some σz) : ctV l yX10_writeTerm cX10_writeTerm 3 none rm_fWr_writeTerm [.ref (X.2.1 31), .int a1, .int a2] (wC X) (tC X) (aC X) X sz σ σz := by
  refine ct_of (by decide +kernel) (Nat.le_of_ble_eq_true rfl) ?_
  intro p e s m args below meth c ls hz B hl Z
  have B : Bd p s m args meth c RX10 cX10_writeTerm 3 none := B
  have hl : lv_has ls 3 [(0, .ref (X.2.1 31)), (1, .int a1), (2, .int a2)] := hl
  have hx := B.1
  have hb := B.2.1
  unfold fWr_writeTerm at h0
  refine lv_iload_n hx hb dX10_writeTerm_0 rfl (lv_at hl 1 rfl) ?_
  refine lv_if_ne (tgt := 5) hx hb dX10_writeTerm_1 (by decide) (fun c1 => ?_) (fun c1 => ?_)
  · have h1 := dif h0 c1
    clear h0
    refine lv_iload_n hx hb dX10_writeTerm_5 rfl (lv_at hl 1 rfl) ?_
    obtain ⟨J3, eJ3, h9⟩ := dlt_s h1
    clear h1
    have kJ3 : ∀ (σ2 : sT) (H : Heap) (locs : List Loc) (ls : Array Slot), Wd (wC X) (tC X) (aC X) X s σ2 H locs → lv_has ls 3 [(0, .ref (X.2.1 31)), (1, .int a1), (2, .int a2)] → J3 σ2 = some σz → W p l e rm_fWr_writeTerm s m args below meth c H locs 0 0 (MQ below (va_Qv (fun u => u = σz) (poW (wC X) (tC X) (aC X) X sz) (aA (aC X) sz)) args s 0 0 (aA (aC X) sz)) (F0 m 31 ls []) := by
      intro σ2 H locs ls Z hl h2
      rw [eJ3] at h2
      refine lv_iload_n hx hb dX10_writeTerm_31 rfl (lv_at hl 1 rfl) ?_
      refine va_mabs hx hb (B.2.2.1.trans hl.1.symm) B.2.2.2.1 (B.2.2.2.2.1 _ kl_RX10_44) (B.2.2.2.2.1 _ ks_JabsI) (B.2.2.2.2.1 _ kz_RJ9) (B.2.2.2.2.1 _ kd_JabsI) (Nat.le_of_ble_eq_true rfl) (Nat.le_of_ble_eq_true rfl) (Nat.zero_le _) (Nat.zero_le _) dX10_writeTerm_32 ?_
      refine lv_iconst (v := (1 : Int32)) hx hb dX10_writeTerm_35 (by decide) ?_
      obtain ⟨J5, eJ5, h5⟩ := dlt_s h2
      clear h2
      have kJ5 : ∀ (σ4 : sT) (H : Heap) (locs : List Loc) (ls : Array Slot), Wd (wC X) (tC X) (aC X) X s σ4 H locs → lv_has ls 3 [(0, .ref (X.2.1 31)), (2, .int a2)] → J5 σ4 = some σz → W p l e rm_fWr_writeTerm s m args below meth c H locs 0 0 (MQ below (va_Qv (fun u => u = σz) (poW (wC X) (tC X) (aC X) X sz) (aA (aC X) sz)) args s 0 0 (aA (aC X) sz)) (F0 m 50 ls []) := by
        intro σ4 H locs ls Z hl h3
        rw [eJ5] at h3
        refine lv_aload_n hx hb dX10_writeTerm_50 rfl (lv_at hl 0 rfl) ?_
        refine lv_iload_n hx hb dX10_writeTerm_51 rfl (lv_at hl 1 rfl) ?_
        obtain ⟨σ7, hc5, h4⟩ := db1_s h3
        clear h3
        refine cV_V [.int a2] [] B mx_yX10_put (c_fWr_put l X _ a2 σ4 σ7 hc5) kl_RX10_34 mi_yX10_put (rv_31 _ _) hcl_10 Z hl rfl rfl ⟨Nat.le_of_ble_eq_true rfl, Nat.le_of_ble_eq_true rfl⟩ rfl rfl (Nat.le_of_ble_eq_true rfl) dX10_writeTerm_52 (fun H locs Z => ?_)
        clear hc5
        exact reV B Z hz h4 dX10_writeTerm_55
      clear eJ5
      refine lv_icmp_le (tgt := 50) hx hb dX10_writeTerm_36 (by decide) (fun c8 => ?_) (fun c8 => ?_)
      · have h6 := dit h5 c8
        clear h5
        exact kJ5 σ2 _ _ _ Z (lv_sub hl [0, 2] rfl) h6
      · have h7 := dif h5 c8
        clear h5
        refine lv_aload_n hx hb dX10_writeTerm_39 rfl (lv_at hl 0 rfl) ?_
        refine lv_bipush (v := (48 : Int32)) hx hb dX10_writeTerm_40 (by decide) ?_
        refine lv_iload_n hx hb dX10_writeTerm_42 rfl (lv_at hl 1 rfl) ?_
        refine va_mabs hx hb (B.2.2.1.trans hl.1.symm) B.2.2.2.1 (B.2.2.2.2.1 _ kl_RX10_44) (B.2.2.2.2.1 _ ks_JabsI) (B.2.2.2.2.1 _ kz_RJ9) (B.2.2.2.2.1 _ kd_JabsI) (Nat.le_of_ble_eq_true rfl) (Nat.le_of_ble_eq_true rfl) (Nat.zero_le _) (Nat.zero_le _) dX10_writeTerm_43 ?_
        refine lv_iadd hx hb dX10_writeTerm_46 ?_
        obtain ⟨σ10, hc8, h8⟩ := db1_s h7
        clear h7
        refine cV_V [.int ((48 : Int32) + (if 0 ≤ a1 then a1 else 0 - a1))] [] B mx_yX10_put (c_fWr_put l X _ ((48 : Int32) + (if 0 ≤ a1 then a1 else 0 - a1)) σ2 σ10 hc8) kl_RX10_34 mi_yX10_put (rv_31 _ _) hcl_10 Z hl rfl rfl ⟨Nat.le_of_ble_eq_true rfl, Nat.le_of_ble_eq_true rfl⟩ rfl rfl (Nat.le_of_ble_eq_true rfl) dX10_writeTerm_47 (fun H locs Z => ?_)
        clear hc8
        exact kJ5 σ10 _ _ _ Z (lv_sub hl [0, 2] rfl) h8
    clear eJ3
    refine lv_if_ge (tgt := 18) hx hb dX10_writeTerm_6 (by decide) (fun c11 => ?_) (fun c11 => ?_)
    · have h10 := dit h9 c11
      clear h9
      refine lv_aload_n hx hb dX10_writeTerm_18 rfl (lv_at hl 0 rfl) ?_
      refine g_31_2 B Z kf_RX10_19 dX10_writeTerm_19 ?_
      refine lv_if_le (tgt := 31) hx hb dX10_writeTerm_22 (by decide) (fun c12 => ?_) (fun c12 => ?_)
      · have h11 := dit h10 c12
        clear h10
        exact kJ3 σ _ _ _ Z (lv_sub hl [0, 1, 2] rfl) h11
      · have h12 := dif h10 c12
        clear h10
        refine lv_aload_n hx hb dX10_writeTerm_25 rfl (lv_at hl 0 rfl) ?_
        refine lv_bipush (v := (43 : Int32)) hx hb dX10_writeTerm_26 (by decide) ?_
        obtain ⟨σ14, hc12, h13⟩ := db1_s h12
        clear h12
        refine cV_V [.int (43 : Int32)] [] B mx_yX10_put (c_fWr_put l X _ (43 : Int32) σ σ14 hc12) kl_RX10_34 mi_yX10_put (rv_31 _ _) hcl_10 Z hl rfl rfl ⟨Nat.le_of_ble_eq_true rfl, Nat.le_of_ble_eq_true rfl⟩ rfl rfl (Nat.le_of_ble_eq_true rfl) dX10_writeTerm_28 (fun H locs Z => ?_)
        clear hc12
        exact kJ3 σ14 _ _ _ Z (lv_sub hl [0, 1, 2] rfl) h13
    · have h14 := dif h9 c11
      clear h9
      refine lv_aload_n hx hb dX10_writeTerm_9 rfl (lv_at hl 0 rfl) ?_
      refine lv_bipush (v := (45 : Int32)) hx hb dX10_writeTerm_10 (by decide) ?_
      obtain ⟨σ16, hc14, h15⟩ := db1_s h14
      clear h14
      refine cV_V [.int (45 : Int32)] [] B mx_yX10_put (c_fWr_put l X _ (45 : Int32) σ σ16 hc14) kl_RX10_34 mi_yX10_put (rv_31 _ _) hcl_10 Z hl rfl rfl ⟨Nat.le_of_ble_eq_true rfl, Nat.le_of_ble_eq_true rfl⟩ rfl rfl (Nat.le_of_ble_eq_true rfl) dX10_writeTerm_12 (fun H locs Z => ?_)
      clear hc14
      refine lv_goto (tgt := 31) hx hb dX10_writeTerm_15 (by decide) ?_
      exact kJ3 σ16 _ _ _ Z (lv_sub hl [0, 1, 2] rfl) h15
  · have h16 := dit h0 c1
    clear h0
    exact reV B Z hz h16 dX10_writeTerm_4
theorem dX10_write_0 : decode cX10_write 0 = .ok (.aload_n 0, 1) := by decide +kernel
theorem dX10_write_1 : decode cX10_write 1 = .ok (.iconst 0, 1) := by decide +kernel
theorem dX10_write_2 : decode cX10_write 2 = .ok (.putfield 19, 3) := by decide +kernel
theorem dX10_write_5 : decode cX10_write 5 = .ok (.iconst 0, 1) := by decide +kernel
theorem dX10_write_6 : decode cX10_write 6 = .ok (.istore_n 2, 1) := by decide +kernel
theorem dX10_write_7 : decode cX10_write 7 = .ok (.iload_n 2, 1) := by decide +kernel
theorem dX10_write_8 : decode cX10_write 8 = .ok (.iconst 3, 1) := by decide +kernel
theorem dX10_write_9 : decode cX10_write 9 = .ok (.if_icmp .ge 26, 3) := by decide +kernel
theorem dX10_write_12 : decode cX10_write 12 = .ok (.aload_n 0, 1) := by decide +kernel
theorem dX10_write_13 : decode cX10_write 13 = .ok (.aload_n 0, 1) := by decide +kernel
theorem dX10_write_14 : decode cX10_write 14 = .ok (.getfield 15, 3) := by decide +kernel
theorem dX10_write_17 : decode cX10_write 17 = .ok (.iload_n 1, 1) := by decide +kernel
theorem dX10_write_18 : decode cX10_write 18 = .ok (.iload_n 2, 1) := by decide +kernel
theorem dX10_write_19 : decode cX10_write 19 = .ok (.invokevirtual 24, 3) := by decide +kernel
theorem dX10_write_22 : decode cX10_write 22 = .ok (.bipush 120, 2) := by decide +kernel
theorem dX10_write_24 : decode cX10_write 24 = .ok (.iload_n 2, 1) := by decide +kernel
theorem dX10_write_25 : decode cX10_write 25 = .ok (.iadd, 1) := by decide +kernel
theorem dX10_write_26 : decode cX10_write 26 = .ok (.invokevirtual 30, 3) := by decide +kernel
theorem dX10_write_29 : decode cX10_write 29 = .ok (.iinc 2 1, 3) := by decide +kernel
theorem dX10_write_32 : decode cX10_write 32 = .ok (.goto (-25), 3) := by decide +kernel
theorem dX10_write_35 : decode cX10_write 35 = .ok (.aload_n 0, 1) := by decide +kernel
theorem dX10_write_36 : decode cX10_write 36 = .ok (.getfield 19, 3) := by decide +kernel
theorem dX10_write_39 : decode cX10_write 39 = .ok (.ifCond .ne 9, 3) := by decide +kernel
theorem dX10_write_42 : decode cX10_write 42 = .ok (.aload_n 0, 1) := by decide +kernel
theorem dX10_write_43 : decode cX10_write 43 = .ok (.bipush 48, 2) := by decide +kernel
theorem dX10_write_45 : decode cX10_write 45 = .ok (.invokevirtual 34, 3) := by decide +kernel
theorem dX10_write_48 : decode cX10_write 48 = .ok (.aload_n 0, 1) := by decide +kernel
theorem dX10_write_49 : decode cX10_write 49 = .ok (.aload_n 0, 1) := by decide +kernel
theorem dX10_write_50 : decode cX10_write 50 = .ok (.getfield 15, 3) := by decide +kernel
theorem dX10_write_53 : decode cX10_write 53 = .ok (.iload_n 1, 1) := by decide +kernel
theorem dX10_write_54 : decode cX10_write 54 = .ok (.iconst 3, 1) := by decide +kernel
theorem dX10_write_55 : decode cX10_write 55 = .ok (.invokevirtual 24, 3) := by decide +kernel
theorem dX10_write_58 : decode cX10_write 58 = .ok (.invokevirtual 38, 3) := by decide +kernel
theorem dX10_write_61 : decode cX10_write 61 = .ok (.aload_n 0, 1) := by decide +kernel
theorem dX10_write_62 : decode cX10_write 62 = .ok (.aload_n 0, 1) := by decide +kernel
theorem dX10_write_63 : decode cX10_write 63 = .ok (.getfield 15, 3) := by decide +kernel
theorem dX10_write_66 : decode cX10_write 66 = .ok (.iload_n 1, 1) := by decide +kernel
theorem dX10_write_67 : decode cX10_write 67 = .ok (.iconst 4, 1) := by decide +kernel
theorem dX10_write_68 : decode cX10_write 68 = .ok (.invokevirtual 24, 3) := by decide +kernel
theorem dX10_write_71 : decode cX10_write 71 = .ok (.invokevirtual 41, 3) := by decide +kernel
theorem dX10_write_74 : decode cX10_write 74 = .ok (.return_, 1) := by decide +kernel
def rm_fWr_write : Room := { frames := 3, cells := 0, slots := 0, locals := 104 }
set_option maxHeartbeats 4000000 in
set_option maxRecDepth 100000 in
theorem c_fWr_write (l : Launch) (X : eX) (sz : Nat) (a1 : Int32) (σ : sT) (σz : sT) (h0 : fWr_write a1 σ = some σz) : ctV l yX10_write cX10_write 3 none rm_fWr_write [.ref (X.2.1 31), .int a1] (wC X) (tC X) (aC X) X sz σ σz := by
  refine ct_of (by decide +kernel) (Nat.le_of_ble_eq_true rfl) ?_
  intro p e s m args below meth c ls hz B hl Z
  have B : Bd p s m args meth c RX10 cX10_write 3 none := B
  have hl : lv_has ls 3 [(0, .ref (X.2.1 31)), (1, .int a1)] := hl
  have hx := B.1
  have hb := B.2.1
  unfold fWr_write at h0
  refine lv_aload_n hx hb dX10_write_0 rfl (lv_at hl 0 rfl) ?_
  refine lv_iconst (v := (0 : Int32)) hx hb dX10_write_1 (by decide) ?_
  refine s_31_2 B Z kf_RX10_19 dX10_write_2 (fun H locs Z => ?_)
  obtain ⟨σ1, eσ1, h1⟩ := dlt_s h0
  clear h0
  replace Z := Wd.eq eσ1 Z
  clear eσ1
  refine lv_iconst (v := (0 : Int32)) hx hb dX10_write_5 (by decide) ?_
  refine lv_istore_n (lv' := [(2, .int (0 : Int32)), (0, .ref (X.2.1 31)), (1, .int a1)]) hx hb dX10_write_6 rfl hl (by decide) rfl (fun ls hl => ?_)
  obtain ⟨K5, eK5, h12⟩ := dlt_s h1
  clear h1
  have kK5 : ∀ (σ4 : sT) (H : Heap) (locs : List Loc) (ls : Array Slot), Wd (wC X) (tC X) (aC X) X s σ4 H locs → lv_has ls 3 [(0, .ref (X.2.1 31)), (1, .int a1)] → K5 σ4 = some σz → W p l e rm_fWr_write s m args below meth c H locs 0 0 (MQ below (va_Qv (fun u => u = σz) (poW (wC X) (tC X) (aC X) X sz) (aA (aC X) sz)) args s 0 0 (aA (aC X) sz)) (F0 m 35 ls []) := by
    intro σ4 H locs ls Z hl h2
    rw [eK5] at h2
    refine lv_aload_n hx hb dX10_write_35 rfl (lv_at hl 0 rfl) ?_
    refine g_31_2 B Z kf_RX10_19 dX10_write_36 ?_
    obtain ⟨J7, eJ7, h8⟩ := dlt_s h2
    clear h2
    have kJ7 : ∀ (σ6 : sT) (H : Heap) (locs : List Loc) (ls : Array Slot), Wd (wC X) (tC X) (aC X) X s σ6 H locs → lv_has ls 3 [(0, .ref (X.2.1 31)), (1, .int a1)] → J7 σ6 = some σz → W p l e rm_fWr_write s m args below meth c H locs 0 0 (MQ below (va_Qv (fun u => u = σz) (poW (wC X) (tC X) (aC X) X sz) (aA (aC X) sz)) args s 0 0 (aA (aC X) sz)) (F0 m 48 ls []) := by
      intro σ6 H locs ls Z hl h3
      rw [eJ7] at h3
      refine lv_aload_n hx hb dX10_write_48 rfl (lv_at hl 0 rfl) ?_
      refine lv_aload_n hx hb dX10_write_49 rfl (lv_at hl 0 rfl) ?_
      refine g_31_0 B Z kf_RX10_15 dX10_write_50 ?_
      refine lv_iload_n hx hb dX10_write_53 rfl (lv_at hl 1 rfl) ?_
      refine lv_iconst (v := (3 : Int32)) hx hb dX10_write_54 (by decide) ?_
      obtain ⟨r9, hc7, h4⟩ := db1_s h3
      clear h3
      refine cV_I [.int a1, .int (3 : Int32)] [.ref (X.2.1 31)] B mx_yX0_get (c_fBk_get l X _ a1 (3 : Int32) σ6 r9 hc7) kl_RX10_24 mi_yX0_get (rv_1 _ _) hcl_0 Z hl rfl rfl ⟨Nat.le_of_ble_eq_true rfl, Nat.le_of_ble_eq_true rfl⟩ rfl rfl (Nat.le_of_ble_eq_true rfl) dX10_write_55 (fun H locs Z => ?_)
      clear hc7
      obtain ⟨σ11, hc9, h5⟩ := db1_s h4
      clear h4
      refine cV_V [.int r9] [] B mx_yX10_writeKind (c_fWr_writeKind l X _ r9 σ6 σ11 hc9) kl_RX10_38 mi_yX10_writeKind (rv_31 _ _) hcl_10 Z hl rfl rfl ⟨Nat.le_of_ble_eq_true rfl, Nat.le_of_ble_eq_true rfl⟩ rfl rfl (Nat.le_of_ble_eq_true rfl) dX10_write_58 (fun H locs Z => ?_)
      clear hc9
      refine lv_aload_n hx hb dX10_write_61 rfl (lv_at hl 0 rfl) ?_
      refine lv_aload_n hx hb dX10_write_62 rfl (lv_at hl 0 rfl) ?_
      refine g_31_0 B Z kf_RX10_15 dX10_write_63 ?_
      refine lv_iload_n hx hb dX10_write_66 rfl (lv_at hl 1 rfl) ?_
      refine lv_iconst (v := (4 : Int32)) hx hb dX10_write_67 (by decide) ?_
      obtain ⟨r13, hc11, h6⟩ := db1_s h5
      clear h5
      refine cV_I [.int a1, .int (4 : Int32)] [.ref (X.2.1 31)] B mx_yX0_get (c_fBk_get l X _ a1 (4 : Int32) σ11 r13 hc11) kl_RX10_24 mi_yX0_get (rv_1 _ _) hcl_0 Z hl rfl rfl ⟨Nat.le_of_ble_eq_true rfl, Nat.le_of_ble_eq_true rfl⟩ rfl rfl (Nat.le_of_ble_eq_true rfl) dX10_write_68 (fun H locs Z => ?_)
      clear hc11
      obtain ⟨σ15, hc13, h7⟩ := db1_s h6
      clear h6
      refine cV_V [.int r13] [] B mx_yX10_writeRight (c_fWr_writeRight l X _ r13 σ11 σ15 hc13) kl_RX10_41 mi_yX10_writeRight (rv_31 _ _) hcl_10 Z hl rfl rfl ⟨Nat.le_of_ble_eq_true rfl, Nat.le_of_ble_eq_true rfl⟩ rfl rfl (Nat.le_of_ble_eq_true rfl) dX10_write_71 (fun H locs Z => ?_)
      clear hc13
      exact reV B Z hz h7 dX10_write_74
    clear eJ7
    refine lv_if_ne (tgt := 48) hx hb dX10_write_39 (by decide) (fun c16 => ?_) (fun c16 => ?_)
    · have h9 := dif h8 c16
      clear h8
      exact kJ7 σ4 _ _ _ Z (lv_sub hl [0, 1] rfl) h9
    · have h10 := dit h8 c16
      clear h8
      refine lv_aload_n hx hb dX10_write_42 rfl (lv_at hl 0 rfl) ?_
      refine lv_bipush (v := (48 : Int32)) hx hb dX10_write_43 (by decide) ?_
      obtain ⟨σ18, hc16, h11⟩ := db1_s h10
      clear h10
      refine cV_V [.int (48 : Int32)] [] B mx_yX10_put (c_fWr_put l X _ (48 : Int32) σ4 σ18 hc16) kl_RX10_34 mi_yX10_put (rv_31 _ _) hcl_10 Z hl rfl rfl ⟨Nat.le_of_ble_eq_true rfl, Nat.le_of_ble_eq_true rfl⟩ rfl rfl (Nat.le_of_ble_eq_true rfl) dX10_write_45 (fun H locs Z => ?_)
      clear hc16
      exact kJ7 σ18 _ _ _ Z (lv_sub hl [0, 1] rfl) h11
  clear eK5
  have lL7 : ∀ (n : Nat), ∀ (x2 : Int32) (σ3 : sT) (H : Heap) (locs : List Loc) (ls : Array Slot), Wd (wC X) (tC X) (aC X) X s σ3 H locs → lv_has ls 3 [(0, .ref (X.2.1 31)), (1, .int a1), (2, .int x2)] → fWr_write_L7 a1 K5 n x2 σ3 = some σz → W p l e rm_fWr_write s m args below meth c H locs 0 0 (MQ below (va_Qv (fun u => u = σz) (poW (wC X) (tC X) (aC X) X sz) (aA (aC X) sz)) args s 0 0 (aA (aC X) sz)) (F0 m 7 ls []) := by
    intro n
    induction n with
    | zero =>
      intro x2 σ3 H locs ls Z hl h
      exact nomatch (show (none : Option (sT)) = some _ from h)
    | succ n19 ih5 =>
      intro x2 σ3 H locs ls Z hl h13
      unfold fWr_write_L7 at h13
      refine lv_iload_n hx hb dX10_write_7 rfl (lv_at hl 2 rfl) ?_
      refine lv_iconst (v := (3 : Int32)) hx hb dX10_write_8 (by decide) ?_
      refine lv_icmp_ge (tgt := 35) hx hb dX10_write_9 (by decide) (fun c20 => ?_) (fun c20 => ?_)
      · have h14 := dit h13 c20
        clear h13
        exact kK5 σ3 _ _ _ Z (lv_sub hl [0, 1] rfl) h14
      · have h15 := dif h13 c20
        clear h13
        refine lv_aload_n hx hb dX10_write_12 rfl (lv_at hl 0 rfl) ?_
        refine lv_aload_n hx hb dX10_write_13 rfl (lv_at hl 0 rfl) ?_
        refine g_31_0 B Z kf_RX10_15 dX10_write_14 ?_
        refine lv_iload_n hx hb dX10_write_17 rfl (lv_at hl 1 rfl) ?_
        refine lv_iload_n hx hb dX10_write_18 rfl (lv_at hl 2 rfl) ?_
        obtain ⟨r22, hc20, h16⟩ := db1_s h15
        clear h15
        refine cV_I [.int a1, .int x2] [.ref (X.2.1 31)] B mx_yX0_get (c_fBk_get l X _ a1 x2 σ3 r22 hc20) kl_RX10_24 mi_yX0_get (rv_1 _ _) hcl_0 Z hl rfl rfl ⟨Nat.le_of_ble_eq_true rfl, Nat.le_of_ble_eq_true rfl⟩ rfl rfl (Nat.le_of_ble_eq_true rfl) dX10_write_19 (fun H locs Z => ?_)
        clear hc20
        refine lv_bipush (v := (120 : Int32)) hx hb dX10_write_22 (by decide) ?_
        refine lv_iload_n hx hb dX10_write_24 rfl (lv_at hl 2 rfl) ?_
        refine lv_iadd hx hb dX10_write_25 ?_
        obtain ⟨σ24, hc22, h17⟩ := db1_s h16
        clear h16
        refine cV_V [.int r22, .int ((120 : Int32) + x2)] [] B mx_yX10_writeTerm (c_fWr_writeTerm l X _ r22 ((120 : Int32) + x2) σ3 σ24 hc22) kl_RX10_30 mi_yX10_writeTerm (rv_31 _ _) hcl_10 Z hl rfl rfl ⟨Nat.le_of_ble_eq_true rfl, Nat.le_of_ble_eq_true rfl⟩ rfl rfl (Nat.le_of_ble_eq_true rfl) dX10_write_26 (fun H locs Z => ?_)
        clear hc22
        refine lv_iinc (v := x2 + (1 : Int32)) (lv' := [(2, .int (x2 + (1 : Int32))), (0, .ref (X.2.1 31)), (1, .int a1)]) hx hb dX10_write_29 hl (k := 2) rfl (by rfl) (by decide) rfl (fun ls hl => ?_)
        refine lv_goto (tgt := 7) hx hb dX10_write_32 (by decide) ?_
        exact ih5 (x2 + (1 : Int32)) σ24 _ _ _ Z (lv_sub hl [1, 2, 0] rfl) h17
  exact lL7 FU (0 : Int32) σ1 _ _ _ Z (lv_sub hl [1, 2, 0] rfl) h12
theorem dX10_byteAt_0 : decode cX10_byteAt 0 = .ok (.iload_n 1, 1) := by decide +kernel
theorem dX10_byteAt_1 : decode cX10_byteAt 1 = .ok (.ifCond .lt 26, 3) := by decide +kernel
theorem dX10_byteAt_4 : decode cX10_byteAt 4 = .ok (.iload_n 1, 1) := by decide +kernel
theorem dX10_byteAt_5 : decode cX10_byteAt 5 = .ok (.aload_n 0, 1) := by decide +kernel
theorem dX10_byteAt_6 : decode cX10_byteAt 6 = .ok (.getfield 19, 3) := by decide +kernel
theorem dX10_byteAt_9 : decode cX10_byteAt 9 = .ok (.if_icmp .ge 18, 3) := by decide +kernel
theorem dX10_byteAt_12 : decode cX10_byteAt 12 = .ok (.iload_n 1, 1) := by decide +kernel
theorem dX10_byteAt_13 : decode cX10_byteAt 13 = .ok (.bipush 14, 2) := by decide +kernel
theorem dX10_byteAt_15 : decode cX10_byteAt 15 = .ok (.if_icmp .ge 12, 3) := by decide +kernel
theorem dX10_byteAt_18 : decode cX10_byteAt 18 = .ok (.aload_n 0, 1) := by decide +kernel
theorem dX10_byteAt_19 : decode cX10_byteAt 19 = .ok (.getfield 11, 3) := by decide +kernel
theorem dX10_byteAt_22 : decode cX10_byteAt 22 = .ok (.iload_n 1, 1) := by decide +kernel
theorem dX10_byteAt_23 : decode cX10_byteAt 23 = .ok (.baload, 1) := by decide +kernel
theorem dX10_byteAt_24 : decode cX10_byteAt 24 = .ok (.goto 5, 3) := by decide +kernel
theorem dX10_byteAt_27 : decode cX10_byteAt 27 = .ok (.ldc 23, 2) := by decide +kernel
theorem dX10_byteAt_29 : decode cX10_byteAt 29 = .ok (.ireturn, 1) := by decide +kernel
def rm_fWr_byteAt : Room := { frames := 1, cells := 0, slots := 0, locals := 60 }
set_option maxHeartbeats 4000000 in
set_option maxRecDepth 100000 in
theorem c_fWr_byteAt (l : Launch) (X : eX) (sz : Nat) (a1 : Int32) (σ : sT) (rz : Int32) (h0 : fWr_byteAt a1 σ = some rz) : ctI l yX10_byteAt cX10_byteAt 2 (some .int) rm_fWr_byteAt [.ref (X.2.1 31), .int a1] (wC X) (tC X) (aC X) X sz σ rz σ := by
  refine ct_of (by decide +kernel) (Nat.le_of_ble_eq_true rfl) ?_
  intro p e s m args below meth c ls hz B hl Z
  have B : Bd p s m args meth c RX10 cX10_byteAt 2 (some .int) := B
  have hl : lv_has ls 2 [(0, .ref (X.2.1 31)), (1, .int a1)] := hl
  have hx := B.1
  have hb := B.2.1
  unfold fWr_byteAt at h0
  refine lv_iload_n hx hb dX10_byteAt_0 rfl (lv_at hl 1 rfl) ?_
  refine lv_if_lt (tgt := 27) hx hb dX10_byteAt_1 (by decide) (fun c1 => ?_) (fun c1 => ?_)
  · have h1 := dit h0 c1
    clear h0
    refine lv_ldc hx hb B.2.2.2.1 (B.2.2.2.2.1 _ kc_RX10_23) dX10_byteAt_27 ?_
    exact reI B Z rfl hz (congrArg (Option.map (fun q => (q, σ))) h1) dX10_byteAt_29
  · have h2 := dif h0 c1
    clear h0
    refine lv_iload_n hx hb dX10_byteAt_4 rfl (lv_at hl 1 rfl) ?_
    refine lv_aload_n hx hb dX10_byteAt_5 rfl (lv_at hl 0 rfl) ?_
    refine g_31_2 B Z kf_RX10_19 dX10_byteAt_6 ?_
    refine lv_icmp_ge (tgt := 27) hx hb dX10_byteAt_9 (by decide) (fun c2 => ?_) (fun c2 => ?_)
    · have h3 := dit h2 c2
      clear h2
      refine lv_ldc hx hb B.2.2.2.1 (B.2.2.2.2.1 _ kc_RX10_23) dX10_byteAt_27 ?_
      exact reI B Z rfl hz (congrArg (Option.map (fun q => (q, σ))) h3) dX10_byteAt_29
    · have h4 := dif h2 c2
      clear h2
      refine lv_iload_n hx hb dX10_byteAt_12 rfl (lv_at hl 1 rfl) ?_
      refine lv_bipush (v := (14 : Int32)) hx hb dX10_byteAt_13 (by decide) ?_
      refine lv_icmp_ge (tgt := 27) hx hb dX10_byteAt_15 (by decide) (fun c3 => ?_) (fun c3 => ?_)
      · have h5 := dit h4 c3
        clear h4
        refine lv_ldc hx hb B.2.2.2.1 (B.2.2.2.2.1 _ kc_RX10_23) dX10_byteAt_27 ?_
        exact reI B Z rfl hz (congrArg (Option.map (fun q => (q, σ))) h5) dX10_byteAt_29
      · have h6 := dif h4 c3
        clear h4
        refine lv_aload_n hx hb dX10_byteAt_18 rfl (lv_at hl 0 rfl) ?_
        refine g_31_1 B Z kf_RX10_11 dX10_byteAt_19 ?_
        refine lv_iload_n hx hb dX10_byteAt_22 rfl (lv_at hl 1 rfl) ?_
        obtain ⟨z4, h7⟩ := dck_s h6
        clear h6
        refine ld_32 B Z z4 dX10_byteAt_23 ?_
        refine lv_goto (tgt := 29) hx hb dX10_byteAt_24 (by decide) ?_
        exact reI B Z rfl hz (congrArg (Option.map (fun q => (q, σ))) h7) dX10_byteAt_29
theorem dX11_shown_0 : decode cX11_shown 0 = .ok (.aload_n 0, 1) := by decide +kernel
theorem dX11_shown_1 : decode cX11_shown 1 = .ok (.getfield 10, 3) := by decide +kernel
theorem dX11_shown_4 : decode cX11_shown 4 = .ok (.iload_n 1, 1) := by decide +kernel
theorem dX11_shown_5 : decode cX11_shown 5 = .ok (.invokevirtual 99, 3) := by decide +kernel
theorem dX11_shown_8 : decode cX11_shown 8 = .ok (.ifCond .eq 7, 3) := by decide +kernel
theorem dX11_shown_11 : decode cX11_shown 11 = .ok (.iload_n 2, 1) := by decide +kernel
theorem dX11_shown_12 : decode cX11_shown 12 = .ok (.ifCond .ge 8, 3) := by decide +kernel
theorem dX11_shown_15 : decode cX11_shown 15 = .ok (.aload_n 0, 1) := by decide +kernel
theorem dX11_shown_16 : decode cX11_shown 16 = .ok (.invokevirtual 77, 3) := by decide +kernel
theorem dX11_shown_19 : decode cX11_shown 19 = .ok (.ireturn, 1) := by decide +kernel
theorem dX11_shown_20 : decode cX11_shown 20 = .ok (.aload_n 0, 1) := by decide +kernel
theorem dX11_shown_21 : decode cX11_shown 21 = .ok (.getfield 69, 3) := by decide +kernel
theorem dX11_shown_24 : decode cX11_shown 24 = .ok (.iload_n 1, 1) := by decide +kernel
theorem dX11_shown_25 : decode cX11_shown 25 = .ok (.invokevirtual 220, 3) := by decide +kernel
theorem dX11_shown_28 : decode cX11_shown 28 = .ok (.aload_n 0, 1) := by decide +kernel
theorem dX11_shown_29 : decode cX11_shown 29 = .ok (.getfield 69, 3) := by decide +kernel
theorem dX11_shown_32 : decode cX11_shown 32 = .ok (.iload_n 2, 1) := by decide +kernel
theorem dX11_shown_33 : decode cX11_shown 33 = .ok (.invokevirtual 223, 3) := by decide +kernel
theorem dX11_shown_36 : decode cX11_shown 36 = .ok (.ireturn, 1) := by decide +kernel
def rm_fRM_shown : Room := { frames := 4, cells := 0, slots := 0, locals := 126 }
set_option maxHeartbeats 4000000 in
set_option maxRecDepth 100000 in
theorem c_fRM_shown (l : Launch) (X : eX) (sz : Nat) (a1 : Int32) (a2 : Int32) (σ : sT) (rz : Int32) (σz : sT) (h0 : fRM_shown a1 a2 σ = some (rz, σz)) : ctI l yX11_shown cX11_shown 3 (some .int) rm_fRM_shown [.ref (X.2.1 0), .int a1, .int a2] (wC X) (tC X) (aC X) X sz σ rz σz := by
  refine ct_of (by decide +kernel) (Nat.le_of_ble_eq_true rfl) ?_
  intro p e s m args below meth c ls hz B hl Z
  have B : Bd p s m args meth c RX11 cX11_shown 3 (some .int) := B
  have hl : lv_has ls 3 [(0, .ref (X.2.1 0)), (1, .int a1), (2, .int a2)] := hl
  have hx := B.1
  have hb := B.2.1
  unfold fRM_shown at h0
  refine lv_aload_n hx hb dX11_shown_0 rfl (lv_at hl 0 rfl) ?_
  refine g_0_0 B Z kf_RX11_10 dX11_shown_1 ?_
  refine lv_iload_n hx hb dX11_shown_4 rfl (lv_at hl 1 rfl) ?_
  obtain ⟨r2, hc0, h1⟩ := db1_s h0
  clear h0
  refine cV_I [.int a1] [] B mx_yX0_has (c_fBk_has l X _ a1 σ r2 hc0) kl_RX11_99 mi_yX0_has (rv_1 _ _) hcl_0 Z hl rfl rfl ⟨Nat.le_of_ble_eq_true rfl, Nat.le_of_ble_eq_true rfl⟩ rfl rfl (Nat.le_of_ble_eq_true rfl) dX11_shown_5 (fun H locs Z => ?_)
  clear hc0
  obtain ⟨J3, eJ3, h4⟩ := dlt_s h1
  clear h1
  have kJ3 : ∀ (H : Heap) (locs : List Loc) (ls : Array Slot), Wd (wC X) (tC X) (aC X) X s σ H locs → lv_has ls 3 [(0, .ref (X.2.1 0))] → J3 () = some (rz, σz) → W p l e rm_fRM_shown s m args below meth c H locs 0 0 (MQ below (va_Qi (fun a u => a = rz ∧ u = σz) (poW (wC X) (tC X) (aC X) X sz) (aA (aC X) sz)) args s 0 0 (aA (aC X) sz)) (F0 m 15 ls []) := by
    intro  H locs ls Z hl h2
    rw [eJ3] at h2
    refine lv_aload_n hx hb dX11_shown_15 rfl (lv_at hl 0 rfl) ?_
    obtain ⟨r5, σ6, hc3, h3⟩ := db2_s h2
    clear h2
    refine cV_I [] [] B mx_yX11_bad (c_fRM_bad l X _ σ r5 σ6 hc3) kl_RX11_77 mi_yX11_bad (rv_0 _ _) hcl_11 Z hl rfl rfl ⟨Nat.le_of_ble_eq_true rfl, Nat.le_of_ble_eq_true rfl⟩ rfl rfl (Nat.le_of_ble_eq_true rfl) dX11_shown_16 (fun H locs Z => ?_)
    clear hc3
    exact reI B Z rfl hz h3 dX11_shown_19
  clear eJ3
  refine lv_if_eq (tgt := 15) hx hb dX11_shown_8 (by decide) (fun c7 => ?_) (fun c7 => ?_)
  · have h5 := dit h4 c7
    clear h4
    exact kJ3  _ _ _ Z (lv_sub hl [0] rfl) h5
  · have h6 := dif h4 c7
    clear h4
    refine lv_iload_n hx hb dX11_shown_11 rfl (lv_at hl 2 rfl) ?_
    refine lv_if_ge (tgt := 20) hx hb dX11_shown_12 (by decide) (fun c8 => ?_) (fun c8 => ?_)
    · have h7 := dit h6 c8
      clear h6
      refine lv_aload_n hx hb dX11_shown_20 rfl (lv_at hl 0 rfl) ?_
      refine g_0_7 B Z kf_RX11_69 dX11_shown_21 ?_
      refine lv_iload_n hx hb dX11_shown_24 rfl (lv_at hl 1 rfl) ?_
      obtain ⟨σ10, hc8, h8⟩ := db1_s h7
      clear h7
      refine cV_V [.int a1] [] B mx_yX10_write (c_fWr_write l X _ a1 σ σ10 hc8) kl_RX11_220 mi_yX10_write (rv_31 _ _) hcl_10 Z hl rfl rfl ⟨Nat.le_of_ble_eq_true rfl, Nat.le_of_ble_eq_true rfl⟩ rfl rfl (Nat.le_of_ble_eq_true rfl) dX11_shown_25 (fun H locs Z => ?_)
      clear hc8
      refine lv_aload_n hx hb dX11_shown_28 rfl (lv_at hl 0 rfl) ?_
      refine g_0_7 B Z kf_RX11_69 dX11_shown_29 ?_
      refine lv_iload_n hx hb dX11_shown_32 rfl (lv_at hl 2 rfl) ?_
      obtain ⟨r12, hc10, h9⟩ := db1_s h8
      clear h8
      refine cV_I [.int a2] [] B mx_yX10_byteAt (c_fWr_byteAt l X _ a2 σ10 r12 hc10) kl_RX11_223 mi_yX10_byteAt (rv_31 _ _) hcl_10 Z hl rfl rfl ⟨Nat.le_of_ble_eq_true rfl, Nat.le_of_ble_eq_true rfl⟩ rfl rfl (Nat.le_of_ble_eq_true rfl) dX11_shown_33 (fun H locs Z => ?_)
      clear hc10
      exact reI B Z rfl hz h9 dX11_shown_36
    · have h10 := dif h6 c8
      clear h6
      exact kJ3  _ _ _ Z (lv_sub hl [0] rfl) h10
theorem dX0_restore_0 : decode cX0_restore 0 = .ok (.aload_n 0, 1) := by decide +kernel
theorem dX0_restore_1 : decode cX0_restore 1 = .ok (.getfield 42, 3) := by decide +kernel
theorem dX0_restore_4 : decode cX0_restore 4 = .ok (.ifCond .gt 4, 3) := by decide +kernel
theorem dX0_restore_7 : decode cX0_restore 7 = .ok (.return_, 1) := by decide +kernel
theorem dX0_restore_8 : decode cX0_restore 8 = .ok (.aload_n 0, 1) := by decide +kernel
theorem dX0_restore_9 : decode cX0_restore 9 = .ok (.aload_n 0, 1) := by decide +kernel
theorem dX0_restore_10 : decode cX0_restore 10 = .ok (.getfield 33, 3) := by decide +kernel
theorem dX0_restore_13 : decode cX0_restore 13 = .ok (.bipush 6, 2) := by decide +kernel
theorem dX0_restore_15 : decode cX0_restore 15 = .ok (.iadd, 1) := by decide +kernel
theorem dX0_restore_16 : decode cX0_restore 16 = .ok (.iconst 1, 1) := by decide +kernel
theorem dX0_restore_17 : decode cX0_restore 17 = .ok (.isub, 1) := by decide +kernel
theorem dX0_restore_18 : decode cX0_restore 18 = .ok (.bipush 6, 2) := by decide +kernel
theorem dX0_restore_20 : decode cX0_restore 20 = .ok (.irem, 1) := by decide +kernel
theorem dX0_restore_21 : decode cX0_restore 21 = .ok (.putfield 33, 3) := by decide +kernel
theorem dX0_restore_24 : decode cX0_restore 24 = .ok (.aload_n 0, 1) := by decide +kernel
theorem dX0_restore_25 : decode cX0_restore 25 = .ok (.getfield 15, 3) := by decide +kernel
theorem dX0_restore_28 : decode cX0_restore 28 = .ok (.aload_n 0, 1) := by decide +kernel
theorem dX0_restore_29 : decode cX0_restore 29 = .ok (.getfield 33, 3) := by decide +kernel
theorem dX0_restore_32 : decode cX0_restore 32 = .ok (.bipush 72, 2) := by decide +kernel
theorem dX0_restore_34 : decode cX0_restore 34 = .ok (.imul, 1) := by decide +kernel
theorem dX0_restore_35 : decode cX0_restore 35 = .ok (.aload_n 0, 1) := by decide +kernel
theorem dX0_restore_36 : decode cX0_restore 36 = .ok (.getfield 11, 3) := by decide +kernel
theorem dX0_restore_39 : decode cX0_restore 39 = .ok (.iconst 0, 1) := by decide +kernel
theorem dX0_restore_40 : decode cX0_restore 40 = .ok (.bipush 72, 2) := by decide +kernel
theorem dX0_restore_42 : decode cX0_restore 42 = .ok (.invokestatic 36, 3) := by decide +kernel
theorem dX0_restore_45 : decode cX0_restore 45 = .ok (.aload_n 0, 1) := by decide +kernel
theorem dX0_restore_46 : decode cX0_restore 46 = .ok (.aload_n 0, 1) := by decide +kernel
theorem dX0_restore_47 : decode cX0_restore 47 = .ok (.getfield 18, 3) := by decide +kernel
theorem dX0_restore_50 : decode cX0_restore 50 = .ok (.aload_n 0, 1) := by decide +kernel
theorem dX0_restore_51 : decode cX0_restore 51 = .ok (.getfield 33, 3) := by decide +kernel
theorem dX0_restore_54 : decode cX0_restore 54 = .ok (.iaload, 1) := by decide +kernel
theorem dX0_restore_55 : decode cX0_restore 55 = .ok (.putfield 21, 3) := by decide +kernel
theorem dX0_restore_58 : decode cX0_restore 58 = .ok (.aload_n 0, 1) := by decide +kernel
theorem dX0_restore_59 : decode cX0_restore 59 = .ok (.dup, 1) := by decide +kernel
theorem dX0_restore_60 : decode cX0_restore 60 = .ok (.getfield 42, 3) := by decide +kernel
theorem dX0_restore_63 : decode cX0_restore 63 = .ok (.iconst 1, 1) := by decide +kernel
theorem dX0_restore_64 : decode cX0_restore 64 = .ok (.isub, 1) := by decide +kernel
theorem dX0_restore_65 : decode cX0_restore 65 = .ok (.putfield 42, 3) := by decide +kernel
theorem dX0_restore_68 : decode cX0_restore 68 = .ok (.return_, 1) := by decide +kernel
def rm_fBk_restore : Room := { frames := 1, cells := 0, slots := 0, locals := 60 }
set_option maxHeartbeats 4000000 in
set_option maxRecDepth 100000 in
theorem c_fBk_restore (l : Launch) (X : eX) (sz : Nat)  (σ : sT) (σz : sT) (h0 : fBk_restore σ = some σz) : ctV l yX0_restore cX0_restore 1 none rm_fBk_restore [.ref (X.2.1 1)] (wC X) (tC X) (aC X) X sz σ σz := by
  refine ct_of (by decide +kernel) (Nat.le_of_ble_eq_true rfl) ?_
  intro p e s m args below meth c ls hz B hl Z
  have B : Bd p s m args meth c RX0 cX0_restore 1 none := B
  have hl : lv_has ls 1 [(0, .ref (X.2.1 1))] := hl
  have hx := B.1
  have hb := B.2.1
  unfold fBk_restore at h0
  refine lv_aload_n hx hb dX0_restore_0 rfl (lv_at hl 0 rfl) ?_
  refine g_1_5 B Z kf_RX0_42 dX0_restore_1 ?_
  refine lv_if_gt (tgt := 8) hx hb dX0_restore_4 (by decide) (fun c1 => ?_) (fun c1 => ?_)
  · have h1 := dit h0 c1
    clear h0
    refine lv_aload_n hx hb dX0_restore_8 rfl (lv_at hl 0 rfl) ?_
    refine lv_aload_n hx hb dX0_restore_9 rfl (lv_at hl 0 rfl) ?_
    refine g_1_4 B Z kf_RX0_33 dX0_restore_10 ?_
    refine lv_bipush (v := (6 : Int32)) hx hb dX0_restore_13 (by decide) ?_
    refine lv_iadd hx hb dX0_restore_15 ?_
    refine lv_iconst (v := (1 : Int32)) hx hb dX0_restore_16 (by decide) ?_
    refine lv_isub hx hb dX0_restore_17 ?_
    refine lv_bipush (v := (6 : Int32)) hx hb dX0_restore_18 (by decide) ?_
    refine lv_irem hx hb dX0_restore_20 (by decide) ?_
    refine s_1_4 B Z kf_RX0_33 dX0_restore_21 (fun H locs Z => ?_)
    obtain ⟨σ2, eσ2, h2⟩ := dlt_s h1
    clear h1
    replace Z := Wd.eq eσ2 Z
    clear eσ2
    refine lv_aload_n hx hb dX0_restore_24 rfl (lv_at hl 0 rfl) ?_
    refine g_1_1 B Z kf_RX0_15 dX0_restore_25 ?_
    refine lv_aload_n hx hb dX0_restore_28 rfl (lv_at hl 0 rfl) ?_
    refine g_1_4 B Z kf_RX0_33 dX0_restore_29 ?_
    refine lv_bipush (v := (72 : Int32)) hx hb dX0_restore_32 (by decide) ?_
    refine lv_imul hx hb dX0_restore_34 ?_
    refine lv_aload_n hx hb dX0_restore_35 rfl (lv_at hl 0 rfl) ?_
    refine g_1_0 B Z kf_RX0_11 dX0_restore_36 ?_
    refine lv_iconst (v := (0 : Int32)) hx hb dX0_restore_39 (by decide) ?_
    refine lv_bipush (v := (72 : Int32)) hx hb dX0_restore_40 (by decide) ?_
    obtain ⟨z3, h3⟩ := dck_s h2
    clear h2
    refine cp_3_2 B Z hl kl_RX0_36 z3 (Nat.le_of_ble_eq_true rfl) (Nat.le_of_ble_eq_true rfl) dX0_restore_42 (fun H locs Z => ?_)
    obtain ⟨σ4, eσ4, h4⟩ := dlt_s h3
    clear h3
    replace Z := Wd.eq eσ4 Z
    clear eσ4
    refine lv_aload_n hx hb dX0_restore_45 rfl (lv_at hl 0 rfl) ?_
    refine lv_aload_n hx hb dX0_restore_46 rfl (lv_at hl 0 rfl) ?_
    refine g_1_2 B Z kf_RX0_18 dX0_restore_47 ?_
    refine lv_aload_n hx hb dX0_restore_50 rfl (lv_at hl 0 rfl) ?_
    refine g_1_4 B Z kf_RX0_33 dX0_restore_51 ?_
    obtain ⟨z5, h5⟩ := dck_s h4
    clear h4
    refine ld_4 B Z z5 dX0_restore_54 ?_
    refine s_1_3 B Z kf_RX0_21 dX0_restore_55 (fun H locs Z => ?_)
    obtain ⟨σ6, eσ6, h6⟩ := dlt_s h5
    clear h5
    replace Z := Wd.eq eσ6 Z
    clear eσ6
    refine lv_aload_n hx hb dX0_restore_58 rfl (lv_at hl 0 rfl) ?_
    refine lv_dup hx hb dX0_restore_59 rfl ?_
    refine g_1_5 B Z kf_RX0_42 dX0_restore_60 ?_
    refine lv_iconst (v := (1 : Int32)) hx hb dX0_restore_63 (by decide) ?_
    refine lv_isub hx hb dX0_restore_64 ?_
    refine s_1_5 B Z kf_RX0_42 dX0_restore_65 (fun H locs Z => ?_)
    obtain ⟨σ7, eσ7, h7⟩ := dlt_s h6
    clear h6
    replace Z := Wd.eq eσ7 Z
    clear eσ7
    exact reV B Z hz h7 dX0_restore_68
  · have h8 := dif h0 c1
    clear h0
    exact reV B Z hz h8 dX0_restore_7
theorem dX11_back_0 : decode cX11_back 0 = .ok (.aload_n 0, 1) := by decide +kernel
theorem dX11_back_1 : decode cX11_back 1 = .ok (.getfield 10, 3) := by decide +kernel
theorem dX11_back_4 : decode cX11_back 4 = .ok (.getfield 226, 3) := by decide +kernel
theorem dX11_back_7 : decode cX11_back 7 = .ok (.ifCond .gt 8, 3) := by decide +kernel
theorem dX11_back_10 : decode cX11_back 10 = .ok (.aload_n 0, 1) := by decide +kernel
theorem dX11_back_11 : decode cX11_back 11 = .ok (.invokevirtual 124, 3) := by decide +kernel
theorem dX11_back_14 : decode cX11_back 14 = .ok (.ireturn, 1) := by decide +kernel
theorem dX11_back_15 : decode cX11_back 15 = .ok (.aload_n 0, 1) := by decide +kernel
theorem dX11_back_16 : decode cX11_back 16 = .ok (.getfield 10, 3) := by decide +kernel
theorem dX11_back_19 : decode cX11_back 19 = .ok (.invokevirtual 229, 3) := by decide +kernel
theorem dX11_back_22 : decode cX11_back 22 = .ok (.aload_n 0, 1) := by decide +kernel
theorem dX11_back_23 : decode cX11_back 23 = .ok (.getfield 10, 3) := by decide +kernel
theorem dX11_back_26 : decode cX11_back 26 = .ok (.getfield 226, 3) := by decide +kernel
theorem dX11_back_29 : decode cX11_back 29 = .ok (.ireturn, 1) := by decide +kernel
def rm_fRM_back : Room := { frames := 2, cells := 0, slots := 0, locals := 80 }
set_option maxHeartbeats 4000000 in
set_option maxRecDepth 100000 in
theorem c_fRM_back (l : Launch) (X : eX) (sz : Nat)  (σ : sT) (rz : Int32) (σz : sT) (h0 : fRM_back σ = some (rz, σz)) : ctI l yX11_back cX11_back 1 (some .int) rm_fRM_back [.ref (X.2.1 0)] (wC X) (tC X) (aC X) X sz σ rz σz := by
  refine ct_of (by decide +kernel) (Nat.le_of_ble_eq_true rfl) ?_
  intro p e s m args below meth c ls hz B hl Z
  have B : Bd p s m args meth c RX11 cX11_back 1 (some .int) := B
  have hl : lv_has ls 1 [(0, .ref (X.2.1 0))] := hl
  have hx := B.1
  have hb := B.2.1
  unfold fRM_back at h0
  refine lv_aload_n hx hb dX11_back_0 rfl (lv_at hl 0 rfl) ?_
  refine g_0_0 B Z kf_RX11_10 dX11_back_1 ?_
  refine gn_1_5 B Z kx_RX11_226 dX11_back_4 ?_
  refine lv_if_gt (tgt := 15) hx hb dX11_back_7 (by decide) (fun c1 => ?_) (fun c1 => ?_)
  · have h1 := dit h0 c1
    clear h0
    refine lv_aload_n hx hb dX11_back_15 rfl (lv_at hl 0 rfl) ?_
    refine g_0_0 B Z kf_RX11_10 dX11_back_16 ?_
    obtain ⟨σ3, hc1, h2⟩ := db1_s h1
    clear h1
    refine cV_V [] [] B mx_yX0_restore (c_fBk_restore l X _ σ σ3 hc1) kl_RX11_229 mi_yX0_restore (rv_1 _ _) hcl_0 Z hl rfl rfl ⟨Nat.le_of_ble_eq_true rfl, Nat.le_of_ble_eq_true rfl⟩ rfl rfl (Nat.le_of_ble_eq_true rfl) dX11_back_19 (fun H locs Z => ?_)
    clear hc1
    refine lv_aload_n hx hb dX11_back_22 rfl (lv_at hl 0 rfl) ?_
    refine g_0_0 B Z kf_RX11_10 dX11_back_23 ?_
    refine gn_1_5 B Z kx_RX11_226 dX11_back_26 ?_
    exact reI B Z rfl hz h2 dX11_back_29
  · have h3 := dif h0 c1
    clear h0
    refine lv_aload_n hx hb dX11_back_10 rfl (lv_at hl 0 rfl) ?_
    obtain ⟨r5, σ6, hc3, h4⟩ := db2_s h3
    clear h3
    refine cV_I [] [] B mx_yX11_no (c_fRM_no l X _ σ r5 σ6 hc3) kl_RX11_124 mi_yX11_no (rv_0 _ _) hcl_11 Z hl rfl rfl ⟨Nat.le_of_ble_eq_true rfl, Nat.le_of_ble_eq_true rfl⟩ rfl rfl (Nat.le_of_ble_eq_true rfl) dX11_back_11 (fun H locs Z => ?_)
    clear hc3
    exact reI B Z rfl hz h4 dX11_back_14
theorem dX11_countOf_0 : decode cX11_countOf 0 = .ok (.iload_n 1, 1) := by decide +kernel
theorem dX11_countOf_1 : decode cX11_countOf 1 = .ok (.tableswitch 66 0 4 #[35, 40, 45, 50, 58], 35) := by decide +kernel
theorem dX11_countOf_36 : decode cX11_countOf 36 = .ok (.aload_n 0, 1) := by decide +kernel
theorem dX11_countOf_37 : decode cX11_countOf 37 = .ok (.getfield 246, 3) := by decide +kernel
theorem dX11_countOf_40 : decode cX11_countOf 40 = .ok (.ireturn, 1) := by decide +kernel
theorem dX11_countOf_41 : decode cX11_countOf 41 = .ok (.aload_n 0, 1) := by decide +kernel
theorem dX11_countOf_42 : decode cX11_countOf 42 = .ok (.getfield 249, 3) := by decide +kernel
theorem dX11_countOf_45 : decode cX11_countOf 45 = .ok (.ireturn, 1) := by decide +kernel
theorem dX11_countOf_46 : decode cX11_countOf 46 = .ok (.aload_n 0, 1) := by decide +kernel
theorem dX11_countOf_47 : decode cX11_countOf 47 = .ok (.getfield 252, 3) := by decide +kernel
theorem dX11_countOf_50 : decode cX11_countOf 50 = .ok (.ireturn, 1) := by decide +kernel
theorem dX11_countOf_51 : decode cX11_countOf 51 = .ok (.aload_n 0, 1) := by decide +kernel
theorem dX11_countOf_52 : decode cX11_countOf 52 = .ok (.getfield 44, 3) := by decide +kernel
theorem dX11_countOf_55 : decode cX11_countOf 55 = .ok (.getfield 213, 3) := by decide +kernel
theorem dX11_countOf_58 : decode cX11_countOf 58 = .ok (.ireturn, 1) := by decide +kernel
theorem dX11_countOf_59 : decode cX11_countOf 59 = .ok (.aload_n 0, 1) := by decide +kernel
theorem dX11_countOf_60 : decode cX11_countOf 60 = .ok (.getfield 10, 3) := by decide +kernel
theorem dX11_countOf_63 : decode cX11_countOf 63 = .ok (.getfield 85, 3) := by decide +kernel
theorem dX11_countOf_66 : decode cX11_countOf 66 = .ok (.ireturn, 1) := by decide +kernel
theorem dX11_countOf_67 : decode cX11_countOf 67 = .ok (.aload_n 0, 1) := by decide +kernel
theorem dX11_countOf_68 : decode cX11_countOf 68 = .ok (.getfield 10, 3) := by decide +kernel
theorem dX11_countOf_71 : decode cX11_countOf 71 = .ok (.getfield 226, 3) := by decide +kernel
theorem dX11_countOf_74 : decode cX11_countOf 74 = .ok (.ireturn, 1) := by decide +kernel
def rm_fRM_countOf : Room := { frames := 1, cells := 0, slots := 0, locals := 60 }
set_option maxHeartbeats 4000000 in
set_option maxRecDepth 100000 in
theorem c_fRM_countOf (l : Launch) (X : eX) (sz : Nat) (a1 : Int32) (σ : sT) (rz : Int32) (h0 : fRM_countOf a1 σ = some rz) : ctI l yX11_countOf cX11_countOf 2 (some .int) rm_fRM_countOf [.ref (X.2.1 0), .int a1] (wC X) (tC X) (aC X) X sz σ rz σ := by
  refine ct_of (by decide +kernel) (Nat.le_of_ble_eq_true rfl) ?_
  intro p e s m args below meth c ls hz B hl Z
  have B : Bd p s m args meth c RX11 cX11_countOf 2 (some .int) := B
  have hl : lv_has ls 2 [(0, .ref (X.2.1 0)), (1, .int a1)] := hl
  have hx := B.1
  have hb := B.2.1
  unfold fRM_countOf at h0
  refine lv_iload_n hx hb dX11_countOf_0 rfl (lv_at hl 1 rfl) ?_
  by_cases c1 : a1 = (0 : Int32)
  · have h1 := dit h0 c1
    clear h0
    refine lv_tableIn (tgt := 36) hx hb dX11_countOf_1 (by rw [c1]; decide) (by rw [c1]; decide) (by rw [c1]; rfl) (by decide) ?_
    refine lv_aload_n hx hb dX11_countOf_36 rfl (lv_at hl 0 rfl) ?_
    refine g_0_8 B Z kf_RX11_246 dX11_countOf_37 ?_
    exact reI B Z rfl hz (congrArg (Option.map (fun q => (q, σ))) h1) dX11_countOf_40
  · have h2 := dif h0 c1
    clear h0
    by_cases c2 : a1 = (1 : Int32)
    · have h3 := dit h2 c2
      clear h2
      refine lv_tableIn (tgt := 41) hx hb dX11_countOf_1 (by rw [c2]; decide) (by rw [c2]; decide) (by rw [c2]; rfl) (by decide) ?_
      refine lv_aload_n hx hb dX11_countOf_41 rfl (lv_at hl 0 rfl) ?_
      refine g_0_9 B Z kf_RX11_249 dX11_countOf_42 ?_
      exact reI B Z rfl hz (congrArg (Option.map (fun q => (q, σ))) h3) dX11_countOf_45
    · have h4 := dif h2 c2
      clear h2
      by_cases c3 : a1 = (2 : Int32)
      · have h5 := dit h4 c3
        clear h4
        refine lv_tableIn (tgt := 46) hx hb dX11_countOf_1 (by rw [c3]; decide) (by rw [c3]; decide) (by rw [c3]; rfl) (by decide) ?_
        refine lv_aload_n hx hb dX11_countOf_46 rfl (lv_at hl 0 rfl) ?_
        refine g_0_10 B Z kf_RX11_252 dX11_countOf_47 ?_
        exact reI B Z rfl hz (congrArg (Option.map (fun q => (q, σ))) h5) dX11_countOf_50
      · have h6 := dif h4 c3
        clear h4
        by_cases c4 : a1 = (3 : Int32)
        · have h7 := dit h6 c4
          clear h6
          refine lv_tableIn (tgt := 51) hx hb dX11_countOf_1 (by rw [c4]; decide) (by rw [c4]; decide) (by rw [c4]; rfl) (by decide) ?_
          refine lv_aload_n hx hb dX11_countOf_51 rfl (lv_at hl 0 rfl) ?_
          refine g_0_4 B Z kf_RX11_44 dX11_countOf_52 ?_
          refine gn_26_1 B Z kx_RX11_213 dX11_countOf_55 ?_
          exact reI B Z rfl hz (congrArg (Option.map (fun q => (q, σ))) h7) dX11_countOf_58
        · have h8 := dif h6 c4
          clear h6
          by_cases c5 : a1 = (4 : Int32)
          · have h9 := dit h8 c5
            clear h8
            refine lv_tableIn (tgt := 59) hx hb dX11_countOf_1 (by rw [c5]; decide) (by rw [c5]; decide) (by rw [c5]; rfl) (by decide) ?_
            refine lv_aload_n hx hb dX11_countOf_59 rfl (lv_at hl 0 rfl) ?_
            refine g_0_0 B Z kf_RX11_10 dX11_countOf_60 ?_
            refine gn_1_3 B Z kx_RX11_85 dX11_countOf_63 ?_
            exact reI B Z rfl hz (congrArg (Option.map (fun q => (q, σ))) h9) dX11_countOf_66
          · have h10 := dif h8 c5
            clear h8
            refine lv_tableOut (tgt := 67) hx hb dX11_countOf_1 (sw5 c1 c2 c3 c4 c5) (by decide) ?_
            refine lv_aload_n hx hb dX11_countOf_67 rfl (lv_at hl 0 rfl) ?_
            refine g_0_0 B Z kf_RX11_10 dX11_countOf_68 ?_
            refine gn_1_5 B Z kx_RX11_226 dX11_countOf_71 ?_
            exact reI B Z rfl hz (congrArg (Option.map (fun q => (q, σ))) h10) dX11_countOf_74
theorem dX11_told_0 : decode cX11_told 0 = .ok (.iload_n 1, 1) := by decide +kernel
theorem dX11_told_1 : decode cX11_told 1 = .ok (.iconst 0, 1) := by decide +kernel
theorem dX11_told_2 : decode cX11_told 2 = .ok (.iconst 5, 1) := by decide +kernel
theorem dX11_told_3 : decode cX11_told 3 = .ok (.invokestatic 106, 3) := by decide +kernel
theorem dX11_told_6 : decode cX11_told 6 = .ok (.ifCond .ne 8, 3) := by decide +kernel
theorem dX11_told_9 : decode cX11_told 9 = .ok (.aload_n 0, 1) := by decide +kernel
theorem dX11_told_10 : decode cX11_told 10 = .ok (.invokevirtual 77, 3) := by decide +kernel
theorem dX11_told_13 : decode cX11_told 13 = .ok (.ireturn, 1) := by decide +kernel
theorem dX11_told_14 : decode cX11_told 14 = .ok (.aload_n 0, 1) := by decide +kernel
theorem dX11_told_15 : decode cX11_told 15 = .ok (.iload_n 1, 1) := by decide +kernel
theorem dX11_told_16 : decode cX11_told 16 = .ok (.invokevirtual 232, 3) := by decide +kernel
theorem dX11_told_19 : decode cX11_told 19 = .ok (.ireturn, 1) := by decide +kernel
def rm_fRM_told : Room := { frames := 2, cells := 0, slots := 0, locals := 82 }
set_option maxHeartbeats 4000000 in
set_option maxRecDepth 100000 in
theorem c_fRM_told (l : Launch) (X : eX) (sz : Nat) (a1 : Int32) (σ : sT) (rz : Int32) (σz : sT) (h0 : fRM_told a1 σ = some (rz, σz)) : ctI l yX11_told cX11_told 2 (some .int) rm_fRM_told [.ref (X.2.1 0), .int a1] (wC X) (tC X) (aC X) X sz σ rz σz := by
  refine ct_of (by decide +kernel) (Nat.le_of_ble_eq_true rfl) ?_
  intro p e s m args below meth c ls hz B hl Z
  have B : Bd p s m args meth c RX11 cX11_told 2 (some .int) := B
  have hl : lv_has ls 2 [(0, .ref (X.2.1 0)), (1, .int a1)] := hl
  have hx := B.1
  have hb := B.2.1
  unfold fRM_told at h0
  refine lv_iload_n hx hb dX11_told_0 rfl (lv_at hl 1 rfl) ?_
  refine lv_iconst (v := (0 : Int32)) hx hb dX11_told_1 (by decide) ?_
  refine lv_iconst (v := (5 : Int32)) hx hb dX11_told_2 (by decide) ?_
  obtain ⟨r2, hc0, h1⟩ := db1_s h0
  clear h0
  refine cS_I [.int a1, .int (0 : Int32), .int (5 : Int32)] [] B mx_yX11_isWithin (c_fRM_isWithin l X _ a1 (0 : Int32) (5 : Int32) σ r2 hc0) kl_RX11_106 ks_yX11_isWithin Z hl rfl rfl ⟨Nat.le_of_ble_eq_true rfl, Nat.le_of_ble_eq_true rfl⟩ rfl rfl (Nat.le_of_ble_eq_true rfl) dX11_told_3 (fun H locs Z => ?_)
  clear hc0
  refine lv_if_ne (tgt := 14) hx hb dX11_told_6 (by decide) (fun c3 => ?_) (fun c3 => ?_)
  · have h2 := dif h1 c3
    clear h1
    refine lv_aload_n hx hb dX11_told_14 rfl (lv_at hl 0 rfl) ?_
    refine lv_iload_n hx hb dX11_told_15 rfl (lv_at hl 1 rfl) ?_
    obtain ⟨r5, hc3, h3⟩ := db1_s h2
    clear h2
    refine cV_I [.int a1] [] B mx_yX11_countOf (c_fRM_countOf l X _ a1 σ r5 hc3) kl_RX11_232 mi_yX11_countOf (rv_0 _ _) hcl_11 Z hl rfl rfl ⟨Nat.le_of_ble_eq_true rfl, Nat.le_of_ble_eq_true rfl⟩ rfl rfl (Nat.le_of_ble_eq_true rfl) dX11_told_16 (fun H locs Z => ?_)
    clear hc3
    exact reI B Z rfl hz h3 dX11_told_19
  · have h4 := dit h1 c3
    clear h1
    refine lv_aload_n hx hb dX11_told_9 rfl (lv_at hl 0 rfl) ?_
    obtain ⟨r7, σ8, hc5, h5⟩ := db2_s h4
    clear h4
    refine cV_I [] [] B mx_yX11_bad (c_fRM_bad l X _ σ r7 σ8 hc5) kl_RX11_77 mi_yX11_bad (rv_0 _ _) hcl_11 Z hl rfl rfl ⟨Nat.le_of_ble_eq_true rfl, Nat.le_of_ble_eq_true rfl⟩ rfl rfl (Nat.le_of_ble_eq_true rfl) dX11_told_10 (fun H locs Z => ?_)
    clear hc5
    exact reI B Z rfl hz h5 dX11_told_13
theorem dX11_digestWeights_0 : decode cX11_digestWeights 0 = .ok (.lload_n 1, 1) := by decide +kernel
theorem dX11_digestWeights_1 : decode cX11_digestWeights 1 = .ok (.lstore_n 3, 1) := by decide +kernel
theorem dX11_digestWeights_2 : decode cX11_digestWeights 2 = .ok (.iconst 0, 1) := by decide +kernel
theorem dX11_digestWeights_3 : decode cX11_digestWeights 3 = .ok (.istore 5, 2) := by decide +kernel
theorem dX11_digestWeights_5 : decode cX11_digestWeights 5 = .ok (.iload 5, 2) := by decide +kernel
theorem dX11_digestWeights_7 : decode cX11_digestWeights 7 = .ok (.aload_n 0, 1) := by decide +kernel
theorem dX11_digestWeights_8 : decode cX11_digestWeights 8 = .ok (.getfield 10, 3) := by decide +kernel
theorem dX11_digestWeights_11 : decode cX11_digestWeights 11 = .ok (.getfield 85, 3) := by decide +kernel
theorem dX11_digestWeights_14 : decode cX11_digestWeights 14 = .ok (.if_icmp .ge 26, 3) := by decide +kernel
theorem dX11_digestWeights_17 : decode cX11_digestWeights 17 = .ok (.ldc2_w 237, 3) := by decide +kernel
theorem dX11_digestWeights_20 : decode cX11_digestWeights 20 = .ok (.lload_n 3, 1) := by decide +kernel
theorem dX11_digestWeights_21 : decode cX11_digestWeights 21 = .ok (.lmul, 1) := by decide +kernel
theorem dX11_digestWeights_22 : decode cX11_digestWeights 22 = .ok (.aload_n 0, 1) := by decide +kernel
theorem dX11_digestWeights_23 : decode cX11_digestWeights 23 = .ok (.getfield 28, 3) := by decide +kernel
theorem dX11_digestWeights_26 : decode cX11_digestWeights 26 = .ok (.iload 5, 2) := by decide +kernel
theorem dX11_digestWeights_28 : decode cX11_digestWeights 28 = .ok (.invokevirtual 170, 3) := by decide +kernel
theorem dX11_digestWeights_31 : decode cX11_digestWeights 31 = .ok (.i2l, 1) := by decide +kernel
theorem dX11_digestWeights_32 : decode cX11_digestWeights 32 = .ok (.ladd, 1) := by decide +kernel
theorem dX11_digestWeights_33 : decode cX11_digestWeights 33 = .ok (.lstore_n 3, 1) := by decide +kernel
theorem dX11_digestWeights_34 : decode cX11_digestWeights 34 = .ok (.iinc 5 1, 3) := by decide +kernel
theorem dX11_digestWeights_37 : decode cX11_digestWeights 37 = .ok (.goto (-32), 3) := by decide +kernel
theorem dX11_digestWeights_40 : decode cX11_digestWeights 40 = .ok (.lload_n 3, 1) := by decide +kernel
theorem dX11_digestWeights_41 : decode cX11_digestWeights 41 = .ok (.lreturn, 1) := by decide +kernel
def rm_fRM_digestWeights : Room := { frames := 2, cells := 0, slots := 0, locals := 82 }
set_option maxHeartbeats 4000000 in
set_option maxRecDepth 100000 in
theorem c_fRM_digestWeights (l : Launch) (X : eX) (sz : Nat) (a1 : Int64) (σ : sT) (rz : Int64) (h0 : fRM_digestWeights a1 σ = some rz) : ctL l yX11_digestWeights cX11_digestWeights 6 (some .long) rm_fRM_digestWeights [.ref (X.2.1 0), .long a1] (wC X) (tC X) (aC X) X sz σ rz σ := by
  refine ct_of (by decide +kernel) (Nat.le_of_ble_eq_true rfl) ?_
  intro p e s m args below meth c ls hz B hl Z
  have B : Bd p s m args meth c RX11 cX11_digestWeights 6 (some .long) := B
  have hl : lv_has ls 6 [(0, .ref (X.2.1 0)), (1, .long a1)] := hl
  have hx := B.1
  have hb := B.2.1
  unfold fRM_digestWeights at h0
  refine lv_lload_n hx hb dX11_digestWeights_0 rfl (lv_at hl 1 rfl) ?_
  refine lv_lstore_n (lv' := [(3, .long a1), (0, .ref (X.2.1 0)), (1, .long a1)]) hx hb dX11_digestWeights_1 rfl hl (by decide) rfl (fun ls hl => ?_)
  refine lv_iconst (v := (0 : Int32)) hx hb dX11_digestWeights_2 (by decide) ?_
  refine lv_istore (lv' := [(5, .int (0 : Int32)), (3, .long a1), (0, .ref (X.2.1 0)), (1, .long a1)]) hx hb dX11_digestWeights_3 hl (by decide) rfl (fun ls hl => ?_)
  have lL5 : ∀ (n : Nat), ∀ (x1 : Int64) (x2 : Int32) (H : Heap) (locs : List Loc) (ls : Array Slot), Wd (wC X) (tC X) (aC X) X s σ H locs → lv_has ls 6 [(0, .ref (X.2.1 0)), (3, .long x1), (5, .int x2)] → fRM_digestWeights_L5 σ n x1 x2 = some rz → W p l e rm_fRM_digestWeights s m args below meth c H locs 0 0 (MQ below (va_Ql (fun a u => a = rz ∧ u = σ) (poW (wC X) (tC X) (aC X) X sz) (aA (aC X) sz)) args s 0 0 (aA (aC X) sz)) (F0 m 5 ls []) := by
    intro n
    induction n with
    | zero =>
      intro x1 x2 H locs ls Z hl h
      exact nomatch (show (none : Option (Int64)) = some _ from h)
    | succ n3 ih4 =>
      intro x1 x2 H locs ls Z hl h1
      unfold fRM_digestWeights_L5 at h1
      refine lv_iload hx hb dX11_digestWeights_5 (lv_at hl 2 rfl) ?_
      refine lv_aload_n hx hb dX11_digestWeights_7 rfl (lv_at hl 0 rfl) ?_
      refine g_0_0 B Z kf_RX11_10 dX11_digestWeights_8 ?_
      refine gn_1_3 B Z kx_RX11_85 dX11_digestWeights_11 ?_
      refine lv_icmp_ge (tgt := 40) hx hb dX11_digestWeights_14 (by decide) (fun c4 => ?_) (fun c4 => ?_)
      · have h2 := dit h1 c4
        clear h1
        refine lv_lload_n hx hb dX11_digestWeights_40 rfl (lv_at hl 1 rfl) ?_
        exact reL B Z hz (congrArg (Option.map (fun q => (q, σ))) h2) dX11_digestWeights_41
      · have h3 := dif h1 c4
        clear h1
        refine lv_ldc2 hx hb B.2.2.2.1 (B.2.2.2.2.1 _ kc_RX11_237) dX11_digestWeights_17 ?_
        refine lv_lload_n hx hb dX11_digestWeights_20 rfl (lv_at hl 1 rfl) ?_
        refine lv_lmul hx hb dX11_digestWeights_21 ?_
        refine lv_aload_n hx hb dX11_digestWeights_22 rfl (lv_at hl 0 rfl) ?_
        refine g_0_2 B Z kf_RX11_28 dX11_digestWeights_23 ?_
        refine lv_iload hx hb dX11_digestWeights_26 (lv_at hl 2 rfl) ?_
        obtain ⟨r6, hc4, h4⟩ := db1_s h3
        clear h3
        refine cV_I [.int x2] [.long ((31 : Int64) * x1)] B mx_yX9_weightOf (c_fWt_weightOf l X _ x2 σ r6 hc4) kl_RX11_170 mi_yX9_weightOf (rv_20 _ _) hcl_9 Z hl rfl rfl ⟨Nat.le_of_ble_eq_true rfl, Nat.le_of_ble_eq_true rfl⟩ rfl rfl (Nat.le_of_ble_eq_true rfl) dX11_digestWeights_28 (fun H locs Z => ?_)
        clear hc4
        refine lv_i2l hx hb dX11_digestWeights_31 rfl ?_
        refine lv_ladd hx hb dX11_digestWeights_32 ?_
        refine lv_topl (fun x7 ex7 => ?_)
        have h5 := dlt_e ex7 h4
        clear ex7 h4
        refine lv_lstore_n (lv' := [(3, .long x7), (0, .ref (X.2.1 0)), (5, .int x2)]) hx hb dX11_digestWeights_33 rfl hl (by decide) rfl (fun ls hl => ?_)
        refine lv_iinc (v := x2 + (1 : Int32)) (lv' := [(5, .int (x2 + (1 : Int32))), (3, .long x7), (0, .ref (X.2.1 0))]) hx hb dX11_digestWeights_34 hl (k := 2) rfl (by rfl) (by decide) rfl (fun ls hl => ?_)
        refine lv_goto (tgt := 5) hx hb dX11_digestWeights_37 (by decide) ?_
        exact ih4 x7 (x2 + (1 : Int32)) _ _ _ Z (lv_sub hl [2, 1, 0] rfl) h5
  exact lL5 FU a1 (0 : Int32) _ _ _ Z (lv_sub hl [2, 1, 0] rfl) h0
theorem dX11_digestSolution_0 : decode cX11_digestSolution 0 = .ok (.lload_n 1, 1) := by decide +kernel
theorem dX11_digestSolution_1 : decode cX11_digestSolution 1 = .ok (.lstore_n 3, 1) := by decide +kernel
theorem dX11_digestSolution_2 : decode cX11_digestSolution 2 = .ok (.iconst 0, 1) := by decide +kernel
theorem dX11_digestSolution_3 : decode cX11_digestSolution 3 = .ok (.istore 5, 2) := by decide +kernel
theorem dX11_digestSolution_5 : decode cX11_digestSolution 5 = .ok (.iload 5, 2) := by decide +kernel
theorem dX11_digestSolution_7 : decode cX11_digestSolution 7 = .ok (.iconst 3, 1) := by decide +kernel
theorem dX11_digestSolution_8 : decode cX11_digestSolution 8 = .ok (.if_icmp .ge 43, 3) := by decide +kernel
theorem dX11_digestSolution_11 : decode cX11_digestSolution 11 = .ok (.ldc2_w 237, 3) := by decide +kernel
theorem dX11_digestSolution_14 : decode cX11_digestSolution 14 = .ok (.lload_n 3, 1) := by decide +kernel
theorem dX11_digestSolution_15 : decode cX11_digestSolution 15 = .ok (.lmul, 1) := by decide +kernel
theorem dX11_digestSolution_16 : decode cX11_digestSolution 16 = .ok (.aload_n 0, 1) := by decide +kernel
theorem dX11_digestSolution_17 : decode cX11_digestSolution 17 = .ok (.getfield 21, 3) := by decide +kernel
theorem dX11_digestSolution_20 : decode cX11_digestSolution 20 = .ok (.getfield 157, 3) := by decide +kernel
theorem dX11_digestSolution_23 : decode cX11_digestSolution 23 = .ok (.iload 5, 2) := by decide +kernel
theorem dX11_digestSolution_25 : decode cX11_digestSolution 25 = .ok (.laload, 1) := by decide +kernel
theorem dX11_digestSolution_26 : decode cX11_digestSolution 26 = .ok (.ladd, 1) := by decide +kernel
theorem dX11_digestSolution_27 : decode cX11_digestSolution 27 = .ok (.lstore_n 3, 1) := by decide +kernel
theorem dX11_digestSolution_28 : decode cX11_digestSolution 28 = .ok (.ldc2_w 237, 3) := by decide +kernel
theorem dX11_digestSolution_31 : decode cX11_digestSolution 31 = .ok (.lload_n 3, 1) := by decide +kernel
theorem dX11_digestSolution_32 : decode cX11_digestSolution 32 = .ok (.lmul, 1) := by decide +kernel
theorem dX11_digestSolution_33 : decode cX11_digestSolution 33 = .ok (.aload_n 0, 1) := by decide +kernel
theorem dX11_digestSolution_34 : decode cX11_digestSolution 34 = .ok (.getfield 21, 3) := by decide +kernel
theorem dX11_digestSolution_37 : decode cX11_digestSolution 37 = .ok (.getfield 161, 3) := by decide +kernel
theorem dX11_digestSolution_40 : decode cX11_digestSolution 40 = .ok (.iload 5, 2) := by decide +kernel
theorem dX11_digestSolution_42 : decode cX11_digestSolution 42 = .ok (.laload, 1) := by decide +kernel
theorem dX11_digestSolution_43 : decode cX11_digestSolution 43 = .ok (.ladd, 1) := by decide +kernel
theorem dX11_digestSolution_44 : decode cX11_digestSolution 44 = .ok (.lstore_n 3, 1) := by decide +kernel
theorem dX11_digestSolution_45 : decode cX11_digestSolution 45 = .ok (.iinc 5 1, 3) := by decide +kernel
theorem dX11_digestSolution_48 : decode cX11_digestSolution 48 = .ok (.goto (-43), 3) := by decide +kernel
theorem dX11_digestSolution_51 : decode cX11_digestSolution 51 = .ok (.lload_n 3, 1) := by decide +kernel
theorem dX11_digestSolution_52 : decode cX11_digestSolution 52 = .ok (.lreturn, 1) := by decide +kernel
def rm_fRM_digestSolution : Room := { frames := 1, cells := 0, slots := 0, locals := 60 }
set_option maxHeartbeats 4000000 in
set_option maxRecDepth 100000 in
theorem c_fRM_digestSolution (l : Launch) (X : eX) (sz : Nat) (a1 : Int64) (σ : sT) (rz : Int64) (h0 : fRM_digestSolution a1 σ = some rz) : ctL l yX11_digestSolution cX11_digestSolution 6 (some .long) rm_fRM_digestSolution [.ref (X.2.1 0), .long a1] (wC X) (tC X) (aC X) X sz σ rz σ := by
  refine ct_of (by decide +kernel) (Nat.le_of_ble_eq_true rfl) ?_
  intro p e s m args below meth c ls hz B hl Z
  have B : Bd p s m args meth c RX11 cX11_digestSolution 6 (some .long) := B
  have hl : lv_has ls 6 [(0, .ref (X.2.1 0)), (1, .long a1)] := hl
  have hx := B.1
  have hb := B.2.1
  unfold fRM_digestSolution at h0
  refine lv_lload_n hx hb dX11_digestSolution_0 rfl (lv_at hl 1 rfl) ?_
  refine lv_lstore_n (lv' := [(3, .long a1), (0, .ref (X.2.1 0)), (1, .long a1)]) hx hb dX11_digestSolution_1 rfl hl (by decide) rfl (fun ls hl => ?_)
  refine lv_iconst (v := (0 : Int32)) hx hb dX11_digestSolution_2 (by decide) ?_
  refine lv_istore (lv' := [(5, .int (0 : Int32)), (3, .long a1), (0, .ref (X.2.1 0)), (1, .long a1)]) hx hb dX11_digestSolution_3 hl (by decide) rfl (fun ls hl => ?_)
  have lL5 : ∀ (n : Nat), ∀ (x1 : Int64) (x2 : Int32) (H : Heap) (locs : List Loc) (ls : Array Slot), Wd (wC X) (tC X) (aC X) X s σ H locs → lv_has ls 6 [(0, .ref (X.2.1 0)), (3, .long x1), (5, .int x2)] → fRM_digestSolution_L5 σ n x1 x2 = some rz → W p l e rm_fRM_digestSolution s m args below meth c H locs 0 0 (MQ below (va_Ql (fun a u => a = rz ∧ u = σ) (poW (wC X) (tC X) (aC X) X sz) (aA (aC X) sz)) args s 0 0 (aA (aC X) sz)) (F0 m 5 ls []) := by
    intro n
    induction n with
    | zero =>
      intro x1 x2 H locs ls Z hl h
      exact nomatch (show (none : Option (Int64)) = some _ from h)
    | succ n3 ih4 =>
      intro x1 x2 H locs ls Z hl h1
      unfold fRM_digestSolution_L5 at h1
      refine lv_iload hx hb dX11_digestSolution_5 (lv_at hl 2 rfl) ?_
      refine lv_iconst (v := (3 : Int32)) hx hb dX11_digestSolution_7 (by decide) ?_
      refine lv_icmp_ge (tgt := 51) hx hb dX11_digestSolution_8 (by decide) (fun c4 => ?_) (fun c4 => ?_)
      · have h2 := dit h1 c4
        clear h1
        refine lv_lload_n hx hb dX11_digestSolution_51 rfl (lv_at hl 1 rfl) ?_
        exact reL B Z hz (congrArg (Option.map (fun q => (q, σ))) h2) dX11_digestSolution_52
      · have h3 := dif h1 c4
        clear h1
        refine lv_ldc2 hx hb B.2.2.2.1 (B.2.2.2.2.1 _ kc_RX11_237) dX11_digestSolution_11 ?_
        refine lv_lload_n hx hb dX11_digestSolution_14 rfl (lv_at hl 1 rfl) ?_
        refine lv_lmul hx hb dX11_digestSolution_15 ?_
        refine lv_aload_n hx hb dX11_digestSolution_16 rfl (lv_at hl 0 rfl) ?_
        refine g_0_1 B Z kf_RX11_21 dX11_digestSolution_17 ?_
        refine gn_5_7 B Z kx_RX11_157 dX11_digestSolution_20 ?_
        refine lv_iload hx hb dX11_digestSolution_23 (lv_at hl 2 rfl) ?_
        obtain ⟨z5, h4⟩ := dck_s h3
        clear h3
        refine ld_18 B Z z5 dX11_digestSolution_25 ?_
        refine lv_ladd hx hb dX11_digestSolution_26 ?_
        refine lv_topl (fun x6 ex6 => ?_)
        have h5 := dlt_e ex6 h4
        clear ex6 h4
        refine lv_lstore_n (lv' := [(3, .long x6), (0, .ref (X.2.1 0)), (5, .int x2)]) hx hb dX11_digestSolution_27 rfl hl (by decide) rfl (fun ls hl => ?_)
        refine lv_ldc2 hx hb B.2.2.2.1 (B.2.2.2.2.1 _ kc_RX11_237) dX11_digestSolution_28 ?_
        refine lv_lload_n hx hb dX11_digestSolution_31 rfl (lv_at hl 0 rfl) ?_
        refine lv_lmul hx hb dX11_digestSolution_32 ?_
        refine lv_aload_n hx hb dX11_digestSolution_33 rfl (lv_at hl 1 rfl) ?_
        refine g_0_1 B Z kf_RX11_21 dX11_digestSolution_34 ?_
        refine gn_5_8 B Z kx_RX11_161 dX11_digestSolution_37 ?_
        refine lv_iload hx hb dX11_digestSolution_40 (lv_at hl 2 rfl) ?_
        obtain ⟨z7, h6⟩ := dck_s h5
        clear h5
        refine ld_19 B Z z7 dX11_digestSolution_42 ?_
        refine lv_ladd hx hb dX11_digestSolution_43 ?_
        refine lv_topl (fun x8 ex8 => ?_)
        have h7 := dlt_e ex8 h6
        clear ex8 h6
        refine lv_lstore_n (lv' := [(3, .long x8), (0, .ref (X.2.1 0)), (5, .int x2)]) hx hb dX11_digestSolution_44 rfl hl (by decide) rfl (fun ls hl => ?_)
        refine lv_iinc (v := x2 + (1 : Int32)) (lv' := [(5, .int (x2 + (1 : Int32))), (3, .long x8), (0, .ref (X.2.1 0))]) hx hb dX11_digestSolution_45 hl (k := 2) rfl (by rfl) (by decide) rfl (fun ls hl => ?_)
        refine lv_goto (tgt := 5) hx hb dX11_digestSolution_48 (by decide) ?_
        exact ih4 x8 (x2 + (1 : Int32)) _ _ _ Z (lv_sub hl [2, 1, 0] rfl) h7
  exact lL5 FU a1 (0 : Int32) _ _ _ Z (lv_sub hl [2, 1, 0] rfl) h0
theorem dX11_digest_0 : decode cX11_digest 0 = .ok (.ldc2_w 235, 3) := by decide +kernel
theorem dX11_digest_3 : decode cX11_digest 3 = .ok (.lstore_n 1, 1) := by decide +kernel
theorem dX11_digest_4 : decode cX11_digest 4 = .ok (.iconst 0, 1) := by decide +kernel
theorem dX11_digest_5 : decode cX11_digest 5 = .ok (.istore_n 3, 1) := by decide +kernel
theorem dX11_digest_6 : decode cX11_digest 6 = .ok (.iload_n 3, 1) := by decide +kernel
theorem dX11_digest_7 : decode cX11_digest 7 = .ok (.iconst 5, 1) := by decide +kernel
theorem dX11_digest_8 : decode cX11_digest 8 = .ok (.if_icmp .gt 22, 3) := by decide +kernel
theorem dX11_digest_11 : decode cX11_digest 11 = .ok (.ldc2_w 237, 3) := by decide +kernel
theorem dX11_digest_14 : decode cX11_digest 14 = .ok (.lload_n 1, 1) := by decide +kernel
theorem dX11_digest_15 : decode cX11_digest 15 = .ok (.lmul, 1) := by decide +kernel
theorem dX11_digest_16 : decode cX11_digest 16 = .ok (.aload_n 0, 1) := by decide +kernel
theorem dX11_digest_17 : decode cX11_digest 17 = .ok (.iload_n 3, 1) := by decide +kernel
theorem dX11_digest_18 : decode cX11_digest 18 = .ok (.invokevirtual 232, 3) := by decide +kernel
theorem dX11_digest_21 : decode cX11_digest 21 = .ok (.i2l, 1) := by decide +kernel
theorem dX11_digest_22 : decode cX11_digest 22 = .ok (.ladd, 1) := by decide +kernel
theorem dX11_digest_23 : decode cX11_digest 23 = .ok (.lstore_n 1, 1) := by decide +kernel
theorem dX11_digest_24 : decode cX11_digest 24 = .ok (.iinc 3 1, 3) := by decide +kernel
theorem dX11_digest_27 : decode cX11_digest 27 = .ok (.goto (-21), 3) := by decide +kernel
theorem dX11_digest_30 : decode cX11_digest 30 = .ok (.iconst 0, 1) := by decide +kernel
theorem dX11_digest_31 : decode cX11_digest 31 = .ok (.istore_n 3, 1) := by decide +kernel
theorem dX11_digest_32 : decode cX11_digest 32 = .ok (.iload_n 3, 1) := by decide +kernel
theorem dX11_digest_33 : decode cX11_digest 33 = .ok (.aload_n 0, 1) := by decide +kernel
theorem dX11_digest_34 : decode cX11_digest 34 = .ok (.getfield 10, 3) := by decide +kernel
theorem dX11_digest_37 : decode cX11_digest 37 = .ok (.getfield 85, 3) := by decide +kernel
theorem dX11_digest_40 : decode cX11_digest 40 = .ok (.if_icmp .ge 43, 3) := by decide +kernel
theorem dX11_digest_43 : decode cX11_digest 43 = .ok (.iconst 0, 1) := by decide +kernel
theorem dX11_digest_44 : decode cX11_digest 44 = .ok (.istore 4, 2) := by decide +kernel
theorem dX11_digest_46 : decode cX11_digest 46 = .ok (.iload 4, 2) := by decide +kernel
theorem dX11_digest_48 : decode cX11_digest 48 = .ok (.bipush 6, 2) := by decide +kernel
theorem dX11_digest_50 : decode cX11_digest 50 = .ok (.if_icmp .ge 27, 3) := by decide +kernel
theorem dX11_digest_53 : decode cX11_digest 53 = .ok (.ldc2_w 237, 3) := by decide +kernel
theorem dX11_digest_56 : decode cX11_digest 56 = .ok (.lload_n 1, 1) := by decide +kernel
theorem dX11_digest_57 : decode cX11_digest 57 = .ok (.lmul, 1) := by decide +kernel
theorem dX11_digest_58 : decode cX11_digest 58 = .ok (.aload_n 0, 1) := by decide +kernel
theorem dX11_digest_59 : decode cX11_digest 59 = .ok (.getfield 10, 3) := by decide +kernel
theorem dX11_digest_62 : decode cX11_digest 62 = .ok (.iload_n 3, 1) := by decide +kernel
theorem dX11_digest_63 : decode cX11_digest 63 = .ok (.iload 4, 2) := by decide +kernel
theorem dX11_digest_65 : decode cX11_digest 65 = .ok (.invokevirtual 110, 3) := by decide +kernel
theorem dX11_digest_68 : decode cX11_digest 68 = .ok (.i2l, 1) := by decide +kernel
theorem dX11_digest_69 : decode cX11_digest 69 = .ok (.ladd, 1) := by decide +kernel
theorem dX11_digest_70 : decode cX11_digest 70 = .ok (.lstore_n 1, 1) := by decide +kernel
theorem dX11_digest_71 : decode cX11_digest 71 = .ok (.iinc 4 1, 3) := by decide +kernel
theorem dX11_digest_74 : decode cX11_digest 74 = .ok (.goto (-28), 3) := by decide +kernel
theorem dX11_digest_77 : decode cX11_digest 77 = .ok (.iinc 3 1, 3) := by decide +kernel
theorem dX11_digest_80 : decode cX11_digest 80 = .ok (.goto (-48), 3) := by decide +kernel
theorem dX11_digest_83 : decode cX11_digest 83 = .ok (.aload_n 0, 1) := by decide +kernel
theorem dX11_digest_84 : decode cX11_digest 84 = .ok (.getfield 10, 3) := by decide +kernel
theorem dX11_digest_87 : decode cX11_digest 87 = .ok (.invokevirtual 173, 3) := by decide +kernel
theorem dX11_digest_90 : decode cX11_digest 90 = .ok (.istore_n 3, 1) := by decide +kernel
theorem dX11_digest_91 : decode cX11_digest 91 = .ok (.aload_n 0, 1) := by decide +kernel
theorem dX11_digest_92 : decode cX11_digest 92 = .ok (.getfield 21, 3) := by decide +kernel
theorem dX11_digest_95 : decode cX11_digest 95 = .ok (.iload_n 3, 1) := by decide +kernel
theorem dX11_digest_96 : decode cX11_digest 96 = .ok (.invokevirtual 121, 3) := by decide +kernel
theorem dX11_digest_99 : decode cX11_digest 99 = .ok (.ifCond .eq 42, 3) := by decide +kernel
theorem dX11_digest_102 : decode cX11_digest 102 = .ok (.ldc2_w 237, 3) := by decide +kernel
theorem dX11_digest_105 : decode cX11_digest 105 = .ok (.lload_n 1, 1) := by decide +kernel
theorem dX11_digest_106 : decode cX11_digest 106 = .ok (.lmul, 1) := by decide +kernel
theorem dX11_digest_107 : decode cX11_digest 107 = .ok (.lconst 1, 1) := by decide +kernel
theorem dX11_digest_108 : decode cX11_digest 108 = .ok (.ladd, 1) := by decide +kernel
theorem dX11_digest_109 : decode cX11_digest 109 = .ok (.lstore_n 1, 1) := by decide +kernel
theorem dX11_digest_110 : decode cX11_digest 110 = .ok (.ldc2_w 237, 3) := by decide +kernel
theorem dX11_digest_113 : decode cX11_digest 113 = .ok (.lload_n 1, 1) := by decide +kernel
theorem dX11_digest_114 : decode cX11_digest 114 = .ok (.lmul, 1) := by decide +kernel
theorem dX11_digest_115 : decode cX11_digest 115 = .ok (.aload_n 0, 1) := by decide +kernel
theorem dX11_digest_116 : decode cX11_digest 116 = .ok (.getfield 21, 3) := by decide +kernel
theorem dX11_digest_119 : decode cX11_digest 119 = .ok (.iload_n 3, 1) := by decide +kernel
theorem dX11_digest_120 : decode cX11_digest 120 = .ok (.invokevirtual 127, 3) := by decide +kernel
theorem dX11_digest_123 : decode cX11_digest 123 = .ok (.i2l, 1) := by decide +kernel
theorem dX11_digest_124 : decode cX11_digest 124 = .ok (.ladd, 1) := by decide +kernel
theorem dX11_digest_125 : decode cX11_digest 125 = .ok (.lstore_n 1, 1) := by decide +kernel
theorem dX11_digest_126 : decode cX11_digest 126 = .ok (.aload_n 0, 1) := by decide +kernel
theorem dX11_digest_127 : decode cX11_digest 127 = .ok (.getfield 21, 3) := by decide +kernel
theorem dX11_digest_130 : decode cX11_digest 130 = .ok (.iload_n 3, 1) := by decide +kernel
theorem dX11_digest_131 : decode cX11_digest 131 = .ok (.iconst 2, 1) := by decide +kernel
theorem dX11_digest_132 : decode cX11_digest 132 = .ok (.invokevirtual 153, 3) := by decide +kernel
theorem dX11_digest_135 : decode cX11_digest 135 = .ok (.aload_n 0, 1) := by decide +kernel
theorem dX11_digest_136 : decode cX11_digest 136 = .ok (.lload_n 1, 1) := by decide +kernel
theorem dX11_digest_137 : decode cX11_digest 137 = .ok (.invokevirtual 239, 3) := by decide +kernel
theorem dX11_digest_140 : decode cX11_digest 140 = .ok (.lreturn, 1) := by decide +kernel
theorem dX11_digest_141 : decode cX11_digest 141 = .ok (.aload_n 0, 1) := by decide +kernel
theorem dX11_digest_142 : decode cX11_digest 142 = .ok (.getfield 21, 3) := by decide +kernel
theorem dX11_digest_145 : decode cX11_digest 145 = .ok (.iload_n 3, 1) := by decide +kernel
theorem dX11_digest_146 : decode cX11_digest 146 = .ok (.invokevirtual 164, 3) := by decide +kernel
theorem dX11_digest_149 : decode cX11_digest 149 = .ok (.istore 4, 2) := by decide +kernel
theorem dX11_digest_151 : decode cX11_digest 151 = .ok (.aload_n 0, 1) := by decide +kernel
theorem dX11_digest_152 : decode cX11_digest 152 = .ok (.getfield 28, 3) := by decide +kernel
theorem dX11_digest_155 : decode cX11_digest 155 = .ok (.iload 4, 2) := by decide +kernel
theorem dX11_digest_157 : decode cX11_digest 157 = .ok (.invokevirtual 167, 3) := by decide +kernel
theorem dX11_digest_160 : decode cX11_digest 160 = .ok (.ldc2_w 237, 3) := by decide +kernel
theorem dX11_digest_163 : decode cX11_digest 163 = .ok (.lload_n 1, 1) := by decide +kernel
theorem dX11_digest_164 : decode cX11_digest 164 = .ok (.lmul, 1) := by decide +kernel
theorem dX11_digest_165 : decode cX11_digest 165 = .ok (.lstore_n 1, 1) := by decide +kernel
theorem dX11_digest_166 : decode cX11_digest 166 = .ok (.aload_n 0, 1) := by decide +kernel
theorem dX11_digest_167 : decode cX11_digest 167 = .ok (.ldc2_w 237, 3) := by decide +kernel
theorem dX11_digest_170 : decode cX11_digest 170 = .ok (.lload_n 1, 1) := by decide +kernel
theorem dX11_digest_171 : decode cX11_digest 171 = .ok (.lmul, 1) := by decide +kernel
theorem dX11_digest_172 : decode cX11_digest 172 = .ok (.iload 4, 2) := by decide +kernel
theorem dX11_digest_174 : decode cX11_digest 174 = .ok (.i2l, 1) := by decide +kernel
theorem dX11_digest_175 : decode cX11_digest 175 = .ok (.ladd, 1) := by decide +kernel
theorem dX11_digest_176 : decode cX11_digest 176 = .ok (.invokevirtual 243, 3) := by decide +kernel
theorem dX11_digest_179 : decode cX11_digest 179 = .ok (.lreturn, 1) := by decide +kernel
def rm_fRM_digest : Room := { frames := 8, cells := 0, slots := 0, locals := 254 }
set_option maxHeartbeats 4000000 in
set_option maxRecDepth 100000 in
theorem c_fRM_digest (l : Launch) (X : eX) (sz : Nat)  (σ : sT) (rz : Int64) (σz : sT) (h0 : fRM_digest σ = some (rz, σz)) : ctL l yX11_digest cX11_digest 5 (some .long) rm_fRM_digest [.ref (X.2.1 0)] (wC X) (tC X) (aC X) X sz σ rz σz := by
  refine ct_of (by decide +kernel) (Nat.le_of_ble_eq_true rfl) ?_
  intro p e s m args below meth c ls hz B hl Z
  have B : Bd p s m args meth c RX11 cX11_digest 5 (some .long) := B
  have hl : lv_has ls 5 [(0, .ref (X.2.1 0))] := hl
  have hx := B.1
  have hb := B.2.1
  unfold fRM_digest at h0
  refine lv_ldc2 hx hb B.2.2.2.1 (B.2.2.2.2.1 _ kc_RX11_235) dX11_digest_0 ?_
  refine lv_lstore_n (lv' := [(1, .long (2341 : Int64)), (0, .ref (X.2.1 0))]) hx hb dX11_digest_3 rfl hl (by decide) rfl (fun ls hl => ?_)
  refine lv_iconst (v := (0 : Int32)) hx hb dX11_digest_4 (by decide) ?_
  refine lv_istore_n (lv' := [(3, .int (0 : Int32)), (1, .long (2341 : Int64)), (0, .ref (X.2.1 0))]) hx hb dX11_digest_5 rfl hl (by decide) rfl (fun ls hl => ?_)
  obtain ⟨K4, eK4, h27⟩ := dlt_s h0
  clear h0
  have kK4 : ∀ (x3 : Int64) (H : Heap) (locs : List Loc) (ls : Array Slot), Wd (wC X) (tC X) (aC X) X s σ H locs → lv_has ls 5 [(0, .ref (X.2.1 0)), (1, .long x3)] → K4 x3 = some (rz, σz) → W p l e rm_fRM_digest s m args below meth c H locs 0 0 (MQ below (va_Ql (fun a u => a = rz ∧ u = σz) (poW (wC X) (tC X) (aC X) X sz) (aA (aC X) sz)) args s 0 0 (aA (aC X) sz)) (F0 m 30 ls []) := by
    intro x3 H locs ls Z hl h1
    rw [eK4] at h1
    refine lv_iconst (v := (0 : Int32)) hx hb dX11_digest_30 (by decide) ?_
    refine lv_istore_n (lv' := [(3, .int (0 : Int32)), (0, .ref (X.2.1 0)), (1, .long x3)]) hx hb dX11_digest_31 rfl hl (by decide) rfl (fun ls hl => ?_)
    obtain ⟨K8, eK8, h16⟩ := dlt_s h1
    clear h1
    have kK8 : ∀ (x7 : Int64) (H : Heap) (locs : List Loc) (ls : Array Slot), Wd (wC X) (tC X) (aC X) X s σ H locs → lv_has ls 5 [(0, .ref (X.2.1 0)), (1, .long x7)] → K8 x7 = some (rz, σz) → W p l e rm_fRM_digest s m args below meth c H locs 0 0 (MQ below (va_Ql (fun a u => a = rz ∧ u = σz) (poW (wC X) (tC X) (aC X) X sz) (aA (aC X) sz)) args s 0 0 (aA (aC X) sz)) (F0 m 83 ls []) := by
      intro x7 H locs ls Z hl h2
      rw [eK8] at h2
      refine lv_aload_n hx hb dX11_digest_83 rfl (lv_at hl 0 rfl) ?_
      refine g_0_0 B Z kf_RX11_10 dX11_digest_84 ?_
      obtain ⟨r10, hc8, h3⟩ := db1_s h2
      clear h2
      refine cV_I [] [] B mx_yX0_every (c_fBk_every l X _ σ r10 hc8) kl_RX11_173 mi_yX0_every (rv_1 _ _) hcl_0 Z hl rfl rfl ⟨Nat.le_of_ble_eq_true rfl, Nat.le_of_ble_eq_true rfl⟩ rfl rfl (Nat.le_of_ble_eq_true rfl) dX11_digest_87 (fun H locs Z => ?_)
      clear hc8
      refine lv_istore_n (lv' := [(3, .int r10), (0, .ref (X.2.1 0)), (1, .long x7)]) hx hb dX11_digest_90 rfl hl (by decide) rfl (fun ls hl => ?_)
      refine lv_aload_n hx hb dX11_digest_91 rfl (lv_at hl 1 rfl) ?_
      refine g_0_1 B Z kf_RX11_21 dX11_digest_92 ?_
      refine lv_iload_n hx hb dX11_digest_95 rfl (lv_at hl 0 rfl) ?_
      obtain ⟨r12, σ13, hc10, h4⟩ := db2_s h3
      clear h3
      refine cV_I [.int r10] [] B mx_yX7_isSatisfiable (c_fSo_isSatisfiable l X _ r10 σ r12 σ13 hc10) kl_RX11_121 mi_yX7_isSatisfiable (rv_5 _ _) hcl_7 Z hl rfl rfl ⟨Nat.le_of_ble_eq_true rfl, Nat.le_of_ble_eq_true rfl⟩ rfl rfl (Nat.le_of_ble_eq_true rfl) dX11_digest_96 (fun H locs Z => ?_)
      clear hc10
      refine lv_if_eq (tgt := 141) hx hb dX11_digest_99 (by decide) (fun c14 => ?_) (fun c14 => ?_)
      · have h5 := dit h4 c14
        clear h4
        refine lv_aload_n hx hb dX11_digest_141 rfl (lv_at hl 1 rfl) ?_
        refine g_0_1 B Z kf_RX11_21 dX11_digest_142 ?_
        refine lv_iload_n hx hb dX11_digest_145 rfl (lv_at hl 0 rfl) ?_
        obtain ⟨r16, σ17, hc14, h6⟩ := db2_s h5
        clear h5
        refine cV_I [.int r10] [] B mx_yX7_coreOf (c_fSo_coreOf l X _ r10 σ13 r16 σ17 hc14) kl_RX11_164 mi_yX7_coreOf (rv_5 _ _) hcl_7 Z hl rfl rfl ⟨Nat.le_of_ble_eq_true rfl, Nat.le_of_ble_eq_true rfl⟩ rfl rfl (Nat.le_of_ble_eq_true rfl) dX11_digest_146 (fun H locs Z => ?_)
        clear hc14
        refine lv_istore (lv' := [(4, .int r16), (3, .int r10), (0, .ref (X.2.1 0)), (1, .long x7)]) hx hb dX11_digest_149 hl (by decide) rfl (fun ls hl => ?_)
        refine lv_aload_n hx hb dX11_digest_151 rfl (lv_at hl 2 rfl) ?_
        refine g_0_2 B Z kf_RX11_28 dX11_digest_152 ?_
        refine lv_iload hx hb dX11_digest_155 (lv_at hl 0 rfl) ?_
        obtain ⟨σ19, hc17, h7⟩ := db1_s h6
        clear h6
        refine cV_V [.int r16] [] B mx_yX9_find (c_fWt_find l X _ r16 σ17 σ19 hc17) kl_RX11_167 mi_yX9_find (rv_20 _ _) hcl_9 Z hl rfl rfl ⟨Nat.le_of_ble_eq_true rfl, Nat.le_of_ble_eq_true rfl⟩ rfl rfl (Nat.le_of_ble_eq_true rfl) dX11_digest_157 (fun H locs Z => ?_)
        clear hc17
        refine lv_ldc2 hx hb B.2.2.2.1 (B.2.2.2.2.1 _ kc_RX11_237) dX11_digest_160 ?_
        refine lv_lload_n hx hb dX11_digest_163 rfl (lv_at hl 3 rfl) ?_
        refine lv_lmul hx hb dX11_digest_164 ?_
        refine lv_topl (fun x20 ex20 => ?_)
        have h8 := dlt_e ex20 h7
        clear ex20 h7
        refine lv_lstore_n (lv' := [(1, .long x20), (4, .int r16), (3, .int r10), (0, .ref (X.2.1 0))]) hx hb dX11_digest_165 rfl hl (by decide) rfl (fun ls hl => ?_)
        refine lv_aload_n hx hb dX11_digest_166 rfl (lv_at hl 3 rfl) ?_
        refine lv_ldc2 hx hb B.2.2.2.1 (B.2.2.2.2.1 _ kc_RX11_237) dX11_digest_167 ?_
        refine lv_lload_n hx hb dX11_digest_170 rfl (lv_at hl 0 rfl) ?_
        refine lv_lmul hx hb dX11_digest_171 ?_
        refine lv_iload hx hb dX11_digest_172 (lv_at hl 1 rfl) ?_
        refine lv_i2l hx hb dX11_digest_174 rfl ?_
        refine lv_ladd hx hb dX11_digest_175 ?_
        obtain ⟨r22, hc20, h9⟩ := db1_s h8
        clear h8
        refine cV_L [.long (((31 : Int64) * x20) + r16.toInt64)] [] B mx_yX11_digestWeights (c_fRM_digestWeights l X _ (((31 : Int64) * x20) + r16.toInt64) σ19 r22 hc20) kl_RX11_243 mi_yX11_digestWeights (rv_0 _ _) hcl_11 Z hl rfl rfl ⟨Nat.le_of_ble_eq_true rfl, Nat.le_of_ble_eq_true rfl⟩ rfl rfl (Nat.le_of_ble_eq_true rfl) dX11_digest_176 (fun H locs Z => ?_)
        clear hc20
        exact reL B Z hz h9 dX11_digest_179
      · have h10 := dif h4 c14
        clear h4
        refine lv_ldc2 hx hb B.2.2.2.1 (B.2.2.2.2.1 _ kc_RX11_237) dX11_digest_102 ?_
        refine lv_lload_n hx hb dX11_digest_105 rfl (lv_at hl 2 rfl) ?_
        refine lv_lmul hx hb dX11_digest_106 ?_
        refine lv_lconst (v := (1 : Int64)) hx hb dX11_digest_107 (by decide) ?_
        refine lv_ladd hx hb dX11_digest_108 ?_
        refine lv_topl (fun x23 ex23 => ?_)
        have h11 := dlt_e ex23 h10
        clear ex23 h10
        refine lv_lstore_n (lv' := [(1, .long x23), (3, .int r10), (0, .ref (X.2.1 0))]) hx hb dX11_digest_109 rfl hl (by decide) rfl (fun ls hl => ?_)
        refine lv_ldc2 hx hb B.2.2.2.1 (B.2.2.2.2.1 _ kc_RX11_237) dX11_digest_110 ?_
        refine lv_lload_n hx hb dX11_digest_113 rfl (lv_at hl 0 rfl) ?_
        refine lv_lmul hx hb dX11_digest_114 ?_
        refine lv_aload_n hx hb dX11_digest_115 rfl (lv_at hl 2 rfl) ?_
        refine g_0_1 B Z kf_RX11_21 dX11_digest_116 ?_
        refine lv_iload_n hx hb dX11_digest_119 rfl (lv_at hl 1 rfl) ?_
        obtain ⟨r25, σ26, hc23, h12⟩ := db2_s h11
        clear h11
        refine cV_I [.int r10] [.long ((31 : Int64) * x23)] B mx_yX7_dimensionOf (c_fSo_dimensionOf l X _ r10 σ13 r25 σ26 hc23) kl_RX11_127 mi_yX7_dimensionOf (rv_5 _ _) hcl_7 Z hl rfl rfl ⟨Nat.le_of_ble_eq_true rfl, Nat.le_of_ble_eq_true rfl⟩ rfl rfl (Nat.le_of_ble_eq_true rfl) dX11_digest_120 (fun H locs Z => ?_)
        clear hc23
        refine lv_i2l hx hb dX11_digest_123 rfl ?_
        refine lv_ladd hx hb dX11_digest_124 ?_
        refine lv_topl (fun x27 ex27 => ?_)
        have h13 := dlt_e ex27 h12
        clear ex27 h12
        refine lv_lstore_n (lv' := [(1, .long x27), (3, .int r10), (0, .ref (X.2.1 0))]) hx hb dX11_digest_125 rfl hl (by decide) rfl (fun ls hl => ?_)
        refine lv_aload_n hx hb dX11_digest_126 rfl (lv_at hl 2 rfl) ?_
        refine g_0_1 B Z kf_RX11_21 dX11_digest_127 ?_
        refine lv_iload_n hx hb dX11_digest_130 rfl (lv_at hl 1 rfl) ?_
        refine lv_iconst (v := (2 : Int32)) hx hb dX11_digest_131 (by decide) ?_
        obtain ⟨σ29, hc27, h14⟩ := db1_s h13
        clear h13
        refine cV_V [.int r10, .int (2 : Int32)] [] B mx_yX7_solve (c_fSo_solve l X _ r10 (2 : Int32) σ26 σ29 hc27) kl_RX11_153 mi_yX7_solve (rv_5 _ _) hcl_7 Z hl rfl rfl ⟨Nat.le_of_ble_eq_true rfl, Nat.le_of_ble_eq_true rfl⟩ rfl rfl (Nat.le_of_ble_eq_true rfl) dX11_digest_132 (fun H locs Z => ?_)
        clear hc27
        refine lv_aload_n hx hb dX11_digest_135 rfl (lv_at hl 2 rfl) ?_
        refine lv_lload_n hx hb dX11_digest_136 rfl (lv_at hl 0 rfl) ?_
        obtain ⟨r31, hc29, h15⟩ := db1_s h14
        clear h14
        refine cV_L [.long x27] [] B mx_yX11_digestSolution (c_fRM_digestSolution l X _ x27 σ29 r31 hc29) kl_RX11_239 mi_yX11_digestSolution (rv_0 _ _) hcl_11 Z hl rfl rfl ⟨Nat.le_of_ble_eq_true rfl, Nat.le_of_ble_eq_true rfl⟩ rfl rfl (Nat.le_of_ble_eq_true rfl) dX11_digest_137 (fun H locs Z => ?_)
        clear hc29
        exact reL B Z hz h15 dX11_digest_140
    clear eK8
    have lL32 : ∀ (n : Nat), ∀ (x5 : Int64) (x6 : Int32) (H : Heap) (locs : List Loc) (ls : Array Slot), Wd (wC X) (tC X) (aC X) X s σ H locs → lv_has ls 5 [(0, .ref (X.2.1 0)), (1, .long x5), (3, .int x6)] → fRM_digest_L32 σ K8 n x5 x6 = some (rz, σz) → W p l e rm_fRM_digest s m args below meth c H locs 0 0 (MQ below (va_Ql (fun a u => a = rz ∧ u = σz) (poW (wC X) (tC X) (aC X) X sz) (aA (aC X) sz)) args s 0 0 (aA (aC X) sz)) (F0 m 32 ls []) := by
      intro n
      induction n with
      | zero =>
        intro x5 x6 H locs ls Z hl h
        exact nomatch (show (none : Option (Int64 × sT)) = some _ from h)
      | succ n32 ih20 =>
        intro x5 x6 H locs ls Z hl h17
        unfold fRM_digest_L32 at h17
        refine lv_iload_n hx hb dX11_digest_32 rfl (lv_at hl 2 rfl) ?_
        refine lv_aload_n hx hb dX11_digest_33 rfl (lv_at hl 0 rfl) ?_
        refine g_0_0 B Z kf_RX11_10 dX11_digest_34 ?_
        refine gn_1_3 B Z kx_RX11_85 dX11_digest_37 ?_
        refine lv_icmp_ge (tgt := 83) hx hb dX11_digest_40 (by decide) (fun c33 => ?_) (fun c33 => ?_)
        · have h18 := dit h17 c33
          clear h17
          exact kK8 x5 _ _ _ Z (lv_sub hl [0, 1] rfl) h18
        · have h19 := dif h17 c33
          clear h17
          refine lv_iconst (v := (0 : Int32)) hx hb dX11_digest_43 (by decide) ?_
          refine lv_istore (lv' := [(4, .int (0 : Int32)), (0, .ref (X.2.1 0)), (1, .long x5), (3, .int x6)]) hx hb dX11_digest_44 hl (by decide) rfl (fun ls hl => ?_)
          obtain ⟨K37, eK37, h21⟩ := dlt_s h19
          clear h19
          have kK37 : ∀ (x36 : Int64) (H : Heap) (locs : List Loc) (ls : Array Slot), Wd (wC X) (tC X) (aC X) X s σ H locs → lv_has ls 5 [(0, .ref (X.2.1 0)), (1, .long x36), (3, .int x6)] → K37 x36 = some (rz, σz) → W p l e rm_fRM_digest s m args below meth c H locs 0 0 (MQ below (va_Ql (fun a u => a = rz ∧ u = σz) (poW (wC X) (tC X) (aC X) X sz) (aA (aC X) sz)) args s 0 0 (aA (aC X) sz)) (F0 m 77 ls []) := by
            intro x36 H locs ls Z hl h20
            rw [eK37] at h20
            refine lv_iinc (v := x6 + (1 : Int32)) (lv' := [(3, .int (x6 + (1 : Int32))), (0, .ref (X.2.1 0)), (1, .long x36)]) hx hb dX11_digest_77 hl (k := 2) rfl (by rfl) (by decide) rfl (fun ls hl => ?_)
            refine lv_goto (tgt := 32) hx hb dX11_digest_80 (by decide) ?_
            exact ih20 x36 (x6 + (1 : Int32)) _ _ _ Z (lv_sub hl [1, 2, 0] rfl) h20
          clear eK37
          have lL46 : ∀ (n : Nat), ∀ (x34 : Int64) (x35 : Int32) (H : Heap) (locs : List Loc) (ls : Array Slot), Wd (wC X) (tC X) (aC X) X s σ H locs → lv_has ls 5 [(0, .ref (X.2.1 0)), (1, .long x34), (3, .int x6), (4, .int x35)] → fRM_digest_L46 σ x6 K37 n x34 x35 = some (rz, σz) → W p l e rm_fRM_digest s m args below meth c H locs 0 0 (MQ below (va_Ql (fun a u => a = rz ∧ u = σz) (poW (wC X) (tC X) (aC X) X sz) (aA (aC X) sz)) args s 0 0 (aA (aC X) sz)) (F0 m 46 ls []) := by
            intro n
            induction n with
            | zero =>
              intro x34 x35 H locs ls Z hl h
              exact nomatch (show (none : Option (Int64 × sT)) = some _ from h)
            | succ n38 ih27 =>
              intro x34 x35 H locs ls Z hl h22
              unfold fRM_digest_L46 at h22
              refine lv_iload hx hb dX11_digest_46 (lv_at hl 3 rfl) ?_
              refine lv_bipush (v := (6 : Int32)) hx hb dX11_digest_48 (by decide) ?_
              refine lv_icmp_ge (tgt := 77) hx hb dX11_digest_50 (by decide) (fun c39 => ?_) (fun c39 => ?_)
              · have h23 := dit h22 c39
                clear h22
                exact kK37 x34 _ _ _ Z (lv_sub hl [0, 1, 2] rfl) h23
              · have h24 := dif h22 c39
                clear h22
                refine lv_ldc2 hx hb B.2.2.2.1 (B.2.2.2.2.1 _ kc_RX11_237) dX11_digest_53 ?_
                refine lv_lload_n hx hb dX11_digest_56 rfl (lv_at hl 1 rfl) ?_
                refine lv_lmul hx hb dX11_digest_57 ?_
                refine lv_aload_n hx hb dX11_digest_58 rfl (lv_at hl 0 rfl) ?_
                refine g_0_0 B Z kf_RX11_10 dX11_digest_59 ?_
                refine lv_iload_n hx hb dX11_digest_62 rfl (lv_at hl 2 rfl) ?_
                refine lv_iload hx hb dX11_digest_63 (lv_at hl 3 rfl) ?_
                obtain ⟨r41, hc39, h25⟩ := db1_s h24
                clear h24
                refine cV_I [.int x6, .int x35] [.long ((31 : Int64) * x34)] B mx_yX0_get (c_fBk_get l X _ x6 x35 σ r41 hc39) kl_RX11_110 mi_yX0_get (rv_1 _ _) hcl_0 Z hl rfl rfl ⟨Nat.le_of_ble_eq_true rfl, Nat.le_of_ble_eq_true rfl⟩ rfl rfl (Nat.le_of_ble_eq_true rfl) dX11_digest_65 (fun H locs Z => ?_)
                clear hc39
                refine lv_i2l hx hb dX11_digest_68 rfl ?_
                refine lv_ladd hx hb dX11_digest_69 ?_
                refine lv_topl (fun x42 ex42 => ?_)
                have h26 := dlt_e ex42 h25
                clear ex42 h25
                refine lv_lstore_n (lv' := [(1, .long x42), (0, .ref (X.2.1 0)), (3, .int x6), (4, .int x35)]) hx hb dX11_digest_70 rfl hl (by decide) rfl (fun ls hl => ?_)
                refine lv_iinc (v := x35 + (1 : Int32)) (lv' := [(4, .int (x35 + (1 : Int32))), (1, .long x42), (0, .ref (X.2.1 0)), (3, .int x6)]) hx hb dX11_digest_71 hl (k := 3) rfl (by rfl) (by decide) rfl (fun ls hl => ?_)
                refine lv_goto (tgt := 46) hx hb dX11_digest_74 (by decide) ?_
                exact ih27 x42 (x35 + (1 : Int32)) _ _ _ Z (lv_sub hl [2, 1, 3, 0] rfl) h26
          exact lL46 FU x5 (0 : Int32) _ _ _ Z (lv_sub hl [1, 2, 3, 0] rfl) h21
    exact lL32 FU x3 (0 : Int32) _ _ _ Z (lv_sub hl [1, 2, 0] rfl) h16
  clear eK4
  have lL6 : ∀ (n : Nat), ∀ (x1 : Int64) (x2 : Int32) (H : Heap) (locs : List Loc) (ls : Array Slot), Wd (wC X) (tC X) (aC X) X s σ H locs → lv_has ls 5 [(0, .ref (X.2.1 0)), (1, .long x1), (3, .int x2)] → fRM_digest_L6 σ K4 n x1 x2 = some (rz, σz) → W p l e rm_fRM_digest s m args below meth c H locs 0 0 (MQ below (va_Ql (fun a u => a = rz ∧ u = σz) (poW (wC X) (tC X) (aC X) X sz) (aA (aC X) sz)) args s 0 0 (aA (aC X) sz)) (F0 m 6 ls []) := by
    intro n
    induction n with
    | zero =>
      intro x1 x2 H locs ls Z hl h
      exact nomatch (show (none : Option (Int64 × sT)) = some _ from h)
    | succ n43 ih4 =>
      intro x1 x2 H locs ls Z hl h28
      unfold fRM_digest_L6 at h28
      refine lv_iload_n hx hb dX11_digest_6 rfl (lv_at hl 2 rfl) ?_
      refine lv_iconst (v := (5 : Int32)) hx hb dX11_digest_7 (by decide) ?_
      refine lv_icmp_gt (tgt := 30) hx hb dX11_digest_8 (by decide) (fun c44 => ?_) (fun c44 => ?_)
      · have h29 := dit h28 c44
        clear h28
        exact kK4 x1 _ _ _ Z (lv_sub hl [0, 1] rfl) h29
      · have h30 := dif h28 c44
        clear h28
        refine lv_ldc2 hx hb B.2.2.2.1 (B.2.2.2.2.1 _ kc_RX11_237) dX11_digest_11 ?_
        refine lv_lload_n hx hb dX11_digest_14 rfl (lv_at hl 1 rfl) ?_
        refine lv_lmul hx hb dX11_digest_15 ?_
        refine lv_aload_n hx hb dX11_digest_16 rfl (lv_at hl 0 rfl) ?_
        refine lv_iload_n hx hb dX11_digest_17 rfl (lv_at hl 2 rfl) ?_
        obtain ⟨r46, hc44, h31⟩ := db1_s h30
        clear h30
        refine cV_I [.int x2] [.long ((31 : Int64) * x1)] B mx_yX11_countOf (c_fRM_countOf l X _ x2 σ r46 hc44) kl_RX11_232 mi_yX11_countOf (rv_0 _ _) hcl_11 Z hl rfl rfl ⟨Nat.le_of_ble_eq_true rfl, Nat.le_of_ble_eq_true rfl⟩ rfl rfl (Nat.le_of_ble_eq_true rfl) dX11_digest_18 (fun H locs Z => ?_)
        clear hc44
        refine lv_i2l hx hb dX11_digest_21 rfl ?_
        refine lv_ladd hx hb dX11_digest_22 ?_
        refine lv_topl (fun x47 ex47 => ?_)
        have h32 := dlt_e ex47 h31
        clear ex47 h31
        refine lv_lstore_n (lv' := [(1, .long x47), (0, .ref (X.2.1 0)), (3, .int x2)]) hx hb dX11_digest_23 rfl hl (by decide) rfl (fun ls hl => ?_)
        refine lv_iinc (v := x2 + (1 : Int32)) (lv' := [(3, .int (x2 + (1 : Int32))), (1, .long x47), (0, .ref (X.2.1 0))]) hx hb dX11_digest_24 hl (k := 2) rfl (by rfl) (by decide) rfl (fun ls hl => ?_)
        refine lv_goto (tgt := 6) hx hb dX11_digest_27 (by decide) ?_
        exact ih4 x47 (x2 + (1 : Int32)) _ _ _ Z (lv_sub hl [2, 1, 0] rfl) h32
  exact lL6 FU (2341 : Int64) (0 : Int32) _ _ _ Z (lv_sub hl [2, 1, 0] rfl) h27
theorem dX12_in_0 : decode cX12_in 0 = .ok (.lload_n 0, 1) := by decide +kernel
theorem dX12_in_1 : decode cX12_in 1 = .ok (.lload_n 2, 1) := by decide +kernel
theorem dX12_in_2 : decode cX12_in 2 = .ok (.lcmp, 1) := by decide +kernel
theorem dX12_in_3 : decode cX12_in 3 = .ok (.ifCond .lt 14, 3) := by decide +kernel
theorem dX12_in_6 : decode cX12_in 6 = .ok (.lload_n 0, 1) := by decide +kernel
theorem dX12_in_7 : decode cX12_in 7 = .ok (.lload 4, 2) := by decide +kernel
theorem dX12_in_9 : decode cX12_in 9 = .ok (.lcmp, 1) := by decide +kernel
theorem dX12_in_10 : decode cX12_in 10 = .ok (.ifCond .gt 7, 3) := by decide +kernel
theorem dX12_in_13 : decode cX12_in 13 = .ok (.iconst 1, 1) := by decide +kernel
theorem dX12_in_14 : decode cX12_in 14 = .ok (.goto 4, 3) := by decide +kernel
theorem dX12_in_17 : decode cX12_in 17 = .ok (.iconst 0, 1) := by decide +kernel
theorem dX12_in_18 : decode cX12_in 18 = .ok (.ireturn, 1) := by decide +kernel
def rm_fMM_in : Room := { frames := 1, cells := 0, slots := 0, locals := 60 }
set_option maxHeartbeats 4000000 in
set_option maxRecDepth 100000 in
theorem c_fMM_in (l : Launch) (X : eX) (sz : Nat) (a1 : Int64) (a2 : Int64) (a3 : Int64) (σ : sT) (rz : Int32) (h0 : fMM_in a1 a2 a3 = some rz) : ctI l yX12_in cX12_in 6 (some .boolean) rm_fMM_in [.long a1, .long a2, .long a3] (wM X) (tM X) (aM X) X sz σ rz σ := by
  refine ct_of (by decide +kernel) (Nat.le_of_ble_eq_true rfl) ?_
  intro p e s m args below meth c ls hz B hl Z
  have B : Bd p s m args meth c RX12 cX12_in 6 (some .boolean) := B
  have hl : lv_has ls 6 [(0, .long a1), (2, .long a2), (4, .long a3)] := hl
  have hx := B.1
  have hb := B.2.1
  unfold fMM_in at h0
  refine lv_lload_n hx hb dX12_in_0 rfl (lv_at hl 0 rfl) ?_
  refine lv_lload_n hx hb dX12_in_1 rfl (lv_at hl 1 rfl) ?_
  refine W.lcmp hx hb dX12_in_2 ?_
  refine lv_if_lt (tgt := 17) hx hb dX12_in_3 (by decide) (fun c1 => ?_) (fun c1 => ?_)
  · have h1 := dit h0 c1
    clear h0
    refine lv_iconst (v := (0 : Int32)) hx hb dX12_in_17 (by decide) ?_
    exact reI B Z rfl hz (congrArg (Option.map (fun q => (q, σ))) h1) dX12_in_18
  · have h2 := dif h0 c1
    clear h0
    refine lv_lload_n hx hb dX12_in_6 rfl (lv_at hl 0 rfl) ?_
    refine lv_lload hx hb dX12_in_7 (lv_at hl 2 rfl) ?_
    refine W.lcmp hx hb dX12_in_9 ?_
    refine lv_if_gt (tgt := 17) hx hb dX12_in_10 (by decide) (fun c2 => ?_) (fun c2 => ?_)
    · have h3 := dit h2 c2
      clear h2
      refine lv_iconst (v := (0 : Int32)) hx hb dX12_in_17 (by decide) ?_
      exact reI B Z rfl hz (congrArg (Option.map (fun q => (q, σ))) h3) dX12_in_18
    · have h4 := dif h2 c2
      clear h2
      refine lv_iconst (v := (1 : Int32)) hx hb dX12_in_13 (by decide) ?_
      refine lv_goto (tgt := 18) hx hb dX12_in_14 (by decide) ?_
      exact reI B Z rfl hz (congrArg (Option.map (fun q => (q, σ))) h4) dX12_in_18
theorem dX12_isNumber_0 : decode cX12_isNumber 0 = .ok (.iload_n 0, 1) := by decide +kernel
theorem dX12_isNumber_1 : decode cX12_isNumber 1 = .ok (.i2l, 1) := by decide +kernel
theorem dX12_isNumber_2 : decode cX12_isNumber 2 = .ok (.ldc2_w 154, 3) := by decide +kernel
theorem dX12_isNumber_5 : decode cX12_isNumber 5 = .ok (.ldc2_w 156, 3) := by decide +kernel
theorem dX12_isNumber_8 : decode cX12_isNumber 8 = .ok (.invokestatic 68, 3) := by decide +kernel
theorem dX12_isNumber_11 : decode cX12_isNumber 11 = .ok (.ireturn, 1) := by decide +kernel
def rm_fMM_isNumber : Room := { frames := 2, cells := 0, slots := 0, locals := 85 }
set_option maxHeartbeats 4000000 in
set_option maxRecDepth 100000 in
theorem c_fMM_isNumber (l : Launch) (X : eX) (sz : Nat) (a1 : Int32) (σ : sT) (rz : Int32) (h0 : fMM_isNumber a1 = some rz) : ctI l yX12_isNumber cX12_isNumber 1 (some .boolean) rm_fMM_isNumber [.int a1] (wM X) (tM X) (aM X) X sz σ rz σ := by
  refine ct_of (by decide +kernel) (Nat.le_of_ble_eq_true rfl) ?_
  intro p e s m args below meth c ls hz B hl Z
  have B : Bd p s m args meth c RX12 cX12_isNumber 1 (some .boolean) := B
  have hl : lv_has ls 1 [(0, .int a1)] := hl
  have hx := B.1
  have hb := B.2.1
  unfold fMM_isNumber at h0
  refine lv_iload_n hx hb dX12_isNumber_0 rfl (lv_at hl 0 rfl) ?_
  refine lv_i2l hx hb dX12_isNumber_1 rfl ?_
  refine lv_ldc2 hx hb B.2.2.2.1 (B.2.2.2.2.1 _ kc_RX12_154) dX12_isNumber_2 ?_
  refine lv_ldc2 hx hb B.2.2.2.1 (B.2.2.2.2.1 _ kc_RX12_156) dX12_isNumber_5 ?_
  obtain ⟨r2, hc0, h1⟩ := db1_s h0
  clear h0
  refine cS_I [.long a1.toInt64, .long (-5 : Int64), .long (5 : Int64)] [] B mx_yX12_in (c_fMM_in l X _ a1.toInt64 (-5 : Int64) (5 : Int64) σ r2 hc0) kl_RX12_68 ks_yX12_in Z hl rfl rfl ⟨Nat.le_of_ble_eq_true rfl, Nat.le_of_ble_eq_true rfl⟩ rfl rfl (Nat.le_of_ble_eq_true rfl) dX12_isNumber_8 (fun H locs Z => ?_)
  clear hc0
  obtain ⟨z3, h2⟩ := dck_s h1
  clear h1
  exact reI B Z (okZ_n z3) hz (congrArg (Option.map (fun q => (q, σ))) h2) dX12_isNumber_11
