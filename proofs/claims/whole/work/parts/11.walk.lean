theorem dX8_lowProperty_0 : decode cX8_lowProperty 0 = .ok (.aload_n 0, 1) := by decide +kernel
theorem dX8_lowProperty_1 : decode cX8_lowProperty 1 = .ok (.getfield 42, 3) := by decide +kernel
theorem dX8_lowProperty_4 : decode cX8_lowProperty 4 = .ok (.aload_n 0, 1) := by decide +kernel
theorem dX8_lowProperty_5 : decode cX8_lowProperty 5 = .ok (.getfield 9, 3) := by decide +kernel
theorem dX8_lowProperty_8 : decode cX8_lowProperty 8 = .ok (.aload_n 0, 1) := by decide +kernel
theorem dX8_lowProperty_9 : decode cX8_lowProperty 9 = .ok (.getfield 45, 3) := by decide +kernel
theorem dX8_lowProperty_12 : decode cX8_lowProperty 12 = .ok (.iload_n 1, 1) := by decide +kernel
theorem dX8_lowProperty_13 : decode cX8_lowProperty 13 = .ok (.invokestatic 48, 3) := by decide +kernel
theorem dX8_lowProperty_16 : decode cX8_lowProperty 16 = .ok (.lreturn, 1) := by decide +kernel
def rm_fSp_lowProperty : Room := { frames := 3, cells := 0, slots := 0, locals := 117 }
set_option maxHeartbeats 4000000 in
set_option maxRecDepth 100000 in
theorem c_fSp_lowProperty (l : Launch) (X : eX) (sz : Nat) (a1 : Int32) (σ : sT) (rz : Int64) (h0 : fSp_lowProperty a1 σ = some rz) : ctL l yX8_lowProperty cX8_lowProperty 2 (some .long) rm_fSp_lowProperty [.ref (X.2.1 15), .int a1] (wC X) (tC X) (aC X) X sz σ rz σ := by
  refine ct_of (by decide +kernel) (Nat.le_of_ble_eq_true rfl) ?_
  intro p e s m args below meth c ls hz B hl Z
  have B : Bd p s m args meth c RX8 cX8_lowProperty 2 (some .long) := B
  have hl : lv_has ls 2 [(0, .ref (X.2.1 15)), (1, .int a1)] := hl
  have hx := B.1
  have hb := B.2.1
  unfold fSp_lowProperty at h0
  refine lv_aload_n hx hb dX8_lowProperty_0 rfl (lv_at hl 0 rfl) ?_
  refine g_15_0 B Z kf_RX8_42 dX8_lowProperty_1 ?_
  refine lv_aload_n hx hb dX8_lowProperty_4 rfl (lv_at hl 0 rfl) ?_
  refine g_15_1 B Z kf_RX8_9 dX8_lowProperty_5 ?_
  refine lv_aload_n hx hb dX8_lowProperty_8 rfl (lv_at hl 0 rfl) ?_
  refine g_15_2 B Z kf_RX8_45 dX8_lowProperty_9 ?_
  refine lv_iload_n hx hb dX8_lowProperty_12 rfl (lv_at hl 1 rfl) ?_
  obtain ⟨r2, hc0, h1⟩ := db1_s h0
  clear h0
  refine cS_L [.long (σ.2 15 0), .long (σ.2 15 1), .int (σ.1 15 2), .int a1] [] B mx_yX8_property (c_fSp_property l X _ (σ.2 15 0) (σ.2 15 1) (σ.1 15 2) a1 σ r2 hc0) kl_RX8_48 ks_yX8_property Z hl rfl rfl ⟨Nat.le_of_ble_eq_true rfl, Nat.le_of_ble_eq_true rfl⟩ rfl rfl (Nat.le_of_ble_eq_true rfl) dX8_lowProperty_13 (fun H locs Z => ?_)
  clear hc0
  exact reL B Z hz (congrArg (Option.map (fun q => (q, σ))) h1) dX8_lowProperty_16
theorem dX8_highProperty_0 : decode cX8_highProperty 0 = .ok (.aload_n 0, 1) := by decide +kernel
theorem dX8_highProperty_1 : decode cX8_highProperty 1 = .ok (.getfield 31, 3) := by decide +kernel
theorem dX8_highProperty_4 : decode cX8_highProperty 4 = .ok (.aload_n 0, 1) := by decide +kernel
theorem dX8_highProperty_5 : decode cX8_highProperty 5 = .ok (.getfield 15, 3) := by decide +kernel
theorem dX8_highProperty_8 : decode cX8_highProperty 8 = .ok (.aload_n 0, 1) := by decide +kernel
theorem dX8_highProperty_9 : decode cX8_highProperty 9 = .ok (.getfield 38, 3) := by decide +kernel
theorem dX8_highProperty_12 : decode cX8_highProperty 12 = .ok (.iload_n 1, 1) := by decide +kernel
theorem dX8_highProperty_13 : decode cX8_highProperty 13 = .ok (.invokestatic 48, 3) := by decide +kernel
theorem dX8_highProperty_16 : decode cX8_highProperty 16 = .ok (.lreturn, 1) := by decide +kernel
def rm_fSp_highProperty : Room := { frames := 3, cells := 0, slots := 0, locals := 117 }
set_option maxHeartbeats 4000000 in
set_option maxRecDepth 100000 in
theorem c_fSp_highProperty (l : Launch) (X : eX) (sz : Nat) (a1 : Int32) (σ : sT) (rz : Int64) (h0 : fSp_highProperty a1 σ = some rz) : ctL l yX8_highProperty cX8_highProperty 2 (some .long) rm_fSp_highProperty [.ref (X.2.1 15), .int a1] (wC X) (tC X) (aC X) X sz σ rz σ := by
  refine ct_of (by decide +kernel) (Nat.le_of_ble_eq_true rfl) ?_
  intro p e s m args below meth c ls hz B hl Z
  have B : Bd p s m args meth c RX8 cX8_highProperty 2 (some .long) := B
  have hl : lv_has ls 2 [(0, .ref (X.2.1 15)), (1, .int a1)] := hl
  have hx := B.1
  have hb := B.2.1
  unfold fSp_highProperty at h0
  refine lv_aload_n hx hb dX8_highProperty_0 rfl (lv_at hl 0 rfl) ?_
  refine g_15_3 B Z kf_RX8_31 dX8_highProperty_1 ?_
  refine lv_aload_n hx hb dX8_highProperty_4 rfl (lv_at hl 0 rfl) ?_
  refine g_15_4 B Z kf_RX8_15 dX8_highProperty_5 ?_
  refine lv_aload_n hx hb dX8_highProperty_8 rfl (lv_at hl 0 rfl) ?_
  refine g_15_5 B Z kf_RX8_38 dX8_highProperty_9 ?_
  refine lv_iload_n hx hb dX8_highProperty_12 rfl (lv_at hl 1 rfl) ?_
  obtain ⟨r2, hc0, h1⟩ := db1_s h0
  clear h0
  refine cS_L [.long (σ.2 15 3), .long (σ.2 15 4), .int (σ.1 15 5), .int a1] [] B mx_yX8_property (c_fSp_property l X _ (σ.2 15 3) (σ.2 15 4) (σ.1 15 5) a1 σ r2 hc0) kl_RX8_48 ks_yX8_property Z hl rfl rfl ⟨Nat.le_of_ble_eq_true rfl, Nat.le_of_ble_eq_true rfl⟩ rfl rfl (Nat.le_of_ble_eq_true rfl) dX8_highProperty_13 (fun H locs Z => ?_)
  clear hc0
  exact reL B Z hz (congrArg (Option.map (fun q => (q, σ))) h1) dX8_highProperty_16
theorem dX11_bound_0 : decode cX11_bound 0 = .ok (.aload_n 0, 1) := by decide +kernel
theorem dX11_bound_1 : decode cX11_bound 1 = .ok (.getfield 10, 3) := by decide +kernel
theorem dX11_bound_4 : decode cX11_bound 4 = .ok (.iload_n 1, 1) := by decide +kernel
theorem dX11_bound_5 : decode cX11_bound 5 = .ok (.invokevirtual 118, 3) := by decide +kernel
theorem dX11_bound_8 : decode cX11_bound 8 = .ok (.ifCond .eq 31, 3) := by decide +kernel
theorem dX11_bound_11 : decode cX11_bound 11 = .ok (.iload_n 2, 1) := by decide +kernel
theorem dX11_bound_12 : decode cX11_bound 12 = .ok (.iconst 0, 1) := by decide +kernel
theorem dX11_bound_13 : decode cX11_bound 13 = .ok (.iconst 2, 1) := by decide +kernel
theorem dX11_bound_14 : decode cX11_bound 14 = .ok (.invokestatic 106, 3) := by decide +kernel
theorem dX11_bound_17 : decode cX11_bound 17 = .ok (.ifCond .eq 22, 3) := by decide +kernel
theorem dX11_bound_20 : decode cX11_bound 20 = .ok (.iload_n 3, 1) := by decide +kernel
theorem dX11_bound_21 : decode cX11_bound 21 = .ok (.iconst 0, 1) := by decide +kernel
theorem dX11_bound_22 : decode cX11_bound 22 = .ok (.iconst 1, 1) := by decide +kernel
theorem dX11_bound_23 : decode cX11_bound 23 = .ok (.invokestatic 106, 3) := by decide +kernel
theorem dX11_bound_26 : decode cX11_bound 26 = .ok (.ifCond .eq 13, 3) := by decide +kernel
theorem dX11_bound_29 : decode cX11_bound 29 = .ok (.iload 4, 2) := by decide +kernel
theorem dX11_bound_31 : decode cX11_bound 31 = .ok (.iconst 0, 1) := by decide +kernel
theorem dX11_bound_32 : decode cX11_bound 32 = .ok (.iconst 2, 1) := by decide +kernel
theorem dX11_bound_33 : decode cX11_bound 33 = .ok (.invokestatic 106, 3) := by decide +kernel
theorem dX11_bound_36 : decode cX11_bound 36 = .ok (.ifCond .ne 9, 3) := by decide +kernel
theorem dX11_bound_39 : decode cX11_bound 39 = .ok (.aload_n 0, 1) := by decide +kernel
theorem dX11_bound_40 : decode cX11_bound 40 = .ok (.invokevirtual 77, 3) := by decide +kernel
theorem dX11_bound_43 : decode cX11_bound 43 = .ok (.i2l, 1) := by decide +kernel
theorem dX11_bound_44 : decode cX11_bound 44 = .ok (.lreturn, 1) := by decide +kernel
theorem dX11_bound_45 : decode cX11_bound 45 = .ok (.aload_n 0, 1) := by decide +kernel
theorem dX11_bound_46 : decode cX11_bound 46 = .ok (.getfield 21, 3) := by decide +kernel
theorem dX11_bound_49 : decode cX11_bound 49 = .ok (.iload_n 1, 1) := by decide +kernel
theorem dX11_bound_50 : decode cX11_bound 50 = .ok (.iload_n 2, 1) := by decide +kernel
theorem dX11_bound_51 : decode cX11_bound 51 = .ok (.invokevirtual 131, 3) := by decide +kernel
theorem dX11_bound_54 : decode cX11_bound 54 = .ok (.ifCond .ne 9, 3) := by decide +kernel
theorem dX11_bound_57 : decode cX11_bound 57 = .ok (.aload_n 0, 1) := by decide +kernel
theorem dX11_bound_58 : decode cX11_bound 58 = .ok (.invokevirtual 124, 3) := by decide +kernel
theorem dX11_bound_61 : decode cX11_bound 61 = .ok (.i2l, 1) := by decide +kernel
theorem dX11_bound_62 : decode cX11_bound 62 = .ok (.lreturn, 1) := by decide +kernel
theorem dX11_bound_63 : decode cX11_bound 63 = .ok (.iload_n 3, 1) := by decide +kernel
theorem dX11_bound_64 : decode cX11_bound 64 = .ok (.iconst 1, 1) := by decide +kernel
theorem dX11_bound_65 : decode cX11_bound 65 = .ok (.if_icmp .ne 18, 3) := by decide +kernel
theorem dX11_bound_68 : decode cX11_bound 68 = .ok (.aload_n 0, 1) := by decide +kernel
theorem dX11_bound_69 : decode cX11_bound 69 = .ok (.getfield 21, 3) := by decide +kernel
theorem dX11_bound_72 : decode cX11_bound 72 = .ok (.getfield 134, 3) := by decide +kernel
theorem dX11_bound_75 : decode cX11_bound 75 = .ok (.iload 4, 2) := by decide +kernel
theorem dX11_bound_77 : decode cX11_bound 77 = .ok (.invokevirtual 138, 3) := by decide +kernel
theorem dX11_bound_80 : decode cX11_bound 80 = .ok (.goto 15, 3) := by decide +kernel
theorem dX11_bound_83 : decode cX11_bound 83 = .ok (.aload_n 0, 1) := by decide +kernel
theorem dX11_bound_84 : decode cX11_bound 84 = .ok (.getfield 21, 3) := by decide +kernel
theorem dX11_bound_87 : decode cX11_bound 87 = .ok (.getfield 134, 3) := by decide +kernel
theorem dX11_bound_90 : decode cX11_bound 90 = .ok (.iload 4, 2) := by decide +kernel
theorem dX11_bound_92 : decode cX11_bound 92 = .ok (.invokevirtual 144, 3) := by decide +kernel
theorem dX11_bound_95 : decode cX11_bound 95 = .ok (.lreturn, 1) := by decide +kernel
def rm_fRM_bound : Room := { frames := 7, cells := 0, slots := 0, locals := 229 }
set_option maxHeartbeats 4000000 in
set_option maxRecDepth 100000 in
theorem c_fRM_bound (l : Launch) (X : eX) (sz : Nat) (a1 : Int32) (a2 : Int32) (a3 : Int32) (a4 : Int32) (σ : sT) (rz : Int64) (σz : sT) (h0 : fRM_bound a1 a2 a3 a4 σ = some (rz, σz)) : ctL l yX11_bound cX11_bound 5 (some .long) rm_fRM_bound [.ref (X.2.1 0), .int a1, .int a2, .int a3, .int a4] (wC X) (tC X) (aC X) X sz σ rz σz := by
  refine ct_of (by decide +kernel) (Nat.le_of_ble_eq_true rfl) ?_
  intro p e s m args below meth c ls hz B hl Z
  have B : Bd p s m args meth c RX11 cX11_bound 5 (some .long) := B
  have hl : lv_has ls 5 [(0, .ref (X.2.1 0)), (1, .int a1), (2, .int a2), (3, .int a3), (4, .int a4)] := hl
  have hx := B.1
  have hb := B.2.1
  unfold fRM_bound at h0
  refine lv_aload_n hx hb dX11_bound_0 rfl (lv_at hl 0 rfl) ?_
  refine g_0_0 B Z kf_RX11_10 dX11_bound_1 ?_
  refine lv_iload_n hx hb dX11_bound_4 rfl (lv_at hl 1 rfl) ?_
  obtain ⟨r2, hc0, h1⟩ := db1_s h0
  clear h0
  refine cV_I [.int a1] [] B mx_yX0_covers (c_fBk_covers l X _ a1 σ r2 hc0) kl_RX11_118 mi_yX0_covers (rv_1 _ _) hcl_0 Z hl rfl rfl ⟨Nat.le_of_ble_eq_true rfl, Nat.le_of_ble_eq_true rfl⟩ rfl rfl (Nat.le_of_ble_eq_true rfl) dX11_bound_5 (fun H locs Z => ?_)
  clear hc0
  obtain ⟨J3, eJ3, h4⟩ := dlt_s h1
  clear h1
  have kJ3 : ∀ (H : Heap) (locs : List Loc) (ls : Array Slot), Wd (wC X) (tC X) (aC X) X s σ H locs → lv_has ls 5 [(0, .ref (X.2.1 0))] → J3 () = some (rz, σz) → W p l e rm_fRM_bound s m args below meth c H locs 0 0 (MQ below (va_Ql (fun a u => a = rz ∧ u = σz) (poW (wC X) (tC X) (aC X) X sz) (aA (aC X) sz)) args s 0 0 (aA (aC X) sz)) (F0 m 39 ls []) := by
    intro  H locs ls Z hl h2
    rw [eJ3] at h2
    refine lv_aload_n hx hb dX11_bound_39 rfl (lv_at hl 0 rfl) ?_
    obtain ⟨r5, σ6, hc3, h3⟩ := db2_s h2
    clear h2
    refine cV_I [] [] B mx_yX11_bad (c_fRM_bad l X _ σ r5 σ6 hc3) kl_RX11_77 mi_yX11_bad (rv_0 _ _) hcl_11 Z hl rfl rfl ⟨Nat.le_of_ble_eq_true rfl, Nat.le_of_ble_eq_true rfl⟩ rfl rfl (Nat.le_of_ble_eq_true rfl) dX11_bound_40 (fun H locs Z => ?_)
    clear hc3
    refine lv_i2l hx hb dX11_bound_43 rfl ?_
    exact reL B Z hz h3 dX11_bound_44
  clear eJ3
  refine lv_if_eq (tgt := 39) hx hb dX11_bound_8 (by decide) (fun c7 => ?_) (fun c7 => ?_)
  · have h5 := dit h4 c7
    clear h4
    exact kJ3  _ _ _ Z (lv_sub hl [0] rfl) h5
  · have h6 := dif h4 c7
    clear h4
    refine lv_iload_n hx hb dX11_bound_11 rfl (lv_at hl 2 rfl) ?_
    refine lv_iconst (v := (0 : Int32)) hx hb dX11_bound_12 (by decide) ?_
    refine lv_iconst (v := (2 : Int32)) hx hb dX11_bound_13 (by decide) ?_
    obtain ⟨r9, hc7, h7⟩ := db1_s h6
    clear h6
    refine cS_I [.int a2, .int (0 : Int32), .int (2 : Int32)] [] B mx_yX11_isWithin (c_fRM_isWithin l X _ a2 (0 : Int32) (2 : Int32) σ r9 hc7) kl_RX11_106 ks_yX11_isWithin Z hl rfl rfl ⟨Nat.le_of_ble_eq_true rfl, Nat.le_of_ble_eq_true rfl⟩ rfl rfl (Nat.le_of_ble_eq_true rfl) dX11_bound_14 (fun H locs Z => ?_)
    clear hc7
    refine lv_if_eq (tgt := 39) hx hb dX11_bound_17 (by decide) (fun c10 => ?_) (fun c10 => ?_)
    · have h8 := dit h7 c10
      clear h7
      exact kJ3  _ _ _ Z (lv_sub hl [0] rfl) h8
    · have h9 := dif h7 c10
      clear h7
      refine lv_iload_n hx hb dX11_bound_20 rfl (lv_at hl 3 rfl) ?_
      refine lv_iconst (v := (0 : Int32)) hx hb dX11_bound_21 (by decide) ?_
      refine lv_iconst (v := (1 : Int32)) hx hb dX11_bound_22 (by decide) ?_
      obtain ⟨r12, hc10, h10⟩ := db1_s h9
      clear h9
      refine cS_I [.int a3, .int (0 : Int32), .int (1 : Int32)] [] B mx_yX11_isWithin (c_fRM_isWithin l X _ a3 (0 : Int32) (1 : Int32) σ r12 hc10) kl_RX11_106 ks_yX11_isWithin Z hl rfl rfl ⟨Nat.le_of_ble_eq_true rfl, Nat.le_of_ble_eq_true rfl⟩ rfl rfl (Nat.le_of_ble_eq_true rfl) dX11_bound_23 (fun H locs Z => ?_)
      clear hc10
      refine lv_if_eq (tgt := 39) hx hb dX11_bound_26 (by decide) (fun c13 => ?_) (fun c13 => ?_)
      · have h11 := dit h10 c13
        clear h10
        exact kJ3  _ _ _ Z (lv_sub hl [0] rfl) h11
      · have h12 := dif h10 c13
        clear h10
        refine lv_iload hx hb dX11_bound_29 (lv_at hl 4 rfl) ?_
        refine lv_iconst (v := (0 : Int32)) hx hb dX11_bound_31 (by decide) ?_
        refine lv_iconst (v := (2 : Int32)) hx hb dX11_bound_32 (by decide) ?_
        obtain ⟨r15, hc13, h13⟩ := db1_s h12
        clear h12
        refine cS_I [.int a4, .int (0 : Int32), .int (2 : Int32)] [] B mx_yX11_isWithin (c_fRM_isWithin l X _ a4 (0 : Int32) (2 : Int32) σ r15 hc13) kl_RX11_106 ks_yX11_isWithin Z hl rfl rfl ⟨Nat.le_of_ble_eq_true rfl, Nat.le_of_ble_eq_true rfl⟩ rfl rfl (Nat.le_of_ble_eq_true rfl) dX11_bound_33 (fun H locs Z => ?_)
        clear hc13
        refine lv_if_ne (tgt := 45) hx hb dX11_bound_36 (by decide) (fun c16 => ?_) (fun c16 => ?_)
        · have h14 := dif h13 c16
          clear h13
          refine lv_aload_n hx hb dX11_bound_45 rfl (lv_at hl 0 rfl) ?_
          refine g_0_1 B Z kf_RX11_21 dX11_bound_46 ?_
          refine lv_iload_n hx hb dX11_bound_49 rfl (lv_at hl 1 rfl) ?_
          refine lv_iload_n hx hb dX11_bound_50 rfl (lv_at hl 2 rfl) ?_
          obtain ⟨r18, σ19, hc16, h15⟩ := db2_s h14
          clear h14
          refine cV_I [.int a1, .int a2] [] B mx_yX7_measure (c_fSo_measure l X _ a1 a2 σ r18 σ19 hc16) kl_RX11_131 mi_yX7_measure (rv_5 _ _) hcl_7 Z hl rfl rfl ⟨Nat.le_of_ble_eq_true rfl, Nat.le_of_ble_eq_true rfl⟩ rfl rfl (Nat.le_of_ble_eq_true rfl) dX11_bound_51 (fun H locs Z => ?_)
          clear hc16
          refine lv_if_ne (tgt := 63) hx hb dX11_bound_54 (by decide) (fun c20 => ?_) (fun c20 => ?_)
          · have h16 := dif h15 c20
            clear h15
            refine lv_iload_n hx hb dX11_bound_63 rfl (lv_at hl 3 rfl) ?_
            refine lv_iconst (v := (1 : Int32)) hx hb dX11_bound_64 (by decide) ?_
            refine lv_icmp_ne (tgt := 83) hx hb dX11_bound_65 (by decide) (fun c21 => ?_) (fun c21 => ?_)
            · have h17 := dif h16 c21
              clear h16
              refine lv_aload_n hx hb dX11_bound_83 rfl (lv_at hl 0 rfl) ?_
              refine g_0_1 B Z kf_RX11_21 dX11_bound_84 ?_
              refine gn_5_4 B Z kx_RX11_134 dX11_bound_87 ?_
              refine lv_iload hx hb dX11_bound_90 (lv_at hl 4 rfl) ?_
              obtain ⟨r23, hc21, h18⟩ := db1_s h17
              clear h17
              refine cV_L [.int a4] [] B mx_yX8_lowProperty (c_fSp_lowProperty l X _ a4 σ19 r23 hc21) kl_RX11_144 mi_yX8_lowProperty (rv_15 _ _) hcl_8 Z hl rfl rfl ⟨Nat.le_of_ble_eq_true rfl, Nat.le_of_ble_eq_true rfl⟩ rfl rfl (Nat.le_of_ble_eq_true rfl) dX11_bound_92 (fun H locs Z => ?_)
              clear hc21
              exact reL B Z hz h18 dX11_bound_95
            · have h19 := dit h16 c21
              clear h16
              refine lv_aload_n hx hb dX11_bound_68 rfl (lv_at hl 0 rfl) ?_
              refine g_0_1 B Z kf_RX11_21 dX11_bound_69 ?_
              refine gn_5_4 B Z kx_RX11_134 dX11_bound_72 ?_
              refine lv_iload hx hb dX11_bound_75 (lv_at hl 4 rfl) ?_
              obtain ⟨r25, hc23, h20⟩ := db1_s h19
              clear h19
              refine cV_L [.int a4] [] B mx_yX8_highProperty (c_fSp_highProperty l X _ a4 σ19 r25 hc23) kl_RX11_138 mi_yX8_highProperty (rv_15 _ _) hcl_8 Z hl rfl rfl ⟨Nat.le_of_ble_eq_true rfl, Nat.le_of_ble_eq_true rfl⟩ rfl rfl (Nat.le_of_ble_eq_true rfl) dX11_bound_77 (fun H locs Z => ?_)
              clear hc23
              refine lv_goto (tgt := 95) hx hb dX11_bound_80 (by decide) ?_
              exact reL B Z hz h20 dX11_bound_95
          · have h21 := dit h15 c20
            clear h15
            refine lv_aload_n hx hb dX11_bound_57 rfl (lv_at hl 0 rfl) ?_
            obtain ⟨r27, σ28, hc25, h22⟩ := db2_s h21
            clear h21
            refine cV_I [] [] B mx_yX11_no (c_fRM_no l X _ σ19 r27 σ28 hc25) kl_RX11_124 mi_yX11_no (rv_0 _ _) hcl_11 Z hl rfl rfl ⟨Nat.le_of_ble_eq_true rfl, Nat.le_of_ble_eq_true rfl⟩ rfl rfl (Nat.le_of_ble_eq_true rfl) dX11_bound_58 (fun H locs Z => ?_)
            clear hc25
            refine lv_i2l hx hb dX11_bound_61 rfl ?_
            exact reL B Z hz h22 dX11_bound_62
        · have h23 := dit h13 c16
          clear h13
          exact kJ3  _ _ _ Z (lv_sub hl [0] rfl) h23
theorem dX7_implies_0 : decode cX7_implies 0 = .ok (.aload_n 0, 1) := by decide +kernel
theorem dX7_implies_1 : decode cX7_implies 1 = .ok (.getfield 50, 3) := by decide +kernel
theorem dX7_implies_4 : decode cX7_implies 4 = .ok (.iload_n 2, 1) := by decide +kernel
theorem dX7_implies_5 : decode cX7_implies 5 = .ok (.iconst 3, 1) := by decide +kernel
theorem dX7_implies_6 : decode cX7_implies 6 = .ok (.invokevirtual 78, 3) := by decide +kernel
theorem dX7_implies_9 : decode cX7_implies 9 = .ok (.istore_n 3, 1) := by decide +kernel
theorem dX7_implies_10 : decode cX7_implies 10 = .ok (.iload_n 3, 1) := by decide +kernel
theorem dX7_implies_11 : decode cX7_implies 11 = .ok (.iconst 2, 1) := by decide +kernel
theorem dX7_implies_12 : decode cX7_implies 12 = .ok (.if_icmp .ne 31, 3) := by decide +kernel
theorem dX7_implies_15 : decode cX7_implies 15 = .ok (.aload_n 0, 1) := by decide +kernel
theorem dX7_implies_16 : decode cX7_implies 16 = .ok (.iload_n 1, 1) := by decide +kernel
theorem dX7_implies_17 : decode cX7_implies 17 = .ok (.iload_n 2, 1) := by decide +kernel
theorem dX7_implies_18 : decode cX7_implies 18 = .ok (.iconst 1, 1) := by decide +kernel
theorem dX7_implies_19 : decode cX7_implies 19 = .ok (.iconst 0, 1) := by decide +kernel
theorem dX7_implies_20 : decode cX7_implies 20 = .ok (.invokevirtual 122, 3) := by decide +kernel
theorem dX7_implies_23 : decode cX7_implies 23 = .ok (.ifCond .ne 18, 3) := by decide +kernel
theorem dX7_implies_26 : decode cX7_implies 26 = .ok (.aload_n 0, 1) := by decide +kernel
theorem dX7_implies_27 : decode cX7_implies 27 = .ok (.iload_n 1, 1) := by decide +kernel
theorem dX7_implies_28 : decode cX7_implies 28 = .ok (.iload_n 2, 1) := by decide +kernel
theorem dX7_implies_29 : decode cX7_implies 29 = .ok (.iconst (-1), 1) := by decide +kernel
theorem dX7_implies_30 : decode cX7_implies 30 = .ok (.iconst 0, 1) := by decide +kernel
theorem dX7_implies_31 : decode cX7_implies 31 = .ok (.invokevirtual 122, 3) := by decide +kernel
theorem dX7_implies_34 : decode cX7_implies 34 = .ok (.ifCond .ne 7, 3) := by decide +kernel
theorem dX7_implies_37 : decode cX7_implies 37 = .ok (.iconst 1, 1) := by decide +kernel
theorem dX7_implies_38 : decode cX7_implies 38 = .ok (.goto 4, 3) := by decide +kernel
theorem dX7_implies_41 : decode cX7_implies 41 = .ok (.iconst 0, 1) := by decide +kernel
theorem dX7_implies_42 : decode cX7_implies 42 = .ok (.ireturn, 1) := by decide +kernel
theorem dX7_implies_43 : decode cX7_implies 43 = .ok (.aload_n 0, 1) := by decide +kernel
theorem dX7_implies_44 : decode cX7_implies 44 = .ok (.iload_n 1, 1) := by decide +kernel
theorem dX7_implies_45 : decode cX7_implies 45 = .ok (.iload_n 2, 1) := by decide +kernel
theorem dX7_implies_46 : decode cX7_implies 46 = .ok (.iconst (-1), 1) := by decide +kernel
theorem dX7_implies_47 : decode cX7_implies 47 = .ok (.iload_n 3, 1) := by decide +kernel
theorem dX7_implies_48 : decode cX7_implies 48 = .ok (.ifCond .ne 7, 3) := by decide +kernel
theorem dX7_implies_51 : decode cX7_implies 51 = .ok (.iconst 1, 1) := by decide +kernel
theorem dX7_implies_52 : decode cX7_implies 52 = .ok (.goto 4, 3) := by decide +kernel
theorem dX7_implies_55 : decode cX7_implies 55 = .ok (.iconst 0, 1) := by decide +kernel
theorem dX7_implies_56 : decode cX7_implies 56 = .ok (.invokevirtual 122, 3) := by decide +kernel
theorem dX7_implies_59 : decode cX7_implies 59 = .ok (.ifCond .ne 7, 3) := by decide +kernel
theorem dX7_implies_62 : decode cX7_implies 62 = .ok (.iconst 1, 1) := by decide +kernel
theorem dX7_implies_63 : decode cX7_implies 63 = .ok (.goto 4, 3) := by decide +kernel
theorem dX7_implies_66 : decode cX7_implies 66 = .ok (.iconst 0, 1) := by decide +kernel
theorem dX7_implies_67 : decode cX7_implies 67 = .ok (.ireturn, 1) := by decide +kernel
def rm_fSo_implies : Room := { frames := 7, cells := 0, slots := 0, locals := 231 }
set_option maxHeartbeats 4000000 in
set_option maxRecDepth 100000 in
theorem c_fSo_implies (l : Launch) (X : eX) (sz : Nat) (a1 : Int32) (a2 : Int32) (σ : sT) (rz : Int32) (σz : sT) (h0 : fSo_implies a1 a2 σ = some (rz, σz)) : ctI l yX7_implies cX7_implies 4 (some .boolean) rm_fSo_implies [.ref (X.2.1 5), .int a1, .int a2] (wC X) (tC X) (aC X) X sz σ rz σz := by
  refine ct_of (by decide +kernel) (Nat.le_of_ble_eq_true rfl) ?_
  intro p e s m args below meth c ls hz B hl Z
  have B : Bd p s m args meth c RX7 cX7_implies 4 (some .boolean) := B
  have hl : lv_has ls 4 [(0, .ref (X.2.1 5)), (1, .int a1), (2, .int a2)] := hl
  have hx := B.1
  have hb := B.2.1
  unfold fSo_implies at h0
  refine lv_aload_n hx hb dX7_implies_0 rfl (lv_at hl 0 rfl) ?_
  refine g_5_0 B Z kf_RX7_50 dX7_implies_1 ?_
  refine lv_iload_n hx hb dX7_implies_4 rfl (lv_at hl 2 rfl) ?_
  refine lv_iconst (v := (3 : Int32)) hx hb dX7_implies_5 (by decide) ?_
  obtain ⟨r2, hc0, h1⟩ := db1_s h0
  clear h0
  refine cV_I [.int a2, .int (3 : Int32)] [] B mx_yX0_get (c_fBk_get l X _ a2 (3 : Int32) σ r2 hc0) kl_RX7_78 mi_yX0_get (rv_1 _ _) hcl_0 Z hl rfl rfl ⟨Nat.le_of_ble_eq_true rfl, Nat.le_of_ble_eq_true rfl⟩ rfl rfl (Nat.le_of_ble_eq_true rfl) dX7_implies_6 (fun H locs Z => ?_)
  clear hc0
  refine lv_istore_n (lv' := [(3, .int r2), (0, .ref (X.2.1 5)), (1, .int a1), (2, .int a2)]) hx hb dX7_implies_9 rfl hl (by decide) rfl (fun ls hl => ?_)
  refine lv_iload_n hx hb dX7_implies_10 rfl (lv_at hl 0 rfl) ?_
  refine lv_iconst (v := (2 : Int32)) hx hb dX7_implies_11 (by decide) ?_
  refine lv_icmp_ne (tgt := 43) hx hb dX7_implies_12 (by decide) (fun c3 => ?_) (fun c3 => ?_)
  · have h2 := dif h1 c3
    clear h1
    refine lv_aload_n hx hb dX7_implies_43 rfl (lv_at hl 1 rfl) ?_
    refine lv_iload_n hx hb dX7_implies_44 rfl (lv_at hl 2 rfl) ?_
    refine lv_iload_n hx hb dX7_implies_45 rfl (lv_at hl 3 rfl) ?_
    refine lv_iconst (v := (-1 : Int32)) hx hb dX7_implies_46 (by decide) ?_
    refine lv_iload_n hx hb dX7_implies_47 rfl (lv_at hl 0 rfl) ?_
    obtain ⟨J8, eJ8, h7⟩ := dlt_s h2
    clear h2
    have kJ8 : ∀ (x4 : Int32) (x5 : Int32) (x6 : Int32) (x7 : Int32) (H : Heap) (locs : List Loc) (ls : Array Slot), Wd (wC X) (tC X) (aC X) X s σ H locs → lv_has ls 4 [] → J8 x4 x5 x6 x7 = some (rz, σz) → W p l e rm_fSo_implies s m args below meth c H locs 0 0 (MQ below (va_Qi (fun a u => a = rz ∧ u = σz) (poW (wC X) (tC X) (aC X) X sz) (aA (aC X) sz)) args s 0 0 (aA (aC X) sz)) (F0 m 56 ls [.int x7, .int x6, .int x5, .int x4, .ref (X.2.1 5)]) := by
      intro x4 x5 x6 x7 H locs ls Z hl h3
      rw [eJ8] at h3
      obtain ⟨r10, σ11, hc8, h4⟩ := db2_s h3
      clear h3
      refine cV_I [.int x4, .int x5, .int x6, .int x7] [] B mx_yX7_meets (c_fSo_meets l X _ x4 x5 x6 x7 σ r10 σ11 hc8) kl_RX7_122 mi_yX7_meets (rv_5 _ _) hcl_7 Z hl rfl rfl ⟨Nat.le_of_ble_eq_true rfl, Nat.le_of_ble_eq_true rfl⟩ rfl rfl (Nat.le_of_ble_eq_true rfl) dX7_implies_56 (fun H locs Z => ?_)
      clear hc8
      refine lv_if_ne (tgt := 66) hx hb dX7_implies_59 (by decide) (fun c12 => ?_) (fun c12 => ?_)
      · have h5 := dif h4 c12
        clear h4
        refine lv_iconst (v := (0 : Int32)) hx hb dX7_implies_66 (by decide) ?_
        exact reI B Z rfl hz h5 dX7_implies_67
      · have h6 := dit h4 c12
        clear h4
        refine lv_iconst (v := (1 : Int32)) hx hb dX7_implies_62 (by decide) ?_
        refine lv_goto (tgt := 67) hx hb dX7_implies_63 (by decide) ?_
        exact reI B Z rfl hz h6 dX7_implies_67
    clear eJ8
    refine lv_if_ne (tgt := 55) hx hb dX7_implies_48 (by decide) (fun c13 => ?_) (fun c13 => ?_)
    · have h8 := dif h7 c13
      clear h7
      refine lv_iconst (v := (0 : Int32)) hx hb dX7_implies_55 (by decide) ?_
      exact kJ8 a1 a2 (-1 : Int32) (0 : Int32) _ _ _ Z (lv_sub hl [] rfl) h8
    · have h9 := dit h7 c13
      clear h7
      refine lv_iconst (v := (1 : Int32)) hx hb dX7_implies_51 (by decide) ?_
      refine lv_goto (tgt := 56) hx hb dX7_implies_52 (by decide) ?_
      exact kJ8 a1 a2 (-1 : Int32) (1 : Int32) _ _ _ Z (lv_sub hl [] rfl) h9
  · have h10 := dit h1 c3
    clear h1
    refine lv_aload_n hx hb dX7_implies_15 rfl (lv_at hl 1 rfl) ?_
    refine lv_iload_n hx hb dX7_implies_16 rfl (lv_at hl 2 rfl) ?_
    refine lv_iload_n hx hb dX7_implies_17 rfl (lv_at hl 3 rfl) ?_
    refine lv_iconst (v := (1 : Int32)) hx hb dX7_implies_18 (by decide) ?_
    refine lv_iconst (v := (0 : Int32)) hx hb dX7_implies_19 (by decide) ?_
    obtain ⟨r15, σ16, hc13, h11⟩ := db2_s h10
    clear h10
    refine cV_I [.int a1, .int a2, .int (1 : Int32), .int (0 : Int32)] [] B mx_yX7_meets (c_fSo_meets l X _ a1 a2 (1 : Int32) (0 : Int32) σ r15 σ16 hc13) kl_RX7_122 mi_yX7_meets (rv_5 _ _) hcl_7 Z hl rfl rfl ⟨Nat.le_of_ble_eq_true rfl, Nat.le_of_ble_eq_true rfl⟩ rfl rfl (Nat.le_of_ble_eq_true rfl) dX7_implies_20 (fun H locs Z => ?_)
    clear hc13
    refine lv_if_ne (tgt := 41) hx hb dX7_implies_23 (by decide) (fun c17 => ?_) (fun c17 => ?_)
    · have h12 := dif h11 c17
      clear h11
      refine lv_iconst (v := (0 : Int32)) hx hb dX7_implies_41 (by decide) ?_
      exact reI B Z rfl hz h12 dX7_implies_42
    · have h13 := dit h11 c17
      clear h11
      refine lv_aload_n hx hb dX7_implies_26 rfl (lv_at hl 1 rfl) ?_
      refine lv_iload_n hx hb dX7_implies_27 rfl (lv_at hl 2 rfl) ?_
      refine lv_iload_n hx hb dX7_implies_28 rfl (lv_at hl 3 rfl) ?_
      refine lv_iconst (v := (-1 : Int32)) hx hb dX7_implies_29 (by decide) ?_
      refine lv_iconst (v := (0 : Int32)) hx hb dX7_implies_30 (by decide) ?_
      obtain ⟨r19, σ20, hc17, h14⟩ := db2_s h13
      clear h13
      refine cV_I [.int a1, .int a2, .int (-1 : Int32), .int (0 : Int32)] [] B mx_yX7_meets (c_fSo_meets l X _ a1 a2 (-1 : Int32) (0 : Int32) σ16 r19 σ20 hc17) kl_RX7_122 mi_yX7_meets (rv_5 _ _) hcl_7 Z hl rfl rfl ⟨Nat.le_of_ble_eq_true rfl, Nat.le_of_ble_eq_true rfl⟩ rfl rfl (Nat.le_of_ble_eq_true rfl) dX7_implies_31 (fun H locs Z => ?_)
      clear hc17
      refine lv_if_ne (tgt := 41) hx hb dX7_implies_34 (by decide) (fun c21 => ?_) (fun c21 => ?_)
      · have h15 := dif h14 c21
        clear h14
        refine lv_iconst (v := (0 : Int32)) hx hb dX7_implies_41 (by decide) ?_
        exact reI B Z rfl hz h15 dX7_implies_42
      · have h16 := dit h14 c21
        clear h14
        refine lv_iconst (v := (1 : Int32)) hx hb dX7_implies_37 (by decide) ?_
        refine lv_goto (tgt := 42) hx hb dX7_implies_38 (by decide) ?_
        exact reI B Z rfl hz h16 dX7_implies_42
theorem dX11_brings_0 : decode cX11_brings 0 = .ok (.aload_n 0, 1) := by decide +kernel
theorem dX11_brings_1 : decode cX11_brings 1 = .ok (.getfield 10, 3) := by decide +kernel
theorem dX11_brings_4 : decode cX11_brings 4 = .ok (.iload_n 1, 1) := by decide +kernel
theorem dX11_brings_5 : decode cX11_brings 5 = .ok (.invokevirtual 118, 3) := by decide +kernel
theorem dX11_brings_8 : decode cX11_brings 8 = .ok (.ifCond .eq 14, 3) := by decide +kernel
theorem dX11_brings_11 : decode cX11_brings 11 = .ok (.aload_n 0, 1) := by decide +kernel
theorem dX11_brings_12 : decode cX11_brings 12 = .ok (.getfield 10, 3) := by decide +kernel
theorem dX11_brings_15 : decode cX11_brings 15 = .ok (.iload_n 2, 1) := by decide +kernel
theorem dX11_brings_16 : decode cX11_brings 16 = .ok (.invokevirtual 99, 3) := by decide +kernel
theorem dX11_brings_19 : decode cX11_brings 19 = .ok (.ifCond .ne 8, 3) := by decide +kernel
theorem dX11_brings_22 : decode cX11_brings 22 = .ok (.aload_n 0, 1) := by decide +kernel
theorem dX11_brings_23 : decode cX11_brings 23 = .ok (.invokevirtual 77, 3) := by decide +kernel
theorem dX11_brings_26 : decode cX11_brings 26 = .ok (.ireturn, 1) := by decide +kernel
theorem dX11_brings_27 : decode cX11_brings 27 = .ok (.aload_n 0, 1) := by decide +kernel
theorem dX11_brings_28 : decode cX11_brings 28 = .ok (.getfield 21, 3) := by decide +kernel
theorem dX11_brings_31 : decode cX11_brings 31 = .ok (.iload_n 1, 1) := by decide +kernel
theorem dX11_brings_32 : decode cX11_brings 32 = .ok (.iload_n 2, 1) := by decide +kernel
theorem dX11_brings_33 : decode cX11_brings 33 = .ok (.invokevirtual 147, 3) := by decide +kernel
theorem dX11_brings_36 : decode cX11_brings 36 = .ok (.ifCond .eq 7, 3) := by decide +kernel
theorem dX11_brings_39 : decode cX11_brings 39 = .ok (.iconst 1, 1) := by decide +kernel
theorem dX11_brings_40 : decode cX11_brings 40 = .ok (.goto 4, 3) := by decide +kernel
theorem dX11_brings_43 : decode cX11_brings 43 = .ok (.iconst 0, 1) := by decide +kernel
theorem dX11_brings_44 : decode cX11_brings 44 = .ok (.ireturn, 1) := by decide +kernel
def rm_fRM_brings : Room := { frames := 8, cells := 0, slots := 0, locals := 254 }
set_option maxHeartbeats 4000000 in
set_option maxRecDepth 100000 in
theorem c_fRM_brings (l : Launch) (X : eX) (sz : Nat) (a1 : Int32) (a2 : Int32) (σ : sT) (rz : Int32) (σz : sT) (h0 : fRM_brings a1 a2 σ = some (rz, σz)) : ctI l yX11_brings cX11_brings 3 (some .int) rm_fRM_brings [.ref (X.2.1 0), .int a1, .int a2] (wC X) (tC X) (aC X) X sz σ rz σz := by
  refine ct_of (by decide +kernel) (Nat.le_of_ble_eq_true rfl) ?_
  intro p e s m args below meth c ls hz B hl Z
  have B : Bd p s m args meth c RX11 cX11_brings 3 (some .int) := B
  have hl : lv_has ls 3 [(0, .ref (X.2.1 0)), (1, .int a1), (2, .int a2)] := hl
  have hx := B.1
  have hb := B.2.1
  unfold fRM_brings at h0
  refine lv_aload_n hx hb dX11_brings_0 rfl (lv_at hl 0 rfl) ?_
  refine g_0_0 B Z kf_RX11_10 dX11_brings_1 ?_
  refine lv_iload_n hx hb dX11_brings_4 rfl (lv_at hl 1 rfl) ?_
  obtain ⟨r2, hc0, h1⟩ := db1_s h0
  clear h0
  refine cV_I [.int a1] [] B mx_yX0_covers (c_fBk_covers l X _ a1 σ r2 hc0) kl_RX11_118 mi_yX0_covers (rv_1 _ _) hcl_0 Z hl rfl rfl ⟨Nat.le_of_ble_eq_true rfl, Nat.le_of_ble_eq_true rfl⟩ rfl rfl (Nat.le_of_ble_eq_true rfl) dX11_brings_5 (fun H locs Z => ?_)
  clear hc0
  obtain ⟨J3, eJ3, h4⟩ := dlt_s h1
  clear h1
  have kJ3 : ∀ (H : Heap) (locs : List Loc) (ls : Array Slot), Wd (wC X) (tC X) (aC X) X s σ H locs → lv_has ls 3 [(0, .ref (X.2.1 0))] → J3 () = some (rz, σz) → W p l e rm_fRM_brings s m args below meth c H locs 0 0 (MQ below (va_Qi (fun a u => a = rz ∧ u = σz) (poW (wC X) (tC X) (aC X) X sz) (aA (aC X) sz)) args s 0 0 (aA (aC X) sz)) (F0 m 22 ls []) := by
    intro  H locs ls Z hl h2
    rw [eJ3] at h2
    refine lv_aload_n hx hb dX11_brings_22 rfl (lv_at hl 0 rfl) ?_
    obtain ⟨r5, σ6, hc3, h3⟩ := db2_s h2
    clear h2
    refine cV_I [] [] B mx_yX11_bad (c_fRM_bad l X _ σ r5 σ6 hc3) kl_RX11_77 mi_yX11_bad (rv_0 _ _) hcl_11 Z hl rfl rfl ⟨Nat.le_of_ble_eq_true rfl, Nat.le_of_ble_eq_true rfl⟩ rfl rfl (Nat.le_of_ble_eq_true rfl) dX11_brings_23 (fun H locs Z => ?_)
    clear hc3
    exact reI B Z rfl hz h3 dX11_brings_26
  clear eJ3
  refine lv_if_eq (tgt := 22) hx hb dX11_brings_8 (by decide) (fun c7 => ?_) (fun c7 => ?_)
  · have h5 := dit h4 c7
    clear h4
    exact kJ3  _ _ _ Z (lv_sub hl [0] rfl) h5
  · have h6 := dif h4 c7
    clear h4
    refine lv_aload_n hx hb dX11_brings_11 rfl (lv_at hl 0 rfl) ?_
    refine g_0_0 B Z kf_RX11_10 dX11_brings_12 ?_
    refine lv_iload_n hx hb dX11_brings_15 rfl (lv_at hl 2 rfl) ?_
    obtain ⟨r9, hc7, h7⟩ := db1_s h6
    clear h6
    refine cV_I [.int a2] [] B mx_yX0_has (c_fBk_has l X _ a2 σ r9 hc7) kl_RX11_99 mi_yX0_has (rv_1 _ _) hcl_0 Z hl rfl rfl ⟨Nat.le_of_ble_eq_true rfl, Nat.le_of_ble_eq_true rfl⟩ rfl rfl (Nat.le_of_ble_eq_true rfl) dX11_brings_16 (fun H locs Z => ?_)
    clear hc7
    refine lv_if_ne (tgt := 27) hx hb dX11_brings_19 (by decide) (fun c10 => ?_) (fun c10 => ?_)
    · have h8 := dif h7 c10
      clear h7
      refine lv_aload_n hx hb dX11_brings_27 rfl (lv_at hl 0 rfl) ?_
      refine g_0_1 B Z kf_RX11_21 dX11_brings_28 ?_
      refine lv_iload_n hx hb dX11_brings_31 rfl (lv_at hl 1 rfl) ?_
      refine lv_iload_n hx hb dX11_brings_32 rfl (lv_at hl 2 rfl) ?_
      obtain ⟨r12, σ13, hc10, h9⟩ := db2_s h8
      clear h8
      refine cV_I [.int a1, .int a2] [] B mx_yX7_implies (c_fSo_implies l X _ a1 a2 σ r12 σ13 hc10) kl_RX11_147 mi_yX7_implies (rv_5 _ _) hcl_7 Z hl rfl rfl ⟨Nat.le_of_ble_eq_true rfl, Nat.le_of_ble_eq_true rfl⟩ rfl rfl (Nat.le_of_ble_eq_true rfl) dX11_brings_33 (fun H locs Z => ?_)
      clear hc10
      refine lv_if_eq (tgt := 43) hx hb dX11_brings_36 (by decide) (fun c14 => ?_) (fun c14 => ?_)
      · have h10 := dit h9 c14
        clear h9
        refine lv_iconst (v := (0 : Int32)) hx hb dX11_brings_43 (by decide) ?_
        exact reI B Z rfl hz h10 dX11_brings_44
      · have h11 := dif h9 c14
        clear h9
        refine lv_iconst (v := (1 : Int32)) hx hb dX11_brings_39 (by decide) ?_
        refine lv_goto (tgt := 44) hx hb dX11_brings_40 (by decide) ?_
        exact reI B Z rfl hz h11 dX11_brings_44
    · have h12 := dit h7 c10
      clear h7
      exact kJ3  _ _ _ Z (lv_sub hl [0] rfl) h12
theorem dX11_spare_0 : decode cX11_spare 0 = .ok (.aload_n 0, 1) := by decide +kernel
theorem dX11_spare_1 : decode cX11_spare 1 = .ok (.getfield 10, 3) := by decide +kernel
theorem dX11_spare_4 : decode cX11_spare 4 = .ok (.iload_n 1, 1) := by decide +kernel
theorem dX11_spare_5 : decode cX11_spare 5 = .ok (.invokevirtual 118, 3) := by decide +kernel
theorem dX11_spare_8 : decode cX11_spare 8 = .ok (.ifCond .ne 8, 3) := by decide +kernel
theorem dX11_spare_11 : decode cX11_spare 11 = .ok (.aload_n 0, 1) := by decide +kernel
theorem dX11_spare_12 : decode cX11_spare 12 = .ok (.invokevirtual 77, 3) := by decide +kernel
theorem dX11_spare_15 : decode cX11_spare 15 = .ok (.ireturn, 1) := by decide +kernel
theorem dX11_spare_16 : decode cX11_spare 16 = .ok (.iconst 0, 1) := by decide +kernel
theorem dX11_spare_17 : decode cX11_spare 17 = .ok (.istore_n 2, 1) := by decide +kernel
theorem dX11_spare_18 : decode cX11_spare 18 = .ok (.iconst 0, 1) := by decide +kernel
theorem dX11_spare_19 : decode cX11_spare 19 = .ok (.istore_n 3, 1) := by decide +kernel
theorem dX11_spare_20 : decode cX11_spare 20 = .ok (.iload_n 3, 1) := by decide +kernel
theorem dX11_spare_21 : decode cX11_spare 21 = .ok (.bipush 12, 2) := by decide +kernel
theorem dX11_spare_23 : decode cX11_spare 23 = .ok (.if_icmp .ge 41, 3) := by decide +kernel
theorem dX11_spare_26 : decode cX11_spare 26 = .ok (.iload_n 1, 1) := by decide +kernel
theorem dX11_spare_27 : decode cX11_spare 27 = .ok (.iload_n 3, 1) := by decide +kernel
theorem dX11_spare_28 : decode cX11_spare 28 = .ok (.invokestatic 150, 3) := by decide +kernel
theorem dX11_spare_31 : decode cX11_spare 31 = .ok (.ifCond .eq 27, 3) := by decide +kernel
theorem dX11_spare_34 : decode cX11_spare 34 = .ok (.aload_n 0, 1) := by decide +kernel
theorem dX11_spare_35 : decode cX11_spare 35 = .ok (.getfield 21, 3) := by decide +kernel
theorem dX11_spare_38 : decode cX11_spare 38 = .ok (.iload_n 1, 1) := by decide +kernel
theorem dX11_spare_39 : decode cX11_spare 39 = .ok (.iconst 1, 1) := by decide +kernel
theorem dX11_spare_40 : decode cX11_spare 40 = .ok (.iload_n 3, 1) := by decide +kernel
theorem dX11_spare_41 : decode cX11_spare 41 = .ok (.ishl, 1) := by decide +kernel
theorem dX11_spare_42 : decode cX11_spare 42 = .ok (.iconst (-1), 1) := by decide +kernel
theorem dX11_spare_43 : decode cX11_spare 43 = .ok (.ixor, 1) := by decide +kernel
theorem dX11_spare_44 : decode cX11_spare 44 = .ok (.iand, 1) := by decide +kernel
theorem dX11_spare_45 : decode cX11_spare 45 = .ok (.iload_n 3, 1) := by decide +kernel
theorem dX11_spare_46 : decode cX11_spare 46 = .ok (.invokevirtual 147, 3) := by decide +kernel
theorem dX11_spare_49 : decode cX11_spare 49 = .ok (.ifCond .eq 9, 3) := by decide +kernel
theorem dX11_spare_52 : decode cX11_spare 52 = .ok (.iload_n 2, 1) := by decide +kernel
theorem dX11_spare_53 : decode cX11_spare 53 = .ok (.iconst 1, 1) := by decide +kernel
theorem dX11_spare_54 : decode cX11_spare 54 = .ok (.iload_n 3, 1) := by decide +kernel
theorem dX11_spare_55 : decode cX11_spare 55 = .ok (.ishl, 1) := by decide +kernel
theorem dX11_spare_56 : decode cX11_spare 56 = .ok (.ior, 1) := by decide +kernel
theorem dX11_spare_57 : decode cX11_spare 57 = .ok (.istore_n 2, 1) := by decide +kernel
theorem dX11_spare_58 : decode cX11_spare 58 = .ok (.iinc 3 1, 3) := by decide +kernel
theorem dX11_spare_61 : decode cX11_spare 61 = .ok (.goto (-41), 3) := by decide +kernel
theorem dX11_spare_64 : decode cX11_spare 64 = .ok (.iload_n 2, 1) := by decide +kernel
theorem dX11_spare_65 : decode cX11_spare 65 = .ok (.ireturn, 1) := by decide +kernel
def rm_fRM_spare : Room := { frames := 8, cells := 0, slots := 0, locals := 254 }
set_option maxHeartbeats 4000000 in
set_option maxRecDepth 100000 in
theorem c_fRM_spare (l : Launch) (X : eX) (sz : Nat) (a1 : Int32) (σ : sT) (rz : Int32) (σz : sT) (h0 : fRM_spare a1 σ = some (rz, σz)) : ctI l yX11_spare cX11_spare 4 (some .int) rm_fRM_spare [.ref (X.2.1 0), .int a1] (wC X) (tC X) (aC X) X sz σ rz σz := by
  refine ct_of (by decide +kernel) (Nat.le_of_ble_eq_true rfl) ?_
  intro p e s m args below meth c ls hz B hl Z
  have B : Bd p s m args meth c RX11 cX11_spare 4 (some .int) := B
  have hl : lv_has ls 4 [(0, .ref (X.2.1 0)), (1, .int a1)] := hl
  have hx := B.1
  have hb := B.2.1
  unfold fRM_spare at h0
  refine lv_aload_n hx hb dX11_spare_0 rfl (lv_at hl 0 rfl) ?_
  refine g_0_0 B Z kf_RX11_10 dX11_spare_1 ?_
  refine lv_iload_n hx hb dX11_spare_4 rfl (lv_at hl 1 rfl) ?_
  obtain ⟨r2, hc0, h1⟩ := db1_s h0
  clear h0
  refine cV_I [.int a1] [] B mx_yX0_covers (c_fBk_covers l X _ a1 σ r2 hc0) kl_RX11_118 mi_yX0_covers (rv_1 _ _) hcl_0 Z hl rfl rfl ⟨Nat.le_of_ble_eq_true rfl, Nat.le_of_ble_eq_true rfl⟩ rfl rfl (Nat.le_of_ble_eq_true rfl) dX11_spare_5 (fun H locs Z => ?_)
  clear hc0
  refine lv_if_ne (tgt := 16) hx hb dX11_spare_8 (by decide) (fun c3 => ?_) (fun c3 => ?_)
  · have h2 := dif h1 c3
    clear h1
    refine lv_iconst (v := (0 : Int32)) hx hb dX11_spare_16 (by decide) ?_
    refine lv_istore_n (lv' := [(2, .int (0 : Int32)), (0, .ref (X.2.1 0)), (1, .int a1)]) hx hb dX11_spare_17 rfl hl (by decide) rfl (fun ls hl => ?_)
    refine lv_iconst (v := (0 : Int32)) hx hb dX11_spare_18 (by decide) ?_
    refine lv_istore_n (lv' := [(3, .int (0 : Int32)), (2, .int (0 : Int32)), (0, .ref (X.2.1 0)), (1, .int a1)]) hx hb dX11_spare_19 rfl hl (by decide) rfl (fun ls hl => ?_)
    have lL20 : ∀ (n : Nat), ∀ (x4 : Int32) (x5 : Int32) (σ6 : sT) (H : Heap) (locs : List Loc) (ls : Array Slot), Wd (wC X) (tC X) (aC X) X s σ6 H locs → lv_has ls 4 [(0, .ref (X.2.1 0)), (1, .int a1), (2, .int x4), (3, .int x5)] → fRM_spare_L20 a1 n x4 x5 σ6 = some (rz, σz) → W p l e rm_fRM_spare s m args below meth c H locs 0 0 (MQ below (va_Qi (fun a u => a = rz ∧ u = σz) (poW (wC X) (tC X) (aC X) X sz) (aA (aC X) sz)) args s 0 0 (aA (aC X) sz)) (F0 m 20 ls []) := by
      intro n
      induction n with
      | zero =>
        intro x4 x5 σ6 H locs ls Z hl h
        exact nomatch (show (none : Option (Int32 × sT)) = some _ from h)
      | succ n7 ih12 =>
        intro x4 x5 σ6 H locs ls Z hl h3
        unfold fRM_spare_L20 at h3
        refine lv_iload_n hx hb dX11_spare_20 rfl (lv_at hl 3 rfl) ?_
        refine lv_bipush (v := (12 : Int32)) hx hb dX11_spare_21 (by decide) ?_
        refine lv_icmp_ge (tgt := 64) hx hb dX11_spare_23 (by decide) (fun c8 => ?_) (fun c8 => ?_)
        · have h4 := dit h3 c8
          clear h3
          refine lv_iload_n hx hb dX11_spare_64 rfl (lv_at hl 2 rfl) ?_
          exact reI B Z rfl hz h4 dX11_spare_65
        · have h5 := dif h3 c8
          clear h3
          refine lv_iload_n hx hb dX11_spare_26 rfl (lv_at hl 1 rfl) ?_
          refine lv_iload_n hx hb dX11_spare_27 rfl (lv_at hl 3 rfl) ?_
          obtain ⟨r10, hc8, h6⟩ := db1_s h5
          clear h5
          refine cS_I [.int a1, .int x5] [] B mx_yX11_isIn (c_fRM_isIn l X _ a1 x5 σ6 r10 hc8) kl_RX11_150 ks_yX11_isIn Z hl rfl rfl ⟨Nat.le_of_ble_eq_true rfl, Nat.le_of_ble_eq_true rfl⟩ rfl rfl (Nat.le_of_ble_eq_true rfl) dX11_spare_28 (fun H locs Z => ?_)
          clear hc8
          refine lv_if_eq (tgt := 58) hx hb dX11_spare_31 (by decide) (fun c11 => ?_) (fun c11 => ?_)
          · have h7 := dit h6 c11
            clear h6
            refine lv_iinc (v := x5 + (1 : Int32)) (lv' := [(3, .int (x5 + (1 : Int32))), (0, .ref (X.2.1 0)), (1, .int a1), (2, .int x4)]) hx hb dX11_spare_58 hl (k := 3) rfl (by rfl) (by decide) rfl (fun ls hl => ?_)
            refine lv_goto (tgt := 20) hx hb dX11_spare_61 (by decide) ?_
            exact ih12 x4 (x5 + (1 : Int32)) σ6 _ _ _ Z (lv_sub hl [1, 2, 3, 0] rfl) h7
          · have h8 := dif h6 c11
            clear h6
            refine lv_aload_n hx hb dX11_spare_34 rfl (lv_at hl 0 rfl) ?_
            refine g_0_1 B Z kf_RX11_21 dX11_spare_35 ?_
            refine lv_iload_n hx hb dX11_spare_38 rfl (lv_at hl 1 rfl) ?_
            refine lv_iconst (v := (1 : Int32)) hx hb dX11_spare_39 (by decide) ?_
            refine lv_iload_n hx hb dX11_spare_40 rfl (lv_at hl 3 rfl) ?_
            refine lv_ishl hx hb dX11_spare_41 ?_
            refine lv_iconst (v := (-1 : Int32)) hx hb dX11_spare_42 (by decide) ?_
            refine lv_ixor hx hb dX11_spare_43 ?_
            refine lv_iand hx hb dX11_spare_44 ?_
            refine lv_iload_n hx hb dX11_spare_45 rfl (lv_at hl 3 rfl) ?_
            obtain ⟨r13, σ14, hc11, h9⟩ := db2_s h8
            clear h8
            refine cV_I [.int (a1 &&& (((1 : Int32) <<< (x5 &&& 31)) ^^^ (-1 : Int32))), .int x5] [] B mx_yX7_implies (c_fSo_implies l X _ (a1 &&& (((1 : Int32) <<< (x5 &&& 31)) ^^^ (-1 : Int32))) x5 σ6 r13 σ14 hc11) kl_RX11_147 mi_yX7_implies (rv_5 _ _) hcl_7 Z hl rfl rfl ⟨Nat.le_of_ble_eq_true rfl, Nat.le_of_ble_eq_true rfl⟩ rfl rfl (Nat.le_of_ble_eq_true rfl) dX11_spare_46 (fun H locs Z => ?_)
            clear hc11
            refine lv_if_eq (tgt := 58) hx hb dX11_spare_49 (by decide) (fun c15 => ?_) (fun c15 => ?_)
            · have h10 := dit h9 c15
              clear h9
              refine lv_iinc (v := x5 + (1 : Int32)) (lv' := [(3, .int (x5 + (1 : Int32))), (0, .ref (X.2.1 0)), (1, .int a1), (2, .int x4)]) hx hb dX11_spare_58 hl (k := 3) rfl (by rfl) (by decide) rfl (fun ls hl => ?_)
              refine lv_goto (tgt := 20) hx hb dX11_spare_61 (by decide) ?_
              exact ih12 x4 (x5 + (1 : Int32)) σ14 _ _ _ Z (lv_sub hl [1, 2, 3, 0] rfl) h10
            · have h11 := dif h9 c15
              clear h9
              refine lv_iload_n hx hb dX11_spare_52 rfl (lv_at hl 2 rfl) ?_
              refine lv_iconst (v := (1 : Int32)) hx hb dX11_spare_53 (by decide) ?_
              refine lv_iload_n hx hb dX11_spare_54 rfl (lv_at hl 3 rfl) ?_
              refine lv_ishl hx hb dX11_spare_55 ?_
              refine lv_ior hx hb dX11_spare_56 ?_
              refine lv_topi (fun x16 ex16 => ?_)
              have h12 := dlt_e ex16 h11
              clear ex16 h11
              refine lv_istore_n (lv' := [(2, .int x16), (0, .ref (X.2.1 0)), (1, .int a1), (3, .int x5)]) hx hb dX11_spare_57 rfl hl (by decide) rfl (fun ls hl => ?_)
              refine lv_iinc (v := x5 + (1 : Int32)) (lv' := [(3, .int (x5 + (1 : Int32))), (2, .int x16), (0, .ref (X.2.1 0)), (1, .int a1)]) hx hb dX11_spare_58 hl (k := 3) rfl (by rfl) (by decide) rfl (fun ls hl => ?_)
              refine lv_goto (tgt := 20) hx hb dX11_spare_61 (by decide) ?_
              exact ih12 x16 (x5 + (1 : Int32)) σ14 _ _ _ Z (lv_sub hl [2, 3, 1, 0] rfl) h12
    exact lL20 FU (0 : Int32) (0 : Int32) σ _ _ _ Z (lv_sub hl [2, 3, 1, 0] rfl) h2
  · have h13 := dit h1 c3
    clear h1
    refine lv_aload_n hx hb dX11_spare_11 rfl (lv_at hl 0 rfl) ?_
    obtain ⟨r18, σ19, hc16, h14⟩ := db2_s h13
    clear h13
    refine cV_I [] [] B mx_yX11_bad (c_fRM_bad l X _ σ r18 σ19 hc16) kl_RX11_77 mi_yX11_bad (rv_0 _ _) hcl_11 Z hl rfl rfl ⟨Nat.le_of_ble_eq_true rfl, Nat.le_of_ble_eq_true rfl⟩ rfl rfl (Nat.le_of_ble_eq_true rfl) dX11_spare_12 (fun H locs Z => ?_)
    clear hc16
    exact reI B Z rfl hz h14 dX11_spare_15
theorem dX11_same_0 : decode cX11_same 0 = .ok (.aload_n 0, 1) := by decide +kernel
theorem dX11_same_1 : decode cX11_same 1 = .ok (.getfield 10, 3) := by decide +kernel
theorem dX11_same_4 : decode cX11_same 4 = .ok (.iload_n 1, 1) := by decide +kernel
theorem dX11_same_5 : decode cX11_same 5 = .ok (.invokevirtual 118, 3) := by decide +kernel
theorem dX11_same_8 : decode cX11_same 8 = .ok (.ifCond .eq 14, 3) := by decide +kernel
theorem dX11_same_11 : decode cX11_same 11 = .ok (.aload_n 0, 1) := by decide +kernel
theorem dX11_same_12 : decode cX11_same 12 = .ok (.getfield 10, 3) := by decide +kernel
theorem dX11_same_15 : decode cX11_same 15 = .ok (.iload_n 2, 1) := by decide +kernel
theorem dX11_same_16 : decode cX11_same 16 = .ok (.invokevirtual 118, 3) := by decide +kernel
theorem dX11_same_19 : decode cX11_same 19 = .ok (.ifCond .ne 8, 3) := by decide +kernel
theorem dX11_same_22 : decode cX11_same 22 = .ok (.aload_n 0, 1) := by decide +kernel
theorem dX11_same_23 : decode cX11_same 23 = .ok (.invokevirtual 77, 3) := by decide +kernel
theorem dX11_same_26 : decode cX11_same 26 = .ok (.ireturn, 1) := by decide +kernel
theorem dX11_same_27 : decode cX11_same 27 = .ok (.iconst 0, 1) := by decide +kernel
theorem dX11_same_28 : decode cX11_same 28 = .ok (.istore_n 3, 1) := by decide +kernel
theorem dX11_same_29 : decode cX11_same 29 = .ok (.iload_n 3, 1) := by decide +kernel
theorem dX11_same_30 : decode cX11_same 30 = .ok (.bipush 12, 2) := by decide +kernel
theorem dX11_same_32 : decode cX11_same 32 = .ok (.if_icmp .ge 61, 3) := by decide +kernel
theorem dX11_same_35 : decode cX11_same 35 = .ok (.iload_n 2, 1) := by decide +kernel
theorem dX11_same_36 : decode cX11_same 36 = .ok (.iload_n 1, 1) := by decide +kernel
theorem dX11_same_37 : decode cX11_same 37 = .ok (.iconst (-1), 1) := by decide +kernel
theorem dX11_same_38 : decode cX11_same 38 = .ok (.ixor, 1) := by decide +kernel
theorem dX11_same_39 : decode cX11_same 39 = .ok (.iand, 1) := by decide +kernel
theorem dX11_same_40 : decode cX11_same 40 = .ok (.iload_n 3, 1) := by decide +kernel
theorem dX11_same_41 : decode cX11_same 41 = .ok (.invokestatic 150, 3) := by decide +kernel
theorem dX11_same_44 : decode cX11_same 44 = .ok (.ifCond .eq 17, 3) := by decide +kernel
theorem dX11_same_47 : decode cX11_same 47 = .ok (.aload_n 0, 1) := by decide +kernel
theorem dX11_same_48 : decode cX11_same 48 = .ok (.getfield 21, 3) := by decide +kernel
theorem dX11_same_51 : decode cX11_same 51 = .ok (.iload_n 1, 1) := by decide +kernel
theorem dX11_same_52 : decode cX11_same 52 = .ok (.iload_n 3, 1) := by decide +kernel
theorem dX11_same_53 : decode cX11_same 53 = .ok (.invokevirtual 147, 3) := by decide +kernel
theorem dX11_same_56 : decode cX11_same 56 = .ok (.ifCond .ne 5, 3) := by decide +kernel
theorem dX11_same_59 : decode cX11_same 59 = .ok (.iconst 0, 1) := by decide +kernel
theorem dX11_same_60 : decode cX11_same 60 = .ok (.ireturn, 1) := by decide +kernel
theorem dX11_same_61 : decode cX11_same 61 = .ok (.iload_n 1, 1) := by decide +kernel
theorem dX11_same_62 : decode cX11_same 62 = .ok (.iload_n 2, 1) := by decide +kernel
theorem dX11_same_63 : decode cX11_same 63 = .ok (.iconst (-1), 1) := by decide +kernel
theorem dX11_same_64 : decode cX11_same 64 = .ok (.ixor, 1) := by decide +kernel
theorem dX11_same_65 : decode cX11_same 65 = .ok (.iand, 1) := by decide +kernel
theorem dX11_same_66 : decode cX11_same 66 = .ok (.iload_n 3, 1) := by decide +kernel
theorem dX11_same_67 : decode cX11_same 67 = .ok (.invokestatic 150, 3) := by decide +kernel
theorem dX11_same_70 : decode cX11_same 70 = .ok (.ifCond .eq 17, 3) := by decide +kernel
theorem dX11_same_73 : decode cX11_same 73 = .ok (.aload_n 0, 1) := by decide +kernel
theorem dX11_same_74 : decode cX11_same 74 = .ok (.getfield 21, 3) := by decide +kernel
theorem dX11_same_77 : decode cX11_same 77 = .ok (.iload_n 2, 1) := by decide +kernel
theorem dX11_same_78 : decode cX11_same 78 = .ok (.iload_n 3, 1) := by decide +kernel
theorem dX11_same_79 : decode cX11_same 79 = .ok (.invokevirtual 147, 3) := by decide +kernel
theorem dX11_same_82 : decode cX11_same 82 = .ok (.ifCond .ne 5, 3) := by decide +kernel
theorem dX11_same_85 : decode cX11_same 85 = .ok (.iconst 0, 1) := by decide +kernel
theorem dX11_same_86 : decode cX11_same 86 = .ok (.ireturn, 1) := by decide +kernel
theorem dX11_same_87 : decode cX11_same 87 = .ok (.iinc 3 1, 3) := by decide +kernel
theorem dX11_same_90 : decode cX11_same 90 = .ok (.goto (-61), 3) := by decide +kernel
theorem dX11_same_93 : decode cX11_same 93 = .ok (.iconst 1, 1) := by decide +kernel
theorem dX11_same_94 : decode cX11_same 94 = .ok (.ireturn, 1) := by decide +kernel
def rm_fRM_same : Room := { frames := 8, cells := 0, slots := 0, locals := 254 }
set_option maxHeartbeats 4000000 in
set_option maxRecDepth 100000 in
theorem c_fRM_same (l : Launch) (X : eX) (sz : Nat) (a1 : Int32) (a2 : Int32) (σ : sT) (rz : Int32) (σz : sT) (h0 : fRM_same a1 a2 σ = some (rz, σz)) : ctI l yX11_same cX11_same 4 (some .int) rm_fRM_same [.ref (X.2.1 0), .int a1, .int a2] (wC X) (tC X) (aC X) X sz σ rz σz := by
  refine ct_of (by decide +kernel) (Nat.le_of_ble_eq_true rfl) ?_
  intro p e s m args below meth c ls hz B hl Z
  have B : Bd p s m args meth c RX11 cX11_same 4 (some .int) := B
  have hl : lv_has ls 4 [(0, .ref (X.2.1 0)), (1, .int a1), (2, .int a2)] := hl
  have hx := B.1
  have hb := B.2.1
  unfold fRM_same at h0
  refine lv_aload_n hx hb dX11_same_0 rfl (lv_at hl 0 rfl) ?_
  refine g_0_0 B Z kf_RX11_10 dX11_same_1 ?_
  refine lv_iload_n hx hb dX11_same_4 rfl (lv_at hl 1 rfl) ?_
  obtain ⟨r2, hc0, h1⟩ := db1_s h0
  clear h0
  refine cV_I [.int a1] [] B mx_yX0_covers (c_fBk_covers l X _ a1 σ r2 hc0) kl_RX11_118 mi_yX0_covers (rv_1 _ _) hcl_0 Z hl rfl rfl ⟨Nat.le_of_ble_eq_true rfl, Nat.le_of_ble_eq_true rfl⟩ rfl rfl (Nat.le_of_ble_eq_true rfl) dX11_same_5 (fun H locs Z => ?_)
  clear hc0
  obtain ⟨J3, eJ3, h4⟩ := dlt_s h1
  clear h1
  have kJ3 : ∀ (H : Heap) (locs : List Loc) (ls : Array Slot), Wd (wC X) (tC X) (aC X) X s σ H locs → lv_has ls 4 [(0, .ref (X.2.1 0))] → J3 () = some (rz, σz) → W p l e rm_fRM_same s m args below meth c H locs 0 0 (MQ below (va_Qi (fun a u => a = rz ∧ u = σz) (poW (wC X) (tC X) (aC X) X sz) (aA (aC X) sz)) args s 0 0 (aA (aC X) sz)) (F0 m 22 ls []) := by
    intro  H locs ls Z hl h2
    rw [eJ3] at h2
    refine lv_aload_n hx hb dX11_same_22 rfl (lv_at hl 0 rfl) ?_
    obtain ⟨r5, σ6, hc3, h3⟩ := db2_s h2
    clear h2
    refine cV_I [] [] B mx_yX11_bad (c_fRM_bad l X _ σ r5 σ6 hc3) kl_RX11_77 mi_yX11_bad (rv_0 _ _) hcl_11 Z hl rfl rfl ⟨Nat.le_of_ble_eq_true rfl, Nat.le_of_ble_eq_true rfl⟩ rfl rfl (Nat.le_of_ble_eq_true rfl) dX11_same_23 (fun H locs Z => ?_)
    clear hc3
    exact reI B Z rfl hz h3 dX11_same_26
  clear eJ3
  refine lv_if_eq (tgt := 22) hx hb dX11_same_8 (by decide) (fun c7 => ?_) (fun c7 => ?_)
  · have h5 := dit h4 c7
    clear h4
    exact kJ3  _ _ _ Z (lv_sub hl [0] rfl) h5
  · have h6 := dif h4 c7
    clear h4
    refine lv_aload_n hx hb dX11_same_11 rfl (lv_at hl 0 rfl) ?_
    refine g_0_0 B Z kf_RX11_10 dX11_same_12 ?_
    refine lv_iload_n hx hb dX11_same_15 rfl (lv_at hl 2 rfl) ?_
    obtain ⟨r9, hc7, h7⟩ := db1_s h6
    clear h6
    refine cV_I [.int a2] [] B mx_yX0_covers (c_fBk_covers l X _ a2 σ r9 hc7) kl_RX11_118 mi_yX0_covers (rv_1 _ _) hcl_0 Z hl rfl rfl ⟨Nat.le_of_ble_eq_true rfl, Nat.le_of_ble_eq_true rfl⟩ rfl rfl (Nat.le_of_ble_eq_true rfl) dX11_same_16 (fun H locs Z => ?_)
    clear hc7
    refine lv_if_ne (tgt := 27) hx hb dX11_same_19 (by decide) (fun c10 => ?_) (fun c10 => ?_)
    · have h8 := dif h7 c10
      clear h7
      refine lv_iconst (v := (0 : Int32)) hx hb dX11_same_27 (by decide) ?_
      refine lv_istore_n (lv' := [(3, .int (0 : Int32)), (0, .ref (X.2.1 0)), (1, .int a1), (2, .int a2)]) hx hb dX11_same_28 rfl hl (by decide) rfl (fun ls hl => ?_)
      have lL29 : ∀ (n : Nat), ∀ (x11 : Int32) (σ12 : sT) (H : Heap) (locs : List Loc) (ls : Array Slot), Wd (wC X) (tC X) (aC X) X s σ12 H locs → lv_has ls 4 [(0, .ref (X.2.1 0)), (1, .int a1), (2, .int a2), (3, .int x11)] → fRM_same_L29 a1 a2 n x11 σ12 = some (rz, σz) → W p l e rm_fRM_same s m args below meth c H locs 0 0 (MQ below (va_Qi (fun a u => a = rz ∧ u = σz) (poW (wC X) (tC X) (aC X) X sz) (aA (aC X) sz)) args s 0 0 (aA (aC X) sz)) (F0 m 29 ls []) := by
        intro n
        induction n with
        | zero =>
          intro x11 σ12 H locs ls Z hl h
          exact nomatch (show (none : Option (Int32 × sT)) = some _ from h)
        | succ n13 ih15 =>
          intro x11 σ12 H locs ls Z hl h9
          unfold fRM_same_L29 at h9
          refine lv_iload_n hx hb dX11_same_29 rfl (lv_at hl 3 rfl) ?_
          refine lv_bipush (v := (12 : Int32)) hx hb dX11_same_30 (by decide) ?_
          refine lv_icmp_ge (tgt := 93) hx hb dX11_same_32 (by decide) (fun c14 => ?_) (fun c14 => ?_)
          · have h10 := dit h9 c14
            clear h9
            refine lv_iconst (v := (1 : Int32)) hx hb dX11_same_93 (by decide) ?_
            exact reI B Z rfl hz h10 dX11_same_94
          · have h11 := dif h9 c14
            clear h9
            refine lv_iload_n hx hb dX11_same_35 rfl (lv_at hl 2 rfl) ?_
            refine lv_iload_n hx hb dX11_same_36 rfl (lv_at hl 1 rfl) ?_
            refine lv_iconst (v := (-1 : Int32)) hx hb dX11_same_37 (by decide) ?_
            refine lv_ixor hx hb dX11_same_38 ?_
            refine lv_iand hx hb dX11_same_39 ?_
            refine lv_iload_n hx hb dX11_same_40 rfl (lv_at hl 3 rfl) ?_
            obtain ⟨r16, hc14, h12⟩ := db1_s h11
            clear h11
            refine cS_I [.int (a2 &&& (a1 ^^^ (-1 : Int32))), .int x11] [] B mx_yX11_isIn (c_fRM_isIn l X _ (a2 &&& (a1 ^^^ (-1 : Int32))) x11 σ12 r16 hc14) kl_RX11_150 ks_yX11_isIn Z hl rfl rfl ⟨Nat.le_of_ble_eq_true rfl, Nat.le_of_ble_eq_true rfl⟩ rfl rfl (Nat.le_of_ble_eq_true rfl) dX11_same_41 (fun H locs Z => ?_)
            clear hc14
            obtain ⟨J18, eJ18, h20⟩ := dlt_s h12
            clear h12
            have kJ18 : ∀ (σ17 : sT) (H : Heap) (locs : List Loc) (ls : Array Slot), Wd (wC X) (tC X) (aC X) X s σ17 H locs → lv_has ls 4 [(0, .ref (X.2.1 0)), (1, .int a1), (2, .int a2), (3, .int x11)] → J18 σ17 = some (rz, σz) → W p l e rm_fRM_same s m args below meth c H locs 0 0 (MQ below (va_Qi (fun a u => a = rz ∧ u = σz) (poW (wC X) (tC X) (aC X) X sz) (aA (aC X) sz)) args s 0 0 (aA (aC X) sz)) (F0 m 61 ls []) := by
              intro σ17 H locs ls Z hl h13
              rw [eJ18] at h13
              refine lv_iload_n hx hb dX11_same_61 rfl (lv_at hl 1 rfl) ?_
              refine lv_iload_n hx hb dX11_same_62 rfl (lv_at hl 2 rfl) ?_
              refine lv_iconst (v := (-1 : Int32)) hx hb dX11_same_63 (by decide) ?_
              refine lv_ixor hx hb dX11_same_64 ?_
              refine lv_iand hx hb dX11_same_65 ?_
              refine lv_iload_n hx hb dX11_same_66 rfl (lv_at hl 3 rfl) ?_
              obtain ⟨r20, hc18, h14⟩ := db1_s h13
              clear h13
              refine cS_I [.int (a1 &&& (a2 ^^^ (-1 : Int32))), .int x11] [] B mx_yX11_isIn (c_fRM_isIn l X _ (a1 &&& (a2 ^^^ (-1 : Int32))) x11 σ17 r20 hc18) kl_RX11_150 ks_yX11_isIn Z hl rfl rfl ⟨Nat.le_of_ble_eq_true rfl, Nat.le_of_ble_eq_true rfl⟩ rfl rfl (Nat.le_of_ble_eq_true rfl) dX11_same_67 (fun H locs Z => ?_)
              clear hc18
              refine lv_if_eq (tgt := 87) hx hb dX11_same_70 (by decide) (fun c21 => ?_) (fun c21 => ?_)
              · have h15 := dit h14 c21
                clear h14
                refine lv_iinc (v := x11 + (1 : Int32)) (lv' := [(3, .int (x11 + (1 : Int32))), (0, .ref (X.2.1 0)), (1, .int a1), (2, .int a2)]) hx hb dX11_same_87 hl (k := 3) rfl (by rfl) (by decide) rfl (fun ls hl => ?_)
                refine lv_goto (tgt := 29) hx hb dX11_same_90 (by decide) ?_
                exact ih15 (x11 + (1 : Int32)) σ17 _ _ _ Z (lv_sub hl [1, 2, 3, 0] rfl) h15
              · have h16 := dif h14 c21
                clear h14
                refine lv_aload_n hx hb dX11_same_73 rfl (lv_at hl 0 rfl) ?_
                refine g_0_1 B Z kf_RX11_21 dX11_same_74 ?_
                refine lv_iload_n hx hb dX11_same_77 rfl (lv_at hl 2 rfl) ?_
                refine lv_iload_n hx hb dX11_same_78 rfl (lv_at hl 3 rfl) ?_
                obtain ⟨r23, σ24, hc21, h17⟩ := db2_s h16
                clear h16
                refine cV_I [.int a2, .int x11] [] B mx_yX7_implies (c_fSo_implies l X _ a2 x11 σ17 r23 σ24 hc21) kl_RX11_147 mi_yX7_implies (rv_5 _ _) hcl_7 Z hl rfl rfl ⟨Nat.le_of_ble_eq_true rfl, Nat.le_of_ble_eq_true rfl⟩ rfl rfl (Nat.le_of_ble_eq_true rfl) dX11_same_79 (fun H locs Z => ?_)
                clear hc21
                refine lv_if_ne (tgt := 87) hx hb dX11_same_82 (by decide) (fun c25 => ?_) (fun c25 => ?_)
                · have h18 := dif h17 c25
                  clear h17
                  refine lv_iinc (v := x11 + (1 : Int32)) (lv' := [(3, .int (x11 + (1 : Int32))), (0, .ref (X.2.1 0)), (1, .int a1), (2, .int a2)]) hx hb dX11_same_87 hl (k := 3) rfl (by rfl) (by decide) rfl (fun ls hl => ?_)
                  refine lv_goto (tgt := 29) hx hb dX11_same_90 (by decide) ?_
                  exact ih15 (x11 + (1 : Int32)) σ24 _ _ _ Z (lv_sub hl [1, 2, 3, 0] rfl) h18
                · have h19 := dit h17 c25
                  clear h17
                  refine lv_iconst (v := (0 : Int32)) hx hb dX11_same_85 (by decide) ?_
                  exact reI B Z rfl hz h19 dX11_same_86
            clear eJ18
            refine lv_if_eq (tgt := 61) hx hb dX11_same_44 (by decide) (fun c26 => ?_) (fun c26 => ?_)
            · have h21 := dit h20 c26
              clear h20
              exact kJ18 σ12 _ _ _ Z (lv_sub hl [0, 1, 2, 3] rfl) h21
            · have h22 := dif h20 c26
              clear h20
              refine lv_aload_n hx hb dX11_same_47 rfl (lv_at hl 0 rfl) ?_
              refine g_0_1 B Z kf_RX11_21 dX11_same_48 ?_
              refine lv_iload_n hx hb dX11_same_51 rfl (lv_at hl 1 rfl) ?_
              refine lv_iload_n hx hb dX11_same_52 rfl (lv_at hl 3 rfl) ?_
              obtain ⟨r28, σ29, hc26, h23⟩ := db2_s h22
              clear h22
              refine cV_I [.int a1, .int x11] [] B mx_yX7_implies (c_fSo_implies l X _ a1 x11 σ12 r28 σ29 hc26) kl_RX11_147 mi_yX7_implies (rv_5 _ _) hcl_7 Z hl rfl rfl ⟨Nat.le_of_ble_eq_true rfl, Nat.le_of_ble_eq_true rfl⟩ rfl rfl (Nat.le_of_ble_eq_true rfl) dX11_same_53 (fun H locs Z => ?_)
              clear hc26
              refine lv_if_ne (tgt := 61) hx hb dX11_same_56 (by decide) (fun c30 => ?_) (fun c30 => ?_)
              · have h24 := dif h23 c30
                clear h23
                exact kJ18 σ29 _ _ _ Z (lv_sub hl [0, 1, 2, 3] rfl) h24
              · have h25 := dit h23 c30
                clear h23
                refine lv_iconst (v := (0 : Int32)) hx hb dX11_same_59 (by decide) ?_
                exact reI B Z rfl hz h25 dX11_same_60
      exact lL29 FU (0 : Int32) σ _ _ _ Z (lv_sub hl [1, 2, 3, 0] rfl) h8
    · have h26 := dit h7 c10
      clear h7
      exact kJ3  _ _ _ Z (lv_sub hl [0] rfl) h26
theorem dX7_putValues_0 : decode cX7_putValues 0 = .ok (.iconst 0, 1) := by decide +kernel
theorem dX7_putValues_1 : decode cX7_putValues 1 = .ok (.istore_n 3, 1) := by decide +kernel
theorem dX7_putValues_2 : decode cX7_putValues 2 = .ok (.iload_n 3, 1) := by decide +kernel
theorem dX7_putValues_3 : decode cX7_putValues 3 = .ok (.iconst 3, 1) := by decide +kernel
theorem dX7_putValues_4 : decode cX7_putValues 4 = .ok (.if_icmp .ge 25, 3) := by decide +kernel
theorem dX7_putValues_7 : decode cX7_putValues 7 = .ok (.aload_n 0, 1) := by decide +kernel
theorem dX7_putValues_8 : decode cX7_putValues 8 = .ok (.getfield 40, 3) := by decide +kernel
theorem dX7_putValues_11 : decode cX7_putValues 11 = .ok (.iload_n 3, 1) := by decide +kernel
theorem dX7_putValues_12 : decode cX7_putValues 12 = .ok (.aload_n 0, 1) := by decide +kernel
theorem dX7_putValues_13 : decode cX7_putValues 13 = .ok (.getfield 50, 3) := by decide +kernel
theorem dX7_putValues_16 : decode cX7_putValues 16 = .ok (.iload_n 1, 1) := by decide +kernel
theorem dX7_putValues_17 : decode cX7_putValues 17 = .ok (.iload_n 3, 1) := by decide +kernel
theorem dX7_putValues_18 : decode cX7_putValues 18 = .ok (.invokevirtual 78, 3) := by decide +kernel
theorem dX7_putValues_21 : decode cX7_putValues 21 = .ok (.i2l, 1) := by decide +kernel
theorem dX7_putValues_22 : decode cX7_putValues 22 = .ok (.lastore, 1) := by decide +kernel
theorem dX7_putValues_23 : decode cX7_putValues 23 = .ok (.iinc 3 1, 3) := by decide +kernel
theorem dX7_putValues_26 : decode cX7_putValues 26 = .ok (.goto (-24), 3) := by decide +kernel
theorem dX7_putValues_29 : decode cX7_putValues 29 = .ok (.aload_n 0, 1) := by decide +kernel
theorem dX7_putValues_30 : decode cX7_putValues 30 = .ok (.getfield 40, 3) := by decide +kernel
theorem dX7_putValues_33 : decode cX7_putValues 33 = .ok (.iconst 3, 1) := by decide +kernel
theorem dX7_putValues_34 : decode cX7_putValues 34 = .ok (.aload_n 0, 1) := by decide +kernel
theorem dX7_putValues_35 : decode cX7_putValues 35 = .ok (.getfield 50, 3) := by decide +kernel
theorem dX7_putValues_38 : decode cX7_putValues 38 = .ok (.iload_n 1, 1) := by decide +kernel
theorem dX7_putValues_39 : decode cX7_putValues 39 = .ok (.iconst 4, 1) := by decide +kernel
theorem dX7_putValues_40 : decode cX7_putValues 40 = .ok (.invokevirtual 78, 3) := by decide +kernel
theorem dX7_putValues_43 : decode cX7_putValues 43 = .ok (.i2l, 1) := by decide +kernel
theorem dX7_putValues_44 : decode cX7_putValues 44 = .ok (.lastore, 1) := by decide +kernel
theorem dX7_putValues_45 : decode cX7_putValues 45 = .ok (.iconst 0, 1) := by decide +kernel
theorem dX7_putValues_46 : decode cX7_putValues 46 = .ok (.istore_n 3, 1) := by decide +kernel
theorem dX7_putValues_47 : decode cX7_putValues 47 = .ok (.iload_n 3, 1) := by decide +kernel
theorem dX7_putValues_48 : decode cX7_putValues 48 = .ok (.iload_n 2, 1) := by decide +kernel
theorem dX7_putValues_49 : decode cX7_putValues 49 = .ok (.if_icmp .ge 78, 3) := by decide +kernel
theorem dX7_putValues_52 : decode cX7_putValues 52 = .ok (.iload_n 3, 1) := by decide +kernel
theorem dX7_putValues_53 : decode cX7_putValues 53 = .ok (.iconst 3, 1) := by decide +kernel
theorem dX7_putValues_54 : decode cX7_putValues 54 = .ok (.if_icmp .ge 73, 3) := by decide +kernel
theorem dX7_putValues_57 : decode cX7_putValues 57 = .ok (.aload_n 0, 1) := by decide +kernel
theorem dX7_putValues_58 : decode cX7_putValues 58 = .ok (.getfield 40, 3) := by decide +kernel
theorem dX7_putValues_61 : decode cX7_putValues 61 = .ok (.iload_n 3, 1) := by decide +kernel
theorem dX7_putValues_62 : decode cX7_putValues 62 = .ok (.laload, 1) := by decide +kernel
theorem dX7_putValues_63 : decode cX7_putValues 63 = .ok (.aload_n 0, 1) := by decide +kernel
theorem dX7_putValues_64 : decode cX7_putValues 64 = .ok (.getfield 44, 3) := by decide +kernel
theorem dX7_putValues_67 : decode cX7_putValues 67 = .ok (.iload_n 3, 1) := by decide +kernel
theorem dX7_putValues_68 : decode cX7_putValues 68 = .ok (.laload, 1) := by decide +kernel
theorem dX7_putValues_69 : decode cX7_putValues 69 = .ok (.lmul, 1) := by decide +kernel
theorem dX7_putValues_70 : decode cX7_putValues 70 = .ok (.lstore 4, 2) := by decide +kernel
theorem dX7_putValues_72 : decode cX7_putValues 72 = .ok (.iconst 0, 1) := by decide +kernel
theorem dX7_putValues_73 : decode cX7_putValues 73 = .ok (.istore 6, 2) := by decide +kernel
theorem dX7_putValues_75 : decode cX7_putValues 75 = .ok (.iload 6, 2) := by decide +kernel
theorem dX7_putValues_77 : decode cX7_putValues 77 = .ok (.iconst 4, 1) := by decide +kernel
theorem dX7_putValues_78 : decode cX7_putValues 78 = .ok (.if_icmp .ge 25, 3) := by decide +kernel
theorem dX7_putValues_81 : decode cX7_putValues 81 = .ok (.aload_n 0, 1) := by decide +kernel
theorem dX7_putValues_82 : decode cX7_putValues 82 = .ok (.getfield 40, 3) := by decide +kernel
theorem dX7_putValues_85 : decode cX7_putValues 85 = .ok (.iload 6, 2) := by decide +kernel
theorem dX7_putValues_87 : decode cX7_putValues 87 = .ok (.dup2, 1) := by decide +kernel
theorem dX7_putValues_88 : decode cX7_putValues 88 = .ok (.laload, 1) := by decide +kernel
theorem dX7_putValues_89 : decode cX7_putValues 89 = .ok (.aload_n 0, 1) := by decide +kernel
theorem dX7_putValues_90 : decode cX7_putValues 90 = .ok (.getfield 47, 3) := by decide +kernel
theorem dX7_putValues_93 : decode cX7_putValues 93 = .ok (.iload_n 3, 1) := by decide +kernel
theorem dX7_putValues_94 : decode cX7_putValues 94 = .ok (.laload, 1) := by decide +kernel
theorem dX7_putValues_95 : decode cX7_putValues 95 = .ok (.lmul, 1) := by decide +kernel
theorem dX7_putValues_96 : decode cX7_putValues 96 = .ok (.lastore, 1) := by decide +kernel
theorem dX7_putValues_97 : decode cX7_putValues 97 = .ok (.iinc 6 1, 3) := by decide +kernel
theorem dX7_putValues_100 : decode cX7_putValues 100 = .ok (.goto (-25), 3) := by decide +kernel
theorem dX7_putValues_103 : decode cX7_putValues 103 = .ok (.aload_n 0, 1) := by decide +kernel
theorem dX7_putValues_104 : decode cX7_putValues 104 = .ok (.getfield 40, 3) := by decide +kernel
theorem dX7_putValues_107 : decode cX7_putValues 107 = .ok (.iload_n 3, 1) := by decide +kernel
theorem dX7_putValues_108 : decode cX7_putValues 108 = .ok (.lconst 0, 1) := by decide +kernel
theorem dX7_putValues_109 : decode cX7_putValues 109 = .ok (.lastore, 1) := by decide +kernel
theorem dX7_putValues_110 : decode cX7_putValues 110 = .ok (.aload_n 0, 1) := by decide +kernel
theorem dX7_putValues_111 : decode cX7_putValues 111 = .ok (.getfield 40, 3) := by decide +kernel
theorem dX7_putValues_114 : decode cX7_putValues 114 = .ok (.iconst 3, 1) := by decide +kernel
theorem dX7_putValues_115 : decode cX7_putValues 115 = .ok (.dup2, 1) := by decide +kernel
theorem dX7_putValues_116 : decode cX7_putValues 116 = .ok (.laload, 1) := by decide +kernel
theorem dX7_putValues_117 : decode cX7_putValues 117 = .ok (.lload 4, 2) := by decide +kernel
theorem dX7_putValues_119 : decode cX7_putValues 119 = .ok (.lsub, 1) := by decide +kernel
theorem dX7_putValues_120 : decode cX7_putValues 120 = .ok (.lastore, 1) := by decide +kernel
theorem dX7_putValues_121 : decode cX7_putValues 121 = .ok (.iinc 3 1, 3) := by decide +kernel
theorem dX7_putValues_124 : decode cX7_putValues 124 = .ok (.goto (-77), 3) := by decide +kernel
theorem dX7_putValues_127 : decode cX7_putValues 127 = .ok (.return_, 1) := by decide +kernel
def rm_fSo_putValues : Room := { frames := 3, cells := 0, slots := 0, locals := 104 }
set_option maxHeartbeats 4000000 in
set_option maxRecDepth 100000 in
theorem c_fSo_putValues (l : Launch) (X : eX) (sz : Nat) (a1 : Int32) (a2 : Int32) (σ : sT) (σz : sT) (h0 : fSo_putValues a1 a2 σ = some σz) : ctV l yX7_putValues cX7_putValues 7 none rm_fSo_putValues [.ref (X.2.1 5), .int a1, .int a2] (wC X) (tC X) (aC X) X sz σ σz := by
  refine ct_of (by decide +kernel) (Nat.le_of_ble_eq_true rfl) ?_
  intro p e s m args below meth c ls hz B hl Z
  have B : Bd p s m args meth c RX7 cX7_putValues 7 none := B
  have hl : lv_has ls 7 [(0, .ref (X.2.1 5)), (1, .int a1), (2, .int a2)] := hl
  have hx := B.1
  have hb := B.2.1
  unfold fSo_putValues at h0
  refine lv_iconst (v := (0 : Int32)) hx hb dX7_putValues_0 (by decide) ?_
  refine lv_istore_n (lv' := [(3, .int (0 : Int32)), (0, .ref (X.2.1 5)), (1, .int a1), (2, .int a2)]) hx hb dX7_putValues_1 rfl hl (by decide) rfl (fun ls hl => ?_)
  obtain ⟨K4, eK4, h27⟩ := dlt_s h0
  clear h0
  have kK4 : ∀ (σ3 : sT) (H : Heap) (locs : List Loc) (ls : Array Slot), Wd (wC X) (tC X) (aC X) X s σ3 H locs → lv_has ls 7 [(0, .ref (X.2.1 5)), (1, .int a1), (2, .int a2)] → K4 σ3 = some σz → W p l e rm_fSo_putValues s m args below meth c H locs 0 0 (MQ below (va_Qv (fun u => u = σz) (poW (wC X) (tC X) (aC X) X sz) (aA (aC X) sz)) args s 0 0 (aA (aC X) sz)) (F0 m 29 ls []) := by
    intro σ3 H locs ls Z hl h1
    rw [eK4] at h1
    refine lv_aload_n hx hb dX7_putValues_29 rfl (lv_at hl 0 rfl) ?_
    refine g_5_6 B Z kf_RX7_40 dX7_putValues_30 ?_
    refine lv_iconst (v := (3 : Int32)) hx hb dX7_putValues_33 (by decide) ?_
    refine lv_aload_n hx hb dX7_putValues_34 rfl (lv_at hl 0 rfl) ?_
    refine g_5_0 B Z kf_RX7_50 dX7_putValues_35 ?_
    refine lv_iload_n hx hb dX7_putValues_38 rfl (lv_at hl 1 rfl) ?_
    refine lv_iconst (v := (4 : Int32)) hx hb dX7_putValues_39 (by decide) ?_
    obtain ⟨r6, hc4, h2⟩ := db1_s h1
    clear h1
    refine cV_I [.int a1, .int (4 : Int32)] [.int (3 : Int32), .ref (X.2.1 17)] B mx_yX0_get (c_fBk_get l X _ a1 (4 : Int32) σ3 r6 hc4) kl_RX7_78 mi_yX0_get (rv_1 _ _) hcl_0 Z hl rfl rfl ⟨Nat.le_of_ble_eq_true rfl, Nat.le_of_ble_eq_true rfl⟩ rfl rfl (Nat.le_of_ble_eq_true rfl) dX7_putValues_40 (fun H locs Z => ?_)
    clear hc4
    refine lv_i2l hx hb dX7_putValues_43 rfl ?_
    obtain ⟨z7, h3⟩ := dck_s h2
    clear h2
    refine st_17 B Z z7 dX7_putValues_44 (fun H locs Z => ?_)
    obtain ⟨σ8, eσ8, h4⟩ := dlt_s h3
    clear h3
    replace Z := Wd.eq eσ8 Z
    clear eσ8
    refine lv_iconst (v := (0 : Int32)) hx hb dX7_putValues_45 (by decide) ?_
    refine lv_istore_n (lv' := [(3, .int (0 : Int32)), (0, .ref (X.2.1 5)), (1, .int a1), (2, .int a2)]) hx hb dX7_putValues_46 rfl hl (by decide) rfl (fun ls hl => ?_)
    have lL47 : ∀ (n : Nat), ∀ (x9 : Int32) (σ10 : sT) (H : Heap) (locs : List Loc) (ls : Array Slot), Wd (wC X) (tC X) (aC X) X s σ10 H locs → lv_has ls 7 [(0, .ref (X.2.1 5)), (2, .int a2), (3, .int x9)] → fSo_putValues_L47 a2 n x9 σ10 = some σz → W p l e rm_fSo_putValues s m args below meth c H locs 0 0 (MQ below (va_Qv (fun u => u = σz) (poW (wC X) (tC X) (aC X) X sz) (aA (aC X) sz)) args s 0 0 (aA (aC X) sz)) (F0 m 47 ls []) := by
      intro n
      induction n with
      | zero =>
        intro x9 σ10 H locs ls Z hl h
        exact nomatch (show (none : Option (sT)) = some _ from h)
      | succ n11 ih29 =>
        intro x9 σ10 H locs ls Z hl h5
        unfold fSo_putValues_L47 at h5
        refine lv_iload_n hx hb dX7_putValues_47 rfl (lv_at hl 2 rfl) ?_
        refine lv_iload_n hx hb dX7_putValues_48 rfl (lv_at hl 1 rfl) ?_
        refine lv_icmp_ge (tgt := 127) hx hb dX7_putValues_49 (by decide) (fun c12 => ?_) (fun c12 => ?_)
        · have h6 := dit h5 c12
          clear h5
          exact reV B Z hz h6 dX7_putValues_127
        · have h7 := dif h5 c12
          clear h5
          refine lv_iload_n hx hb dX7_putValues_52 rfl (lv_at hl 2 rfl) ?_
          refine lv_iconst (v := (3 : Int32)) hx hb dX7_putValues_53 (by decide) ?_
          refine lv_icmp_ge (tgt := 127) hx hb dX7_putValues_54 (by decide) (fun c13 => ?_) (fun c13 => ?_)
          · have h8 := dit h7 c13
            clear h7
            exact reV B Z hz h8 dX7_putValues_127
          · have h9 := dif h7 c13
            clear h7
            refine lv_aload_n hx hb dX7_putValues_57 rfl (lv_at hl 0 rfl) ?_
            refine g_5_6 B Z kf_RX7_40 dX7_putValues_58 ?_
            refine lv_iload_n hx hb dX7_putValues_61 rfl (lv_at hl 2 rfl) ?_
            obtain ⟨z14, h10⟩ := dck_s h9
            clear h9
            refine ld_17 B Z z14 dX7_putValues_62 ?_
            refine lv_aload_n hx hb dX7_putValues_63 rfl (lv_at hl 0 rfl) ?_
            refine g_5_7 B Z kf_RX7_44 dX7_putValues_64 ?_
            refine lv_iload_n hx hb dX7_putValues_67 rfl (lv_at hl 2 rfl) ?_
            obtain ⟨z15, h11⟩ := dck_s h10
            clear h10
            refine ld_18 B Z z15 dX7_putValues_68 ?_
            refine lv_lmul hx hb dX7_putValues_69 ?_
            refine lv_topl (fun x16 ex16 => ?_)
            have h12 := dlt_e ex16 h11
            clear ex16 h11
            refine lv_lstore (lv' := [(4, .long x16), (0, .ref (X.2.1 5)), (2, .int a2), (3, .int x9)]) hx hb dX7_putValues_70 hl (by decide) rfl (fun ls hl => ?_)
            refine lv_iconst (v := (0 : Int32)) hx hb dX7_putValues_72 (by decide) ?_
            refine lv_istore (lv' := [(6, .int (0 : Int32)), (4, .long x16), (0, .ref (X.2.1 5)), (2, .int a2), (3, .int x9)]) hx hb dX7_putValues_73 hl (by decide) rfl (fun ls hl => ?_)
            obtain ⟨K20, eK20, h19⟩ := dlt_s h12
            clear h12
            have kK20 : ∀ (σ19 : sT) (H : Heap) (locs : List Loc) (ls : Array Slot), Wd (wC X) (tC X) (aC X) X s σ19 H locs → lv_has ls 7 [(0, .ref (X.2.1 5)), (2, .int a2), (3, .int x9), (4, .long x16)] → K20 σ19 = some σz → W p l e rm_fSo_putValues s m args below meth c H locs 0 0 (MQ below (va_Qv (fun u => u = σz) (poW (wC X) (tC X) (aC X) X sz) (aA (aC X) sz)) args s 0 0 (aA (aC X) sz)) (F0 m 103 ls []) := by
              intro σ19 H locs ls Z hl h13
              rw [eK20] at h13
              refine lv_aload_n hx hb dX7_putValues_103 rfl (lv_at hl 0 rfl) ?_
              refine g_5_6 B Z kf_RX7_40 dX7_putValues_104 ?_
              refine lv_iload_n hx hb dX7_putValues_107 rfl (lv_at hl 2 rfl) ?_
              refine lv_lconst (v := (0 : Int64)) hx hb dX7_putValues_108 (by decide) ?_
              obtain ⟨z21, h14⟩ := dck_s h13
              clear h13
              refine st_17 B Z z21 dX7_putValues_109 (fun H locs Z => ?_)
              obtain ⟨σ22, eσ22, h15⟩ := dlt_s h14
              clear h14
              replace Z := Wd.eq eσ22 Z
              clear eσ22
              refine lv_aload_n hx hb dX7_putValues_110 rfl (lv_at hl 0 rfl) ?_
              refine g_5_6 B Z kf_RX7_40 dX7_putValues_111 ?_
              refine lv_iconst (v := (3 : Int32)) hx hb dX7_putValues_114 (by decide) ?_
              refine lv_dup2_11 hx hb dX7_putValues_115 rfl rfl ?_
              obtain ⟨z23, h16⟩ := dck_s h15
              clear h15
              refine ld_17 B Z z23 dX7_putValues_116 ?_
              refine lv_lload hx hb dX7_putValues_117 (lv_at hl 3 rfl) ?_
              refine lv_lsub hx hb dX7_putValues_119 ?_
              obtain ⟨z24, h17⟩ := dck_s h16
              clear h16
              refine st_17 B Z z24 dX7_putValues_120 (fun H locs Z => ?_)
              obtain ⟨σ25, eσ25, h18⟩ := dlt_s h17
              clear h17
              replace Z := Wd.eq eσ25 Z
              clear eσ25
              refine lv_iinc (v := x9 + (1 : Int32)) (lv' := [(3, .int (x9 + (1 : Int32))), (0, .ref (X.2.1 5)), (2, .int a2), (4, .long x16)]) hx hb dX7_putValues_121 hl (k := 2) rfl (by rfl) (by decide) rfl (fun ls hl => ?_)
              refine lv_goto (tgt := 47) hx hb dX7_putValues_124 (by decide) ?_
              exact ih29 (x9 + (1 : Int32)) σ25 _ _ _ Z (lv_sub hl [1, 2, 0] rfl) h18
            clear eK20
            have lL75 : ∀ (n : Nat), ∀ (x17 : Int32) (σ18 : sT) (H : Heap) (locs : List Loc) (ls : Array Slot), Wd (wC X) (tC X) (aC X) X s σ18 H locs → lv_has ls 7 [(0, .ref (X.2.1 5)), (2, .int a2), (3, .int x9), (4, .long x16), (6, .int x17)] → fSo_putValues_L75 x9 K20 n x17 σ18 = some σz → W p l e rm_fSo_putValues s m args below meth c H locs 0 0 (MQ below (va_Qv (fun u => u = σz) (poW (wC X) (tC X) (aC X) X sz) (aA (aC X) sz)) args s 0 0 (aA (aC X) sz)) (F0 m 75 ls []) := by
              intro n
              induction n with
              | zero =>
                intro x17 σ18 H locs ls Z hl h
                exact nomatch (show (none : Option (sT)) = some _ from h)
              | succ n26 ih47 =>
                intro x17 σ18 H locs ls Z hl h20
                unfold fSo_putValues_L75 at h20
                refine lv_iload hx hb dX7_putValues_75 (lv_at hl 4 rfl) ?_
                refine lv_iconst (v := (4 : Int32)) hx hb dX7_putValues_77 (by decide) ?_
                refine lv_icmp_ge (tgt := 103) hx hb dX7_putValues_78 (by decide) (fun c27 => ?_) (fun c27 => ?_)
                · have h21 := dit h20 c27
                  clear h20
                  exact kK20 σ18 _ _ _ Z (lv_sub hl [0, 1, 2, 3] rfl) h21
                · have h22 := dif h20 c27
                  clear h20
                  refine lv_aload_n hx hb dX7_putValues_81 rfl (lv_at hl 0 rfl) ?_
                  refine g_5_6 B Z kf_RX7_40 dX7_putValues_82 ?_
                  refine lv_iload hx hb dX7_putValues_85 (lv_at hl 4 rfl) ?_
                  refine lv_dup2_11 hx hb dX7_putValues_87 rfl rfl ?_
                  obtain ⟨z28, h23⟩ := dck_s h22
                  clear h22
                  refine ld_17 B Z z28 dX7_putValues_88 ?_
                  refine lv_aload_n hx hb dX7_putValues_89 rfl (lv_at hl 0 rfl) ?_
                  refine g_5_8 B Z kf_RX7_47 dX7_putValues_90 ?_
                  refine lv_iload_n hx hb dX7_putValues_93 rfl (lv_at hl 2 rfl) ?_
                  obtain ⟨z29, h24⟩ := dck_s h23
                  clear h23
                  refine ld_19 B Z z29 dX7_putValues_94 ?_
                  refine lv_lmul hx hb dX7_putValues_95 ?_
                  obtain ⟨z30, h25⟩ := dck_s h24
                  clear h24
                  refine st_17 B Z z30 dX7_putValues_96 (fun H locs Z => ?_)
                  obtain ⟨σ31, eσ31, h26⟩ := dlt_s h25
                  clear h25
                  replace Z := Wd.eq eσ31 Z
                  clear eσ31
                  refine lv_iinc (v := x17 + (1 : Int32)) (lv' := [(6, .int (x17 + (1 : Int32))), (0, .ref (X.2.1 5)), (2, .int a2), (3, .int x9), (4, .long x16)]) hx hb dX7_putValues_97 hl (k := 4) rfl (by rfl) (by decide) rfl (fun ls hl => ?_)
                  refine lv_goto (tgt := 75) hx hb dX7_putValues_100 (by decide) ?_
                  exact ih47 (x17 + (1 : Int32)) σ31 _ _ _ Z (lv_sub hl [1, 2, 3, 4, 0] rfl) h26
            exact lL75 FU (0 : Int32) σ10 _ _ _ Z (lv_sub hl [2, 3, 4, 1, 0] rfl) h19
    exact lL47 FU (0 : Int32) σ8 _ _ _ Z (lv_sub hl [1, 3, 0] rfl) h4
  clear eK4
  have lL2 : ∀ (n : Nat), ∀ (x1 : Int32) (σ2 : sT) (H : Heap) (locs : List Loc) (ls : Array Slot), Wd (wC X) (tC X) (aC X) X s σ2 H locs → lv_has ls 7 [(0, .ref (X.2.1 5)), (1, .int a1), (2, .int a2), (3, .int x1)] → fSo_putValues_L2 a1 K4 n x1 σ2 = some σz → W p l e rm_fSo_putValues s m args below meth c H locs 0 0 (MQ below (va_Qv (fun u => u = σz) (poW (wC X) (tC X) (aC X) X sz) (aA (aC X) sz)) args s 0 0 (aA (aC X) sz)) (F0 m 2 ls []) := by
    intro n
    induction n with
    | zero =>
      intro x1 σ2 H locs ls Z hl h
      exact nomatch (show (none : Option (sT)) = some _ from h)
    | succ n32 ih2 =>
      intro x1 σ2 H locs ls Z hl h28
      unfold fSo_putValues_L2 at h28
      refine lv_iload_n hx hb dX7_putValues_2 rfl (lv_at hl 3 rfl) ?_
      refine lv_iconst (v := (3 : Int32)) hx hb dX7_putValues_3 (by decide) ?_
      refine lv_icmp_ge (tgt := 29) hx hb dX7_putValues_4 (by decide) (fun c33 => ?_) (fun c33 => ?_)
      · have h29 := dit h28 c33
        clear h28
        exact kK4 σ2 _ _ _ Z (lv_sub hl [0, 1, 2] rfl) h29
      · have h30 := dif h28 c33
        clear h28
        refine lv_aload_n hx hb dX7_putValues_7 rfl (lv_at hl 0 rfl) ?_
        refine g_5_6 B Z kf_RX7_40 dX7_putValues_8 ?_
        refine lv_iload_n hx hb dX7_putValues_11 rfl (lv_at hl 3 rfl) ?_
        refine lv_aload_n hx hb dX7_putValues_12 rfl (lv_at hl 0 rfl) ?_
        refine g_5_0 B Z kf_RX7_50 dX7_putValues_13 ?_
        refine lv_iload_n hx hb dX7_putValues_16 rfl (lv_at hl 1 rfl) ?_
        refine lv_iload_n hx hb dX7_putValues_17 rfl (lv_at hl 3 rfl) ?_
        obtain ⟨r35, hc33, h31⟩ := db1_s h30
        clear h30
        refine cV_I [.int a1, .int x1] [.int x1, .ref (X.2.1 17)] B mx_yX0_get (c_fBk_get l X _ a1 x1 σ2 r35 hc33) kl_RX7_78 mi_yX0_get (rv_1 _ _) hcl_0 Z hl rfl rfl ⟨Nat.le_of_ble_eq_true rfl, Nat.le_of_ble_eq_true rfl⟩ rfl rfl (Nat.le_of_ble_eq_true rfl) dX7_putValues_18 (fun H locs Z => ?_)
        clear hc33
        refine lv_i2l hx hb dX7_putValues_21 rfl ?_
        obtain ⟨z36, h32⟩ := dck_s h31
        clear h31
        refine st_17 B Z z36 dX7_putValues_22 (fun H locs Z => ?_)
        obtain ⟨σ37, eσ37, h33⟩ := dlt_s h32
        clear h32
        replace Z := Wd.eq eσ37 Z
        clear eσ37
        refine lv_iinc (v := x1 + (1 : Int32)) (lv' := [(3, .int (x1 + (1 : Int32))), (0, .ref (X.2.1 5)), (1, .int a1), (2, .int a2)]) hx hb dX7_putValues_23 hl (k := 3) rfl (by rfl) (by decide) rfl (fun ls hl => ?_)
        refine lv_goto (tgt := 2) hx hb dX7_putValues_26 (by decide) ?_
        exact ih2 (x1 + (1 : Int32)) σ37 _ _ _ Z (lv_sub hl [1, 2, 3, 0] rfl) h33
  exact lL2 FU (0 : Int32) σ _ _ _ Z (lv_sub hl [1, 2, 3, 0] rfl) h27
theorem dX7_loadWithValues_0 : decode cX7_loadWithValues 0 = .ok (.aload_n 0, 1) := by decide +kernel
theorem dX7_loadWithValues_1 : decode cX7_loadWithValues 1 = .ok (.getfield 16, 3) := by decide +kernel
theorem dX7_loadWithValues_4 : decode cX7_loadWithValues 4 = .ok (.invokevirtual 54, 3) := by decide +kernel
theorem dX7_loadWithValues_7 : decode cX7_loadWithValues 7 = .ok (.iconst 0, 1) := by decide +kernel
theorem dX7_loadWithValues_8 : decode cX7_loadWithValues 8 = .ok (.istore_n 3, 1) := by decide +kernel
theorem dX7_loadWithValues_9 : decode cX7_loadWithValues 9 = .ok (.iload_n 3, 1) := by decide +kernel
theorem dX7_loadWithValues_10 : decode cX7_loadWithValues 10 = .ok (.bipush 12, 2) := by decide +kernel
theorem dX7_loadWithValues_12 : decode cX7_loadWithValues 12 = .ok (.if_icmp .ge 63, 3) := by decide +kernel
theorem dX7_loadWithValues_15 : decode cX7_loadWithValues 15 = .ok (.iload_n 1, 1) := by decide +kernel
theorem dX7_loadWithValues_16 : decode cX7_loadWithValues 16 = .ok (.iload_n 3, 1) := by decide +kernel
theorem dX7_loadWithValues_17 : decode cX7_loadWithValues 17 = .ok (.invokestatic 74, 3) := by decide +kernel
theorem dX7_loadWithValues_20 : decode cX7_loadWithValues 20 = .ok (.ifCond .eq 49, 3) := by decide +kernel
theorem dX7_loadWithValues_23 : decode cX7_loadWithValues 23 = .ok (.aload_n 0, 1) := by decide +kernel
theorem dX7_loadWithValues_24 : decode cX7_loadWithValues 24 = .ok (.iload_n 3, 1) := by decide +kernel
theorem dX7_loadWithValues_25 : decode cX7_loadWithValues 25 = .ok (.iload_n 2, 1) := by decide +kernel
theorem dX7_loadWithValues_26 : decode cX7_loadWithValues 26 = .ok (.invokevirtual 146, 3) := by decide +kernel
theorem dX7_loadWithValues_29 : decode cX7_loadWithValues 29 = .ok (.aload_n 0, 1) := by decide +kernel
theorem dX7_loadWithValues_30 : decode cX7_loadWithValues 30 = .ok (.getfield 16, 3) := by decide +kernel
theorem dX7_loadWithValues_33 : decode cX7_loadWithValues 33 = .ok (.aload_n 0, 1) := by decide +kernel
theorem dX7_loadWithValues_34 : decode cX7_loadWithValues 34 = .ok (.getfield 40, 3) := by decide +kernel
theorem dX7_loadWithValues_37 : decode cX7_loadWithValues 37 = .ok (.iconst 0, 1) := by decide +kernel
theorem dX7_loadWithValues_38 : decode cX7_loadWithValues 38 = .ok (.laload, 1) := by decide +kernel
theorem dX7_loadWithValues_39 : decode cX7_loadWithValues 39 = .ok (.aload_n 0, 1) := by decide +kernel
theorem dX7_loadWithValues_40 : decode cX7_loadWithValues 40 = .ok (.getfield 40, 3) := by decide +kernel
theorem dX7_loadWithValues_43 : decode cX7_loadWithValues 43 = .ok (.iconst 1, 1) := by decide +kernel
theorem dX7_loadWithValues_44 : decode cX7_loadWithValues 44 = .ok (.laload, 1) := by decide +kernel
theorem dX7_loadWithValues_45 : decode cX7_loadWithValues 45 = .ok (.aload_n 0, 1) := by decide +kernel
theorem dX7_loadWithValues_46 : decode cX7_loadWithValues 46 = .ok (.getfield 40, 3) := by decide +kernel
theorem dX7_loadWithValues_49 : decode cX7_loadWithValues 49 = .ok (.iconst 2, 1) := by decide +kernel
theorem dX7_loadWithValues_50 : decode cX7_loadWithValues 50 = .ok (.laload, 1) := by decide +kernel
theorem dX7_loadWithValues_51 : decode cX7_loadWithValues 51 = .ok (.aload_n 0, 1) := by decide +kernel
theorem dX7_loadWithValues_52 : decode cX7_loadWithValues 52 = .ok (.getfield 40, 3) := by decide +kernel
theorem dX7_loadWithValues_55 : decode cX7_loadWithValues 55 = .ok (.iconst 3, 1) := by decide +kernel
theorem dX7_loadWithValues_56 : decode cX7_loadWithValues 56 = .ok (.laload, 1) := by decide +kernel
theorem dX7_loadWithValues_57 : decode cX7_loadWithValues 57 = .ok (.aload_n 0, 1) := by decide +kernel
theorem dX7_loadWithValues_58 : decode cX7_loadWithValues 58 = .ok (.getfield 50, 3) := by decide +kernel
theorem dX7_loadWithValues_61 : decode cX7_loadWithValues 61 = .ok (.iload_n 3, 1) := by decide +kernel
theorem dX7_loadWithValues_62 : decode cX7_loadWithValues 62 = .ok (.iconst 3, 1) := by decide +kernel
theorem dX7_loadWithValues_63 : decode cX7_loadWithValues 63 = .ok (.invokevirtual 78, 3) := by decide +kernel
theorem dX7_loadWithValues_66 : decode cX7_loadWithValues 66 = .ok (.invokevirtual 87, 3) := by decide +kernel
theorem dX7_loadWithValues_69 : decode cX7_loadWithValues 69 = .ok (.iinc 3 1, 3) := by decide +kernel
theorem dX7_loadWithValues_72 : decode cX7_loadWithValues 72 = .ok (.goto (-63), 3) := by decide +kernel
theorem dX7_loadWithValues_75 : decode cX7_loadWithValues 75 = .ok (.return_, 1) := by decide +kernel
def rm_fSo_loadWithValues : Room := { frames := 4, cells := 0, slots := 0, locals := 130 }
set_option maxHeartbeats 4000000 in
set_option maxRecDepth 100000 in
theorem c_fSo_loadWithValues (l : Launch) (X : eX) (sz : Nat) (a1 : Int32) (a2 : Int32) (σ : sT) (σz : sT) (h0 : fSo_loadWithValues a1 a2 σ = some σz) : ctV l yX7_loadWithValues cX7_loadWithValues 4 none rm_fSo_loadWithValues [.ref (X.2.1 5), .int a1, .int a2] (wC X) (tC X) (aC X) X sz σ σz := by
  refine ct_of (by decide +kernel) (Nat.le_of_ble_eq_true rfl) ?_
  intro p e s m args below meth c ls hz B hl Z
  have B : Bd p s m args meth c RX7 cX7_loadWithValues 4 none := B
  have hl : lv_has ls 4 [(0, .ref (X.2.1 5)), (1, .int a1), (2, .int a2)] := hl
  have hx := B.1
  have hb := B.2.1
  unfold fSo_loadWithValues at h0
  refine lv_aload_n hx hb dX7_loadWithValues_0 rfl (lv_at hl 0 rfl) ?_
  refine g_5_1 B Z kf_RX7_16 dX7_loadWithValues_1 ?_
  obtain ⟨σ2, hc0, h1⟩ := db1_s h0
  clear h0
  refine cV_V [] [] B mx_yX4_empty (c_fRw_empty_6 l X _ σ σ2 hc0) kl_RX7_54 mi_yX4_empty (rv_6 _ _) hcl_4 Z hl rfl rfl ⟨Nat.le_of_ble_eq_true rfl, Nat.le_of_ble_eq_true rfl⟩ rfl rfl (Nat.le_of_ble_eq_true rfl) dX7_loadWithValues_4 (fun H locs Z => ?_)
  clear hc0
  refine lv_iconst (v := (0 : Int32)) hx hb dX7_loadWithValues_7 (by decide) ?_
  refine lv_istore_n (lv' := [(3, .int (0 : Int32)), (0, .ref (X.2.1 5)), (1, .int a1), (2, .int a2)]) hx hb dX7_loadWithValues_8 rfl hl (by decide) rfl (fun ls hl => ?_)
  have lL9 : ∀ (n : Nat), ∀ (x3 : Int32) (σ4 : sT) (H : Heap) (locs : List Loc) (ls : Array Slot), Wd (wC X) (tC X) (aC X) X s σ4 H locs → lv_has ls 4 [(0, .ref (X.2.1 5)), (1, .int a1), (2, .int a2), (3, .int x3)] → fSo_loadWithValues_L9 a1 a2 n x3 σ4 = some σz → W p l e rm_fSo_loadWithValues s m args below meth c H locs 0 0 (MQ below (va_Qv (fun u => u = σz) (poW (wC X) (tC X) (aC X) X sz) (aA (aC X) sz)) args s 0 0 (aA (aC X) sz)) (F0 m 9 ls []) := by
    intro n
    induction n with
    | zero =>
      intro x3 σ4 H locs ls Z hl h
      exact nomatch (show (none : Option (sT)) = some _ from h)
    | succ n5 ih5 =>
      intro x3 σ4 H locs ls Z hl h2
      unfold fSo_loadWithValues_L9 at h2
      refine lv_iload_n hx hb dX7_loadWithValues_9 rfl (lv_at hl 3 rfl) ?_
      refine lv_bipush (v := (12 : Int32)) hx hb dX7_loadWithValues_10 (by decide) ?_
      refine lv_icmp_ge (tgt := 75) hx hb dX7_loadWithValues_12 (by decide) (fun c6 => ?_) (fun c6 => ?_)
      · have h3 := dit h2 c6
        clear h2
        exact reV B Z hz h3 dX7_loadWithValues_75
      · have h4 := dif h2 c6
        clear h2
        refine lv_iload_n hx hb dX7_loadWithValues_15 rfl (lv_at hl 1 rfl) ?_
        refine lv_iload_n hx hb dX7_loadWithValues_16 rfl (lv_at hl 3 rfl) ?_
        obtain ⟨r8, hc6, h5⟩ := db1_s h4
        clear h4
        refine cSN_I [.int a1, .int x3] [] B mx_yX11_isIn (c_fRM_isIn l X _ a1 x3 σ4 r8 hc6) kx_RX7_74 ks_yX11_isIn Z hl rfl rfl ⟨Nat.le_of_ble_eq_true rfl, Nat.le_of_ble_eq_true rfl⟩ rfl rfl (Nat.le_of_ble_eq_true rfl) dX7_loadWithValues_17 (fun H locs Z => ?_)
        clear hc6
        refine lv_if_eq (tgt := 69) hx hb dX7_loadWithValues_20 (by decide) (fun c9 => ?_) (fun c9 => ?_)
        · have h6 := dit h5 c9
          clear h5
          refine lv_iinc (v := x3 + (1 : Int32)) (lv' := [(3, .int (x3 + (1 : Int32))), (0, .ref (X.2.1 5)), (1, .int a1), (2, .int a2)]) hx hb dX7_loadWithValues_69 hl (k := 3) rfl (by rfl) (by decide) rfl (fun ls hl => ?_)
          refine lv_goto (tgt := 9) hx hb dX7_loadWithValues_72 (by decide) ?_
          exact ih5 (x3 + (1 : Int32)) σ4 _ _ _ Z (lv_sub hl [1, 2, 3, 0] rfl) h6
        · have h7 := dif h5 c9
          clear h5
          refine lv_aload_n hx hb dX7_loadWithValues_23 rfl (lv_at hl 0 rfl) ?_
          refine lv_iload_n hx hb dX7_loadWithValues_24 rfl (lv_at hl 3 rfl) ?_
          refine lv_iload_n hx hb dX7_loadWithValues_25 rfl (lv_at hl 2 rfl) ?_
          obtain ⟨σ11, hc9, h8⟩ := db1_s h7
          clear h7
          refine cV_V [.int x3, .int a2] [] B mx_yX7_putValues (c_fSo_putValues l X _ x3 a2 σ4 σ11 hc9) kl_RX7_146 mi_yX7_putValues (rv_5 _ _) hcl_7 Z hl rfl rfl ⟨Nat.le_of_ble_eq_true rfl, Nat.le_of_ble_eq_true rfl⟩ rfl rfl (Nat.le_of_ble_eq_true rfl) dX7_loadWithValues_26 (fun H locs Z => ?_)
          clear hc9
          refine lv_aload_n hx hb dX7_loadWithValues_29 rfl (lv_at hl 0 rfl) ?_
          refine g_5_1 B Z kf_RX7_16 dX7_loadWithValues_30 ?_
          refine lv_aload_n hx hb dX7_loadWithValues_33 rfl (lv_at hl 0 rfl) ?_
          refine g_5_6 B Z kf_RX7_40 dX7_loadWithValues_34 ?_
          refine lv_iconst (v := (0 : Int32)) hx hb dX7_loadWithValues_37 (by decide) ?_
          obtain ⟨z12, h9⟩ := dck_s h8
          clear h8
          refine ld_17 B Z z12 dX7_loadWithValues_38 ?_
          refine lv_aload_n hx hb dX7_loadWithValues_39 rfl (lv_at hl 0 rfl) ?_
          refine g_5_6 B Z kf_RX7_40 dX7_loadWithValues_40 ?_
          refine lv_iconst (v := (1 : Int32)) hx hb dX7_loadWithValues_43 (by decide) ?_
          obtain ⟨z13, h10⟩ := dck_s h9
          clear h9
          refine ld_17 B Z z13 dX7_loadWithValues_44 ?_
          refine lv_aload_n hx hb dX7_loadWithValues_45 rfl (lv_at hl 0 rfl) ?_
          refine g_5_6 B Z kf_RX7_40 dX7_loadWithValues_46 ?_
          refine lv_iconst (v := (2 : Int32)) hx hb dX7_loadWithValues_49 (by decide) ?_
          obtain ⟨z14, h11⟩ := dck_s h10
          clear h10
          refine ld_17 B Z z14 dX7_loadWithValues_50 ?_
          refine lv_aload_n hx hb dX7_loadWithValues_51 rfl (lv_at hl 0 rfl) ?_
          refine g_5_6 B Z kf_RX7_40 dX7_loadWithValues_52 ?_
          refine lv_iconst (v := (3 : Int32)) hx hb dX7_loadWithValues_55 (by decide) ?_
          obtain ⟨z15, h12⟩ := dck_s h11
          clear h11
          refine ld_17 B Z z15 dX7_loadWithValues_56 ?_
          refine lv_aload_n hx hb dX7_loadWithValues_57 rfl (lv_at hl 0 rfl) ?_
          refine g_5_0 B Z kf_RX7_50 dX7_loadWithValues_58 ?_
          refine lv_iload_n hx hb dX7_loadWithValues_61 rfl (lv_at hl 3 rfl) ?_
          refine lv_iconst (v := (3 : Int32)) hx hb dX7_loadWithValues_62 (by decide) ?_
          obtain ⟨r17, hc15, h13⟩ := db1_s h12
          clear h12
          refine cVw_I [.int x3, .int (3 : Int32)] [.long (σ11.2 17 (3 : Int32).toNatClampNeg), .long (σ11.2 17 (2 : Int32).toNatClampNeg), .long (σ11.2 17 (1 : Int32).toNatClampNeg), .long (σ11.2 17 (0 : Int32).toNatClampNeg), .ref (X.2.1 6)] B mx_yX0_get (c_fBk_get l X _ x3 (3 : Int32) σ11 r17 hc15) kl_RX7_78 mi_yX0_get (rv_1 _ _) hcl_0 Z hl rfl rfl ⟨Nat.le_of_ble_eq_true rfl, Nat.le_of_ble_eq_true rfl⟩ rfl rfl 16 (Nat.le_of_ble_eq_true rfl) (Nat.le_of_ble_eq_true rfl) dX7_loadWithValues_63 (fun H locs Z => ?_)
          clear hc15
          obtain ⟨σ19, hc17, h14⟩ := db1_s h13
          clear h13
          refine cV_V [.long (σ11.2 17 (0 : Int32).toNatClampNeg), .long (σ11.2 17 (1 : Int32).toNatClampNeg), .long (σ11.2 17 (2 : Int32).toNatClampNeg), .long (σ11.2 17 (3 : Int32).toNatClampNeg), .int r17] [] B mx_yX4_keep (c_fRw_keep_6 l X _ (σ11.2 17 (0 : Int32).toNatClampNeg) (σ11.2 17 (1 : Int32).toNatClampNeg) (σ11.2 17 (2 : Int32).toNatClampNeg) (σ11.2 17 (3 : Int32).toNatClampNeg) r17 σ11 σ19 hc17) kl_RX7_87 mi_yX4_keep (rv_6 _ _) hcl_4 Z hl rfl rfl ⟨Nat.le_of_ble_eq_true rfl, Nat.le_of_ble_eq_true rfl⟩ rfl rfl (Nat.le_of_ble_eq_true rfl) dX7_loadWithValues_66 (fun H locs Z => ?_)
          clear hc17
          refine lv_iinc (v := x3 + (1 : Int32)) (lv' := [(3, .int (x3 + (1 : Int32))), (0, .ref (X.2.1 5)), (1, .int a1), (2, .int a2)]) hx hb dX7_loadWithValues_69 hl (k := 3) rfl (by rfl) (by decide) rfl (fun ls hl => ?_)
          refine lv_goto (tgt := 9) hx hb dX7_loadWithValues_72 (by decide) ?_
          exact ih5 (x3 + (1 : Int32)) σ19 _ _ _ Z (lv_sub hl [1, 2, 3, 0] rfl) h14
  exact lL9 FU (0 : Int32) σ2 _ _ _ Z (lv_sub hl [1, 2, 3, 0] rfl) h1
theorem dX8_choose_0 : decode cX8_choose 0 = .ok (.lload_n 1, 1) := by decide +kernel
theorem dX8_choose_1 : decode cX8_choose 1 = .ok (.lload_n 3, 1) := by decide +kernel
theorem dX8_choose_2 : decode cX8_choose 2 = .ok (.invokestatic 54, 3) := by decide +kernel
theorem dX8_choose_5 : decode cX8_choose 5 = .ok (.lstore 5, 2) := by decide +kernel
theorem dX8_choose_7 : decode cX8_choose 7 = .ok (.lload 5, 2) := by decide +kernel
theorem dX8_choose_9 : decode cX8_choose 9 = .ok (.lconst 0, 1) := by decide +kernel
theorem dX8_choose_10 : decode cX8_choose 10 = .ok (.lcmp, 1) := by decide +kernel
theorem dX8_choose_11 : decode cX8_choose 11 = .ok (.ifCond .eq 19, 3) := by decide +kernel
theorem dX8_choose_14 : decode cX8_choose 14 = .ok (.aload_n 0, 1) := by decide +kernel
theorem dX8_choose_15 : decode cX8_choose 15 = .ok (.lload_n 1, 1) := by decide +kernel
theorem dX8_choose_16 : decode cX8_choose 16 = .ok (.lload 5, 2) := by decide +kernel
theorem dX8_choose_18 : decode cX8_choose 18 = .ok (.ldiv, 1) := by decide +kernel
theorem dX8_choose_19 : decode cX8_choose 19 = .ok (.putfield 68, 3) := by decide +kernel
theorem dX8_choose_22 : decode cX8_choose 22 = .ok (.aload_n 0, 1) := by decide +kernel
theorem dX8_choose_23 : decode cX8_choose 23 = .ok (.lload_n 3, 1) := by decide +kernel
theorem dX8_choose_24 : decode cX8_choose 24 = .ok (.lload 5, 2) := by decide +kernel
theorem dX8_choose_26 : decode cX8_choose 26 = .ok (.ldiv, 1) := by decide +kernel
theorem dX8_choose_27 : decode cX8_choose 27 = .ok (.putfield 71, 3) := by decide +kernel
theorem dX8_choose_30 : decode cX8_choose 30 = .ok (.return_, 1) := by decide +kernel
def rm_fSp_choose : Room := { frames := 2, cells := 0, slots := 0, locals := 90 }
set_option maxHeartbeats 4000000 in
set_option maxRecDepth 100000 in
theorem c_fSp_choose (l : Launch) (X : eX) (sz : Nat) (a1 : Int64) (a2 : Int64) (σ : sT) (σz : sT) (h0 : fSp_choose a1 a2 σ = some σz) : ctV l yX8_choose cX8_choose 7 none rm_fSp_choose [.ref (X.2.1 15), .long a1, .long a2] (wC X) (tC X) (aC X) X sz σ σz := by
  refine ct_of (by decide +kernel) (Nat.le_of_ble_eq_true rfl) ?_
  intro p e s m args below meth c ls hz B hl Z
  have B : Bd p s m args meth c RX8 cX8_choose 7 none := B
  have hl : lv_has ls 7 [(0, .ref (X.2.1 15)), (1, .long a1), (3, .long a2)] := hl
  have hx := B.1
  have hb := B.2.1
  unfold fSp_choose at h0
  refine lv_lload_n hx hb dX8_choose_0 rfl (lv_at hl 1 rfl) ?_
  refine lv_lload_n hx hb dX8_choose_1 rfl (lv_at hl 2 rfl) ?_
  obtain ⟨r2, hc0, h1⟩ := db1_s h0
  clear h0
  refine cSN_L [.long a1, .long a2] [] B mx_yX11_gcd (c_fRM_gcd l X _ a1 a2 σ r2 hc0) kx_RX8_54 ks_yX11_gcd Z hl rfl rfl ⟨Nat.le_of_ble_eq_true rfl, Nat.le_of_ble_eq_true rfl⟩ rfl rfl (Nat.le_of_ble_eq_true rfl) dX8_choose_2 (fun H locs Z => ?_)
  clear hc0
  refine lv_lstore (lv' := [(5, .long r2), (0, .ref (X.2.1 15)), (1, .long a1), (3, .long a2)]) hx hb dX8_choose_5 hl (by decide) rfl (fun ls hl => ?_)
  refine lv_lload hx hb dX8_choose_7 (lv_at hl 0 rfl) ?_
  refine lv_lconst (v := (0 : Int64)) hx hb dX8_choose_9 (by decide) ?_
  refine W.lcmp hx hb dX8_choose_10 ?_
  refine lv_if_eq (tgt := 30) hx hb dX8_choose_11 (by decide) (fun c3 => ?_) (fun c3 => ?_)
  · have h2 := dit h1 c3
    clear h1
    exact reV B Z hz h2 dX8_choose_30
  · have h3 := dif h1 c3
    clear h1
    refine lv_aload_n hx hb dX8_choose_14 rfl (lv_at hl 1 rfl) ?_
    refine lv_lload_n hx hb dX8_choose_15 rfl (lv_at hl 2 rfl) ?_
    refine lv_lload hx hb dX8_choose_16 (lv_at hl 0 rfl) ?_
    obtain ⟨z4, h4⟩ := dck_s h3
    clear h3
    refine lv_ldiv hx hb dX8_choose_18 (okE_s z4) ?_
    refine s_15_6 B Z kf_RX8_68 dX8_choose_19 (fun H locs Z => ?_)
    obtain ⟨σ5, eσ5, h5⟩ := dlt_s h4
    clear h4
    replace Z := Wd.eq eσ5 Z
    clear eσ5
    refine lv_aload_n hx hb dX8_choose_22 rfl (lv_at hl 1 rfl) ?_
    refine lv_lload_n hx hb dX8_choose_23 rfl (lv_at hl 3 rfl) ?_
    refine lv_lload hx hb dX8_choose_24 (lv_at hl 0 rfl) ?_
    obtain ⟨z6, h6⟩ := dck_s h5
    clear h5
    refine lv_ldiv hx hb dX8_choose_26 (okE_s z6) ?_
    refine s_15_7 B Z kf_RX8_71 dX8_choose_27 (fun H locs Z => ?_)
    obtain ⟨σ7, eσ7, h7⟩ := dlt_s h6
    clear h6
    replace Z := Wd.eq eσ7 Z
    clear eσ7
    exact reV B Z hz h7 dX8_choose_30
