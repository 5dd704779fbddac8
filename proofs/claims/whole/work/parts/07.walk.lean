theorem dX11_isWithin_0 : decode cX11_isWithin 0 = .ok (.iload_n 0, 1) := by decide +kernel
theorem dX11_isWithin_1 : decode cX11_isWithin 1 = .ok (.iload_n 1, 1) := by decide +kernel
theorem dX11_isWithin_2 : decode cX11_isWithin 2 = .ok (.if_icmp .lt 12, 3) := by decide +kernel
theorem dX11_isWithin_5 : decode cX11_isWithin 5 = .ok (.iload_n 0, 1) := by decide +kernel
theorem dX11_isWithin_6 : decode cX11_isWithin 6 = .ok (.iload_n 2, 1) := by decide +kernel
theorem dX11_isWithin_7 : decode cX11_isWithin 7 = .ok (.if_icmp .gt 7, 3) := by decide +kernel
theorem dX11_isWithin_10 : decode cX11_isWithin 10 = .ok (.iconst 1, 1) := by decide +kernel
theorem dX11_isWithin_11 : decode cX11_isWithin 11 = .ok (.goto 4, 3) := by decide +kernel
theorem dX11_isWithin_14 : decode cX11_isWithin 14 = .ok (.iconst 0, 1) := by decide +kernel
theorem dX11_isWithin_15 : decode cX11_isWithin 15 = .ok (.ireturn, 1) := by decide +kernel
def rm_fRM_isWithin : Room := { frames := 1, cells := 0, slots := 0, locals := 60 }
set_option maxHeartbeats 4000000 in
set_option maxRecDepth 100000 in
theorem c_fRM_isWithin (l : Launch) (X : eX) (sz : Nat) (a1 : Int32) (a2 : Int32) (a3 : Int32) (σ : sT) (rz : Int32) (h0 : fRM_isWithin a1 a2 a3 = some rz) : ctI l yX11_isWithin cX11_isWithin 3 (some .boolean) rm_fRM_isWithin [.int a1, .int a2, .int a3] (wC X) (tC X) (aC X) X sz σ rz σ := by
  refine ct_of (by decide +kernel) (Nat.le_of_ble_eq_true rfl) ?_
  intro p e s m args below meth c ls hz B hl Z
  have B : Bd p s m args meth c RX11 cX11_isWithin 3 (some .boolean) := B
  have hl : lv_has ls 3 [(0, .int a1), (1, .int a2), (2, .int a3)] := hl
  have hx := B.1
  have hb := B.2.1
  unfold fRM_isWithin at h0
  refine lv_iload_n hx hb dX11_isWithin_0 rfl (lv_at hl 0 rfl) ?_
  refine lv_iload_n hx hb dX11_isWithin_1 rfl (lv_at hl 1 rfl) ?_
  refine lv_icmp_lt (tgt := 14) hx hb dX11_isWithin_2 (by decide) (fun c1 => ?_) (fun c1 => ?_)
  · have h1 := dit h0 c1
    clear h0
    refine lv_iconst (v := (0 : Int32)) hx hb dX11_isWithin_14 (by decide) ?_
    exact reI B Z rfl hz (congrArg (Option.map (fun q => (q, σ))) h1) dX11_isWithin_15
  · have h2 := dif h0 c1
    clear h0
    refine lv_iload_n hx hb dX11_isWithin_5 rfl (lv_at hl 0 rfl) ?_
    refine lv_iload_n hx hb dX11_isWithin_6 rfl (lv_at hl 2 rfl) ?_
    refine lv_icmp_gt (tgt := 14) hx hb dX11_isWithin_7 (by decide) (fun c2 => ?_) (fun c2 => ?_)
    · have h3 := dit h2 c2
      clear h2
      refine lv_iconst (v := (0 : Int32)) hx hb dX11_isWithin_14 (by decide) ?_
      exact reI B Z rfl hz (congrArg (Option.map (fun q => (q, σ))) h3) dX11_isWithin_15
    · have h4 := dif h2 c2
      clear h2
      refine lv_iconst (v := (1 : Int32)) hx hb dX11_isWithin_10 (by decide) ?_
      refine lv_goto (tgt := 15) hx hb dX11_isWithin_11 (by decide) ?_
      exact reI B Z rfl hz (congrArg (Option.map (fun q => (q, σ))) h4) dX11_isWithin_15
theorem dX11_isFactor_0 : decode cX11_isFactor 0 = .ok (.iload_n 0, 1) := by decide +kernel
theorem dX11_isFactor_1 : decode cX11_isFactor 1 = .ok (.bipush (-5), 2) := by decide +kernel
theorem dX11_isFactor_3 : decode cX11_isFactor 3 = .ok (.iconst 5, 1) := by decide +kernel
theorem dX11_isFactor_4 : decode cX11_isFactor 4 = .ok (.invokestatic 106, 3) := by decide +kernel
theorem dX11_isFactor_7 : decode cX11_isFactor 7 = .ok (.ireturn, 1) := by decide +kernel
def rm_fRM_isFactor : Room := { frames := 2, cells := 0, slots := 0, locals := 82 }
set_option maxHeartbeats 4000000 in
set_option maxRecDepth 100000 in
theorem c_fRM_isFactor (l : Launch) (X : eX) (sz : Nat) (a1 : Int32) (σ : sT) (rz : Int32) (h0 : fRM_isFactor a1 = some rz) : ctI l yX11_isFactor cX11_isFactor 1 (some .boolean) rm_fRM_isFactor [.int a1] (wC X) (tC X) (aC X) X sz σ rz σ := by
  refine ct_of (by decide +kernel) (Nat.le_of_ble_eq_true rfl) ?_
  intro p e s m args below meth c ls hz B hl Z
  have B : Bd p s m args meth c RX11 cX11_isFactor 1 (some .boolean) := B
  have hl : lv_has ls 1 [(0, .int a1)] := hl
  have hx := B.1
  have hb := B.2.1
  unfold fRM_isFactor at h0
  refine lv_iload_n hx hb dX11_isFactor_0 rfl (lv_at hl 0 rfl) ?_
  refine lv_bipush (v := (-5 : Int32)) hx hb dX11_isFactor_1 (by decide) ?_
  refine lv_iconst (v := (5 : Int32)) hx hb dX11_isFactor_3 (by decide) ?_
  obtain ⟨r2, hc0, h1⟩ := db1_s h0
  clear h0
  refine cS_I [.int a1, .int (-5 : Int32), .int (5 : Int32)] [] B mx_yX11_isWithin (c_fRM_isWithin l X _ a1 (-5 : Int32) (5 : Int32) σ r2 hc0) kl_RX11_106 ks_yX11_isWithin Z hl rfl rfl ⟨Nat.le_of_ble_eq_true rfl, Nat.le_of_ble_eq_true rfl⟩ rfl rfl (Nat.le_of_ble_eq_true rfl) dX11_isFactor_4 (fun H locs Z => ?_)
  clear hc0
  obtain ⟨z3, h2⟩ := dck_s h1
  clear h1
  exact reI B Z (okZ_n z3) hz (congrArg (Option.map (fun q => (q, σ))) h2) dX11_isFactor_7
theorem dX11_bad_0 : decode cX11_bad 0 = .ok (.aload_n 0, 1) := by decide +kernel
theorem dX11_bad_1 : decode cX11_bad 1 = .ok (.dup, 1) := by decide +kernel
theorem dX11_bad_2 : decode cX11_bad 2 = .ok (.getfield 246, 3) := by decide +kernel
theorem dX11_bad_5 : decode cX11_bad 5 = .ok (.iconst 1, 1) := by decide +kernel
theorem dX11_bad_6 : decode cX11_bad 6 = .ok (.iadd, 1) := by decide +kernel
theorem dX11_bad_7 : decode cX11_bad 7 = .ok (.putfield 246, 3) := by decide +kernel
theorem dX11_bad_10 : decode cX11_bad 10 = .ok (.ldc 255, 2) := by decide +kernel
theorem dX11_bad_12 : decode cX11_bad 12 = .ok (.ireturn, 1) := by decide +kernel
def rm_fRM_bad : Room := { frames := 1, cells := 0, slots := 0, locals := 60 }
set_option maxHeartbeats 4000000 in
set_option maxRecDepth 100000 in
theorem c_fRM_bad (l : Launch) (X : eX) (sz : Nat)  (σ : sT) (rz : Int32) (σz : sT) (h0 : fRM_bad σ = some (rz, σz)) : ctI l yX11_bad cX11_bad 1 (some .int) rm_fRM_bad [.ref (X.2.1 0)] (wC X) (tC X) (aC X) X sz σ rz σz := by
  refine ct_of (by decide +kernel) (Nat.le_of_ble_eq_true rfl) ?_
  intro p e s m args below meth c ls hz B hl Z
  have B : Bd p s m args meth c RX11 cX11_bad 1 (some .int) := B
  have hl : lv_has ls 1 [(0, .ref (X.2.1 0))] := hl
  have hx := B.1
  have hb := B.2.1
  unfold fRM_bad at h0
  refine lv_aload_n hx hb dX11_bad_0 rfl (lv_at hl 0 rfl) ?_
  refine lv_dup hx hb dX11_bad_1 rfl ?_
  refine g_0_8 B Z kf_RX11_246 dX11_bad_2 ?_
  refine lv_iconst (v := (1 : Int32)) hx hb dX11_bad_5 (by decide) ?_
  refine lv_iadd hx hb dX11_bad_6 ?_
  refine s_0_8 B Z kf_RX11_246 dX11_bad_7 (fun H locs Z => ?_)
  obtain ⟨σ1, eσ1, h1⟩ := dlt_s h0
  clear h0
  replace Z := Wd.eq eσ1 Z
  clear eσ1
  refine lv_ldc hx hb B.2.2.2.1 (B.2.2.2.2.1 _ kc_RX11_255) dX11_bad_10 ?_
  exact reI B Z rfl hz h1 dX11_bad_12
theorem dX11_isProperty_0 : decode cX11_isProperty 0 = .ok (.iload_n 0, 1) := by decide +kernel
theorem dX11_isProperty_1 : decode cX11_isProperty 1 = .ok (.iconst 3, 1) := by decide +kernel
theorem dX11_isProperty_2 : decode cX11_isProperty 2 = .ok (.if_icmp .ne 10, 3) := by decide +kernel
theorem dX11_isProperty_5 : decode cX11_isProperty 5 = .ok (.iload_n 1, 1) := by decide +kernel
theorem dX11_isProperty_6 : decode cX11_isProperty 6 = .ok (.iconst 0, 1) := by decide +kernel
theorem dX11_isProperty_7 : decode cX11_isProperty 7 = .ok (.iconst 2, 1) := by decide +kernel
theorem dX11_isProperty_8 : decode cX11_isProperty 8 = .ok (.invokestatic 106, 3) := by decide +kernel
theorem dX11_isProperty_11 : decode cX11_isProperty 11 = .ok (.ireturn, 1) := by decide +kernel
theorem dX11_isProperty_12 : decode cX11_isProperty 12 = .ok (.iload_n 0, 1) := by decide +kernel
theorem dX11_isProperty_13 : decode cX11_isProperty 13 = .ok (.iconst 4, 1) := by decide +kernel
theorem dX11_isProperty_14 : decode cX11_isProperty 14 = .ok (.if_icmp .ne 12, 3) := by decide +kernel
theorem dX11_isProperty_17 : decode cX11_isProperty 17 = .ok (.iload_n 1, 1) := by decide +kernel
theorem dX11_isProperty_18 : decode cX11_isProperty 18 = .ok (.bipush (-50), 2) := by decide +kernel
theorem dX11_isProperty_20 : decode cX11_isProperty 20 = .ok (.bipush 50, 2) := by decide +kernel
theorem dX11_isProperty_22 : decode cX11_isProperty 22 = .ok (.invokestatic 106, 3) := by decide +kernel
theorem dX11_isProperty_25 : decode cX11_isProperty 25 = .ok (.ireturn, 1) := by decide +kernel
theorem dX11_isProperty_26 : decode cX11_isProperty 26 = .ok (.iload_n 0, 1) := by decide +kernel
theorem dX11_isProperty_27 : decode cX11_isProperty 27 = .ok (.iconst 5, 1) := by decide +kernel
theorem dX11_isProperty_28 : decode cX11_isProperty 28 = .ok (.if_icmp .ne 16, 3) := by decide +kernel
theorem dX11_isProperty_31 : decode cX11_isProperty 31 = .ok (.iload_n 1, 1) := by decide +kernel
theorem dX11_isProperty_32 : decode cX11_isProperty 32 = .ok (.iconst 0, 1) := by decide +kernel
theorem dX11_isProperty_33 : decode cX11_isProperty 33 = .ok (.iconst 1, 1) := by decide +kernel
theorem dX11_isProperty_34 : decode cX11_isProperty 34 = .ok (.invokestatic 106, 3) := by decide +kernel
theorem dX11_isProperty_37 : decode cX11_isProperty 37 = .ok (.ifCond .eq 7, 3) := by decide +kernel
theorem dX11_isProperty_40 : decode cX11_isProperty 40 = .ok (.iconst 1, 1) := by decide +kernel
theorem dX11_isProperty_41 : decode cX11_isProperty 41 = .ok (.goto 4, 3) := by decide +kernel
theorem dX11_isProperty_44 : decode cX11_isProperty 44 = .ok (.iconst 0, 1) := by decide +kernel
theorem dX11_isProperty_45 : decode cX11_isProperty 45 = .ok (.ireturn, 1) := by decide +kernel
def rm_fRM_isProperty : Room := { frames := 2, cells := 0, slots := 0, locals := 82 }
set_option maxHeartbeats 4000000 in
set_option maxRecDepth 100000 in
theorem c_fRM_isProperty (l : Launch) (X : eX) (sz : Nat) (a1 : Int32) (a2 : Int32) (σ : sT) (rz : Int32) (h0 : fRM_isProperty a1 a2 = some rz) : ctI l yX11_isProperty cX11_isProperty 2 (some .boolean) rm_fRM_isProperty [.int a1, .int a2] (wC X) (tC X) (aC X) X sz σ rz σ := by
  refine ct_of (by decide +kernel) (Nat.le_of_ble_eq_true rfl) ?_
  intro p e s m args below meth c ls hz B hl Z
  have B : Bd p s m args meth c RX11 cX11_isProperty 2 (some .boolean) := B
  have hl : lv_has ls 2 [(0, .int a1), (1, .int a2)] := hl
  have hx := B.1
  have hb := B.2.1
  unfold fRM_isProperty at h0
  refine lv_iload_n hx hb dX11_isProperty_0 rfl (lv_at hl 0 rfl) ?_
  refine lv_iconst (v := (3 : Int32)) hx hb dX11_isProperty_1 (by decide) ?_
  refine lv_icmp_ne (tgt := 12) hx hb dX11_isProperty_2 (by decide) (fun c1 => ?_) (fun c1 => ?_)
  · have h1 := dif h0 c1
    clear h0
    refine lv_iload_n hx hb dX11_isProperty_12 rfl (lv_at hl 0 rfl) ?_
    refine lv_iconst (v := (4 : Int32)) hx hb dX11_isProperty_13 (by decide) ?_
    refine lv_icmp_ne (tgt := 26) hx hb dX11_isProperty_14 (by decide) (fun c2 => ?_) (fun c2 => ?_)
    · have h2 := dif h1 c2
      clear h1
      refine lv_iload_n hx hb dX11_isProperty_26 rfl (lv_at hl 0 rfl) ?_
      refine lv_iconst (v := (5 : Int32)) hx hb dX11_isProperty_27 (by decide) ?_
      refine lv_icmp_ne (tgt := 44) hx hb dX11_isProperty_28 (by decide) (fun c3 => ?_) (fun c3 => ?_)
      · have h3 := dif h2 c3
        clear h2
        refine lv_iconst (v := (0 : Int32)) hx hb dX11_isProperty_44 (by decide) ?_
        exact reI B Z rfl hz (congrArg (Option.map (fun q => (q, σ))) h3) dX11_isProperty_45
      · have h4 := dit h2 c3
        clear h2
        refine lv_iload_n hx hb dX11_isProperty_31 rfl (lv_at hl 1 rfl) ?_
        refine lv_iconst (v := (0 : Int32)) hx hb dX11_isProperty_32 (by decide) ?_
        refine lv_iconst (v := (1 : Int32)) hx hb dX11_isProperty_33 (by decide) ?_
        obtain ⟨r5, hc3, h5⟩ := db1_s h4
        clear h4
        refine cS_I [.int a2, .int (0 : Int32), .int (1 : Int32)] [] B mx_yX11_isWithin (c_fRM_isWithin l X _ a2 (0 : Int32) (1 : Int32) σ r5 hc3) kl_RX11_106 ks_yX11_isWithin Z hl rfl rfl ⟨Nat.le_of_ble_eq_true rfl, Nat.le_of_ble_eq_true rfl⟩ rfl rfl (Nat.le_of_ble_eq_true rfl) dX11_isProperty_34 (fun H locs Z => ?_)
        clear hc3
        refine lv_if_eq (tgt := 44) hx hb dX11_isProperty_37 (by decide) (fun c6 => ?_) (fun c6 => ?_)
        · have h6 := dit h5 c6
          clear h5
          refine lv_iconst (v := (0 : Int32)) hx hb dX11_isProperty_44 (by decide) ?_
          exact reI B Z rfl hz (congrArg (Option.map (fun q => (q, σ))) h6) dX11_isProperty_45
        · have h7 := dif h5 c6
          clear h5
          refine lv_iconst (v := (1 : Int32)) hx hb dX11_isProperty_40 (by decide) ?_
          refine lv_goto (tgt := 45) hx hb dX11_isProperty_41 (by decide) ?_
          exact reI B Z rfl hz (congrArg (Option.map (fun q => (q, σ))) h7) dX11_isProperty_45
    · have h8 := dit h1 c2
      clear h1
      refine lv_iload_n hx hb dX11_isProperty_17 rfl (lv_at hl 1 rfl) ?_
      refine lv_bipush (v := (-50 : Int32)) hx hb dX11_isProperty_18 (by decide) ?_
      refine lv_bipush (v := (50 : Int32)) hx hb dX11_isProperty_20 (by decide) ?_
      obtain ⟨r8, hc6, h9⟩ := db1_s h8
      clear h8
      refine cS_I [.int a2, .int (-50 : Int32), .int (50 : Int32)] [] B mx_yX11_isWithin (c_fRM_isWithin l X _ a2 (-50 : Int32) (50 : Int32) σ r8 hc6) kl_RX11_106 ks_yX11_isWithin Z hl rfl rfl ⟨Nat.le_of_ble_eq_true rfl, Nat.le_of_ble_eq_true rfl⟩ rfl rfl (Nat.le_of_ble_eq_true rfl) dX11_isProperty_22 (fun H locs Z => ?_)
      clear hc6
      obtain ⟨z9, h10⟩ := dck_s h9
      clear h9
      exact reI B Z (okZ_n z9) hz (congrArg (Option.map (fun q => (q, σ))) h10) dX11_isProperty_25
  · have h11 := dit h0 c1
    clear h0
    refine lv_iload_n hx hb dX11_isProperty_5 rfl (lv_at hl 1 rfl) ?_
    refine lv_iconst (v := (0 : Int32)) hx hb dX11_isProperty_6 (by decide) ?_
    refine lv_iconst (v := (2 : Int32)) hx hb dX11_isProperty_7 (by decide) ?_
    obtain ⟨r11, hc9, h12⟩ := db1_s h11
    clear h11
    refine cS_I [.int a2, .int (0 : Int32), .int (2 : Int32)] [] B mx_yX11_isWithin (c_fRM_isWithin l X _ a2 (0 : Int32) (2 : Int32) σ r11 hc9) kl_RX11_106 ks_yX11_isWithin Z hl rfl rfl ⟨Nat.le_of_ble_eq_true rfl, Nat.le_of_ble_eq_true rfl⟩ rfl rfl (Nat.le_of_ble_eq_true rfl) dX11_isProperty_8 (fun H locs Z => ?_)
    clear hc9
    obtain ⟨z12, h13⟩ := dck_s h12
    clear h12
    exact reI B Z (okZ_n z12) hz (congrArg (Option.map (fun q => (q, σ))) h13) dX11_isProperty_11
theorem dX0_remember_0 : decode cX0_remember 0 = .ok (.aload_n 0, 1) := by decide +kernel
theorem dX0_remember_1 : decode cX0_remember 1 = .ok (.getfield 11, 3) := by decide +kernel
theorem dX0_remember_4 : decode cX0_remember 4 = .ok (.iconst 0, 1) := by decide +kernel
theorem dX0_remember_5 : decode cX0_remember 5 = .ok (.aload_n 0, 1) := by decide +kernel
theorem dX0_remember_6 : decode cX0_remember 6 = .ok (.getfield 15, 3) := by decide +kernel
theorem dX0_remember_9 : decode cX0_remember 9 = .ok (.aload_n 0, 1) := by decide +kernel
theorem dX0_remember_10 : decode cX0_remember 10 = .ok (.getfield 33, 3) := by decide +kernel
theorem dX0_remember_13 : decode cX0_remember 13 = .ok (.bipush 72, 2) := by decide +kernel
theorem dX0_remember_15 : decode cX0_remember 15 = .ok (.imul, 1) := by decide +kernel
theorem dX0_remember_16 : decode cX0_remember 16 = .ok (.bipush 72, 2) := by decide +kernel
theorem dX0_remember_18 : decode cX0_remember 18 = .ok (.invokestatic 36, 3) := by decide +kernel
theorem dX0_remember_21 : decode cX0_remember 21 = .ok (.aload_n 0, 1) := by decide +kernel
theorem dX0_remember_22 : decode cX0_remember 22 = .ok (.getfield 18, 3) := by decide +kernel
theorem dX0_remember_25 : decode cX0_remember 25 = .ok (.aload_n 0, 1) := by decide +kernel
theorem dX0_remember_26 : decode cX0_remember 26 = .ok (.getfield 33, 3) := by decide +kernel
theorem dX0_remember_29 : decode cX0_remember 29 = .ok (.aload_n 0, 1) := by decide +kernel
theorem dX0_remember_30 : decode cX0_remember 30 = .ok (.getfield 21, 3) := by decide +kernel
theorem dX0_remember_33 : decode cX0_remember 33 = .ok (.iastore, 1) := by decide +kernel
theorem dX0_remember_34 : decode cX0_remember 34 = .ok (.aload_n 0, 1) := by decide +kernel
theorem dX0_remember_35 : decode cX0_remember 35 = .ok (.aload_n 0, 1) := by decide +kernel
theorem dX0_remember_36 : decode cX0_remember 36 = .ok (.getfield 33, 3) := by decide +kernel
theorem dX0_remember_39 : decode cX0_remember 39 = .ok (.iconst 1, 1) := by decide +kernel
theorem dX0_remember_40 : decode cX0_remember 40 = .ok (.iadd, 1) := by decide +kernel
theorem dX0_remember_41 : decode cX0_remember 41 = .ok (.bipush 6, 2) := by decide +kernel
theorem dX0_remember_43 : decode cX0_remember 43 = .ok (.irem, 1) := by decide +kernel
theorem dX0_remember_44 : decode cX0_remember 44 = .ok (.putfield 33, 3) := by decide +kernel
theorem dX0_remember_47 : decode cX0_remember 47 = .ok (.aload_n 0, 1) := by decide +kernel
theorem dX0_remember_48 : decode cX0_remember 48 = .ok (.aload_n 0, 1) := by decide +kernel
theorem dX0_remember_49 : decode cX0_remember 49 = .ok (.getfield 42, 3) := by decide +kernel
theorem dX0_remember_52 : decode cX0_remember 52 = .ok (.iconst 1, 1) := by decide +kernel
theorem dX0_remember_53 : decode cX0_remember 53 = .ok (.iadd, 1) := by decide +kernel
theorem dX0_remember_54 : decode cX0_remember 54 = .ok (.bipush 6, 2) := by decide +kernel
theorem dX0_remember_56 : decode cX0_remember 56 = .ok (.invokestatic 45, 3) := by decide +kernel
theorem dX0_remember_59 : decode cX0_remember 59 = .ok (.putfield 42, 3) := by decide +kernel
theorem dX0_remember_62 : decode cX0_remember 62 = .ok (.return_, 1) := by decide +kernel
def rm_fBk_remember : Room := { frames := 1, cells := 0, slots := 0, locals := 60 }
set_option maxHeartbeats 4000000 in
set_option maxRecDepth 100000 in
theorem c_fBk_remember (l : Launch) (X : eX) (sz : Nat)  (σ : sT) (σz : sT) (h0 : fBk_remember σ = some σz) : ctV l yX0_remember cX0_remember 1 none rm_fBk_remember [.ref (X.2.1 1)] (wC X) (tC X) (aC X) X sz σ σz := by
  refine ct_of (by decide +kernel) (Nat.le_of_ble_eq_true rfl) ?_
  intro p e s m args below meth c ls hz B hl Z
  have B : Bd p s m args meth c RX0 cX0_remember 1 none := B
  have hl : lv_has ls 1 [(0, .ref (X.2.1 1))] := hl
  have hx := B.1
  have hb := B.2.1
  unfold fBk_remember at h0
  refine lv_aload_n hx hb dX0_remember_0 rfl (lv_at hl 0 rfl) ?_
  refine g_1_0 B Z kf_RX0_11 dX0_remember_1 ?_
  refine lv_iconst (v := (0 : Int32)) hx hb dX0_remember_4 (by decide) ?_
  refine lv_aload_n hx hb dX0_remember_5 rfl (lv_at hl 0 rfl) ?_
  refine g_1_1 B Z kf_RX0_15 dX0_remember_6 ?_
  refine lv_aload_n hx hb dX0_remember_9 rfl (lv_at hl 0 rfl) ?_
  refine g_1_4 B Z kf_RX0_33 dX0_remember_10 ?_
  refine lv_bipush (v := (72 : Int32)) hx hb dX0_remember_13 (by decide) ?_
  refine lv_imul hx hb dX0_remember_15 ?_
  refine lv_bipush (v := (72 : Int32)) hx hb dX0_remember_16 (by decide) ?_
  obtain ⟨z1, h1⟩ := dck_s h0
  clear h0
  refine cp_2_3 B Z hl kl_RX0_36 z1 (Nat.le_of_ble_eq_true rfl) (Nat.le_of_ble_eq_true rfl) dX0_remember_18 (fun H locs Z => ?_)
  obtain ⟨σ2, eσ2, h2⟩ := dlt_s h1
  clear h1
  replace Z := Wd.eq eσ2 Z
  clear eσ2
  refine lv_aload_n hx hb dX0_remember_21 rfl (lv_at hl 0 rfl) ?_
  refine g_1_2 B Z kf_RX0_18 dX0_remember_22 ?_
  refine lv_aload_n hx hb dX0_remember_25 rfl (lv_at hl 0 rfl) ?_
  refine g_1_4 B Z kf_RX0_33 dX0_remember_26 ?_
  refine lv_aload_n hx hb dX0_remember_29 rfl (lv_at hl 0 rfl) ?_
  refine g_1_3 B Z kf_RX0_21 dX0_remember_30 ?_
  obtain ⟨z3, h3⟩ := dck_s h2
  clear h2
  refine st_4 B Z z3 dX0_remember_33 (fun H locs Z => ?_)
  obtain ⟨σ4, eσ4, h4⟩ := dlt_s h3
  clear h3
  replace Z := Wd.eq eσ4 Z
  clear eσ4
  refine lv_aload_n hx hb dX0_remember_34 rfl (lv_at hl 0 rfl) ?_
  refine lv_aload_n hx hb dX0_remember_35 rfl (lv_at hl 0 rfl) ?_
  refine g_1_4 B Z kf_RX0_33 dX0_remember_36 ?_
  refine lv_iconst (v := (1 : Int32)) hx hb dX0_remember_39 (by decide) ?_
  refine lv_iadd hx hb dX0_remember_40 ?_
  refine lv_bipush (v := (6 : Int32)) hx hb dX0_remember_41 (by decide) ?_
  refine lv_irem hx hb dX0_remember_43 (by decide) ?_
  refine s_1_4 B Z kf_RX0_33 dX0_remember_44 (fun H locs Z => ?_)
  obtain ⟨σ5, eσ5, h5⟩ := dlt_s h4
  clear h4
  replace Z := Wd.eq eσ5 Z
  clear eσ5
  refine lv_aload_n hx hb dX0_remember_47 rfl (lv_at hl 0 rfl) ?_
  refine lv_aload_n hx hb dX0_remember_48 rfl (lv_at hl 0 rfl) ?_
  refine g_1_5 B Z kf_RX0_42 dX0_remember_49 ?_
  refine lv_iconst (v := (1 : Int32)) hx hb dX0_remember_52 (by decide) ?_
  refine lv_iadd hx hb dX0_remember_53 ?_
  refine lv_bipush (v := (6 : Int32)) hx hb dX0_remember_54 (by decide) ?_
  refine va_mmin hx hb (B.2.2.1.trans hl.1.symm) B.2.2.2.1 (B.2.2.2.2.1 _ kl_RX0_45) (B.2.2.2.2.1 _ ks_Jmin) (B.2.2.2.2.1 _ kz_RJ9) (B.2.2.2.2.1 _ kd_Jmin) (Nat.le_of_ble_eq_true rfl) (Nat.le_of_ble_eq_true rfl) (Nat.zero_le _) (Nat.zero_le _) dX0_remember_56 ?_
  refine s_1_5 B Z kf_RX0_42 dX0_remember_59 (fun H locs Z => ?_)
  obtain ⟨σ6, eσ6, h6⟩ := dlt_s h5
  clear h5
  replace Z := Wd.eq eσ6 Z
  clear eσ6
  exact reV B Z hz h6 dX0_remember_62
theorem dX0_append_0 : decode cX0_append 0 = .ok (.aload_n 0, 1) := by decide +kernel
theorem dX0_append_1 : decode cX0_append 1 = .ok (.getfield 21, 3) := by decide +kernel
theorem dX0_append_4 : decode cX0_append 4 = .ok (.bipush 12, 2) := by decide +kernel
theorem dX0_append_6 : decode cX0_append 6 = .ok (.if_icmp .lt 4, 3) := by decide +kernel
theorem dX0_append_9 : decode cX0_append 9 = .ok (.return_, 1) := by decide +kernel
theorem dX0_append_10 : decode cX0_append 10 = .ok (.aload_n 0, 1) := by decide +kernel
theorem dX0_append_11 : decode cX0_append 11 = .ok (.getfield 21, 3) := by decide +kernel
theorem dX0_append_14 : decode cX0_append 14 = .ok (.bipush 6, 2) := by decide +kernel
theorem dX0_append_16 : decode cX0_append 16 = .ok (.imul, 1) := by decide +kernel
theorem dX0_append_17 : decode cX0_append 17 = .ok (.istore 7, 2) := by decide +kernel
theorem dX0_append_19 : decode cX0_append 19 = .ok (.aload_n 0, 1) := by decide +kernel
theorem dX0_append_20 : decode cX0_append 20 = .ok (.getfield 11, 3) := by decide +kernel
theorem dX0_append_23 : decode cX0_append 23 = .ok (.iload 7, 2) := by decide +kernel
theorem dX0_append_25 : decode cX0_append 25 = .ok (.iload_n 1, 1) := by decide +kernel
theorem dX0_append_26 : decode cX0_append 26 = .ok (.iastore, 1) := by decide +kernel
theorem dX0_append_27 : decode cX0_append 27 = .ok (.aload_n 0, 1) := by decide +kernel
theorem dX0_append_28 : decode cX0_append 28 = .ok (.getfield 11, 3) := by decide +kernel
theorem dX0_append_31 : decode cX0_append 31 = .ok (.iload 7, 2) := by decide +kernel
theorem dX0_append_33 : decode cX0_append 33 = .ok (.iconst 1, 1) := by decide +kernel
theorem dX0_append_34 : decode cX0_append 34 = .ok (.iadd, 1) := by decide +kernel
theorem dX0_append_35 : decode cX0_append 35 = .ok (.iload_n 2, 1) := by decide +kernel
theorem dX0_append_36 : decode cX0_append 36 = .ok (.iastore, 1) := by decide +kernel
theorem dX0_append_37 : decode cX0_append 37 = .ok (.aload_n 0, 1) := by decide +kernel
theorem dX0_append_38 : decode cX0_append 38 = .ok (.getfield 11, 3) := by decide +kernel
theorem dX0_append_41 : decode cX0_append 41 = .ok (.iload 7, 2) := by decide +kernel
theorem dX0_append_43 : decode cX0_append 43 = .ok (.iconst 2, 1) := by decide +kernel
theorem dX0_append_44 : decode cX0_append 44 = .ok (.iadd, 1) := by decide +kernel
theorem dX0_append_45 : decode cX0_append 45 = .ok (.iload_n 3, 1) := by decide +kernel
theorem dX0_append_46 : decode cX0_append 46 = .ok (.iastore, 1) := by decide +kernel
theorem dX0_append_47 : decode cX0_append 47 = .ok (.aload_n 0, 1) := by decide +kernel
theorem dX0_append_48 : decode cX0_append 48 = .ok (.getfield 11, 3) := by decide +kernel
theorem dX0_append_51 : decode cX0_append 51 = .ok (.iload 7, 2) := by decide +kernel
theorem dX0_append_53 : decode cX0_append 53 = .ok (.iconst 3, 1) := by decide +kernel
theorem dX0_append_54 : decode cX0_append 54 = .ok (.iadd, 1) := by decide +kernel
theorem dX0_append_55 : decode cX0_append 55 = .ok (.iload 4, 2) := by decide +kernel
theorem dX0_append_57 : decode cX0_append 57 = .ok (.iastore, 1) := by decide +kernel
theorem dX0_append_58 : decode cX0_append 58 = .ok (.aload_n 0, 1) := by decide +kernel
theorem dX0_append_59 : decode cX0_append 59 = .ok (.getfield 11, 3) := by decide +kernel
theorem dX0_append_62 : decode cX0_append 62 = .ok (.iload 7, 2) := by decide +kernel
theorem dX0_append_64 : decode cX0_append 64 = .ok (.iconst 4, 1) := by decide +kernel
theorem dX0_append_65 : decode cX0_append 65 = .ok (.iadd, 1) := by decide +kernel
theorem dX0_append_66 : decode cX0_append 66 = .ok (.iload 5, 2) := by decide +kernel
theorem dX0_append_68 : decode cX0_append 68 = .ok (.iastore, 1) := by decide +kernel
theorem dX0_append_69 : decode cX0_append 69 = .ok (.aload_n 0, 1) := by decide +kernel
theorem dX0_append_70 : decode cX0_append 70 = .ok (.getfield 11, 3) := by decide +kernel
theorem dX0_append_73 : decode cX0_append 73 = .ok (.iload 7, 2) := by decide +kernel
theorem dX0_append_75 : decode cX0_append 75 = .ok (.iconst 5, 1) := by decide +kernel
theorem dX0_append_76 : decode cX0_append 76 = .ok (.iadd, 1) := by decide +kernel
theorem dX0_append_77 : decode cX0_append 77 = .ok (.iload 6, 2) := by decide +kernel
theorem dX0_append_79 : decode cX0_append 79 = .ok (.iastore, 1) := by decide +kernel
theorem dX0_append_80 : decode cX0_append 80 = .ok (.aload_n 0, 1) := by decide +kernel
theorem dX0_append_81 : decode cX0_append 81 = .ok (.dup, 1) := by decide +kernel
theorem dX0_append_82 : decode cX0_append 82 = .ok (.getfield 21, 3) := by decide +kernel
theorem dX0_append_85 : decode cX0_append 85 = .ok (.iconst 1, 1) := by decide +kernel
theorem dX0_append_86 : decode cX0_append 86 = .ok (.iadd, 1) := by decide +kernel
theorem dX0_append_87 : decode cX0_append 87 = .ok (.putfield 21, 3) := by decide +kernel
theorem dX0_append_90 : decode cX0_append 90 = .ok (.return_, 1) := by decide +kernel
def rm_fBk_append : Room := { frames := 1, cells := 0, slots := 0, locals := 60 }
set_option maxHeartbeats 4000000 in
set_option maxRecDepth 100000 in
theorem c_fBk_append (l : Launch) (X : eX) (sz : Nat) (a1 : Int32) (a2 : Int32) (a3 : Int32) (a4 : Int32) (a5 : Int32) (a6 : Int32) (σ : sT) (σz : sT) (h0 : fBk_append a1 a2 a3 a4 a5 a6 σ = some σz) : ctV l yX0_append cX0_append 8 none rm_fBk_append [.ref (X.2.1 1), .int a1, .int a2, .int a3, .int a4, .int a5, .int a6] (wC X) (tC X) (aC X) X sz σ σz := by
  refine ct_of (by decide +kernel) (Nat.le_of_ble_eq_true rfl) ?_
  intro p e s m args below meth c ls hz B hl Z
  have B : Bd p s m args meth c RX0 cX0_append 8 none := B
  have hl : lv_has ls 8 [(0, .ref (X.2.1 1)), (1, .int a1), (2, .int a2), (3, .int a3), (4, .int a4), (5, .int a5), (6, .int a6)] := hl
  have hx := B.1
  have hb := B.2.1
  unfold fBk_append at h0
  refine lv_aload_n hx hb dX0_append_0 rfl (lv_at hl 0 rfl) ?_
  refine g_1_3 B Z kf_RX0_21 dX0_append_1 ?_
  refine lv_bipush (v := (12 : Int32)) hx hb dX0_append_4 (by decide) ?_
  refine lv_icmp_lt (tgt := 10) hx hb dX0_append_6 (by decide) (fun c1 => ?_) (fun c1 => ?_)
  · have h1 := dit h0 c1
    clear h0
    refine lv_aload_n hx hb dX0_append_10 rfl (lv_at hl 0 rfl) ?_
    refine g_1_3 B Z kf_RX0_21 dX0_append_11 ?_
    refine lv_bipush (v := (6 : Int32)) hx hb dX0_append_14 (by decide) ?_
    refine lv_imul hx hb dX0_append_16 ?_
    refine lv_topi (fun x2 ex2 => ?_)
    have h2 := dlt_e ex2 h1
    clear ex2 h1
    refine lv_istore (lv' := [(7, .int x2), (0, .ref (X.2.1 1)), (1, .int a1), (2, .int a2), (3, .int a3), (4, .int a4), (5, .int a5), (6, .int a6)]) hx hb dX0_append_17 hl (by decide) rfl (fun ls hl => ?_)
    refine lv_aload_n hx hb dX0_append_19 rfl (lv_at hl 1 rfl) ?_
    refine g_1_0 B Z kf_RX0_11 dX0_append_20 ?_
    refine lv_iload hx hb dX0_append_23 (lv_at hl 0 rfl) ?_
    refine lv_iload_n hx hb dX0_append_25 rfl (lv_at hl 2 rfl) ?_
    obtain ⟨z3, h3⟩ := dck_s h2
    clear h2
    refine st_2 B Z z3 dX0_append_26 (fun H locs Z => ?_)
    obtain ⟨σ4, eσ4, h4⟩ := dlt_s h3
    clear h3
    replace Z := Wd.eq eσ4 Z
    clear eσ4
    refine lv_aload_n hx hb dX0_append_27 rfl (lv_at hl 1 rfl) ?_
    refine g_1_0 B Z kf_RX0_11 dX0_append_28 ?_
    refine lv_iload hx hb dX0_append_31 (lv_at hl 0 rfl) ?_
    refine lv_iconst (v := (1 : Int32)) hx hb dX0_append_33 (by decide) ?_
    refine lv_iadd hx hb dX0_append_34 ?_
    refine lv_iload_n hx hb dX0_append_35 rfl (lv_at hl 3 rfl) ?_
    obtain ⟨z5, h5⟩ := dck_s h4
    clear h4
    refine st_2 B Z z5 dX0_append_36 (fun H locs Z => ?_)
    obtain ⟨σ6, eσ6, h6⟩ := dlt_s h5
    clear h5
    replace Z := Wd.eq eσ6 Z
    clear eσ6
    refine lv_aload_n hx hb dX0_append_37 rfl (lv_at hl 1 rfl) ?_
    refine g_1_0 B Z kf_RX0_11 dX0_append_38 ?_
    refine lv_iload hx hb dX0_append_41 (lv_at hl 0 rfl) ?_
    refine lv_iconst (v := (2 : Int32)) hx hb dX0_append_43 (by decide) ?_
    refine lv_iadd hx hb dX0_append_44 ?_
    refine lv_iload_n hx hb dX0_append_45 rfl (lv_at hl 4 rfl) ?_
    obtain ⟨z7, h7⟩ := dck_s h6
    clear h6
    refine st_2 B Z z7 dX0_append_46 (fun H locs Z => ?_)
    obtain ⟨σ8, eσ8, h8⟩ := dlt_s h7
    clear h7
    replace Z := Wd.eq eσ8 Z
    clear eσ8
    refine lv_aload_n hx hb dX0_append_47 rfl (lv_at hl 1 rfl) ?_
    refine g_1_0 B Z kf_RX0_11 dX0_append_48 ?_
    refine lv_iload hx hb dX0_append_51 (lv_at hl 0 rfl) ?_
    refine lv_iconst (v := (3 : Int32)) hx hb dX0_append_53 (by decide) ?_
    refine lv_iadd hx hb dX0_append_54 ?_
    refine lv_iload hx hb dX0_append_55 (lv_at hl 5 rfl) ?_
    obtain ⟨z9, h9⟩ := dck_s h8
    clear h8
    refine st_2 B Z z9 dX0_append_57 (fun H locs Z => ?_)
    obtain ⟨σ10, eσ10, h10⟩ := dlt_s h9
    clear h9
    replace Z := Wd.eq eσ10 Z
    clear eσ10
    refine lv_aload_n hx hb dX0_append_58 rfl (lv_at hl 1 rfl) ?_
    refine g_1_0 B Z kf_RX0_11 dX0_append_59 ?_
    refine lv_iload hx hb dX0_append_62 (lv_at hl 0 rfl) ?_
    refine lv_iconst (v := (4 : Int32)) hx hb dX0_append_64 (by decide) ?_
    refine lv_iadd hx hb dX0_append_65 ?_
    refine lv_iload hx hb dX0_append_66 (lv_at hl 6 rfl) ?_
    obtain ⟨z11, h11⟩ := dck_s h10
    clear h10
    refine st_2 B Z z11 dX0_append_68 (fun H locs Z => ?_)
    obtain ⟨σ12, eσ12, h12⟩ := dlt_s h11
    clear h11
    replace Z := Wd.eq eσ12 Z
    clear eσ12
    refine lv_aload_n hx hb dX0_append_69 rfl (lv_at hl 1 rfl) ?_
    refine g_1_0 B Z kf_RX0_11 dX0_append_70 ?_
    refine lv_iload hx hb dX0_append_73 (lv_at hl 0 rfl) ?_
    refine lv_iconst (v := (5 : Int32)) hx hb dX0_append_75 (by decide) ?_
    refine lv_iadd hx hb dX0_append_76 ?_
    refine lv_iload hx hb dX0_append_77 (lv_at hl 7 rfl) ?_
    obtain ⟨z13, h13⟩ := dck_s h12
    clear h12
    refine st_2 B Z z13 dX0_append_79 (fun H locs Z => ?_)
    obtain ⟨σ14, eσ14, h14⟩ := dlt_s h13
    clear h13
    replace Z := Wd.eq eσ14 Z
    clear eσ14
    refine lv_aload_n hx hb dX0_append_80 rfl (lv_at hl 1 rfl) ?_
    refine lv_dup hx hb dX0_append_81 rfl ?_
    refine g_1_3 B Z kf_RX0_21 dX0_append_82 ?_
    refine lv_iconst (v := (1 : Int32)) hx hb dX0_append_85 (by decide) ?_
    refine lv_iadd hx hb dX0_append_86 ?_
    refine s_1_3 B Z kf_RX0_21 dX0_append_87 (fun H locs Z => ?_)
    obtain ⟨σ15, eσ15, h15⟩ := dlt_s h14
    clear h14
    replace Z := Wd.eq eσ15 Z
    clear eσ15
    exact reV B Z hz h15 dX0_append_90
  · have h16 := dif h0 c1
    clear h0
    exact reV B Z hz h16 dX0_append_9
theorem dX11_full_0 : decode cX11_full 0 = .ok (.aload_n 0, 1) := by decide +kernel
theorem dX11_full_1 : decode cX11_full 1 = .ok (.dup, 1) := by decide +kernel
theorem dX11_full_2 : decode cX11_full 2 = .ok (.getfield 252, 3) := by decide +kernel
theorem dX11_full_5 : decode cX11_full 5 = .ok (.iconst 1, 1) := by decide +kernel
theorem dX11_full_6 : decode cX11_full 6 = .ok (.iadd, 1) := by decide +kernel
theorem dX11_full_7 : decode cX11_full 7 = .ok (.putfield 252, 3) := by decide +kernel
theorem dX11_full_10 : decode cX11_full 10 = .ok (.ldc_w 257, 3) := by decide +kernel
theorem dX11_full_13 : decode cX11_full 13 = .ok (.ireturn, 1) := by decide +kernel
def rm_fRM_full : Room := { frames := 1, cells := 0, slots := 0, locals := 60 }
set_option maxHeartbeats 4000000 in
set_option maxRecDepth 100000 in
theorem c_fRM_full (l : Launch) (X : eX) (sz : Nat)  (σ : sT) (rz : Int32) (σz : sT) (h0 : fRM_full σ = some (rz, σz)) : ctI l yX11_full cX11_full 1 (some .int) rm_fRM_full [.ref (X.2.1 0)] (wC X) (tC X) (aC X) X sz σ rz σz := by
  refine ct_of (by decide +kernel) (Nat.le_of_ble_eq_true rfl) ?_
  intro p e s m args below meth c ls hz B hl Z
  have B : Bd p s m args meth c RX11 cX11_full 1 (some .int) := B
  have hl : lv_has ls 1 [(0, .ref (X.2.1 0))] := hl
  have hx := B.1
  have hb := B.2.1
  unfold fRM_full at h0
  refine lv_aload_n hx hb dX11_full_0 rfl (lv_at hl 0 rfl) ?_
  refine lv_dup hx hb dX11_full_1 rfl ?_
  refine g_0_10 B Z kf_RX11_252 dX11_full_2 ?_
  refine lv_iconst (v := (1 : Int32)) hx hb dX11_full_5 (by decide) ?_
  refine lv_iadd hx hb dX11_full_6 ?_
  refine s_0_10 B Z kf_RX11_252 dX11_full_7 (fun H locs Z => ?_)
  obtain ⟨σ1, eσ1, h1⟩ := dlt_s h0
  clear h0
  replace Z := Wd.eq eσ1 Z
  clear eσ1
  refine lv_ldcw hx hb B.2.2.2.1 (B.2.2.2.2.1 _ kc_RX11_257) dX11_full_10 ?_
  exact reI B Z rfl hz h1 dX11_full_13
theorem dX11_row_0 : decode cX11_row 0 = .ok (.iload_n 1, 1) := by decide +kernel
theorem dX11_row_1 : decode cX11_row 1 = .ok (.invokestatic 73, 3) := by decide +kernel
theorem dX11_row_4 : decode cX11_row 4 = .ok (.ifCond .eq 17, 3) := by decide +kernel
theorem dX11_row_7 : decode cX11_row 7 = .ok (.iload_n 2, 1) := by decide +kernel
theorem dX11_row_8 : decode cX11_row 8 = .ok (.invokestatic 73, 3) := by decide +kernel
theorem dX11_row_11 : decode cX11_row 11 = .ok (.ifCond .eq 10, 3) := by decide +kernel
theorem dX11_row_14 : decode cX11_row 14 = .ok (.iload_n 3, 1) := by decide +kernel
theorem dX11_row_15 : decode cX11_row 15 = .ok (.invokestatic 73, 3) := by decide +kernel
theorem dX11_row_18 : decode cX11_row 18 = .ok (.ifCond .ne 8, 3) := by decide +kernel
theorem dX11_row_21 : decode cX11_row 21 = .ok (.aload_n 0, 1) := by decide +kernel
theorem dX11_row_22 : decode cX11_row 22 = .ok (.invokevirtual 77, 3) := by decide +kernel
theorem dX11_row_25 : decode cX11_row 25 = .ok (.ireturn, 1) := by decide +kernel
theorem dX11_row_26 : decode cX11_row 26 = .ok (.iconst 3, 1) := by decide +kernel
theorem dX11_row_27 : decode cX11_row 27 = .ok (.iload 4, 2) := by decide +kernel
theorem dX11_row_29 : decode cX11_row 29 = .ok (.invokestatic 81, 3) := by decide +kernel
theorem dX11_row_32 : decode cX11_row 32 = .ok (.ifCond .eq 21, 3) := by decide +kernel
theorem dX11_row_35 : decode cX11_row 35 = .ok (.iconst 4, 1) := by decide +kernel
theorem dX11_row_36 : decode cX11_row 36 = .ok (.iload 5, 2) := by decide +kernel
theorem dX11_row_38 : decode cX11_row 38 = .ok (.invokestatic 81, 3) := by decide +kernel
theorem dX11_row_41 : decode cX11_row 41 = .ok (.ifCond .eq 12, 3) := by decide +kernel
theorem dX11_row_44 : decode cX11_row 44 = .ok (.iconst 5, 1) := by decide +kernel
theorem dX11_row_45 : decode cX11_row 45 = .ok (.iload 6, 2) := by decide +kernel
theorem dX11_row_47 : decode cX11_row 47 = .ok (.invokestatic 81, 3) := by decide +kernel
theorem dX11_row_50 : decode cX11_row 50 = .ok (.ifCond .ne 8, 3) := by decide +kernel
theorem dX11_row_53 : decode cX11_row 53 = .ok (.aload_n 0, 1) := by decide +kernel
theorem dX11_row_54 : decode cX11_row 54 = .ok (.invokevirtual 77, 3) := by decide +kernel
theorem dX11_row_57 : decode cX11_row 57 = .ok (.ireturn, 1) := by decide +kernel
theorem dX11_row_58 : decode cX11_row 58 = .ok (.aload_n 0, 1) := by decide +kernel
theorem dX11_row_59 : decode cX11_row 59 = .ok (.getfield 10, 3) := by decide +kernel
theorem dX11_row_62 : decode cX11_row 62 = .ok (.getfield 85, 3) := by decide +kernel
theorem dX11_row_65 : decode cX11_row 65 = .ok (.bipush 12, 2) := by decide +kernel
theorem dX11_row_67 : decode cX11_row 67 = .ok (.if_icmp .lt 8, 3) := by decide +kernel
theorem dX11_row_70 : decode cX11_row 70 = .ok (.aload_n 0, 1) := by decide +kernel
theorem dX11_row_71 : decode cX11_row 71 = .ok (.invokevirtual 89, 3) := by decide +kernel
theorem dX11_row_74 : decode cX11_row 74 = .ok (.ireturn, 1) := by decide +kernel
theorem dX11_row_75 : decode cX11_row 75 = .ok (.aload_n 0, 1) := by decide +kernel
theorem dX11_row_76 : decode cX11_row 76 = .ok (.getfield 10, 3) := by decide +kernel
theorem dX11_row_79 : decode cX11_row 79 = .ok (.invokevirtual 92, 3) := by decide +kernel
theorem dX11_row_82 : decode cX11_row 82 = .ok (.aload_n 0, 1) := by decide +kernel
theorem dX11_row_83 : decode cX11_row 83 = .ok (.getfield 10, 3) := by decide +kernel
theorem dX11_row_86 : decode cX11_row 86 = .ok (.iload_n 1, 1) := by decide +kernel
theorem dX11_row_87 : decode cX11_row 87 = .ok (.iload_n 2, 1) := by decide +kernel
theorem dX11_row_88 : decode cX11_row 88 = .ok (.iload_n 3, 1) := by decide +kernel
theorem dX11_row_89 : decode cX11_row 89 = .ok (.iload 4, 2) := by decide +kernel
theorem dX11_row_91 : decode cX11_row 91 = .ok (.iload 5, 2) := by decide +kernel
theorem dX11_row_93 : decode cX11_row 93 = .ok (.iload 6, 2) := by decide +kernel
theorem dX11_row_95 : decode cX11_row 95 = .ok (.invokevirtual 95, 3) := by decide +kernel
theorem dX11_row_98 : decode cX11_row 98 = .ok (.aload_n 0, 1) := by decide +kernel
theorem dX11_row_99 : decode cX11_row 99 = .ok (.getfield 10, 3) := by decide +kernel
theorem dX11_row_102 : decode cX11_row 102 = .ok (.getfield 85, 3) := by decide +kernel
theorem dX11_row_105 : decode cX11_row 105 = .ok (.iconst 1, 1) := by decide +kernel
theorem dX11_row_106 : decode cX11_row 106 = .ok (.isub, 1) := by decide +kernel
theorem dX11_row_107 : decode cX11_row 107 = .ok (.ireturn, 1) := by decide +kernel
def rm_fRM_row : Room := { frames := 3, cells := 0, slots := 0, locals := 103 }
set_option maxHeartbeats 4000000 in
set_option maxRecDepth 100000 in
theorem c_fRM_row (l : Launch) (X : eX) (sz : Nat) (a1 : Int32) (a2 : Int32) (a3 : Int32) (a4 : Int32) (a5 : Int32) (a6 : Int32) (σ : sT) (rz : Int32) (σz : sT) (h0 : fRM_row a1 a2 a3 a4 a5 a6 σ = some (rz, σz)) : ctI l yX11_row cX11_row 7 (some .int) rm_fRM_row [.ref (X.2.1 0), .int a1, .int a2, .int a3, .int a4, .int a5, .int a6] (wC X) (tC X) (aC X) X sz σ rz σz := by
  refine ct_of (by decide +kernel) (Nat.le_of_ble_eq_true rfl) ?_
  intro p e s m args below meth c ls hz B hl Z
  have B : Bd p s m args meth c RX11 cX11_row 7 (some .int) := B
  have hl : lv_has ls 7 [(0, .ref (X.2.1 0)), (1, .int a1), (2, .int a2), (3, .int a3), (4, .int a4), (5, .int a5), (6, .int a6)] := hl
  have hx := B.1
  have hb := B.2.1
  unfold fRM_row at h0
  refine lv_iload_n hx hb dX11_row_0 rfl (lv_at hl 1 rfl) ?_
  obtain ⟨r2, hc0, h1⟩ := db1_s h0
  clear h0
  refine cS_I [.int a1] [] B mx_yX11_isFactor (c_fRM_isFactor l X _ a1 σ r2 hc0) kl_RX11_73 ks_yX11_isFactor Z hl rfl rfl ⟨Nat.le_of_ble_eq_true rfl, Nat.le_of_ble_eq_true rfl⟩ rfl rfl (Nat.le_of_ble_eq_true rfl) dX11_row_1 (fun H locs Z => ?_)
  clear hc0
  obtain ⟨J3, eJ3, h4⟩ := dlt_s h1
  clear h1
  have kJ3 : ∀ (H : Heap) (locs : List Loc) (ls : Array Slot), Wd (wC X) (tC X) (aC X) X s σ H locs → lv_has ls 7 [(0, .ref (X.2.1 0))] → J3 () = some (rz, σz) → W p l e rm_fRM_row s m args below meth c H locs 0 0 (MQ below (va_Qi (fun a u => a = rz ∧ u = σz) (poW (wC X) (tC X) (aC X) X sz) (aA (aC X) sz)) args s 0 0 (aA (aC X) sz)) (F0 m 21 ls []) := by
    intro  H locs ls Z hl h2
    rw [eJ3] at h2
    refine lv_aload_n hx hb dX11_row_21 rfl (lv_at hl 0 rfl) ?_
    obtain ⟨r5, σ6, hc3, h3⟩ := db2_s h2
    clear h2
    refine cV_I [] [] B mx_yX11_bad (c_fRM_bad l X _ σ r5 σ6 hc3) kl_RX11_77 mi_yX11_bad (rv_0 _ _) hcl_11 Z hl rfl rfl ⟨Nat.le_of_ble_eq_true rfl, Nat.le_of_ble_eq_true rfl⟩ rfl rfl (Nat.le_of_ble_eq_true rfl) dX11_row_22 (fun H locs Z => ?_)
    clear hc3
    exact reI B Z rfl hz h3 dX11_row_25
  clear eJ3
  refine lv_if_eq (tgt := 21) hx hb dX11_row_4 (by decide) (fun c7 => ?_) (fun c7 => ?_)
  · have h5 := dit h4 c7
    clear h4
    exact kJ3  _ _ _ Z (lv_sub hl [0] rfl) h5
  · have h6 := dif h4 c7
    clear h4
    refine lv_iload_n hx hb dX11_row_7 rfl (lv_at hl 2 rfl) ?_
    obtain ⟨r9, hc7, h7⟩ := db1_s h6
    clear h6
    refine cS_I [.int a2] [] B mx_yX11_isFactor (c_fRM_isFactor l X _ a2 σ r9 hc7) kl_RX11_73 ks_yX11_isFactor Z hl rfl rfl ⟨Nat.le_of_ble_eq_true rfl, Nat.le_of_ble_eq_true rfl⟩ rfl rfl (Nat.le_of_ble_eq_true rfl) dX11_row_8 (fun H locs Z => ?_)
    clear hc7
    refine lv_if_eq (tgt := 21) hx hb dX11_row_11 (by decide) (fun c10 => ?_) (fun c10 => ?_)
    · have h8 := dit h7 c10
      clear h7
      exact kJ3  _ _ _ Z (lv_sub hl [0] rfl) h8
    · have h9 := dif h7 c10
      clear h7
      refine lv_iload_n hx hb dX11_row_14 rfl (lv_at hl 3 rfl) ?_
      obtain ⟨r12, hc10, h10⟩ := db1_s h9
      clear h9
      refine cS_I [.int a3] [] B mx_yX11_isFactor (c_fRM_isFactor l X _ a3 σ r12 hc10) kl_RX11_73 ks_yX11_isFactor Z hl rfl rfl ⟨Nat.le_of_ble_eq_true rfl, Nat.le_of_ble_eq_true rfl⟩ rfl rfl (Nat.le_of_ble_eq_true rfl) dX11_row_15 (fun H locs Z => ?_)
      clear hc10
      refine lv_if_ne (tgt := 26) hx hb dX11_row_18 (by decide) (fun c13 => ?_) (fun c13 => ?_)
      · have h11 := dif h10 c13
        clear h10
        refine lv_iconst (v := (3 : Int32)) hx hb dX11_row_26 (by decide) ?_
        refine lv_iload hx hb dX11_row_27 (lv_at hl 4 rfl) ?_
        obtain ⟨r15, hc13, h12⟩ := db1_s h11
        clear h11
        refine cS_I [.int (3 : Int32), .int a4] [] B mx_yX11_isProperty (c_fRM_isProperty l X _ (3 : Int32) a4 σ r15 hc13) kl_RX11_81 ks_yX11_isProperty Z hl rfl rfl ⟨Nat.le_of_ble_eq_true rfl, Nat.le_of_ble_eq_true rfl⟩ rfl rfl (Nat.le_of_ble_eq_true rfl) dX11_row_29 (fun H locs Z => ?_)
        clear hc13
        obtain ⟨J16, eJ16, h15⟩ := dlt_s h12
        clear h12
        have kJ16 : ∀ (H : Heap) (locs : List Loc) (ls : Array Slot), Wd (wC X) (tC X) (aC X) X s σ H locs → lv_has ls 7 [(0, .ref (X.2.1 0))] → J16 () = some (rz, σz) → W p l e rm_fRM_row s m args below meth c H locs 0 0 (MQ below (va_Qi (fun a u => a = rz ∧ u = σz) (poW (wC X) (tC X) (aC X) X sz) (aA (aC X) sz)) args s 0 0 (aA (aC X) sz)) (F0 m 53 ls []) := by
          intro  H locs ls Z hl h13
          rw [eJ16] at h13
          refine lv_aload_n hx hb dX11_row_53 rfl (lv_at hl 0 rfl) ?_
          obtain ⟨r18, σ19, hc16, h14⟩ := db2_s h13
          clear h13
          refine cV_I [] [] B mx_yX11_bad (c_fRM_bad l X _ σ r18 σ19 hc16) kl_RX11_77 mi_yX11_bad (rv_0 _ _) hcl_11 Z hl rfl rfl ⟨Nat.le_of_ble_eq_true rfl, Nat.le_of_ble_eq_true rfl⟩ rfl rfl (Nat.le_of_ble_eq_true rfl) dX11_row_54 (fun H locs Z => ?_)
          clear hc16
          exact reI B Z rfl hz h14 dX11_row_57
        clear eJ16
        refine lv_if_eq (tgt := 53) hx hb dX11_row_32 (by decide) (fun c20 => ?_) (fun c20 => ?_)
        · have h16 := dit h15 c20
          clear h15
          exact kJ16  _ _ _ Z (lv_sub hl [0] rfl) h16
        · have h17 := dif h15 c20
          clear h15
          refine lv_iconst (v := (4 : Int32)) hx hb dX11_row_35 (by decide) ?_
          refine lv_iload hx hb dX11_row_36 (lv_at hl 5 rfl) ?_
          obtain ⟨r22, hc20, h18⟩ := db1_s h17
          clear h17
          refine cS_I [.int (4 : Int32), .int a5] [] B mx_yX11_isProperty (c_fRM_isProperty l X _ (4 : Int32) a5 σ r22 hc20) kl_RX11_81 ks_yX11_isProperty Z hl rfl rfl ⟨Nat.le_of_ble_eq_true rfl, Nat.le_of_ble_eq_true rfl⟩ rfl rfl (Nat.le_of_ble_eq_true rfl) dX11_row_38 (fun H locs Z => ?_)
          clear hc20
          refine lv_if_eq (tgt := 53) hx hb dX11_row_41 (by decide) (fun c23 => ?_) (fun c23 => ?_)
          · have h19 := dit h18 c23
            clear h18
            exact kJ16  _ _ _ Z (lv_sub hl [0] rfl) h19
          · have h20 := dif h18 c23
            clear h18
            refine lv_iconst (v := (5 : Int32)) hx hb dX11_row_44 (by decide) ?_
            refine lv_iload hx hb dX11_row_45 (lv_at hl 6 rfl) ?_
            obtain ⟨r25, hc23, h21⟩ := db1_s h20
            clear h20
            refine cS_I [.int (5 : Int32), .int a6] [] B mx_yX11_isProperty (c_fRM_isProperty l X _ (5 : Int32) a6 σ r25 hc23) kl_RX11_81 ks_yX11_isProperty Z hl rfl rfl ⟨Nat.le_of_ble_eq_true rfl, Nat.le_of_ble_eq_true rfl⟩ rfl rfl (Nat.le_of_ble_eq_true rfl) dX11_row_47 (fun H locs Z => ?_)
            clear hc23
            refine lv_if_ne (tgt := 58) hx hb dX11_row_50 (by decide) (fun c26 => ?_) (fun c26 => ?_)
            · have h22 := dif h21 c26
              clear h21
              refine lv_aload_n hx hb dX11_row_58 rfl (lv_at hl 0 rfl) ?_
              refine g_0_0 B Z kf_RX11_10 dX11_row_59 ?_
              refine gn_1_3 B Z kx_RX11_85 dX11_row_62 ?_
              refine lv_bipush (v := (12 : Int32)) hx hb dX11_row_65 (by decide) ?_
              refine lv_icmp_lt (tgt := 75) hx hb dX11_row_67 (by decide) (fun c27 => ?_) (fun c27 => ?_)
              · have h23 := dit h22 c27
                clear h22
                refine lv_aload_n hx hb dX11_row_75 rfl (lv_at hl 0 rfl) ?_
                refine g_0_0 B Z kf_RX11_10 dX11_row_76 ?_
                obtain ⟨σ29, hc27, h24⟩ := db1_s h23
                clear h23
                refine cV_V [] [] B mx_yX0_remember (c_fBk_remember l X _ σ σ29 hc27) kl_RX11_92 mi_yX0_remember (rv_1 _ _) hcl_0 Z hl rfl rfl ⟨Nat.le_of_ble_eq_true rfl, Nat.le_of_ble_eq_true rfl⟩ rfl rfl (Nat.le_of_ble_eq_true rfl) dX11_row_79 (fun H locs Z => ?_)
                clear hc27
                refine lv_aload_n hx hb dX11_row_82 rfl (lv_at hl 0 rfl) ?_
                refine g_0_0 B Z kf_RX11_10 dX11_row_83 ?_
                refine lv_iload_n hx hb dX11_row_86 rfl (lv_at hl 1 rfl) ?_
                refine lv_iload_n hx hb dX11_row_87 rfl (lv_at hl 2 rfl) ?_
                refine lv_iload_n hx hb dX11_row_88 rfl (lv_at hl 3 rfl) ?_
                refine lv_iload hx hb dX11_row_89 (lv_at hl 4 rfl) ?_
                refine lv_iload hx hb dX11_row_91 (lv_at hl 5 rfl) ?_
                refine lv_iload hx hb dX11_row_93 (lv_at hl 6 rfl) ?_
                obtain ⟨σ31, hc29, h25⟩ := db1_s h24
                clear h24
                refine cV_V [.int a1, .int a2, .int a3, .int a4, .int a5, .int a6] [] B mx_yX0_append (c_fBk_append l X _ a1 a2 a3 a4 a5 a6 σ29 σ31 hc29) kl_RX11_95 mi_yX0_append (rv_1 _ _) hcl_0 Z hl rfl rfl ⟨Nat.le_of_ble_eq_true rfl, Nat.le_of_ble_eq_true rfl⟩ rfl rfl (Nat.le_of_ble_eq_true rfl) dX11_row_95 (fun H locs Z => ?_)
                clear hc29
                refine lv_aload_n hx hb dX11_row_98 rfl (lv_at hl 0 rfl) ?_
                refine g_0_0 B Z kf_RX11_10 dX11_row_99 ?_
                refine gn_1_3 B Z kx_RX11_85 dX11_row_102 ?_
                refine lv_iconst (v := (1 : Int32)) hx hb dX11_row_105 (by decide) ?_
                refine lv_isub hx hb dX11_row_106 ?_
                exact reI B Z rfl hz h25 dX11_row_107
              · have h26 := dif h22 c27
                clear h22
                refine lv_aload_n hx hb dX11_row_70 rfl (lv_at hl 0 rfl) ?_
                obtain ⟨r33, σ34, hc31, h27⟩ := db2_s h26
                clear h26
                refine cV_I [] [] B mx_yX11_full (c_fRM_full l X _ σ r33 σ34 hc31) kl_RX11_89 mi_yX11_full (rv_0 _ _) hcl_11 Z hl rfl rfl ⟨Nat.le_of_ble_eq_true rfl, Nat.le_of_ble_eq_true rfl⟩ rfl rfl (Nat.le_of_ble_eq_true rfl) dX11_row_71 (fun H locs Z => ?_)
                clear hc31
                exact reI B Z rfl hz h27 dX11_row_74
            · have h28 := dit h21 c26
              clear h21
              exact kJ16  _ _ _ Z (lv_sub hl [0] rfl) h28
      · have h29 := dit h10 c13
        clear h10
        exact kJ3  _ _ _ Z (lv_sub hl [0] rfl) h29
theorem dX0_has_0 : decode cX0_has 0 = .ok (.iload_n 1, 1) := by decide +kernel
theorem dX0_has_1 : decode cX0_has 1 = .ok (.ifCond .lt 15, 3) := by decide +kernel
theorem dX0_has_4 : decode cX0_has 4 = .ok (.iload_n 1, 1) := by decide +kernel
theorem dX0_has_5 : decode cX0_has 5 = .ok (.aload_n 0, 1) := by decide +kernel
theorem dX0_has_6 : decode cX0_has 6 = .ok (.getfield 21, 3) := by decide +kernel
theorem dX0_has_9 : decode cX0_has 9 = .ok (.if_icmp .ge 7, 3) := by decide +kernel
theorem dX0_has_12 : decode cX0_has 12 = .ok (.iconst 1, 1) := by decide +kernel
theorem dX0_has_13 : decode cX0_has 13 = .ok (.goto 4, 3) := by decide +kernel
theorem dX0_has_16 : decode cX0_has 16 = .ok (.iconst 0, 1) := by decide +kernel
theorem dX0_has_17 : decode cX0_has 17 = .ok (.ireturn, 1) := by decide +kernel
def rm_fBk_has : Room := { frames := 1, cells := 0, slots := 0, locals := 60 }
set_option maxHeartbeats 4000000 in
set_option maxRecDepth 100000 in
theorem c_fBk_has (l : Launch) (X : eX) (sz : Nat) (a1 : Int32) (σ : sT) (rz : Int32) (h0 : fBk_has a1 σ = some rz) : ctI l yX0_has cX0_has 2 (some .boolean) rm_fBk_has [.ref (X.2.1 1), .int a1] (wC X) (tC X) (aC X) X sz σ rz σ := by
  refine ct_of (by decide +kernel) (Nat.le_of_ble_eq_true rfl) ?_
  intro p e s m args below meth c ls hz B hl Z
  have B : Bd p s m args meth c RX0 cX0_has 2 (some .boolean) := B
  have hl : lv_has ls 2 [(0, .ref (X.2.1 1)), (1, .int a1)] := hl
  have hx := B.1
  have hb := B.2.1
  unfold fBk_has at h0
  refine lv_iload_n hx hb dX0_has_0 rfl (lv_at hl 1 rfl) ?_
  refine lv_if_lt (tgt := 16) hx hb dX0_has_1 (by decide) (fun c1 => ?_) (fun c1 => ?_)
  · have h1 := dit h0 c1
    clear h0
    refine lv_iconst (v := (0 : Int32)) hx hb dX0_has_16 (by decide) ?_
    exact reI B Z rfl hz (congrArg (Option.map (fun q => (q, σ))) h1) dX0_has_17
  · have h2 := dif h0 c1
    clear h0
    refine lv_iload_n hx hb dX0_has_4 rfl (lv_at hl 1 rfl) ?_
    refine lv_aload_n hx hb dX0_has_5 rfl (lv_at hl 0 rfl) ?_
    refine g_1_3 B Z kf_RX0_21 dX0_has_6 ?_
    refine lv_icmp_ge (tgt := 16) hx hb dX0_has_9 (by decide) (fun c2 => ?_) (fun c2 => ?_)
    · have h3 := dit h2 c2
      clear h2
      refine lv_iconst (v := (0 : Int32)) hx hb dX0_has_16 (by decide) ?_
      exact reI B Z rfl hz (congrArg (Option.map (fun q => (q, σ))) h3) dX0_has_17
    · have h4 := dif h2 c2
      clear h2
      refine lv_iconst (v := (1 : Int32)) hx hb dX0_has_12 (by decide) ?_
      refine lv_goto (tgt := 17) hx hb dX0_has_13 (by decide) ?_
      exact reI B Z rfl hz (congrArg (Option.map (fun q => (q, σ))) h4) dX0_has_17
theorem dX0_remove_0 : decode cX0_remove 0 = .ok (.aload_n 0, 1) := by decide +kernel
theorem dX0_remove_1 : decode cX0_remove 1 = .ok (.iload_n 1, 1) := by decide +kernel
theorem dX0_remove_2 : decode cX0_remove 2 = .ok (.invokevirtual 25, 3) := by decide +kernel
theorem dX0_remove_5 : decode cX0_remove 5 = .ok (.ifCond .ne 4, 3) := by decide +kernel
theorem dX0_remove_8 : decode cX0_remove 8 = .ok (.return_, 1) := by decide +kernel
theorem dX0_remove_9 : decode cX0_remove 9 = .ok (.iload_n 1, 1) := by decide +kernel
theorem dX0_remove_10 : decode cX0_remove 10 = .ok (.bipush 6, 2) := by decide +kernel
theorem dX0_remove_12 : decode cX0_remove 12 = .ok (.imul, 1) := by decide +kernel
theorem dX0_remove_13 : decode cX0_remove 13 = .ok (.istore_n 2, 1) := by decide +kernel
theorem dX0_remove_14 : decode cX0_remove 14 = .ok (.iload_n 2, 1) := by decide +kernel
theorem dX0_remove_15 : decode cX0_remove 15 = .ok (.aload_n 0, 1) := by decide +kernel
theorem dX0_remove_16 : decode cX0_remove 16 = .ok (.getfield 21, 3) := by decide +kernel
theorem dX0_remove_19 : decode cX0_remove 19 = .ok (.iconst 1, 1) := by decide +kernel
theorem dX0_remove_20 : decode cX0_remove 20 = .ok (.isub, 1) := by decide +kernel
theorem dX0_remove_21 : decode cX0_remove 21 = .ok (.bipush 6, 2) := by decide +kernel
theorem dX0_remove_23 : decode cX0_remove 23 = .ok (.imul, 1) := by decide +kernel
theorem dX0_remove_24 : decode cX0_remove 24 = .ok (.if_icmp .ge 24, 3) := by decide +kernel
theorem dX0_remove_27 : decode cX0_remove 27 = .ok (.aload_n 0, 1) := by decide +kernel
theorem dX0_remove_28 : decode cX0_remove 28 = .ok (.getfield 11, 3) := by decide +kernel
theorem dX0_remove_31 : decode cX0_remove 31 = .ok (.iload_n 2, 1) := by decide +kernel
theorem dX0_remove_32 : decode cX0_remove 32 = .ok (.aload_n 0, 1) := by decide +kernel
theorem dX0_remove_33 : decode cX0_remove 33 = .ok (.getfield 11, 3) := by decide +kernel
theorem dX0_remove_36 : decode cX0_remove 36 = .ok (.iload_n 2, 1) := by decide +kernel
theorem dX0_remove_37 : decode cX0_remove 37 = .ok (.bipush 6, 2) := by decide +kernel
theorem dX0_remove_39 : decode cX0_remove 39 = .ok (.iadd, 1) := by decide +kernel
theorem dX0_remove_40 : decode cX0_remove 40 = .ok (.iaload, 1) := by decide +kernel
theorem dX0_remove_41 : decode cX0_remove 41 = .ok (.iastore, 1) := by decide +kernel
theorem dX0_remove_42 : decode cX0_remove 42 = .ok (.iinc 2 1, 3) := by decide +kernel
theorem dX0_remove_45 : decode cX0_remove 45 = .ok (.goto (-31), 3) := by decide +kernel
theorem dX0_remove_48 : decode cX0_remove 48 = .ok (.aload_n 0, 1) := by decide +kernel
theorem dX0_remove_49 : decode cX0_remove 49 = .ok (.dup, 1) := by decide +kernel
theorem dX0_remove_50 : decode cX0_remove 50 = .ok (.getfield 21, 3) := by decide +kernel
theorem dX0_remove_53 : decode cX0_remove 53 = .ok (.iconst 1, 1) := by decide +kernel
theorem dX0_remove_54 : decode cX0_remove 54 = .ok (.isub, 1) := by decide +kernel
theorem dX0_remove_55 : decode cX0_remove 55 = .ok (.putfield 21, 3) := by decide +kernel
theorem dX0_remove_58 : decode cX0_remove 58 = .ok (.return_, 1) := by decide +kernel
def rm_fBk_remove : Room := { frames := 2, cells := 0, slots := 0, locals := 81 }
set_option maxHeartbeats 4000000 in
set_option maxRecDepth 100000 in
theorem c_fBk_remove (l : Launch) (X : eX) (sz : Nat) (a1 : Int32) (σ : sT) (σz : sT) (h0 : fBk_remove a1 σ = some σz) : ctV l yX0_remove cX0_remove 3 none rm_fBk_remove [.ref (X.2.1 1), .int a1] (wC X) (tC X) (aC X) X sz σ σz := by
  refine ct_of (by decide +kernel) (Nat.le_of_ble_eq_true rfl) ?_
  intro p e s m args below meth c ls hz B hl Z
  have B : Bd p s m args meth c RX0 cX0_remove 3 none := B
  have hl : lv_has ls 3 [(0, .ref (X.2.1 1)), (1, .int a1)] := hl
  have hx := B.1
  have hb := B.2.1
  unfold fBk_remove at h0
  refine lv_aload_n hx hb dX0_remove_0 rfl (lv_at hl 0 rfl) ?_
  refine lv_iload_n hx hb dX0_remove_1 rfl (lv_at hl 1 rfl) ?_
  obtain ⟨r2, hc0, h1⟩ := db1_s h0
  clear h0
  refine cV_I [.int a1] [] B mx_yX0_has (c_fBk_has l X _ a1 σ r2 hc0) kl_RX0_25 mi_yX0_has (rv_1 _ _) hcl_0 Z hl rfl rfl ⟨Nat.le_of_ble_eq_true rfl, Nat.le_of_ble_eq_true rfl⟩ rfl rfl (Nat.le_of_ble_eq_true rfl) dX0_remove_2 (fun H locs Z => ?_)
  clear hc0
  refine lv_if_ne (tgt := 9) hx hb dX0_remove_5 (by decide) (fun c3 => ?_) (fun c3 => ?_)
  · have h2 := dif h1 c3
    clear h1
    refine lv_iload_n hx hb dX0_remove_9 rfl (lv_at hl 1 rfl) ?_
    refine lv_bipush (v := (6 : Int32)) hx hb dX0_remove_10 (by decide) ?_
    refine lv_imul hx hb dX0_remove_12 ?_
    refine lv_topi (fun x4 ex4 => ?_)
    have h3 := dlt_e ex4 h2
    clear ex4 h2
    refine lv_istore_n (lv' := [(2, .int x4), (0, .ref (X.2.1 1)), (1, .int a1)]) hx hb dX0_remove_13 rfl hl (by decide) rfl (fun ls hl => ?_)
    obtain ⟨K8, eK8, h6⟩ := dlt_s h3
    clear h3
    have kK8 : ∀ (σ7 : sT) (H : Heap) (locs : List Loc) (ls : Array Slot), Wd (wC X) (tC X) (aC X) X s σ7 H locs → lv_has ls 3 [(0, .ref (X.2.1 1))] → K8 σ7 = some σz → W p l e rm_fBk_remove s m args below meth c H locs 0 0 (MQ below (va_Qv (fun u => u = σz) (poW (wC X) (tC X) (aC X) X sz) (aA (aC X) sz)) args s 0 0 (aA (aC X) sz)) (F0 m 48 ls []) := by
      intro σ7 H locs ls Z hl h4
      rw [eK8] at h4
      refine lv_aload_n hx hb dX0_remove_48 rfl (lv_at hl 0 rfl) ?_
      refine lv_dup hx hb dX0_remove_49 rfl ?_
      refine g_1_3 B Z kf_RX0_21 dX0_remove_50 ?_
      refine lv_iconst (v := (1 : Int32)) hx hb dX0_remove_53 (by decide) ?_
      refine lv_isub hx hb dX0_remove_54 ?_
      refine s_1_3 B Z kf_RX0_21 dX0_remove_55 (fun H locs Z => ?_)
      obtain ⟨σ9, eσ9, h5⟩ := dlt_s h4
      clear h4
      replace Z := Wd.eq eσ9 Z
      clear eσ9
      exact reV B Z hz h5 dX0_remove_58
    clear eK8
    have lL14 : ∀ (n : Nat), ∀ (x5 : Int32) (σ6 : sT) (H : Heap) (locs : List Loc) (ls : Array Slot), Wd (wC X) (tC X) (aC X) X s σ6 H locs → lv_has ls 3 [(0, .ref (X.2.1 1)), (2, .int x5)] → fBk_remove_L14 K8 n x5 σ6 = some σz → W p l e rm_fBk_remove s m args below meth c H locs 0 0 (MQ below (va_Qv (fun u => u = σz) (poW (wC X) (tC X) (aC X) X sz) (aA (aC X) sz)) args s 0 0 (aA (aC X) sz)) (F0 m 14 ls []) := by
      intro n
      induction n with
      | zero =>
        intro x5 σ6 H locs ls Z hl h
        exact nomatch (show (none : Option (sT)) = some _ from h)
      | succ n10 ih9 =>
        intro x5 σ6 H locs ls Z hl h7
        unfold fBk_remove_L14 at h7
        refine lv_iload_n hx hb dX0_remove_14 rfl (lv_at hl 1 rfl) ?_
        refine lv_aload_n hx hb dX0_remove_15 rfl (lv_at hl 0 rfl) ?_
        refine g_1_3 B Z kf_RX0_21 dX0_remove_16 ?_
        refine lv_iconst (v := (1 : Int32)) hx hb dX0_remove_19 (by decide) ?_
        refine lv_isub hx hb dX0_remove_20 ?_
        refine lv_bipush (v := (6 : Int32)) hx hb dX0_remove_21 (by decide) ?_
        refine lv_imul hx hb dX0_remove_23 ?_
        refine lv_icmp_ge (tgt := 48) hx hb dX0_remove_24 (by decide) (fun c11 => ?_) (fun c11 => ?_)
        · have h8 := dit h7 c11
          clear h7
          exact kK8 σ6 _ _ _ Z (lv_sub hl [0] rfl) h8
        · have h9 := dif h7 c11
          clear h7
          refine lv_aload_n hx hb dX0_remove_27 rfl (lv_at hl 0 rfl) ?_
          refine g_1_0 B Z kf_RX0_11 dX0_remove_28 ?_
          refine lv_iload_n hx hb dX0_remove_31 rfl (lv_at hl 1 rfl) ?_
          refine lv_aload_n hx hb dX0_remove_32 rfl (lv_at hl 0 rfl) ?_
          refine g_1_0 B Z kf_RX0_11 dX0_remove_33 ?_
          refine lv_iload_n hx hb dX0_remove_36 rfl (lv_at hl 1 rfl) ?_
          refine lv_bipush (v := (6 : Int32)) hx hb dX0_remove_37 (by decide) ?_
          refine lv_iadd hx hb dX0_remove_39 ?_
          obtain ⟨z12, h10⟩ := dck_s h9
          clear h9
          refine ld_2 B Z z12 dX0_remove_40 ?_
          obtain ⟨z13, h11⟩ := dck_s h10
          clear h10
          refine st_2 B Z z13 dX0_remove_41 (fun H locs Z => ?_)
          obtain ⟨σ14, eσ14, h12⟩ := dlt_s h11
          clear h11
          replace Z := Wd.eq eσ14 Z
          clear eσ14
          refine lv_iinc (v := x5 + (1 : Int32)) (lv' := [(2, .int (x5 + (1 : Int32))), (0, .ref (X.2.1 1))]) hx hb dX0_remove_42 hl (k := 1) rfl (by rfl) (by decide) rfl (fun ls hl => ?_)
          refine lv_goto (tgt := 14) hx hb dX0_remove_45 (by decide) ?_
          exact ih9 (x5 + (1 : Int32)) σ14 _ _ _ Z (lv_sub hl [1, 0] rfl) h12
    exact lL14 FU x4 σ _ _ _ Z (lv_sub hl [1, 0] rfl) h6
  · have h13 := dit h1 c3
    clear h1
    exact reV B Z hz h13 dX0_remove_8
theorem dX11_drops_0 : decode cX11_drops 0 = .ok (.aload_n 0, 1) := by decide +kernel
theorem dX11_drops_1 : decode cX11_drops 1 = .ok (.getfield 10, 3) := by decide +kernel
theorem dX11_drops_4 : decode cX11_drops 4 = .ok (.iload_n 1, 1) := by decide +kernel
theorem dX11_drops_5 : decode cX11_drops 5 = .ok (.invokevirtual 99, 3) := by decide +kernel
theorem dX11_drops_8 : decode cX11_drops 8 = .ok (.ifCond .ne 8, 3) := by decide +kernel
theorem dX11_drops_11 : decode cX11_drops 11 = .ok (.aload_n 0, 1) := by decide +kernel
theorem dX11_drops_12 : decode cX11_drops 12 = .ok (.invokevirtual 77, 3) := by decide +kernel
theorem dX11_drops_15 : decode cX11_drops 15 = .ok (.ireturn, 1) := by decide +kernel
theorem dX11_drops_16 : decode cX11_drops 16 = .ok (.aload_n 0, 1) := by decide +kernel
theorem dX11_drops_17 : decode cX11_drops 17 = .ok (.getfield 10, 3) := by decide +kernel
theorem dX11_drops_20 : decode cX11_drops 20 = .ok (.invokevirtual 92, 3) := by decide +kernel
theorem dX11_drops_23 : decode cX11_drops 23 = .ok (.aload_n 0, 1) := by decide +kernel
theorem dX11_drops_24 : decode cX11_drops 24 = .ok (.getfield 10, 3) := by decide +kernel
theorem dX11_drops_27 : decode cX11_drops 27 = .ok (.iload_n 1, 1) := by decide +kernel
theorem dX11_drops_28 : decode cX11_drops 28 = .ok (.invokevirtual 102, 3) := by decide +kernel
theorem dX11_drops_31 : decode cX11_drops 31 = .ok (.aload_n 0, 1) := by decide +kernel
theorem dX11_drops_32 : decode cX11_drops 32 = .ok (.getfield 10, 3) := by decide +kernel
theorem dX11_drops_35 : decode cX11_drops 35 = .ok (.getfield 85, 3) := by decide +kernel
theorem dX11_drops_38 : decode cX11_drops 38 = .ok (.ireturn, 1) := by decide +kernel
def rm_fRM_drops : Room := { frames := 3, cells := 0, slots := 0, locals := 103 }
set_option maxHeartbeats 4000000 in
set_option maxRecDepth 100000 in
theorem c_fRM_drops (l : Launch) (X : eX) (sz : Nat) (a1 : Int32) (σ : sT) (rz : Int32) (σz : sT) (h0 : fRM_drops a1 σ = some (rz, σz)) : ctI l yX11_drops cX11_drops 2 (some .int) rm_fRM_drops [.ref (X.2.1 0), .int a1] (wC X) (tC X) (aC X) X sz σ rz σz := by
  refine ct_of (by decide +kernel) (Nat.le_of_ble_eq_true rfl) ?_
  intro p e s m args below meth c ls hz B hl Z
  have B : Bd p s m args meth c RX11 cX11_drops 2 (some .int) := B
  have hl : lv_has ls 2 [(0, .ref (X.2.1 0)), (1, .int a1)] := hl
  have hx := B.1
  have hb := B.2.1
  unfold fRM_drops at h0
  refine lv_aload_n hx hb dX11_drops_0 rfl (lv_at hl 0 rfl) ?_
  refine g_0_0 B Z kf_RX11_10 dX11_drops_1 ?_
  refine lv_iload_n hx hb dX11_drops_4 rfl (lv_at hl 1 rfl) ?_
  obtain ⟨r2, hc0, h1⟩ := db1_s h0
  clear h0
  refine cV_I [.int a1] [] B mx_yX0_has (c_fBk_has l X _ a1 σ r2 hc0) kl_RX11_99 mi_yX0_has (rv_1 _ _) hcl_0 Z hl rfl rfl ⟨Nat.le_of_ble_eq_true rfl, Nat.le_of_ble_eq_true rfl⟩ rfl rfl (Nat.le_of_ble_eq_true rfl) dX11_drops_5 (fun H locs Z => ?_)
  clear hc0
  refine lv_if_ne (tgt := 16) hx hb dX11_drops_8 (by decide) (fun c3 => ?_) (fun c3 => ?_)
  · have h2 := dif h1 c3
    clear h1
    refine lv_aload_n hx hb dX11_drops_16 rfl (lv_at hl 0 rfl) ?_
    refine g_0_0 B Z kf_RX11_10 dX11_drops_17 ?_
    obtain ⟨σ5, hc3, h3⟩ := db1_s h2
    clear h2
    refine cV_V [] [] B mx_yX0_remember (c_fBk_remember l X _ σ σ5 hc3) kl_RX11_92 mi_yX0_remember (rv_1 _ _) hcl_0 Z hl rfl rfl ⟨Nat.le_of_ble_eq_true rfl, Nat.le_of_ble_eq_true rfl⟩ rfl rfl (Nat.le_of_ble_eq_true rfl) dX11_drops_20 (fun H locs Z => ?_)
    clear hc3
    refine lv_aload_n hx hb dX11_drops_23 rfl (lv_at hl 0 rfl) ?_
    refine g_0_0 B Z kf_RX11_10 dX11_drops_24 ?_
    refine lv_iload_n hx hb dX11_drops_27 rfl (lv_at hl 1 rfl) ?_
    obtain ⟨σ7, hc5, h4⟩ := db1_s h3
    clear h3
    refine cV_V [.int a1] [] B mx_yX0_remove (c_fBk_remove l X _ a1 σ5 σ7 hc5) kl_RX11_102 mi_yX0_remove (rv_1 _ _) hcl_0 Z hl rfl rfl ⟨Nat.le_of_ble_eq_true rfl, Nat.le_of_ble_eq_true rfl⟩ rfl rfl (Nat.le_of_ble_eq_true rfl) dX11_drops_28 (fun H locs Z => ?_)
    clear hc5
    refine lv_aload_n hx hb dX11_drops_31 rfl (lv_at hl 0 rfl) ?_
    refine g_0_0 B Z kf_RX11_10 dX11_drops_32 ?_
    refine gn_1_3 B Z kx_RX11_85 dX11_drops_35 ?_
    exact reI B Z rfl hz h4 dX11_drops_38
  · have h5 := dit h1 c3
    clear h1
    refine lv_aload_n hx hb dX11_drops_11 rfl (lv_at hl 0 rfl) ?_
    obtain ⟨r9, σ10, hc7, h6⟩ := db2_s h5
    clear h5
    refine cV_I [] [] B mx_yX11_bad (c_fRM_bad l X _ σ r9 σ10 hc7) kl_RX11_77 mi_yX11_bad (rv_0 _ _) hcl_11 Z hl rfl rfl ⟨Nat.le_of_ble_eq_true rfl, Nat.le_of_ble_eq_true rfl⟩ rfl rfl (Nat.le_of_ble_eq_true rfl) dX11_drops_12 (fun H locs Z => ?_)
    clear hc7
    exact reI B Z rfl hz h6 dX11_drops_15
theorem dX0_get_0 : decode cX0_get 0 = .ok (.aload_n 0, 1) := by decide +kernel
theorem dX0_get_1 : decode cX0_get 1 = .ok (.iload_n 1, 1) := by decide +kernel
theorem dX0_get_2 : decode cX0_get 2 = .ok (.invokevirtual 25, 3) := by decide +kernel
theorem dX0_get_5 : decode cX0_get 5 = .ok (.ifCond .eq 26, 3) := by decide +kernel
theorem dX0_get_8 : decode cX0_get 8 = .ok (.iload_n 2, 1) := by decide +kernel
theorem dX0_get_9 : decode cX0_get 9 = .ok (.iconst 0, 1) := by decide +kernel
theorem dX0_get_10 : decode cX0_get 10 = .ok (.iconst 5, 1) := by decide +kernel
theorem dX0_get_11 : decode cX0_get 11 = .ok (.invokestatic 29, 3) := by decide +kernel
theorem dX0_get_14 : decode cX0_get 14 = .ok (.ifCond .eq 17, 3) := by decide +kernel
theorem dX0_get_17 : decode cX0_get 17 = .ok (.aload_n 0, 1) := by decide +kernel
theorem dX0_get_18 : decode cX0_get 18 = .ok (.getfield 11, 3) := by decide +kernel
theorem dX0_get_21 : decode cX0_get 21 = .ok (.iload_n 1, 1) := by decide +kernel
theorem dX0_get_22 : decode cX0_get 22 = .ok (.bipush 6, 2) := by decide +kernel
theorem dX0_get_24 : decode cX0_get 24 = .ok (.imul, 1) := by decide +kernel
theorem dX0_get_25 : decode cX0_get 25 = .ok (.iload_n 2, 1) := by decide +kernel
theorem dX0_get_26 : decode cX0_get 26 = .ok (.iadd, 1) := by decide +kernel
theorem dX0_get_27 : decode cX0_get 27 = .ok (.iaload, 1) := by decide +kernel
theorem dX0_get_28 : decode cX0_get 28 = .ok (.goto 4, 3) := by decide +kernel
theorem dX0_get_31 : decode cX0_get 31 = .ok (.iconst 0, 1) := by decide +kernel
theorem dX0_get_32 : decode cX0_get 32 = .ok (.ireturn, 1) := by decide +kernel
def rm_fBk_get : Room := { frames := 2, cells := 0, slots := 0, locals := 82 }
set_option maxHeartbeats 4000000 in
set_option maxRecDepth 100000 in
theorem c_fBk_get (l : Launch) (X : eX) (sz : Nat) (a1 : Int32) (a2 : Int32) (σ : sT) (rz : Int32) (h0 : fBk_get a1 a2 σ = some rz) : ctI l yX0_get cX0_get 3 (some .int) rm_fBk_get [.ref (X.2.1 1), .int a1, .int a2] (wC X) (tC X) (aC X) X sz σ rz σ := by
  refine ct_of (by decide +kernel) (Nat.le_of_ble_eq_true rfl) ?_
  intro p e s m args below meth c ls hz B hl Z
  have B : Bd p s m args meth c RX0 cX0_get 3 (some .int) := B
  have hl : lv_has ls 3 [(0, .ref (X.2.1 1)), (1, .int a1), (2, .int a2)] := hl
  have hx := B.1
  have hb := B.2.1
  unfold fBk_get at h0
  refine lv_aload_n hx hb dX0_get_0 rfl (lv_at hl 0 rfl) ?_
  refine lv_iload_n hx hb dX0_get_1 rfl (lv_at hl 1 rfl) ?_
  obtain ⟨r2, hc0, h1⟩ := db1_s h0
  clear h0
  refine cV_I [.int a1] [] B mx_yX0_has (c_fBk_has l X _ a1 σ r2 hc0) kl_RX0_25 mi_yX0_has (rv_1 _ _) hcl_0 Z hl rfl rfl ⟨Nat.le_of_ble_eq_true rfl, Nat.le_of_ble_eq_true rfl⟩ rfl rfl (Nat.le_of_ble_eq_true rfl) dX0_get_2 (fun H locs Z => ?_)
  clear hc0
  refine lv_if_eq (tgt := 31) hx hb dX0_get_5 (by decide) (fun c3 => ?_) (fun c3 => ?_)
  · have h2 := dit h1 c3
    clear h1
    refine lv_iconst (v := (0 : Int32)) hx hb dX0_get_31 (by decide) ?_
    exact reI B Z rfl hz (congrArg (Option.map (fun q => (q, σ))) h2) dX0_get_32
  · have h3 := dif h1 c3
    clear h1
    refine lv_iload_n hx hb dX0_get_8 rfl (lv_at hl 2 rfl) ?_
    refine lv_iconst (v := (0 : Int32)) hx hb dX0_get_9 (by decide) ?_
    refine lv_iconst (v := (5 : Int32)) hx hb dX0_get_10 (by decide) ?_
    obtain ⟨r5, hc3, h4⟩ := db1_s h3
    clear h3
    refine cSN_I [.int a2, .int (0 : Int32), .int (5 : Int32)] [] B mx_yX11_isWithin (c_fRM_isWithin l X _ a2 (0 : Int32) (5 : Int32) σ r5 hc3) kx_RX0_29 ks_yX11_isWithin Z hl rfl rfl ⟨Nat.le_of_ble_eq_true rfl, Nat.le_of_ble_eq_true rfl⟩ rfl rfl (Nat.le_of_ble_eq_true rfl) dX0_get_11 (fun H locs Z => ?_)
    clear hc3
    refine lv_if_eq (tgt := 31) hx hb dX0_get_14 (by decide) (fun c6 => ?_) (fun c6 => ?_)
    · have h5 := dit h4 c6
      clear h4
      refine lv_iconst (v := (0 : Int32)) hx hb dX0_get_31 (by decide) ?_
      exact reI B Z rfl hz (congrArg (Option.map (fun q => (q, σ))) h5) dX0_get_32
    · have h6 := dif h4 c6
      clear h4
      refine lv_aload_n hx hb dX0_get_17 rfl (lv_at hl 0 rfl) ?_
      refine g_1_0 B Z kf_RX0_11 dX0_get_18 ?_
      refine lv_iload_n hx hb dX0_get_21 rfl (lv_at hl 1 rfl) ?_
      refine lv_bipush (v := (6 : Int32)) hx hb dX0_get_22 (by decide) ?_
      refine lv_imul hx hb dX0_get_24 ?_
      refine lv_iload_n hx hb dX0_get_25 rfl (lv_at hl 2 rfl) ?_
      refine lv_iadd hx hb dX0_get_26 ?_
      obtain ⟨z7, h7⟩ := dck_s h6
      clear h6
      refine ld_2 B Z z7 dX0_get_27 ?_
      refine lv_goto (tgt := 32) hx hb dX0_get_28 (by decide) ?_
      exact reI B Z rfl hz (congrArg (Option.map (fun q => (q, σ))) h7) dX0_get_32
theorem dX0_put_0 : decode cX0_put 0 = .ok (.aload_n 0, 1) := by decide +kernel
theorem dX0_put_1 : decode cX0_put 1 = .ok (.iload_n 1, 1) := by decide +kernel
theorem dX0_put_2 : decode cX0_put 2 = .ok (.invokevirtual 25, 3) := by decide +kernel
theorem dX0_put_5 : decode cX0_put 5 = .ok (.ifCond .eq 24, 3) := by decide +kernel
theorem dX0_put_8 : decode cX0_put 8 = .ok (.iload_n 2, 1) := by decide +kernel
theorem dX0_put_9 : decode cX0_put 9 = .ok (.iconst 0, 1) := by decide +kernel
theorem dX0_put_10 : decode cX0_put 10 = .ok (.iconst 5, 1) := by decide +kernel
theorem dX0_put_11 : decode cX0_put 11 = .ok (.invokestatic 29, 3) := by decide +kernel
theorem dX0_put_14 : decode cX0_put 14 = .ok (.ifCond .eq 15, 3) := by decide +kernel
theorem dX0_put_17 : decode cX0_put 17 = .ok (.aload_n 0, 1) := by decide +kernel
theorem dX0_put_18 : decode cX0_put 18 = .ok (.getfield 11, 3) := by decide +kernel
theorem dX0_put_21 : decode cX0_put 21 = .ok (.iload_n 1, 1) := by decide +kernel
theorem dX0_put_22 : decode cX0_put 22 = .ok (.bipush 6, 2) := by decide +kernel
theorem dX0_put_24 : decode cX0_put 24 = .ok (.imul, 1) := by decide +kernel
theorem dX0_put_25 : decode cX0_put 25 = .ok (.iload_n 2, 1) := by decide +kernel
theorem dX0_put_26 : decode cX0_put 26 = .ok (.iadd, 1) := by decide +kernel
theorem dX0_put_27 : decode cX0_put 27 = .ok (.iload_n 3, 1) := by decide +kernel
theorem dX0_put_28 : decode cX0_put 28 = .ok (.iastore, 1) := by decide +kernel
theorem dX0_put_29 : decode cX0_put 29 = .ok (.return_, 1) := by decide +kernel
def rm_fBk_put : Room := { frames := 2, cells := 0, slots := 0, locals := 82 }
set_option maxHeartbeats 4000000 in
set_option maxRecDepth 100000 in
theorem c_fBk_put (l : Launch) (X : eX) (sz : Nat) (a1 : Int32) (a2 : Int32) (a3 : Int32) (σ : sT) (σz : sT) (h0 : fBk_put a1 a2 a3 σ = some σz) : ctV l yX0_put cX0_put 4 none rm_fBk_put [.ref (X.2.1 1), .int a1, .int a2, .int a3] (wC X) (tC X) (aC X) X sz σ σz := by
  refine ct_of (by decide +kernel) (Nat.le_of_ble_eq_true rfl) ?_
  intro p e s m args below meth c ls hz B hl Z
  have B : Bd p s m args meth c RX0 cX0_put 4 none := B
  have hl : lv_has ls 4 [(0, .ref (X.2.1 1)), (1, .int a1), (2, .int a2), (3, .int a3)] := hl
  have hx := B.1
  have hb := B.2.1
  unfold fBk_put at h0
  refine lv_aload_n hx hb dX0_put_0 rfl (lv_at hl 0 rfl) ?_
  refine lv_iload_n hx hb dX0_put_1 rfl (lv_at hl 1 rfl) ?_
  obtain ⟨r2, hc0, h1⟩ := db1_s h0
  clear h0
  refine cV_I [.int a1] [] B mx_yX0_has (c_fBk_has l X _ a1 σ r2 hc0) kl_RX0_25 mi_yX0_has (rv_1 _ _) hcl_0 Z hl rfl rfl ⟨Nat.le_of_ble_eq_true rfl, Nat.le_of_ble_eq_true rfl⟩ rfl rfl (Nat.le_of_ble_eq_true rfl) dX0_put_2 (fun H locs Z => ?_)
  clear hc0
  refine lv_if_eq (tgt := 29) hx hb dX0_put_5 (by decide) (fun c3 => ?_) (fun c3 => ?_)
  · have h2 := dit h1 c3
    clear h1
    exact reV B Z hz h2 dX0_put_29
  · have h3 := dif h1 c3
    clear h1
    refine lv_iload_n hx hb dX0_put_8 rfl (lv_at hl 2 rfl) ?_
    refine lv_iconst (v := (0 : Int32)) hx hb dX0_put_9 (by decide) ?_
    refine lv_iconst (v := (5 : Int32)) hx hb dX0_put_10 (by decide) ?_
    obtain ⟨r5, hc3, h4⟩ := db1_s h3
    clear h3
    refine cSN_I [.int a2, .int (0 : Int32), .int (5 : Int32)] [] B mx_yX11_isWithin (c_fRM_isWithin l X _ a2 (0 : Int32) (5 : Int32) σ r5 hc3) kx_RX0_29 ks_yX11_isWithin Z hl rfl rfl ⟨Nat.le_of_ble_eq_true rfl, Nat.le_of_ble_eq_true rfl⟩ rfl rfl (Nat.le_of_ble_eq_true rfl) dX0_put_11 (fun H locs Z => ?_)
    clear hc3
    refine lv_if_eq (tgt := 29) hx hb dX0_put_14 (by decide) (fun c6 => ?_) (fun c6 => ?_)
    · have h5 := dit h4 c6
      clear h4
      exact reV B Z hz h5 dX0_put_29
    · have h6 := dif h4 c6
      clear h4
      refine lv_aload_n hx hb dX0_put_17 rfl (lv_at hl 0 rfl) ?_
      refine g_1_0 B Z kf_RX0_11 dX0_put_18 ?_
      refine lv_iload_n hx hb dX0_put_21 rfl (lv_at hl 1 rfl) ?_
      refine lv_bipush (v := (6 : Int32)) hx hb dX0_put_22 (by decide) ?_
      refine lv_imul hx hb dX0_put_24 ?_
      refine lv_iload_n hx hb dX0_put_25 rfl (lv_at hl 2 rfl) ?_
      refine lv_iadd hx hb dX0_put_26 ?_
      refine lv_iload_n hx hb dX0_put_27 rfl (lv_at hl 3 rfl) ?_
      obtain ⟨z7, h7⟩ := dck_s h6
      clear h6
      refine st_2 B Z z7 dX0_put_28 (fun H locs Z => ?_)
      obtain ⟨σ8, eσ8, h8⟩ := dlt_s h7
      clear h7
      replace Z := Wd.eq eσ8 Z
      clear eσ8
      exact reV B Z hz h8 dX0_put_29
theorem dX11_sets_0 : decode cX11_sets 0 = .ok (.aload_n 0, 1) := by decide +kernel
theorem dX11_sets_1 : decode cX11_sets 1 = .ok (.getfield 10, 3) := by decide +kernel
theorem dX11_sets_4 : decode cX11_sets 4 = .ok (.iload_n 1, 1) := by decide +kernel
theorem dX11_sets_5 : decode cX11_sets 5 = .ok (.invokevirtual 99, 3) := by decide +kernel
theorem dX11_sets_8 : decode cX11_sets 8 = .ok (.ifCond .eq 22, 3) := by decide +kernel
theorem dX11_sets_11 : decode cX11_sets 11 = .ok (.iload_n 2, 1) := by decide +kernel
theorem dX11_sets_12 : decode cX11_sets 12 = .ok (.iconst 0, 1) := by decide +kernel
theorem dX11_sets_13 : decode cX11_sets 13 = .ok (.iconst 2, 1) := by decide +kernel
theorem dX11_sets_14 : decode cX11_sets 14 = .ok (.invokestatic 106, 3) := by decide +kernel
theorem dX11_sets_17 : decode cX11_sets 17 = .ok (.ifCond .eq 13, 3) := by decide +kernel
theorem dX11_sets_20 : decode cX11_sets 20 = .ok (.iconst 3, 1) := by decide +kernel
theorem dX11_sets_21 : decode cX11_sets 21 = .ok (.iload_n 2, 1) := by decide +kernel
theorem dX11_sets_22 : decode cX11_sets 22 = .ok (.iadd, 1) := by decide +kernel
theorem dX11_sets_23 : decode cX11_sets 23 = .ok (.iload_n 3, 1) := by decide +kernel
theorem dX11_sets_24 : decode cX11_sets 24 = .ok (.invokestatic 81, 3) := by decide +kernel
theorem dX11_sets_27 : decode cX11_sets 27 = .ok (.ifCond .ne 8, 3) := by decide +kernel
theorem dX11_sets_30 : decode cX11_sets 30 = .ok (.aload_n 0, 1) := by decide +kernel
theorem dX11_sets_31 : decode cX11_sets 31 = .ok (.invokevirtual 77, 3) := by decide +kernel
theorem dX11_sets_34 : decode cX11_sets 34 = .ok (.ireturn, 1) := by decide +kernel
theorem dX11_sets_35 : decode cX11_sets 35 = .ok (.aload_n 0, 1) := by decide +kernel
theorem dX11_sets_36 : decode cX11_sets 36 = .ok (.getfield 10, 3) := by decide +kernel
theorem dX11_sets_39 : decode cX11_sets 39 = .ok (.iload_n 1, 1) := by decide +kernel
theorem dX11_sets_40 : decode cX11_sets 40 = .ok (.iconst 3, 1) := by decide +kernel
theorem dX11_sets_41 : decode cX11_sets 41 = .ok (.iload_n 2, 1) := by decide +kernel
theorem dX11_sets_42 : decode cX11_sets 42 = .ok (.iadd, 1) := by decide +kernel
theorem dX11_sets_43 : decode cX11_sets 43 = .ok (.invokevirtual 110, 3) := by decide +kernel
theorem dX11_sets_46 : decode cX11_sets 46 = .ok (.istore 4, 2) := by decide +kernel
theorem dX11_sets_48 : decode cX11_sets 48 = .ok (.aload_n 0, 1) := by decide +kernel
theorem dX11_sets_49 : decode cX11_sets 49 = .ok (.getfield 10, 3) := by decide +kernel
theorem dX11_sets_52 : decode cX11_sets 52 = .ok (.invokevirtual 92, 3) := by decide +kernel
theorem dX11_sets_55 : decode cX11_sets 55 = .ok (.aload_n 0, 1) := by decide +kernel
theorem dX11_sets_56 : decode cX11_sets 56 = .ok (.getfield 10, 3) := by decide +kernel
theorem dX11_sets_59 : decode cX11_sets 59 = .ok (.iload_n 1, 1) := by decide +kernel
theorem dX11_sets_60 : decode cX11_sets 60 = .ok (.iconst 3, 1) := by decide +kernel
theorem dX11_sets_61 : decode cX11_sets 61 = .ok (.iload_n 2, 1) := by decide +kernel
theorem dX11_sets_62 : decode cX11_sets 62 = .ok (.iadd, 1) := by decide +kernel
theorem dX11_sets_63 : decode cX11_sets 63 = .ok (.iload_n 3, 1) := by decide +kernel
theorem dX11_sets_64 : decode cX11_sets 64 = .ok (.invokevirtual 114, 3) := by decide +kernel
theorem dX11_sets_67 : decode cX11_sets 67 = .ok (.iload 4, 2) := by decide +kernel
theorem dX11_sets_69 : decode cX11_sets 69 = .ok (.ireturn, 1) := by decide +kernel
def rm_fRM_sets : Room := { frames := 3, cells := 0, slots := 0, locals := 105 }
set_option maxHeartbeats 4000000 in
set_option maxRecDepth 100000 in
theorem c_fRM_sets (l : Launch) (X : eX) (sz : Nat) (a1 : Int32) (a2 : Int32) (a3 : Int32) (σ : sT) (rz : Int32) (σz : sT) (h0 : fRM_sets a1 a2 a3 σ = some (rz, σz)) : ctI l yX11_sets cX11_sets 5 (some .int) rm_fRM_sets [.ref (X.2.1 0), .int a1, .int a2, .int a3] (wC X) (tC X) (aC X) X sz σ rz σz := by
  refine ct_of (by decide +kernel) (Nat.le_of_ble_eq_true rfl) ?_
  intro p e s m args below meth c ls hz B hl Z
  have B : Bd p s m args meth c RX11 cX11_sets 5 (some .int) := B
  have hl : lv_has ls 5 [(0, .ref (X.2.1 0)), (1, .int a1), (2, .int a2), (3, .int a3)] := hl
  have hx := B.1
  have hb := B.2.1
  unfold fRM_sets at h0
  refine lv_aload_n hx hb dX11_sets_0 rfl (lv_at hl 0 rfl) ?_
  refine g_0_0 B Z kf_RX11_10 dX11_sets_1 ?_
  refine lv_iload_n hx hb dX11_sets_4 rfl (lv_at hl 1 rfl) ?_
  obtain ⟨r2, hc0, h1⟩ := db1_s h0
  clear h0
  refine cV_I [.int a1] [] B mx_yX0_has (c_fBk_has l X _ a1 σ r2 hc0) kl_RX11_99 mi_yX0_has (rv_1 _ _) hcl_0 Z hl rfl rfl ⟨Nat.le_of_ble_eq_true rfl, Nat.le_of_ble_eq_true rfl⟩ rfl rfl (Nat.le_of_ble_eq_true rfl) dX11_sets_5 (fun H locs Z => ?_)
  clear hc0
  obtain ⟨J3, eJ3, h4⟩ := dlt_s h1
  clear h1
  have kJ3 : ∀ (H : Heap) (locs : List Loc) (ls : Array Slot), Wd (wC X) (tC X) (aC X) X s σ H locs → lv_has ls 5 [(0, .ref (X.2.1 0))] → J3 () = some (rz, σz) → W p l e rm_fRM_sets s m args below meth c H locs 0 0 (MQ below (va_Qi (fun a u => a = rz ∧ u = σz) (poW (wC X) (tC X) (aC X) X sz) (aA (aC X) sz)) args s 0 0 (aA (aC X) sz)) (F0 m 30 ls []) := by
    intro  H locs ls Z hl h2
    rw [eJ3] at h2
    refine lv_aload_n hx hb dX11_sets_30 rfl (lv_at hl 0 rfl) ?_
    obtain ⟨r5, σ6, hc3, h3⟩ := db2_s h2
    clear h2
    refine cV_I [] [] B mx_yX11_bad (c_fRM_bad l X _ σ r5 σ6 hc3) kl_RX11_77 mi_yX11_bad (rv_0 _ _) hcl_11 Z hl rfl rfl ⟨Nat.le_of_ble_eq_true rfl, Nat.le_of_ble_eq_true rfl⟩ rfl rfl (Nat.le_of_ble_eq_true rfl) dX11_sets_31 (fun H locs Z => ?_)
    clear hc3
    exact reI B Z rfl hz h3 dX11_sets_34
  clear eJ3
  refine lv_if_eq (tgt := 30) hx hb dX11_sets_8 (by decide) (fun c7 => ?_) (fun c7 => ?_)
  · have h5 := dit h4 c7
    clear h4
    exact kJ3  _ _ _ Z (lv_sub hl [0] rfl) h5
  · have h6 := dif h4 c7
    clear h4
    refine lv_iload_n hx hb dX11_sets_11 rfl (lv_at hl 2 rfl) ?_
    refine lv_iconst (v := (0 : Int32)) hx hb dX11_sets_12 (by decide) ?_
    refine lv_iconst (v := (2 : Int32)) hx hb dX11_sets_13 (by decide) ?_
    obtain ⟨r9, hc7, h7⟩ := db1_s h6
    clear h6
    refine cS_I [.int a2, .int (0 : Int32), .int (2 : Int32)] [] B mx_yX11_isWithin (c_fRM_isWithin l X _ a2 (0 : Int32) (2 : Int32) σ r9 hc7) kl_RX11_106 ks_yX11_isWithin Z hl rfl rfl ⟨Nat.le_of_ble_eq_true rfl, Nat.le_of_ble_eq_true rfl⟩ rfl rfl (Nat.le_of_ble_eq_true rfl) dX11_sets_14 (fun H locs Z => ?_)
    clear hc7
    refine lv_if_eq (tgt := 30) hx hb dX11_sets_17 (by decide) (fun c10 => ?_) (fun c10 => ?_)
    · have h8 := dit h7 c10
      clear h7
      exact kJ3  _ _ _ Z (lv_sub hl [0] rfl) h8
    · have h9 := dif h7 c10
      clear h7
      refine lv_iconst (v := (3 : Int32)) hx hb dX11_sets_20 (by decide) ?_
      refine lv_iload_n hx hb dX11_sets_21 rfl (lv_at hl 2 rfl) ?_
      refine lv_iadd hx hb dX11_sets_22 ?_
      refine lv_iload_n hx hb dX11_sets_23 rfl (lv_at hl 3 rfl) ?_
      obtain ⟨r12, hc10, h10⟩ := db1_s h9
      clear h9
      refine cS_I [.int ((3 : Int32) + a2), .int a3] [] B mx_yX11_isProperty (c_fRM_isProperty l X _ ((3 : Int32) + a2) a3 σ r12 hc10) kl_RX11_81 ks_yX11_isProperty Z hl rfl rfl ⟨Nat.le_of_ble_eq_true rfl, Nat.le_of_ble_eq_true rfl⟩ rfl rfl (Nat.le_of_ble_eq_true rfl) dX11_sets_24 (fun H locs Z => ?_)
      clear hc10
      refine lv_if_ne (tgt := 35) hx hb dX11_sets_27 (by decide) (fun c13 => ?_) (fun c13 => ?_)
      · have h11 := dif h10 c13
        clear h10
        refine lv_aload_n hx hb dX11_sets_35 rfl (lv_at hl 0 rfl) ?_
        refine g_0_0 B Z kf_RX11_10 dX11_sets_36 ?_
        refine lv_iload_n hx hb dX11_sets_39 rfl (lv_at hl 1 rfl) ?_
        refine lv_iconst (v := (3 : Int32)) hx hb dX11_sets_40 (by decide) ?_
        refine lv_iload_n hx hb dX11_sets_41 rfl (lv_at hl 2 rfl) ?_
        refine lv_iadd hx hb dX11_sets_42 ?_
        obtain ⟨r15, hc13, h12⟩ := db1_s h11
        clear h11
        refine cV_I [.int a1, .int ((3 : Int32) + a2)] [] B mx_yX0_get (c_fBk_get l X _ a1 ((3 : Int32) + a2) σ r15 hc13) kl_RX11_110 mi_yX0_get (rv_1 _ _) hcl_0 Z hl rfl rfl ⟨Nat.le_of_ble_eq_true rfl, Nat.le_of_ble_eq_true rfl⟩ rfl rfl (Nat.le_of_ble_eq_true rfl) dX11_sets_43 (fun H locs Z => ?_)
        clear hc13
        refine lv_istore (lv' := [(4, .int r15), (0, .ref (X.2.1 0)), (1, .int a1), (2, .int a2), (3, .int a3)]) hx hb dX11_sets_46 hl (by decide) rfl (fun ls hl => ?_)
        refine lv_aload_n hx hb dX11_sets_48 rfl (lv_at hl 1 rfl) ?_
        refine g_0_0 B Z kf_RX11_10 dX11_sets_49 ?_
        obtain ⟨σ17, hc15, h13⟩ := db1_s h12
        clear h12
        refine cV_V [] [] B mx_yX0_remember (c_fBk_remember l X _ σ σ17 hc15) kl_RX11_92 mi_yX0_remember (rv_1 _ _) hcl_0 Z hl rfl rfl ⟨Nat.le_of_ble_eq_true rfl, Nat.le_of_ble_eq_true rfl⟩ rfl rfl (Nat.le_of_ble_eq_true rfl) dX11_sets_52 (fun H locs Z => ?_)
        clear hc15
        refine lv_aload_n hx hb dX11_sets_55 rfl (lv_at hl 1 rfl) ?_
        refine g_0_0 B Z kf_RX11_10 dX11_sets_56 ?_
        refine lv_iload_n hx hb dX11_sets_59 rfl (lv_at hl 2 rfl) ?_
        refine lv_iconst (v := (3 : Int32)) hx hb dX11_sets_60 (by decide) ?_
        refine lv_iload_n hx hb dX11_sets_61 rfl (lv_at hl 3 rfl) ?_
        refine lv_iadd hx hb dX11_sets_62 ?_
        refine lv_iload_n hx hb dX11_sets_63 rfl (lv_at hl 4 rfl) ?_
        obtain ⟨σ19, hc17, h14⟩ := db1_s h13
        clear h13
        refine cV_V [.int a1, .int ((3 : Int32) + a2), .int a3] [] B mx_yX0_put (c_fBk_put l X _ a1 ((3 : Int32) + a2) a3 σ17 σ19 hc17) kl_RX11_114 mi_yX0_put (rv_1 _ _) hcl_0 Z hl rfl rfl ⟨Nat.le_of_ble_eq_true rfl, Nat.le_of_ble_eq_true rfl⟩ rfl rfl (Nat.le_of_ble_eq_true rfl) dX11_sets_64 (fun H locs Z => ?_)
        clear hc17
        refine lv_iload hx hb dX11_sets_67 (lv_at hl 0 rfl) ?_
        exact reI B Z rfl hz h14 dX11_sets_69
      · have h15 := dit h10 c13
        clear h10
        exact kJ3  _ _ _ Z (lv_sub hl [0] rfl) h15
theorem dX11_of_0 : decode cX11_of 0 = .ok (.aload_n 0, 1) := by decide +kernel
theorem dX11_of_1 : decode cX11_of 1 = .ok (.getfield 10, 3) := by decide +kernel
theorem dX11_of_4 : decode cX11_of 4 = .ok (.iload_n 1, 1) := by decide +kernel
theorem dX11_of_5 : decode cX11_of 5 = .ok (.invokevirtual 99, 3) := by decide +kernel
theorem dX11_of_8 : decode cX11_of 8 = .ok (.ifCond .eq 12, 3) := by decide +kernel
theorem dX11_of_11 : decode cX11_of 11 = .ok (.iload_n 2, 1) := by decide +kernel
theorem dX11_of_12 : decode cX11_of 12 = .ok (.iconst 0, 1) := by decide +kernel
theorem dX11_of_13 : decode cX11_of 13 = .ok (.iconst 5, 1) := by decide +kernel
theorem dX11_of_14 : decode cX11_of 14 = .ok (.invokestatic 106, 3) := by decide +kernel
theorem dX11_of_17 : decode cX11_of 17 = .ok (.ifCond .ne 8, 3) := by decide +kernel
theorem dX11_of_20 : decode cX11_of 20 = .ok (.aload_n 0, 1) := by decide +kernel
theorem dX11_of_21 : decode cX11_of 21 = .ok (.invokevirtual 77, 3) := by decide +kernel
theorem dX11_of_24 : decode cX11_of 24 = .ok (.ireturn, 1) := by decide +kernel
theorem dX11_of_25 : decode cX11_of 25 = .ok (.aload_n 0, 1) := by decide +kernel
theorem dX11_of_26 : decode cX11_of 26 = .ok (.getfield 10, 3) := by decide +kernel
theorem dX11_of_29 : decode cX11_of 29 = .ok (.iload_n 1, 1) := by decide +kernel
theorem dX11_of_30 : decode cX11_of 30 = .ok (.iload_n 2, 1) := by decide +kernel
theorem dX11_of_31 : decode cX11_of 31 = .ok (.invokevirtual 110, 3) := by decide +kernel
theorem dX11_of_34 : decode cX11_of 34 = .ok (.ireturn, 1) := by decide +kernel
def rm_fRM_of : Room := { frames := 3, cells := 0, slots := 0, locals := 104 }
set_option maxHeartbeats 4000000 in
set_option maxRecDepth 100000 in
theorem c_fRM_of (l : Launch) (X : eX) (sz : Nat) (a1 : Int32) (a2 : Int32) (σ : sT) (rz : Int32) (σz : sT) (h0 : fRM_of a1 a2 σ = some (rz, σz)) : ctI l yX11_of cX11_of 3 (some .int) rm_fRM_of [.ref (X.2.1 0), .int a1, .int a2] (wC X) (tC X) (aC X) X sz σ rz σz := by
  refine ct_of (by decide +kernel) (Nat.le_of_ble_eq_true rfl) ?_
  intro p e s m args below meth c ls hz B hl Z
  have B : Bd p s m args meth c RX11 cX11_of 3 (some .int) := B
  have hl : lv_has ls 3 [(0, .ref (X.2.1 0)), (1, .int a1), (2, .int a2)] := hl
  have hx := B.1
  have hb := B.2.1
  unfold fRM_of at h0
  refine lv_aload_n hx hb dX11_of_0 rfl (lv_at hl 0 rfl) ?_
  refine g_0_0 B Z kf_RX11_10 dX11_of_1 ?_
  refine lv_iload_n hx hb dX11_of_4 rfl (lv_at hl 1 rfl) ?_
  obtain ⟨r2, hc0, h1⟩ := db1_s h0
  clear h0
  refine cV_I [.int a1] [] B mx_yX0_has (c_fBk_has l X _ a1 σ r2 hc0) kl_RX11_99 mi_yX0_has (rv_1 _ _) hcl_0 Z hl rfl rfl ⟨Nat.le_of_ble_eq_true rfl, Nat.le_of_ble_eq_true rfl⟩ rfl rfl (Nat.le_of_ble_eq_true rfl) dX11_of_5 (fun H locs Z => ?_)
  clear hc0
  obtain ⟨J3, eJ3, h4⟩ := dlt_s h1
  clear h1
  have kJ3 : ∀ (H : Heap) (locs : List Loc) (ls : Array Slot), Wd (wC X) (tC X) (aC X) X s σ H locs → lv_has ls 3 [(0, .ref (X.2.1 0))] → J3 () = some (rz, σz) → W p l e rm_fRM_of s m args below meth c H locs 0 0 (MQ below (va_Qi (fun a u => a = rz ∧ u = σz) (poW (wC X) (tC X) (aC X) X sz) (aA (aC X) sz)) args s 0 0 (aA (aC X) sz)) (F0 m 20 ls []) := by
    intro  H locs ls Z hl h2
    rw [eJ3] at h2
    refine lv_aload_n hx hb dX11_of_20 rfl (lv_at hl 0 rfl) ?_
    obtain ⟨r5, σ6, hc3, h3⟩ := db2_s h2
    clear h2
    refine cV_I [] [] B mx_yX11_bad (c_fRM_bad l X _ σ r5 σ6 hc3) kl_RX11_77 mi_yX11_bad (rv_0 _ _) hcl_11 Z hl rfl rfl ⟨Nat.le_of_ble_eq_true rfl, Nat.le_of_ble_eq_true rfl⟩ rfl rfl (Nat.le_of_ble_eq_true rfl) dX11_of_21 (fun H locs Z => ?_)
    clear hc3
    exact reI B Z rfl hz h3 dX11_of_24
  clear eJ3
  refine lv_if_eq (tgt := 20) hx hb dX11_of_8 (by decide) (fun c7 => ?_) (fun c7 => ?_)
  · have h5 := dit h4 c7
    clear h4
    exact kJ3  _ _ _ Z (lv_sub hl [0] rfl) h5
  · have h6 := dif h4 c7
    clear h4
    refine lv_iload_n hx hb dX11_of_11 rfl (lv_at hl 2 rfl) ?_
    refine lv_iconst (v := (0 : Int32)) hx hb dX11_of_12 (by decide) ?_
    refine lv_iconst (v := (5 : Int32)) hx hb dX11_of_13 (by decide) ?_
    obtain ⟨r9, hc7, h7⟩ := db1_s h6
    clear h6
    refine cS_I [.int a2, .int (0 : Int32), .int (5 : Int32)] [] B mx_yX11_isWithin (c_fRM_isWithin l X _ a2 (0 : Int32) (5 : Int32) σ r9 hc7) kl_RX11_106 ks_yX11_isWithin Z hl rfl rfl ⟨Nat.le_of_ble_eq_true rfl, Nat.le_of_ble_eq_true rfl⟩ rfl rfl (Nat.le_of_ble_eq_true rfl) dX11_of_14 (fun H locs Z => ?_)
    clear hc7
    refine lv_if_ne (tgt := 25) hx hb dX11_of_17 (by decide) (fun c10 => ?_) (fun c10 => ?_)
    · have h8 := dif h7 c10
      clear h7
      refine lv_aload_n hx hb dX11_of_25 rfl (lv_at hl 0 rfl) ?_
      refine g_0_0 B Z kf_RX11_10 dX11_of_26 ?_
      refine lv_iload_n hx hb dX11_of_29 rfl (lv_at hl 1 rfl) ?_
      refine lv_iload_n hx hb dX11_of_30 rfl (lv_at hl 2 rfl) ?_
      obtain ⟨r12, hc10, h9⟩ := db1_s h8
      clear h8
      refine cV_I [.int a1, .int a2] [] B mx_yX0_get (c_fBk_get l X _ a1 a2 σ r12 hc10) kl_RX11_110 mi_yX0_get (rv_1 _ _) hcl_0 Z hl rfl rfl ⟨Nat.le_of_ble_eq_true rfl, Nat.le_of_ble_eq_true rfl⟩ rfl rfl (Nat.le_of_ble_eq_true rfl) dX11_of_31 (fun H locs Z => ?_)
      clear hc10
      exact reI B Z rfl hz h9 dX11_of_34
    · have h10 := dit h7 c10
      clear h7
      exact kJ3  _ _ _ Z (lv_sub hl [0] rfl) h10
theorem dX0_covers_0 : decode cX0_covers 0 = .ok (.iload_n 1, 1) := by decide +kernel
theorem dX0_covers_1 : decode cX0_covers 1 = .ok (.aload_n 0, 1) := by decide +kernel
theorem dX0_covers_2 : decode cX0_covers 2 = .ok (.getfield 21, 3) := by decide +kernel
theorem dX0_covers_5 : decode cX0_covers 5 = .ok (.iushr, 1) := by decide +kernel
theorem dX0_covers_6 : decode cX0_covers 6 = .ok (.ifCond .ne 7, 3) := by decide +kernel
theorem dX0_covers_9 : decode cX0_covers 9 = .ok (.iconst 1, 1) := by decide +kernel
theorem dX0_covers_10 : decode cX0_covers 10 = .ok (.goto 4, 3) := by decide +kernel
theorem dX0_covers_13 : decode cX0_covers 13 = .ok (.iconst 0, 1) := by decide +kernel
theorem dX0_covers_14 : decode cX0_covers 14 = .ok (.ireturn, 1) := by decide +kernel
def rm_fBk_covers : Room := { frames := 1, cells := 0, slots := 0, locals := 60 }
set_option maxHeartbeats 4000000 in
set_option maxRecDepth 100000 in
theorem c_fBk_covers (l : Launch) (X : eX) (sz : Nat) (a1 : Int32) (σ : sT) (rz : Int32) (h0 : fBk_covers a1 σ = some rz) : ctI l yX0_covers cX0_covers 2 (some .boolean) rm_fBk_covers [.ref (X.2.1 1), .int a1] (wC X) (tC X) (aC X) X sz σ rz σ := by
  refine ct_of (by decide +kernel) (Nat.le_of_ble_eq_true rfl) ?_
  intro p e s m args below meth c ls hz B hl Z
  have B : Bd p s m args meth c RX0 cX0_covers 2 (some .boolean) := B
  have hl : lv_has ls 2 [(0, .ref (X.2.1 1)), (1, .int a1)] := hl
  have hx := B.1
  have hb := B.2.1
  unfold fBk_covers at h0
  refine lv_iload_n hx hb dX0_covers_0 rfl (lv_at hl 1 rfl) ?_
  refine lv_aload_n hx hb dX0_covers_1 rfl (lv_at hl 0 rfl) ?_
  refine g_1_3 B Z kf_RX0_21 dX0_covers_2 ?_
  refine lv_iushr hx hb dX0_covers_5 rfl ?_
  refine lv_if_ne (tgt := 13) hx hb dX0_covers_6 (by decide) (fun c1 => ?_) (fun c1 => ?_)
  · have h1 := dif h0 c1
    clear h0
    refine lv_iconst (v := (0 : Int32)) hx hb dX0_covers_13 (by decide) ?_
    exact reI B Z rfl hz (congrArg (Option.map (fun q => (q, σ))) h1) dX0_covers_14
  · have h2 := dit h0 c1
    clear h0
    refine lv_iconst (v := (1 : Int32)) hx hb dX0_covers_9 (by decide) ?_
    refine lv_goto (tgt := 14) hx hb dX0_covers_10 (by decide) ?_
    exact reI B Z rfl hz (congrArg (Option.map (fun q => (q, σ))) h2) dX0_covers_14
theorem dX4_empty_0 : decode cX4_empty 0 = .ok (.aload_n 0, 1) := by decide +kernel
theorem dX4_empty_1 : decode cX4_empty 1 = .ok (.iconst 0, 1) := by decide +kernel
theorem dX4_empty_2 : decode cX4_empty 2 = .ok (.putfield 25, 3) := by decide +kernel
theorem dX4_empty_5 : decode cX4_empty 5 = .ok (.aload_n 0, 1) := by decide +kernel
theorem dX4_empty_6 : decode cX4_empty 6 = .ok (.iconst 0, 1) := by decide +kernel
theorem dX4_empty_7 : decode cX4_empty 7 = .ok (.putfield 29, 3) := by decide +kernel
theorem dX4_empty_10 : decode cX4_empty 10 = .ok (.return_, 1) := by decide +kernel
def rm_fRw_empty_6 : Room := { frames := 1, cells := 0, slots := 0, locals := 60 }
set_option maxHeartbeats 4000000 in
set_option maxRecDepth 100000 in
theorem c_fRw_empty_6 (l : Launch) (X : eX) (sz : Nat)  (σ : sT) (σz : sT) (h0 : fRw_empty 6 7 8 52 13 σ = some σz) : ctV l yX4_empty cX4_empty 1 none rm_fRw_empty_6 [.ref (X.2.1 6)] (wC X) (tC X) (aC X) X sz σ σz := by
  refine ct_of (by decide +kernel) (Nat.le_of_ble_eq_true rfl) ?_
  intro p e s m args below meth c ls hz B hl Z
  have B : Bd p s m args meth c RX4 cX4_empty 1 none := B
  have hl : lv_has ls 1 [(0, .ref (X.2.1 6))] := hl
  have hx := B.1
  have hb := B.2.1
  unfold fRw_empty at h0
  refine lv_aload_n hx hb dX4_empty_0 rfl (lv_at hl 0 rfl) ?_
  refine lv_iconst (v := (0 : Int32)) hx hb dX4_empty_1 (by decide) ?_
  refine s_6_2 B Z kf_RX4_25 dX4_empty_2 (fun H locs Z => ?_)
  obtain ⟨σ1, eσ1, h1⟩ := dlt_s h0
  clear h0
  replace Z := Wd.eq eσ1 Z
  clear eσ1
  refine lv_aload_n hx hb dX4_empty_5 rfl (lv_at hl 0 rfl) ?_
  refine lv_iconst (v := (0 : Int32)) hx hb dX4_empty_6 (by decide) ?_
  refine s_6_3 B Z (by decide) kf_RX4_29 dX4_empty_7 (fun H locs Z => ?_)
  obtain ⟨σ2, eσ2, h2⟩ := dlt_s h1
  clear h1
  replace Z := Wd.eq eσ2 Z
  clear eσ2
  exact reV B Z hz h2 dX4_empty_10
theorem dX11_isIn_0 : decode cX11_isIn 0 = .ok (.iload_n 0, 1) := by decide +kernel
theorem dX11_isIn_1 : decode cX11_isIn 1 = .ok (.iload_n 1, 1) := by decide +kernel
theorem dX11_isIn_2 : decode cX11_isIn 2 = .ok (.ishr, 1) := by decide +kernel
theorem dX11_isIn_3 : decode cX11_isIn 3 = .ok (.iconst 1, 1) := by decide +kernel
theorem dX11_isIn_4 : decode cX11_isIn 4 = .ok (.iand, 1) := by decide +kernel
theorem dX11_isIn_5 : decode cX11_isIn 5 = .ok (.ifCond .eq 7, 3) := by decide +kernel
theorem dX11_isIn_8 : decode cX11_isIn 8 = .ok (.iconst 1, 1) := by decide +kernel
theorem dX11_isIn_9 : decode cX11_isIn 9 = .ok (.goto 4, 3) := by decide +kernel
theorem dX11_isIn_12 : decode cX11_isIn 12 = .ok (.iconst 0, 1) := by decide +kernel
theorem dX11_isIn_13 : decode cX11_isIn 13 = .ok (.ireturn, 1) := by decide +kernel
def rm_fRM_isIn : Room := { frames := 1, cells := 0, slots := 0, locals := 60 }
set_option maxHeartbeats 4000000 in
set_option maxRecDepth 100000 in
theorem c_fRM_isIn (l : Launch) (X : eX) (sz : Nat) (a1 : Int32) (a2 : Int32) (σ : sT) (rz : Int32) (h0 : fRM_isIn a1 a2 = some rz) : ctI l yX11_isIn cX11_isIn 2 (some .boolean) rm_fRM_isIn [.int a1, .int a2] (wC X) (tC X) (aC X) X sz σ rz σ := by
  refine ct_of (by decide +kernel) (Nat.le_of_ble_eq_true rfl) ?_
  intro p e s m args below meth c ls hz B hl Z
  have B : Bd p s m args meth c RX11 cX11_isIn 2 (some .boolean) := B
  have hl : lv_has ls 2 [(0, .int a1), (1, .int a2)] := hl
  have hx := B.1
  have hb := B.2.1
  unfold fRM_isIn at h0
  refine lv_iload_n hx hb dX11_isIn_0 rfl (lv_at hl 0 rfl) ?_
  refine lv_iload_n hx hb dX11_isIn_1 rfl (lv_at hl 1 rfl) ?_
  refine lv_ishr hx hb dX11_isIn_2 ?_
  refine lv_iconst (v := (1 : Int32)) hx hb dX11_isIn_3 (by decide) ?_
  refine lv_iand hx hb dX11_isIn_4 ?_
  refine lv_if_eq (tgt := 12) hx hb dX11_isIn_5 (by decide) (fun c1 => ?_) (fun c1 => ?_)
  · have h1 := dit h0 c1
    clear h0
    refine lv_iconst (v := (0 : Int32)) hx hb dX11_isIn_12 (by decide) ?_
    exact reI B Z rfl hz (congrArg (Option.map (fun q => (q, σ))) h1) dX11_isIn_13
  · have h2 := dif h0 c1
    clear h0
    refine lv_iconst (v := (1 : Int32)) hx hb dX11_isIn_8 (by decide) ?_
    refine lv_goto (tgt := 13) hx hb dX11_isIn_9 (by decide) ?_
    exact reI B Z rfl hz (congrArg (Option.map (fun q => (q, σ))) h2) dX11_isIn_13
