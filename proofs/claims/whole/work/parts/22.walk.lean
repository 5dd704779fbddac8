theorem dX12_canNot_0 : decode cX12_canNot 0 = .ok (.aload_n 0, 1) := by decide +kernel
theorem dX12_canNot_1 : decode cX12_canNot 1 = .ok (.iload_n 1, 1) := by decide +kernel
theorem dX12_canNot_2 : decode cX12_canNot 2 = .ok (.invokevirtual 147, 3) := by decide +kernel
theorem dX12_canNot_5 : decode cX12_canNot 5 = .ok (.iload_n 3, 1) := by decide +kernel
theorem dX12_canNot_6 : decode cX12_canNot 6 = .ok (.ifCond .eq 44, 3) := by decide +kernel
theorem dX12_canNot_9 : decode cX12_canNot 9 = .ok (.aload_n 0, 1) := by decide +kernel
theorem dX12_canNot_10 : decode cX12_canNot 10 = .ok (.aload_n 0, 1) := by decide +kernel
theorem dX12_canNot_11 : decode cX12_canNot 11 = .ok (.iload_n 2, 1) := by decide +kernel
theorem dX12_canNot_12 : decode cX12_canNot 12 = .ok (.iconst 0, 1) := by decide +kernel
theorem dX12_canNot_13 : decode cX12_canNot 13 = .ok (.invokevirtual 87, 3) := by decide +kernel
theorem dX12_canNot_16 : decode cX12_canNot 16 = .ok (.ineg, 1) := by decide +kernel
theorem dX12_canNot_17 : decode cX12_canNot 17 = .ok (.i2l, 1) := by decide +kernel
theorem dX12_canNot_18 : decode cX12_canNot 18 = .ok (.aload_n 0, 1) := by decide +kernel
theorem dX12_canNot_19 : decode cX12_canNot 19 = .ok (.iload_n 2, 1) := by decide +kernel
theorem dX12_canNot_20 : decode cX12_canNot 20 = .ok (.iconst 1, 1) := by decide +kernel
theorem dX12_canNot_21 : decode cX12_canNot 21 = .ok (.invokevirtual 87, 3) := by decide +kernel
theorem dX12_canNot_24 : decode cX12_canNot 24 = .ok (.ineg, 1) := by decide +kernel
theorem dX12_canNot_25 : decode cX12_canNot 25 = .ok (.i2l, 1) := by decide +kernel
theorem dX12_canNot_26 : decode cX12_canNot 26 = .ok (.aload_n 0, 1) := by decide +kernel
theorem dX12_canNot_27 : decode cX12_canNot 27 = .ok (.iload_n 2, 1) := by decide +kernel
theorem dX12_canNot_28 : decode cX12_canNot 28 = .ok (.iconst 2, 1) := by decide +kernel
theorem dX12_canNot_29 : decode cX12_canNot 29 = .ok (.invokevirtual 87, 3) := by decide +kernel
theorem dX12_canNot_32 : decode cX12_canNot 32 = .ok (.ineg, 1) := by decide +kernel
theorem dX12_canNot_33 : decode cX12_canNot 33 = .ok (.i2l, 1) := by decide +kernel
theorem dX12_canNot_34 : decode cX12_canNot 34 = .ok (.aload_n 0, 1) := by decide +kernel
theorem dX12_canNot_35 : decode cX12_canNot 35 = .ok (.iload_n 2, 1) := by decide +kernel
theorem dX12_canNot_36 : decode cX12_canNot 36 = .ok (.iconst 4, 1) := by decide +kernel
theorem dX12_canNot_37 : decode cX12_canNot 37 = .ok (.invokevirtual 87, 3) := by decide +kernel
theorem dX12_canNot_40 : decode cX12_canNot 40 = .ok (.ineg, 1) := by decide +kernel
theorem dX12_canNot_41 : decode cX12_canNot 41 = .ok (.i2l, 1) := by decide +kernel
theorem dX12_canNot_42 : decode cX12_canNot 42 = .ok (.iload 4, 2) := by decide +kernel
theorem dX12_canNot_44 : decode cX12_canNot 44 = .ok (.invokevirtual 83, 3) := by decide +kernel
theorem dX12_canNot_47 : decode cX12_canNot 47 = .ok (.goto 37, 3) := by decide +kernel
theorem dX12_canNot_50 : decode cX12_canNot 50 = .ok (.aload_n 0, 1) := by decide +kernel
theorem dX12_canNot_51 : decode cX12_canNot 51 = .ok (.aload_n 0, 1) := by decide +kernel
theorem dX12_canNot_52 : decode cX12_canNot 52 = .ok (.iload_n 2, 1) := by decide +kernel
theorem dX12_canNot_53 : decode cX12_canNot 53 = .ok (.iconst 0, 1) := by decide +kernel
theorem dX12_canNot_54 : decode cX12_canNot 54 = .ok (.invokevirtual 87, 3) := by decide +kernel
theorem dX12_canNot_57 : decode cX12_canNot 57 = .ok (.i2l, 1) := by decide +kernel
theorem dX12_canNot_58 : decode cX12_canNot 58 = .ok (.aload_n 0, 1) := by decide +kernel
theorem dX12_canNot_59 : decode cX12_canNot 59 = .ok (.iload_n 2, 1) := by decide +kernel
theorem dX12_canNot_60 : decode cX12_canNot 60 = .ok (.iconst 1, 1) := by decide +kernel
theorem dX12_canNot_61 : decode cX12_canNot 61 = .ok (.invokevirtual 87, 3) := by decide +kernel
theorem dX12_canNot_64 : decode cX12_canNot 64 = .ok (.i2l, 1) := by decide +kernel
theorem dX12_canNot_65 : decode cX12_canNot 65 = .ok (.aload_n 0, 1) := by decide +kernel
theorem dX12_canNot_66 : decode cX12_canNot 66 = .ok (.iload_n 2, 1) := by decide +kernel
theorem dX12_canNot_67 : decode cX12_canNot 67 = .ok (.iconst 2, 1) := by decide +kernel
theorem dX12_canNot_68 : decode cX12_canNot 68 = .ok (.invokevirtual 87, 3) := by decide +kernel
theorem dX12_canNot_71 : decode cX12_canNot 71 = .ok (.i2l, 1) := by decide +kernel
theorem dX12_canNot_72 : decode cX12_canNot 72 = .ok (.aload_n 0, 1) := by decide +kernel
theorem dX12_canNot_73 : decode cX12_canNot 73 = .ok (.iload_n 2, 1) := by decide +kernel
theorem dX12_canNot_74 : decode cX12_canNot 74 = .ok (.iconst 4, 1) := by decide +kernel
theorem dX12_canNot_75 : decode cX12_canNot 75 = .ok (.invokevirtual 87, 3) := by decide +kernel
theorem dX12_canNot_78 : decode cX12_canNot 78 = .ok (.i2l, 1) := by decide +kernel
theorem dX12_canNot_79 : decode cX12_canNot 79 = .ok (.iload 4, 2) := by decide +kernel
theorem dX12_canNot_81 : decode cX12_canNot 81 = .ok (.invokevirtual 83, 3) := by decide +kernel
theorem dX12_canNot_84 : decode cX12_canNot 84 = .ok (.aload_n 0, 1) := by decide +kernel
theorem dX12_canNot_85 : decode cX12_canNot 85 = .ok (.invokevirtual 150, 3) := by decide +kernel
theorem dX12_canNot_88 : decode cX12_canNot 88 = .ok (.ireturn, 1) := by decide +kernel
def rm_fMM_canNot : Room := { frames := 5, cells := 0, slots := 0, locals := 168 }
set_option maxHeartbeats 4000000 in
set_option maxRecDepth 100000 in
theorem c_fMM_canNot (l : Launch) (X : eX) (sz : Nat) (a1 : Int32) (a2 : Int32) (a3 : Int32) (a4 : Int32) (σ : sT) (rz : Int32) (σz : sT) (h0 : fMM_canNot a1 a2 a3 a4 σ = some (rz, σz)) : ctI l yX12_canNot cX12_canNot 5 (some .boolean) rm_fMM_canNot [.ref (X.2.1 33), .int a1, .int a2, .int a3, .int a4] (wM X) (tM X) (aM X) X sz σ rz σz := by
  refine ct_of (by decide +kernel) (Nat.le_of_ble_eq_true rfl) ?_
  intro p e s m args below meth c ls hz B hl Z
  have B : Bd p s m args meth c RX12 cX12_canNot 5 (some .boolean) := B
  have hl : lv_has ls 5 [(0, .ref (X.2.1 33)), (1, .int a1), (2, .int a2), (3, .int a3), (4, .int a4)] := hl
  have hx := B.1
  have hb := B.2.1
  unfold fMM_canNot at h0
  refine lv_aload_n hx hb dX12_canNot_0 rfl (lv_at hl 0 rfl) ?_
  refine lv_iload_n hx hb dX12_canNot_1 rfl (lv_at hl 1 rfl) ?_
  obtain ⟨σ2, hc0, h1⟩ := db1_s h0
  clear h0
  refine cV_V [.int a1] [] B mx_yX12_laysSet (c_fMM_laysSet l X _ a1 σ σ2 hc0) kl_RX12_147 mi_yX12_laysSet (rv_33 _ _) hcl_12 Z hl rfl rfl ⟨Nat.le_of_ble_eq_true rfl, Nat.le_of_ble_eq_true rfl⟩ rfl rfl (Nat.le_of_ble_eq_true rfl) dX12_canNot_2 (fun H locs Z => ?_)
  clear hc0
  refine lv_iload_n hx hb dX12_canNot_5 rfl (lv_at hl 3 rfl) ?_
  obtain ⟨J4, eJ4, h5⟩ := dlt_s h1
  clear h1
  have kJ4 : ∀ (σ3 : sT) (H : Heap) (locs : List Loc) (ls : Array Slot), Wd (wM X) (tM X) (aM X) X s σ3 H locs → lv_has ls 5 [(0, .ref (X.2.1 33))] → J4 σ3 = some (rz, σz) → W p l e rm_fMM_canNot s m args below meth c H locs 0 0 (MQ below (va_Qi (fun a u => a = rz ∧ u = σz) (poW (wM X) (tM X) (aM X) X sz) (aA (aM X) sz)) args s 0 0 (aA (aM X) sz)) (F0 m 84 ls []) := by
    intro σ3 H locs ls Z hl h2
    rw [eJ4] at h2
    refine lv_aload_n hx hb dX12_canNot_84 rfl (lv_at hl 0 rfl) ?_
    obtain ⟨r6, σ7, hc4, h3⟩ := db2_s h2
    clear h2
    refine cV_I [] [] B mx_yX12_canLaid (c_fMM_canLaid l X _ σ3 r6 σ7 hc4) kl_RX12_150 mi_yX12_canLaid (rv_33 _ _) hcl_12 Z hl rfl rfl ⟨Nat.le_of_ble_eq_true rfl, Nat.le_of_ble_eq_true rfl⟩ rfl rfl (Nat.le_of_ble_eq_true rfl) dX12_canNot_85 (fun H locs Z => ?_)
    clear hc4
    obtain ⟨z8, h4⟩ := dck_s h3
    clear h3
    exact reI B Z (okZ_n z8) hz h4 dX12_canNot_88
  clear eJ4
  refine lv_if_eq (tgt := 50) hx hb dX12_canNot_6 (by decide) (fun c9 => ?_) (fun c9 => ?_)
  · have h6 := dit h5 c9
    clear h5
    refine lv_aload_n hx hb dX12_canNot_50 rfl (lv_at hl 0 rfl) ?_
    refine lv_aload_n hx hb dX12_canNot_51 rfl (lv_at hl 0 rfl) ?_
    refine lv_iload_n hx hb dX12_canNot_52 rfl (lv_at hl 2 rfl) ?_
    refine lv_iconst (v := (0 : Int32)) hx hb dX12_canNot_53 (by decide) ?_
    obtain ⟨r11, hc9, h7⟩ := db1_s h6
    clear h6
    refine cV_I [.int a2, .int (0 : Int32)] [.ref (X.2.1 33)] B mx_yX12_at (c_fMM_at l X _ a2 (0 : Int32) σ2 r11 hc9) kl_RX12_87 mi_yX12_at (rv_33 _ _) hcl_12 Z hl rfl rfl ⟨Nat.le_of_ble_eq_true rfl, Nat.le_of_ble_eq_true rfl⟩ rfl rfl (Nat.le_of_ble_eq_true rfl) dX12_canNot_54 (fun H locs Z => ?_)
    clear hc9
    refine lv_i2l hx hb dX12_canNot_57 rfl ?_
    refine lv_aload_n hx hb dX12_canNot_58 rfl (lv_at hl 0 rfl) ?_
    refine lv_iload_n hx hb dX12_canNot_59 rfl (lv_at hl 2 rfl) ?_
    refine lv_iconst (v := (1 : Int32)) hx hb dX12_canNot_60 (by decide) ?_
    obtain ⟨r13, hc11, h8⟩ := db1_s h7
    clear h7
    refine cV_I [.int a2, .int (1 : Int32)] [.long r11.toInt64, .ref (X.2.1 33)] B mx_yX12_at (c_fMM_at l X _ a2 (1 : Int32) σ2 r13 hc11) kl_RX12_87 mi_yX12_at (rv_33 _ _) hcl_12 Z hl rfl rfl ⟨Nat.le_of_ble_eq_true rfl, Nat.le_of_ble_eq_true rfl⟩ rfl rfl (Nat.le_of_ble_eq_true rfl) dX12_canNot_61 (fun H locs Z => ?_)
    clear hc11
    refine lv_i2l hx hb dX12_canNot_64 rfl ?_
    refine lv_aload_n hx hb dX12_canNot_65 rfl (lv_at hl 0 rfl) ?_
    refine lv_iload_n hx hb dX12_canNot_66 rfl (lv_at hl 2 rfl) ?_
    refine lv_iconst (v := (2 : Int32)) hx hb dX12_canNot_67 (by decide) ?_
    obtain ⟨r15, hc13, h9⟩ := db1_s h8
    clear h8
    refine cV_I [.int a2, .int (2 : Int32)] [.long r13.toInt64, .long r11.toInt64, .ref (X.2.1 33)] B mx_yX12_at (c_fMM_at l X _ a2 (2 : Int32) σ2 r15 hc13) kl_RX12_87 mi_yX12_at (rv_33 _ _) hcl_12 Z hl rfl rfl ⟨Nat.le_of_ble_eq_true rfl, Nat.le_of_ble_eq_true rfl⟩ rfl rfl (Nat.le_of_ble_eq_true rfl) dX12_canNot_68 (fun H locs Z => ?_)
    clear hc13
    refine lv_i2l hx hb dX12_canNot_71 rfl ?_
    refine lv_aload_n hx hb dX12_canNot_72 rfl (lv_at hl 0 rfl) ?_
    refine lv_iload_n hx hb dX12_canNot_73 rfl (lv_at hl 2 rfl) ?_
    refine lv_iconst (v := (4 : Int32)) hx hb dX12_canNot_74 (by decide) ?_
    obtain ⟨r17, hc15, h10⟩ := db1_s h9
    clear h9
    refine cV_I [.int a2, .int (4 : Int32)] [.long r15.toInt64, .long r13.toInt64, .long r11.toInt64, .ref (X.2.1 33)] B mx_yX12_at (c_fMM_at l X _ a2 (4 : Int32) σ2 r17 hc15) kl_RX12_87 mi_yX12_at (rv_33 _ _) hcl_12 Z hl rfl rfl ⟨Nat.le_of_ble_eq_true rfl, Nat.le_of_ble_eq_true rfl⟩ rfl rfl (Nat.le_of_ble_eq_true rfl) dX12_canNot_75 (fun H locs Z => ?_)
    clear hc15
    refine lv_i2l hx hb dX12_canNot_78 rfl ?_
    refine lv_iload hx hb dX12_canNot_79 (lv_at hl 4 rfl) ?_
    obtain ⟨σ19, hc17, h11⟩ := db1_s h10
    clear h10
    refine cV_V [.long r11.toInt64, .long r13.toInt64, .long r15.toInt64, .long r17.toInt64, .int a4] [] B mx_yX12_lays (c_fMM_lays l X _ r11.toInt64 r13.toInt64 r15.toInt64 r17.toInt64 a4 σ2 σ19 hc17) kl_RX12_83 mi_yX12_lays (rv_33 _ _) hcl_12 Z hl rfl rfl ⟨Nat.le_of_ble_eq_true rfl, Nat.le_of_ble_eq_true rfl⟩ rfl rfl (Nat.le_of_ble_eq_true rfl) dX12_canNot_81 (fun H locs Z => ?_)
    clear hc17
    exact kJ4 σ19 _ _ _ Z (lv_sub hl [0] rfl) h11
  · have h12 := dif h5 c9
    clear h5
    refine lv_aload_n hx hb dX12_canNot_9 rfl (lv_at hl 0 rfl) ?_
    refine lv_aload_n hx hb dX12_canNot_10 rfl (lv_at hl 0 rfl) ?_
    refine lv_iload_n hx hb dX12_canNot_11 rfl (lv_at hl 2 rfl) ?_
    refine lv_iconst (v := (0 : Int32)) hx hb dX12_canNot_12 (by decide) ?_
    obtain ⟨r21, hc19, h13⟩ := db1_s h12
    clear h12
    refine cV_I [.int a2, .int (0 : Int32)] [.ref (X.2.1 33)] B mx_yX12_at (c_fMM_at l X _ a2 (0 : Int32) σ2 r21 hc19) kl_RX12_87 mi_yX12_at (rv_33 _ _) hcl_12 Z hl rfl rfl ⟨Nat.le_of_ble_eq_true rfl, Nat.le_of_ble_eq_true rfl⟩ rfl rfl (Nat.le_of_ble_eq_true rfl) dX12_canNot_13 (fun H locs Z => ?_)
    clear hc19
    refine lv_ineg hx hb dX12_canNot_16 ?_
    refine lv_i2l hx hb dX12_canNot_17 rfl ?_
    refine lv_aload_n hx hb dX12_canNot_18 rfl (lv_at hl 0 rfl) ?_
    refine lv_iload_n hx hb dX12_canNot_19 rfl (lv_at hl 2 rfl) ?_
    refine lv_iconst (v := (1 : Int32)) hx hb dX12_canNot_20 (by decide) ?_
    obtain ⟨r23, hc21, h14⟩ := db1_s h13
    clear h13
    refine cV_I [.int a2, .int (1 : Int32)] [.long ((-r21).toInt64), .ref (X.2.1 33)] B mx_yX12_at (c_fMM_at l X _ a2 (1 : Int32) σ2 r23 hc21) kl_RX12_87 mi_yX12_at (rv_33 _ _) hcl_12 Z hl rfl rfl ⟨Nat.le_of_ble_eq_true rfl, Nat.le_of_ble_eq_true rfl⟩ rfl rfl (Nat.le_of_ble_eq_true rfl) dX12_canNot_21 (fun H locs Z => ?_)
    clear hc21
    refine lv_ineg hx hb dX12_canNot_24 ?_
    refine lv_i2l hx hb dX12_canNot_25 rfl ?_
    refine lv_aload_n hx hb dX12_canNot_26 rfl (lv_at hl 0 rfl) ?_
    refine lv_iload_n hx hb dX12_canNot_27 rfl (lv_at hl 2 rfl) ?_
    refine lv_iconst (v := (2 : Int32)) hx hb dX12_canNot_28 (by decide) ?_
    obtain ⟨r25, hc23, h15⟩ := db1_s h14
    clear h14
    refine cV_I [.int a2, .int (2 : Int32)] [.long ((-r23).toInt64), .long ((-r21).toInt64), .ref (X.2.1 33)] B mx_yX12_at (c_fMM_at l X _ a2 (2 : Int32) σ2 r25 hc23) kl_RX12_87 mi_yX12_at (rv_33 _ _) hcl_12 Z hl rfl rfl ⟨Nat.le_of_ble_eq_true rfl, Nat.le_of_ble_eq_true rfl⟩ rfl rfl (Nat.le_of_ble_eq_true rfl) dX12_canNot_29 (fun H locs Z => ?_)
    clear hc23
    refine lv_ineg hx hb dX12_canNot_32 ?_
    refine lv_i2l hx hb dX12_canNot_33 rfl ?_
    refine lv_aload_n hx hb dX12_canNot_34 rfl (lv_at hl 0 rfl) ?_
    refine lv_iload_n hx hb dX12_canNot_35 rfl (lv_at hl 2 rfl) ?_
    refine lv_iconst (v := (4 : Int32)) hx hb dX12_canNot_36 (by decide) ?_
    obtain ⟨r27, hc25, h16⟩ := db1_s h15
    clear h15
    refine cV_I [.int a2, .int (4 : Int32)] [.long ((-r25).toInt64), .long ((-r23).toInt64), .long ((-r21).toInt64), .ref (X.2.1 33)] B mx_yX12_at (c_fMM_at l X _ a2 (4 : Int32) σ2 r27 hc25) kl_RX12_87 mi_yX12_at (rv_33 _ _) hcl_12 Z hl rfl rfl ⟨Nat.le_of_ble_eq_true rfl, Nat.le_of_ble_eq_true rfl⟩ rfl rfl (Nat.le_of_ble_eq_true rfl) dX12_canNot_37 (fun H locs Z => ?_)
    clear hc25
    refine lv_ineg hx hb dX12_canNot_40 ?_
    refine lv_i2l hx hb dX12_canNot_41 rfl ?_
    refine lv_iload hx hb dX12_canNot_42 (lv_at hl 4 rfl) ?_
    obtain ⟨σ29, hc27, h17⟩ := db1_s h16
    clear h16
    refine cV_V [.long ((-r21).toInt64), .long ((-r23).toInt64), .long ((-r25).toInt64), .long ((-r27).toInt64), .int a4] [] B mx_yX12_lays (c_fMM_lays l X _ ((-r21).toInt64) ((-r23).toInt64) ((-r25).toInt64) ((-r27).toInt64) a4 σ2 σ29 hc27) kl_RX12_83 mi_yX12_lays (rv_33 _ _) hcl_12 Z hl rfl rfl ⟨Nat.le_of_ble_eq_true rfl, Nat.le_of_ble_eq_true rfl⟩ rfl rfl (Nat.le_of_ble_eq_true rfl) dX12_canNot_44 (fun H locs Z => ?_)
    clear hc27
    refine lv_goto (tgt := 84) hx hb dX12_canNot_47 (by decide) ?_
    exact kJ4 σ29 _ _ _ Z (lv_sub hl [0] rfl) h17
theorem dX12_bringsRow_0 : decode cX12_bringsRow 0 = .ok (.aload_n 0, 1) := by decide +kernel
theorem dX12_bringsRow_1 : decode cX12_bringsRow 1 = .ok (.iload_n 2, 1) := by decide +kernel
theorem dX12_bringsRow_2 : decode cX12_bringsRow 2 = .ok (.iconst 3, 1) := by decide +kernel
theorem dX12_bringsRow_3 : decode cX12_bringsRow 3 = .ok (.invokevirtual 87, 3) := by decide +kernel
theorem dX12_bringsRow_6 : decode cX12_bringsRow 6 = .ok (.istore_n 3, 1) := by decide +kernel
theorem dX12_bringsRow_7 : decode cX12_bringsRow 7 = .ok (.aload_n 0, 1) := by decide +kernel
theorem dX12_bringsRow_8 : decode cX12_bringsRow 8 = .ok (.iload_n 1, 1) := by decide +kernel
theorem dX12_bringsRow_9 : decode cX12_bringsRow 9 = .ok (.iload_n 2, 1) := by decide +kernel
theorem dX12_bringsRow_10 : decode cX12_bringsRow 10 = .ok (.iconst 1, 1) := by decide +kernel
theorem dX12_bringsRow_11 : decode cX12_bringsRow 11 = .ok (.iload_n 3, 1) := by decide +kernel
theorem dX12_bringsRow_12 : decode cX12_bringsRow 12 = .ok (.ifCond .eq 7, 3) := by decide +kernel
theorem dX12_bringsRow_15 : decode cX12_bringsRow 15 = .ok (.iconst 1, 1) := by decide +kernel
theorem dX12_bringsRow_16 : decode cX12_bringsRow 16 = .ok (.goto 4, 3) := by decide +kernel
theorem dX12_bringsRow_19 : decode cX12_bringsRow 19 = .ok (.iconst 0, 1) := by decide +kernel
theorem dX12_bringsRow_20 : decode cX12_bringsRow 20 = .ok (.invokevirtual 208, 3) := by decide +kernel
theorem dX12_bringsRow_23 : decode cX12_bringsRow 23 = .ok (.ifCond .ne 7, 3) := by decide +kernel
theorem dX12_bringsRow_26 : decode cX12_bringsRow 26 = .ok (.iconst 1, 1) := by decide +kernel
theorem dX12_bringsRow_27 : decode cX12_bringsRow 27 = .ok (.goto 4, 3) := by decide +kernel
theorem dX12_bringsRow_30 : decode cX12_bringsRow 30 = .ok (.iconst 0, 1) := by decide +kernel
theorem dX12_bringsRow_31 : decode cX12_bringsRow 31 = .ok (.istore 4, 2) := by decide +kernel
theorem dX12_bringsRow_33 : decode cX12_bringsRow 33 = .ok (.iload 4, 2) := by decide +kernel
theorem dX12_bringsRow_35 : decode cX12_bringsRow 35 = .ok (.ifCond .eq 23, 3) := by decide +kernel
theorem dX12_bringsRow_38 : decode cX12_bringsRow 38 = .ok (.iload_n 3, 1) := by decide +kernel
theorem dX12_bringsRow_39 : decode cX12_bringsRow 39 = .ok (.iconst 2, 1) := by decide +kernel
theorem dX12_bringsRow_40 : decode cX12_bringsRow 40 = .ok (.if_icmp .ne 14, 3) := by decide +kernel
theorem dX12_bringsRow_43 : decode cX12_bringsRow 43 = .ok (.aload_n 0, 1) := by decide +kernel
theorem dX12_bringsRow_44 : decode cX12_bringsRow 44 = .ok (.iload_n 1, 1) := by decide +kernel
theorem dX12_bringsRow_45 : decode cX12_bringsRow 45 = .ok (.iload_n 2, 1) := by decide +kernel
theorem dX12_bringsRow_46 : decode cX12_bringsRow 46 = .ok (.iconst 0, 1) := by decide +kernel
theorem dX12_bringsRow_47 : decode cX12_bringsRow 47 = .ok (.iconst 1, 1) := by decide +kernel
theorem dX12_bringsRow_48 : decode cX12_bringsRow 48 = .ok (.invokevirtual 208, 3) := by decide +kernel
theorem dX12_bringsRow_51 : decode cX12_bringsRow 51 = .ok (.ifCond .ne 7, 3) := by decide +kernel
theorem dX12_bringsRow_54 : decode cX12_bringsRow 54 = .ok (.iconst 1, 1) := by decide +kernel
theorem dX12_bringsRow_55 : decode cX12_bringsRow 55 = .ok (.goto 4, 3) := by decide +kernel
theorem dX12_bringsRow_58 : decode cX12_bringsRow 58 = .ok (.iconst 0, 1) := by decide +kernel
theorem dX12_bringsRow_59 : decode cX12_bringsRow 59 = .ok (.ireturn, 1) := by decide +kernel
def rm_fMM_bringsRow : Room := { frames := 6, cells := 0, slots := 0, locals := 192 }
set_option maxHeartbeats 4000000 in
set_option maxRecDepth 100000 in
theorem c_fMM_bringsRow (l : Launch) (X : eX) (sz : Nat) (a1 : Int32) (a2 : Int32) (σ : sT) (rz : Int32) (σz : sT) (h0 : fMM_bringsRow a1 a2 σ = some (rz, σz)) : ctI l yX12_bringsRow cX12_bringsRow 5 (some .boolean) rm_fMM_bringsRow [.ref (X.2.1 33), .int a1, .int a2] (wM X) (tM X) (aM X) X sz σ rz σz := by
  refine ct_of (by decide +kernel) (Nat.le_of_ble_eq_true rfl) ?_
  intro p e s m args below meth c ls hz B hl Z
  have B : Bd p s m args meth c RX12 cX12_bringsRow 5 (some .boolean) := B
  have hl : lv_has ls 5 [(0, .ref (X.2.1 33)), (1, .int a1), (2, .int a2)] := hl
  have hx := B.1
  have hb := B.2.1
  unfold fMM_bringsRow at h0
  refine lv_aload_n hx hb dX12_bringsRow_0 rfl (lv_at hl 0 rfl) ?_
  refine lv_iload_n hx hb dX12_bringsRow_1 rfl (lv_at hl 2 rfl) ?_
  refine lv_iconst (v := (3 : Int32)) hx hb dX12_bringsRow_2 (by decide) ?_
  obtain ⟨r2, hc0, h1⟩ := db1_s h0
  clear h0
  refine cV_I [.int a2, .int (3 : Int32)] [] B mx_yX12_at (c_fMM_at l X _ a2 (3 : Int32) σ r2 hc0) kl_RX12_87 mi_yX12_at (rv_33 _ _) hcl_12 Z hl rfl rfl ⟨Nat.le_of_ble_eq_true rfl, Nat.le_of_ble_eq_true rfl⟩ rfl rfl (Nat.le_of_ble_eq_true rfl) dX12_bringsRow_3 (fun H locs Z => ?_)
  clear hc0
  refine lv_istore_n (lv' := [(3, .int r2), (0, .ref (X.2.1 33)), (1, .int a1), (2, .int a2)]) hx hb dX12_bringsRow_6 rfl hl (by decide) rfl (fun ls hl => ?_)
  refine lv_aload_n hx hb dX12_bringsRow_7 rfl (lv_at hl 1 rfl) ?_
  refine lv_iload_n hx hb dX12_bringsRow_8 rfl (lv_at hl 2 rfl) ?_
  refine lv_iload_n hx hb dX12_bringsRow_9 rfl (lv_at hl 3 rfl) ?_
  refine lv_iconst (v := (1 : Int32)) hx hb dX12_bringsRow_10 (by decide) ?_
  refine lv_iload_n hx hb dX12_bringsRow_11 rfl (lv_at hl 0 rfl) ?_
  obtain ⟨J7, eJ7, h15⟩ := dlt_s h1
  clear h1
  have kJ7 : ∀ (x3 : Int32) (x4 : Int32) (x5 : Int32) (x6 : Int32) (H : Heap) (locs : List Loc) (ls : Array Slot), Wd (wM X) (tM X) (aM X) X s σ H locs → lv_has ls 5 [(0, .ref (X.2.1 33)), (1, .int a1), (2, .int a2), (3, .int r2)] → J7 x3 x4 x5 x6 = some (rz, σz) → W p l e rm_fMM_bringsRow s m args below meth c H locs 0 0 (MQ below (va_Qi (fun a u => a = rz ∧ u = σz) (poW (wM X) (tM X) (aM X) X sz) (aA (aM X) sz)) args s 0 0 (aA (aM X) sz)) (F0 m 20 ls [.int x6, .int x5, .int x4, .int x3, .ref (X.2.1 33)]) := by
    intro x3 x4 x5 x6 H locs ls Z hl h2
    rw [eJ7] at h2
    obtain ⟨r9, σ10, hc7, h3⟩ := db2_s h2
    clear h2
    refine cV_I [.int x3, .int x4, .int x5, .int x6] [] B mx_yX12_canNot (c_fMM_canNot l X _ x3 x4 x5 x6 σ r9 σ10 hc7) kl_RX12_208 mi_yX12_canNot (rv_33 _ _) hcl_12 Z hl rfl rfl ⟨Nat.le_of_ble_eq_true rfl, Nat.le_of_ble_eq_true rfl⟩ rfl rfl (Nat.le_of_ble_eq_true rfl) dX12_bringsRow_20 (fun H locs Z => ?_)
    clear hc7
    obtain ⟨J12, eJ12, h12⟩ := dlt_s h3
    clear h3
    have kJ12 : ∀ (x11 : Int32) (H : Heap) (locs : List Loc) (ls : Array Slot), Wd (wM X) (tM X) (aM X) X s σ10 H locs → lv_has ls 5 [(0, .ref (X.2.1 33)), (1, .int a1), (2, .int a2), (3, .int r2)] → J12 x11 = some (rz, σz) → W p l e rm_fMM_bringsRow s m args below meth c H locs 0 0 (MQ below (va_Qi (fun a u => a = rz ∧ u = σz) (poW (wM X) (tM X) (aM X) X sz) (aA (aM X) sz)) args s 0 0 (aA (aM X) sz)) (F0 m 31 ls [.int x11]) := by
      intro x11 H locs ls Z hl h4
      rw [eJ12] at h4
      refine lv_istore (lv' := [(4, .int x11), (0, .ref (X.2.1 33)), (1, .int a1), (2, .int a2), (3, .int r2)]) hx hb dX12_bringsRow_31 hl (by decide) rfl (fun ls hl => ?_)
      refine lv_iload hx hb dX12_bringsRow_33 (lv_at hl 0 rfl) ?_
      refine lv_if_eq (tgt := 58) hx hb dX12_bringsRow_35 (by decide) (fun c13 => ?_) (fun c13 => ?_)
      · have h5 := dit h4 c13
        clear h4
        refine lv_iconst (v := (0 : Int32)) hx hb dX12_bringsRow_58 (by decide) ?_
        exact reI B Z rfl hz h5 dX12_bringsRow_59
      · have h6 := dif h4 c13
        clear h4
        refine lv_iload_n hx hb dX12_bringsRow_38 rfl (lv_at hl 4 rfl) ?_
        refine lv_iconst (v := (2 : Int32)) hx hb dX12_bringsRow_39 (by decide) ?_
        refine lv_icmp_ne (tgt := 54) hx hb dX12_bringsRow_40 (by decide) (fun c14 => ?_) (fun c14 => ?_)
        · have h7 := dif h6 c14
          clear h6
          refine lv_iconst (v := (1 : Int32)) hx hb dX12_bringsRow_54 (by decide) ?_
          refine lv_goto (tgt := 59) hx hb dX12_bringsRow_55 (by decide) ?_
          exact reI B Z rfl hz h7 dX12_bringsRow_59
        · have h8 := dit h6 c14
          clear h6
          refine lv_aload_n hx hb dX12_bringsRow_43 rfl (lv_at hl 1 rfl) ?_
          refine lv_iload_n hx hb dX12_bringsRow_44 rfl (lv_at hl 2 rfl) ?_
          refine lv_iload_n hx hb dX12_bringsRow_45 rfl (lv_at hl 3 rfl) ?_
          refine lv_iconst (v := (0 : Int32)) hx hb dX12_bringsRow_46 (by decide) ?_
          refine lv_iconst (v := (1 : Int32)) hx hb dX12_bringsRow_47 (by decide) ?_
          obtain ⟨r16, σ17, hc14, h9⟩ := db2_s h8
          clear h8
          refine cV_I [.int a1, .int a2, .int (0 : Int32), .int (1 : Int32)] [] B mx_yX12_canNot (c_fMM_canNot l X _ a1 a2 (0 : Int32) (1 : Int32) σ10 r16 σ17 hc14) kl_RX12_208 mi_yX12_canNot (rv_33 _ _) hcl_12 Z hl rfl rfl ⟨Nat.le_of_ble_eq_true rfl, Nat.le_of_ble_eq_true rfl⟩ rfl rfl (Nat.le_of_ble_eq_true rfl) dX12_bringsRow_48 (fun H locs Z => ?_)
          clear hc14
          refine lv_if_ne (tgt := 58) hx hb dX12_bringsRow_51 (by decide) (fun c18 => ?_) (fun c18 => ?_)
          · have h10 := dif h9 c18
            clear h9
            refine lv_iconst (v := (0 : Int32)) hx hb dX12_bringsRow_58 (by decide) ?_
            exact reI B Z rfl hz h10 dX12_bringsRow_59
          · have h11 := dit h9 c18
            clear h9
            refine lv_iconst (v := (1 : Int32)) hx hb dX12_bringsRow_54 (by decide) ?_
            refine lv_goto (tgt := 59) hx hb dX12_bringsRow_55 (by decide) ?_
            exact reI B Z rfl hz h11 dX12_bringsRow_59
    clear eJ12
    refine lv_if_ne (tgt := 30) hx hb dX12_bringsRow_23 (by decide) (fun c19 => ?_) (fun c19 => ?_)
    · have h13 := dif h12 c19
      clear h12
      refine lv_iconst (v := (0 : Int32)) hx hb dX12_bringsRow_30 (by decide) ?_
      exact kJ12 (0 : Int32) _ _ _ Z (lv_sub hl [0, 1, 2, 3] rfl) h13
    · have h14 := dit h12 c19
      clear h12
      refine lv_iconst (v := (1 : Int32)) hx hb dX12_bringsRow_26 (by decide) ?_
      refine lv_goto (tgt := 31) hx hb dX12_bringsRow_27 (by decide) ?_
      exact kJ12 (1 : Int32) _ _ _ Z (lv_sub hl [0, 1, 2, 3] rfl) h14
  clear eJ7
  refine lv_if_eq (tgt := 19) hx hb dX12_bringsRow_12 (by decide) (fun c20 => ?_) (fun c20 => ?_)
  · have h16 := dit h15 c20
    clear h15
    refine lv_iconst (v := (0 : Int32)) hx hb dX12_bringsRow_19 (by decide) ?_
    exact kJ7 a1 a2 (1 : Int32) (0 : Int32) _ _ _ Z (lv_sub hl [1, 2, 3, 0] rfl) h16
  · have h17 := dif h15 c20
    clear h15
    refine lv_iconst (v := (1 : Int32)) hx hb dX12_bringsRow_15 (by decide) ?_
    refine lv_goto (tgt := 20) hx hb dX12_bringsRow_16 (by decide) ?_
    exact kJ7 a1 a2 (1 : Int32) (1 : Int32) _ _ _ Z (lv_sub hl [1, 2, 3, 0] rfl) h17
theorem dX12_brings_0 : decode cX12_brings 0 = .ok (.aload_n 0, 1) := by decide +kernel
theorem dX12_brings_1 : decode cX12_brings 1 = .ok (.iload_n 1, 1) := by decide +kernel
theorem dX12_brings_2 : decode cX12_brings 2 = .ok (.invokevirtual 183, 3) := by decide +kernel
theorem dX12_brings_5 : decode cX12_brings 5 = .ok (.ifCond .eq 28, 3) := by decide +kernel
theorem dX12_brings_8 : decode cX12_brings 8 = .ok (.aload_n 0, 1) := by decide +kernel
theorem dX12_brings_9 : decode cX12_brings 9 = .ok (.iload_n 2, 1) := by decide +kernel
theorem dX12_brings_10 : decode cX12_brings 10 = .ok (.invokevirtual 180, 3) := by decide +kernel
theorem dX12_brings_13 : decode cX12_brings 13 = .ok (.ifCond .eq 20, 3) := by decide +kernel
theorem dX12_brings_16 : decode cX12_brings 16 = .ok (.aload_n 0, 1) := by decide +kernel
theorem dX12_brings_17 : decode cX12_brings 17 = .ok (.iload_n 1, 1) := by decide +kernel
theorem dX12_brings_18 : decode cX12_brings 18 = .ok (.iload_n 2, 1) := by decide +kernel
theorem dX12_brings_19 : decode cX12_brings 19 = .ok (.invokevirtual 212, 3) := by decide +kernel
theorem dX12_brings_22 : decode cX12_brings 22 = .ok (.ifCond .eq 7, 3) := by decide +kernel
theorem dX12_brings_25 : decode cX12_brings 25 = .ok (.iconst 1, 1) := by decide +kernel
theorem dX12_brings_26 : decode cX12_brings 26 = .ok (.goto 13, 3) := by decide +kernel
theorem dX12_brings_29 : decode cX12_brings 29 = .ok (.iconst 0, 1) := by decide +kernel
theorem dX12_brings_30 : decode cX12_brings 30 = .ok (.goto 9, 3) := by decide +kernel
theorem dX12_brings_33 : decode cX12_brings 33 = .ok (.aload_n 0, 1) := by decide +kernel
theorem dX12_brings_34 : decode cX12_brings 34 = .ok (.ldc 63, 2) := by decide +kernel
theorem dX12_brings_36 : decode cX12_brings 36 = .ok (.invokevirtual 168, 3) := by decide +kernel
theorem dX12_brings_39 : decode cX12_brings 39 = .ok (.ireturn, 1) := by decide +kernel
def rm_fMM_brings : Room := { frames := 7, cells := 0, slots := 0, locals := 216 }
set_option maxHeartbeats 4000000 in
set_option maxRecDepth 100000 in
theorem c_fMM_brings (l : Launch) (X : eX) (sz : Nat) (a1 : Int32) (a2 : Int32) (σ : sT) (rz : Int32) (σz : sT) (h0 : fMM_brings a1 a2 σ = some (rz, σz)) : ctI l yX12_brings cX12_brings 3 (some .int) rm_fMM_brings [.ref (X.2.1 33), .int a1, .int a2] (wM X) (tM X) (aM X) X sz σ rz σz := by
  refine ct_of (by decide +kernel) (Nat.le_of_ble_eq_true rfl) ?_
  intro p e s m args below meth c ls hz B hl Z
  have B : Bd p s m args meth c RX12 cX12_brings 3 (some .int) := B
  have hl : lv_has ls 3 [(0, .ref (X.2.1 33)), (1, .int a1), (2, .int a2)] := hl
  have hx := B.1
  have hb := B.2.1
  unfold fMM_brings at h0
  refine lv_aload_n hx hb dX12_brings_0 rfl (lv_at hl 0 rfl) ?_
  refine lv_iload_n hx hb dX12_brings_1 rfl (lv_at hl 1 rfl) ?_
  obtain ⟨r2, hc0, h1⟩ := db1_s h0
  clear h0
  refine cV_I [.int a1] [] B mx_yX12_isSet (c_fMM_isSet l X _ a1 σ r2 hc0) kl_RX12_183 mi_yX12_isSet (rv_33 _ _) hcl_12 Z hl rfl rfl ⟨Nat.le_of_ble_eq_true rfl, Nat.le_of_ble_eq_true rfl⟩ rfl rfl (Nat.le_of_ble_eq_true rfl) dX12_brings_2 (fun H locs Z => ?_)
  clear hc0
  obtain ⟨J3, eJ3, h4⟩ := dlt_s h1
  clear h1
  have kJ3 : ∀ (H : Heap) (locs : List Loc) (ls : Array Slot), Wd (wM X) (tM X) (aM X) X s σ H locs → lv_has ls 3 [(0, .ref (X.2.1 33))] → J3 () = some (rz, σz) → W p l e rm_fMM_brings s m args below meth c H locs 0 0 (MQ below (va_Qi (fun a u => a = rz ∧ u = σz) (poW (wM X) (tM X) (aM X) X sz) (aA (aM X) sz)) args s 0 0 (aA (aM X) sz)) (F0 m 33 ls []) := by
    intro  H locs ls Z hl h2
    rw [eJ3] at h2
    refine lv_aload_n hx hb dX12_brings_33 rfl (lv_at hl 0 rfl) ?_
    refine lv_ldc hx hb B.2.2.2.1 (B.2.2.2.2.1 _ kc_RX12_63) dX12_brings_34 ?_
    obtain ⟨r5, σ6, hc3, h3⟩ := db2_s h2
    clear h2
    refine cV_I [.int (-1000002 : Int32)] [] B mx_yX12_refuses (c_fMM_refuses l X _ (-1000002 : Int32) σ r5 σ6 hc3) kl_RX12_168 mi_yX12_refuses (rv_33 _ _) hcl_12 Z hl rfl rfl ⟨Nat.le_of_ble_eq_true rfl, Nat.le_of_ble_eq_true rfl⟩ rfl rfl (Nat.le_of_ble_eq_true rfl) dX12_brings_36 (fun H locs Z => ?_)
    clear hc3
    exact reI B Z rfl hz h3 dX12_brings_39
  clear eJ3
  refine lv_if_eq (tgt := 33) hx hb dX12_brings_5 (by decide) (fun c7 => ?_) (fun c7 => ?_)
  · have h5 := dit h4 c7
    clear h4
    exact kJ3  _ _ _ Z (lv_sub hl [0] rfl) h5
  · have h6 := dif h4 c7
    clear h4
    refine lv_aload_n hx hb dX12_brings_8 rfl (lv_at hl 0 rfl) ?_
    refine lv_iload_n hx hb dX12_brings_9 rfl (lv_at hl 2 rfl) ?_
    obtain ⟨r9, hc7, h7⟩ := db1_s h6
    clear h6
    refine cV_I [.int a2] [] B mx_yX12_isRow (c_fMM_isRow l X _ a2 σ r9 hc7) kl_RX12_180 mi_yX12_isRow (rv_33 _ _) hcl_12 Z hl rfl rfl ⟨Nat.le_of_ble_eq_true rfl, Nat.le_of_ble_eq_true rfl⟩ rfl rfl (Nat.le_of_ble_eq_true rfl) dX12_brings_10 (fun H locs Z => ?_)
    clear hc7
    refine lv_if_eq (tgt := 33) hx hb dX12_brings_13 (by decide) (fun c10 => ?_) (fun c10 => ?_)
    · have h8 := dit h7 c10
      clear h7
      exact kJ3  _ _ _ Z (lv_sub hl [0] rfl) h8
    · have h9 := dif h7 c10
      clear h7
      refine lv_aload_n hx hb dX12_brings_16 rfl (lv_at hl 0 rfl) ?_
      refine lv_iload_n hx hb dX12_brings_17 rfl (lv_at hl 1 rfl) ?_
      refine lv_iload_n hx hb dX12_brings_18 rfl (lv_at hl 2 rfl) ?_
      obtain ⟨r12, σ13, hc10, h10⟩ := db2_s h9
      clear h9
      refine cV_I [.int a1, .int a2] [] B mx_yX12_bringsRow (c_fMM_bringsRow l X _ a1 a2 σ r12 σ13 hc10) kl_RX12_212 mi_yX12_bringsRow (rv_33 _ _) hcl_12 Z hl rfl rfl ⟨Nat.le_of_ble_eq_true rfl, Nat.le_of_ble_eq_true rfl⟩ rfl rfl (Nat.le_of_ble_eq_true rfl) dX12_brings_19 (fun H locs Z => ?_)
      clear hc10
      refine lv_if_eq (tgt := 29) hx hb dX12_brings_22 (by decide) (fun c14 => ?_) (fun c14 => ?_)
      · have h11 := dit h10 c14
        clear h10
        refine lv_iconst (v := (0 : Int32)) hx hb dX12_brings_29 (by decide) ?_
        refine lv_goto (tgt := 39) hx hb dX12_brings_30 (by decide) ?_
        exact reI B Z rfl hz h11 dX12_brings_39
      · have h12 := dif h10 c14
        clear h10
        refine lv_iconst (v := (1 : Int32)) hx hb dX12_brings_25 (by decide) ?_
        refine lv_goto (tgt := 39) hx hb dX12_brings_26 (by decide) ?_
        exact reI B Z rfl hz h12 dX12_brings_39
theorem dX12_spare_0 : decode cX12_spare 0 = .ok (.aload_n 0, 1) := by decide +kernel
theorem dX12_spare_1 : decode cX12_spare 1 = .ok (.iload_n 1, 1) := by decide +kernel
theorem dX12_spare_2 : decode cX12_spare 2 = .ok (.invokevirtual 183, 3) := by decide +kernel
theorem dX12_spare_5 : decode cX12_spare 5 = .ok (.ifCond .ne 10, 3) := by decide +kernel
theorem dX12_spare_8 : decode cX12_spare 8 = .ok (.aload_n 0, 1) := by decide +kernel
theorem dX12_spare_9 : decode cX12_spare 9 = .ok (.ldc 63, 2) := by decide +kernel
theorem dX12_spare_11 : decode cX12_spare 11 = .ok (.invokevirtual 168, 3) := by decide +kernel
theorem dX12_spare_14 : decode cX12_spare 14 = .ok (.ireturn, 1) := by decide +kernel
theorem dX12_spare_15 : decode cX12_spare 15 = .ok (.iconst 0, 1) := by decide +kernel
theorem dX12_spare_16 : decode cX12_spare 16 = .ok (.istore_n 2, 1) := by decide +kernel
theorem dX12_spare_17 : decode cX12_spare 17 = .ok (.iconst 0, 1) := by decide +kernel
theorem dX12_spare_18 : decode cX12_spare 18 = .ok (.istore_n 3, 1) := by decide +kernel
theorem dX12_spare_19 : decode cX12_spare 19 = .ok (.iload_n 3, 1) := by decide +kernel
theorem dX12_spare_20 : decode cX12_spare 20 = .ok (.aload_n 0, 1) := by decide +kernel
theorem dX12_spare_21 : decode cX12_spare 21 = .ok (.getfield 7, 3) := by decide +kernel
theorem dX12_spare_24 : decode cX12_spare 24 = .ok (.iconst 0, 1) := by decide +kernel
theorem dX12_spare_25 : decode cX12_spare 25 = .ok (.iaload, 1) := by decide +kernel
theorem dX12_spare_26 : decode cX12_spare 26 = .ok (.if_icmp .ge 42, 3) := by decide +kernel
theorem dX12_spare_29 : decode cX12_spare 29 = .ok (.iload_n 2, 1) := by decide +kernel
theorem dX12_spare_30 : decode cX12_spare 30 = .ok (.iload_n 1, 1) := by decide +kernel
theorem dX12_spare_31 : decode cX12_spare 31 = .ok (.iload_n 3, 1) := by decide +kernel
theorem dX12_spare_32 : decode cX12_spare 32 = .ok (.invokestatic 95, 3) := by decide +kernel
theorem dX12_spare_35 : decode cX12_spare 35 = .ok (.ifCond .eq 24, 3) := by decide +kernel
theorem dX12_spare_38 : decode cX12_spare 38 = .ok (.aload_n 0, 1) := by decide +kernel
theorem dX12_spare_39 : decode cX12_spare 39 = .ok (.iload_n 1, 1) := by decide +kernel
theorem dX12_spare_40 : decode cX12_spare 40 = .ok (.iconst 1, 1) := by decide +kernel
theorem dX12_spare_41 : decode cX12_spare 41 = .ok (.iload_n 3, 1) := by decide +kernel
theorem dX12_spare_42 : decode cX12_spare 42 = .ok (.ishl, 1) := by decide +kernel
theorem dX12_spare_43 : decode cX12_spare 43 = .ok (.iconst (-1), 1) := by decide +kernel
theorem dX12_spare_44 : decode cX12_spare 44 = .ok (.ixor, 1) := by decide +kernel
theorem dX12_spare_45 : decode cX12_spare 45 = .ok (.iand, 1) := by decide +kernel
theorem dX12_spare_46 : decode cX12_spare 46 = .ok (.iload_n 3, 1) := by decide +kernel
theorem dX12_spare_47 : decode cX12_spare 47 = .ok (.invokevirtual 212, 3) := by decide +kernel
theorem dX12_spare_50 : decode cX12_spare 50 = .ok (.ifCond .eq 9, 3) := by decide +kernel
theorem dX12_spare_53 : decode cX12_spare 53 = .ok (.iconst 1, 1) := by decide +kernel
theorem dX12_spare_54 : decode cX12_spare 54 = .ok (.iload_n 3, 1) := by decide +kernel
theorem dX12_spare_55 : decode cX12_spare 55 = .ok (.ishl, 1) := by decide +kernel
theorem dX12_spare_56 : decode cX12_spare 56 = .ok (.goto 4, 3) := by decide +kernel
theorem dX12_spare_59 : decode cX12_spare 59 = .ok (.iconst 0, 1) := by decide +kernel
theorem dX12_spare_60 : decode cX12_spare 60 = .ok (.ior, 1) := by decide +kernel
theorem dX12_spare_61 : decode cX12_spare 61 = .ok (.istore_n 2, 1) := by decide +kernel
theorem dX12_spare_62 : decode cX12_spare 62 = .ok (.iinc 3 1, 3) := by decide +kernel
theorem dX12_spare_65 : decode cX12_spare 65 = .ok (.goto (-46), 3) := by decide +kernel
theorem dX12_spare_68 : decode cX12_spare 68 = .ok (.iload_n 2, 1) := by decide +kernel
theorem dX12_spare_69 : decode cX12_spare 69 = .ok (.ireturn, 1) := by decide +kernel
def rm_fMM_spare : Room := { frames := 7, cells := 0, slots := 0, locals := 216 }
set_option maxHeartbeats 4000000 in
set_option maxRecDepth 100000 in
theorem c_fMM_spare (l : Launch) (X : eX) (sz : Nat) (a1 : Int32) (σ : sT) (rz : Int32) (σz : sT) (h0 : fMM_spare a1 σ = some (rz, σz)) : ctI l yX12_spare cX12_spare 4 (some .int) rm_fMM_spare [.ref (X.2.1 33), .int a1] (wM X) (tM X) (aM X) X sz σ rz σz := by
  refine ct_of (by decide +kernel) (Nat.le_of_ble_eq_true rfl) ?_
  intro p e s m args below meth c ls hz B hl Z
  have B : Bd p s m args meth c RX12 cX12_spare 4 (some .int) := B
  have hl : lv_has ls 4 [(0, .ref (X.2.1 33)), (1, .int a1)] := hl
  have hx := B.1
  have hb := B.2.1
  unfold fMM_spare at h0
  refine lv_aload_n hx hb dX12_spare_0 rfl (lv_at hl 0 rfl) ?_
  refine lv_iload_n hx hb dX12_spare_1 rfl (lv_at hl 1 rfl) ?_
  obtain ⟨r2, hc0, h1⟩ := db1_s h0
  clear h0
  refine cV_I [.int a1] [] B mx_yX12_isSet (c_fMM_isSet l X _ a1 σ r2 hc0) kl_RX12_183 mi_yX12_isSet (rv_33 _ _) hcl_12 Z hl rfl rfl ⟨Nat.le_of_ble_eq_true rfl, Nat.le_of_ble_eq_true rfl⟩ rfl rfl (Nat.le_of_ble_eq_true rfl) dX12_spare_2 (fun H locs Z => ?_)
  clear hc0
  refine lv_if_ne (tgt := 15) hx hb dX12_spare_5 (by decide) (fun c3 => ?_) (fun c3 => ?_)
  · have h2 := dif h1 c3
    clear h1
    refine lv_iconst (v := (0 : Int32)) hx hb dX12_spare_15 (by decide) ?_
    refine lv_istore_n (lv' := [(2, .int (0 : Int32)), (0, .ref (X.2.1 33)), (1, .int a1)]) hx hb dX12_spare_16 rfl hl (by decide) rfl (fun ls hl => ?_)
    refine lv_iconst (v := (0 : Int32)) hx hb dX12_spare_17 (by decide) ?_
    refine lv_istore_n (lv' := [(3, .int (0 : Int32)), (2, .int (0 : Int32)), (0, .ref (X.2.1 33)), (1, .int a1)]) hx hb dX12_spare_18 rfl hl (by decide) rfl (fun ls hl => ?_)
    have lL19 : ∀ (n : Nat), ∀ (x4 : Int32) (x5 : Int32) (σ6 : sT) (H : Heap) (locs : List Loc) (ls : Array Slot), Wd (wM X) (tM X) (aM X) X s σ6 H locs → lv_has ls 4 [(0, .ref (X.2.1 33)), (1, .int a1), (2, .int x4), (3, .int x5)] → fMM_spare_L19 a1 n x4 x5 σ6 = some (rz, σz) → W p l e rm_fMM_spare s m args below meth c H locs 0 0 (MQ below (va_Qi (fun a u => a = rz ∧ u = σz) (poW (wM X) (tM X) (aM X) X sz) (aA (aM X) sz)) args s 0 0 (aA (aM X) sz)) (F0 m 19 ls []) := by
      intro n
      induction n with
      | zero =>
        intro x4 x5 σ6 H locs ls Z hl h
        exact nomatch (show (none : Option (Int32 × sT)) = some _ from h)
      | succ n7 ih12 =>
        intro x4 x5 σ6 H locs ls Z hl h3
        unfold fMM_spare_L19 at h3
        refine lv_iload_n hx hb dX12_spare_19 rfl (lv_at hl 3 rfl) ?_
        refine lv_aload_n hx hb dX12_spare_20 rfl (lv_at hl 0 rfl) ?_
        refine g_33_0 B Z kf_RX12_7 dX12_spare_21 ?_
        refine lv_iconst (v := (0 : Int32)) hx hb dX12_spare_24 (by decide) ?_
        obtain ⟨z8, h4⟩ := dck_s h3
        clear h3
        refine ld_34 B Z z8 dX12_spare_25 ?_
        refine lv_icmp_ge (tgt := 68) hx hb dX12_spare_26 (by decide) (fun c9 => ?_) (fun c9 => ?_)
        · have h5 := dit h4 c9
          clear h4
          refine lv_iload_n hx hb dX12_spare_68 rfl (lv_at hl 2 rfl) ?_
          exact reI B Z rfl hz h5 dX12_spare_69
        · have h6 := dif h4 c9
          clear h4
          refine lv_iload_n hx hb dX12_spare_29 rfl (lv_at hl 2 rfl) ?_
          refine lv_iload_n hx hb dX12_spare_30 rfl (lv_at hl 1 rfl) ?_
          refine lv_iload_n hx hb dX12_spare_31 rfl (lv_at hl 3 rfl) ?_
          obtain ⟨r11, hc9, h7⟩ := db1_s h6
          clear h6
          refine cS_I [.int a1, .int x5] [.int x4] B mx_yX12_has (c_fMM_has l X _ a1 x5 σ6 r11 hc9) kl_RX12_95 ks_yX12_has Z hl rfl rfl ⟨Nat.le_of_ble_eq_true rfl, Nat.le_of_ble_eq_true rfl⟩ rfl rfl (Nat.le_of_ble_eq_true rfl) dX12_spare_32 (fun H locs Z => ?_)
          clear hc9
          refine lv_if_eq (tgt := 59) hx hb dX12_spare_35 (by decide) (fun c12 => ?_) (fun c12 => ?_)
          · have h8 := dit h7 c12
            clear h7
            refine lv_iconst (v := (0 : Int32)) hx hb dX12_spare_59 (by decide) ?_
            refine lv_ior hx hb dX12_spare_60 ?_
            refine lv_topi (fun x13 ex13 => ?_)
            have h9 := dlt_e ex13 h8
            clear ex13 h8
            refine lv_istore_n (lv' := [(2, .int x13), (0, .ref (X.2.1 33)), (1, .int a1), (3, .int x5)]) hx hb dX12_spare_61 rfl hl (by decide) rfl (fun ls hl => ?_)
            refine lv_iinc (v := x5 + (1 : Int32)) (lv' := [(3, .int (x5 + (1 : Int32))), (2, .int x13), (0, .ref (X.2.1 33)), (1, .int a1)]) hx hb dX12_spare_62 hl (k := 3) rfl (by rfl) (by decide) rfl (fun ls hl => ?_)
            refine lv_goto (tgt := 19) hx hb dX12_spare_65 (by decide) ?_
            exact ih12 x13 (x5 + (1 : Int32)) σ6 _ _ _ Z (lv_sub hl [2, 3, 1, 0] rfl) h9
          · have h10 := dif h7 c12
            clear h7
            refine lv_aload_n hx hb dX12_spare_38 rfl (lv_at hl 0 rfl) ?_
            refine lv_iload_n hx hb dX12_spare_39 rfl (lv_at hl 1 rfl) ?_
            refine lv_iconst (v := (1 : Int32)) hx hb dX12_spare_40 (by decide) ?_
            refine lv_iload_n hx hb dX12_spare_41 rfl (lv_at hl 3 rfl) ?_
            refine lv_ishl hx hb dX12_spare_42 ?_
            refine lv_iconst (v := (-1 : Int32)) hx hb dX12_spare_43 (by decide) ?_
            refine lv_ixor hx hb dX12_spare_44 ?_
            refine lv_iand hx hb dX12_spare_45 ?_
            refine lv_iload_n hx hb dX12_spare_46 rfl (lv_at hl 3 rfl) ?_
            obtain ⟨r15, σ16, hc13, h11⟩ := db2_s h10
            clear h10
            refine cV_I [.int (a1 &&& (((1 : Int32) <<< (x5 &&& 31)) ^^^ (-1 : Int32))), .int x5] [.int x4] B mx_yX12_bringsRow (c_fMM_bringsRow l X _ (a1 &&& (((1 : Int32) <<< (x5 &&& 31)) ^^^ (-1 : Int32))) x5 σ6 r15 σ16 hc13) kl_RX12_212 mi_yX12_bringsRow (rv_33 _ _) hcl_12 Z hl rfl rfl ⟨Nat.le_of_ble_eq_true rfl, Nat.le_of_ble_eq_true rfl⟩ rfl rfl (Nat.le_of_ble_eq_true rfl) dX12_spare_47 (fun H locs Z => ?_)
            clear hc13
            refine lv_if_eq (tgt := 59) hx hb dX12_spare_50 (by decide) (fun c17 => ?_) (fun c17 => ?_)
            · have h12 := dit h11 c17
              clear h11
              refine lv_iconst (v := (0 : Int32)) hx hb dX12_spare_59 (by decide) ?_
              refine lv_ior hx hb dX12_spare_60 ?_
              refine lv_topi (fun x18 ex18 => ?_)
              have h13 := dlt_e ex18 h12
              clear ex18 h12
              refine lv_istore_n (lv' := [(2, .int x18), (0, .ref (X.2.1 33)), (1, .int a1), (3, .int x5)]) hx hb dX12_spare_61 rfl hl (by decide) rfl (fun ls hl => ?_)
              refine lv_iinc (v := x5 + (1 : Int32)) (lv' := [(3, .int (x5 + (1 : Int32))), (2, .int x18), (0, .ref (X.2.1 33)), (1, .int a1)]) hx hb dX12_spare_62 hl (k := 3) rfl (by rfl) (by decide) rfl (fun ls hl => ?_)
              refine lv_goto (tgt := 19) hx hb dX12_spare_65 (by decide) ?_
              exact ih12 x18 (x5 + (1 : Int32)) σ16 _ _ _ Z (lv_sub hl [2, 3, 1, 0] rfl) h13
            · have h14 := dif h11 c17
              clear h11
              refine lv_iconst (v := (1 : Int32)) hx hb dX12_spare_53 (by decide) ?_
              refine lv_iload_n hx hb dX12_spare_54 rfl (lv_at hl 3 rfl) ?_
              refine lv_ishl hx hb dX12_spare_55 ?_
              refine lv_goto (tgt := 60) hx hb dX12_spare_56 (by decide) ?_
              refine lv_ior hx hb dX12_spare_60 ?_
              refine lv_topi (fun x19 ex19 => ?_)
              have h15 := dlt_e ex19 h14
              clear ex19 h14
              refine lv_istore_n (lv' := [(2, .int x19), (0, .ref (X.2.1 33)), (1, .int a1), (3, .int x5)]) hx hb dX12_spare_61 rfl hl (by decide) rfl (fun ls hl => ?_)
              refine lv_iinc (v := x5 + (1 : Int32)) (lv' := [(3, .int (x5 + (1 : Int32))), (2, .int x19), (0, .ref (X.2.1 33)), (1, .int a1)]) hx hb dX12_spare_62 hl (k := 3) rfl (by rfl) (by decide) rfl (fun ls hl => ?_)
              refine lv_goto (tgt := 19) hx hb dX12_spare_65 (by decide) ?_
              exact ih12 x19 (x5 + (1 : Int32)) σ16 _ _ _ Z (lv_sub hl [2, 3, 1, 0] rfl) h15
    exact lL19 FU (0 : Int32) (0 : Int32) σ _ _ _ Z (lv_sub hl [2, 3, 1, 0] rfl) h2
  · have h16 := dit h1 c3
    clear h1
    refine lv_aload_n hx hb dX12_spare_8 rfl (lv_at hl 0 rfl) ?_
    refine lv_ldc hx hb B.2.2.2.1 (B.2.2.2.2.1 _ kc_RX12_63) dX12_spare_9 ?_
    obtain ⟨r21, σ22, hc19, h17⟩ := db2_s h16
    clear h16
    refine cV_I [.int (-1000002 : Int32)] [] B mx_yX12_refuses (c_fMM_refuses l X _ (-1000002 : Int32) σ r21 σ22 hc19) kl_RX12_168 mi_yX12_refuses (rv_33 _ _) hcl_12 Z hl rfl rfl ⟨Nat.le_of_ble_eq_true rfl, Nat.le_of_ble_eq_true rfl⟩ rfl rfl (Nat.le_of_ble_eq_true rfl) dX12_spare_11 (fun H locs Z => ?_)
    clear hc19
    exact reI B Z rfl hz h17 dX12_spare_14
theorem dX12_bringsAll_0 : decode cX12_bringsAll 0 = .ok (.iconst 1, 1) := by decide +kernel
theorem dX12_bringsAll_1 : decode cX12_bringsAll 1 = .ok (.istore_n 3, 1) := by decide +kernel
theorem dX12_bringsAll_2 : decode cX12_bringsAll 2 = .ok (.iconst 0, 1) := by decide +kernel
theorem dX12_bringsAll_3 : decode cX12_bringsAll 3 = .ok (.istore 4, 2) := by decide +kernel
theorem dX12_bringsAll_5 : decode cX12_bringsAll 5 = .ok (.iload 4, 2) := by decide +kernel
theorem dX12_bringsAll_7 : decode cX12_bringsAll 7 = .ok (.bipush 12, 2) := by decide +kernel
theorem dX12_bringsAll_9 : decode cX12_bringsAll 9 = .ok (.if_icmp .ge 38, 3) := by decide +kernel
theorem dX12_bringsAll_12 : decode cX12_bringsAll 12 = .ok (.iload_n 3, 1) := by decide +kernel
theorem dX12_bringsAll_13 : decode cX12_bringsAll 13 = .ok (.ifCond .eq 26, 3) := by decide +kernel
theorem dX12_bringsAll_16 : decode cX12_bringsAll 16 = .ok (.iload_n 2, 1) := by decide +kernel
theorem dX12_bringsAll_17 : decode cX12_bringsAll 17 = .ok (.iload 4, 2) := by decide +kernel
theorem dX12_bringsAll_19 : decode cX12_bringsAll 19 = .ok (.invokestatic 95, 3) := by decide +kernel
theorem dX12_bringsAll_22 : decode cX12_bringsAll 22 = .ok (.ifCond .eq 13, 3) := by decide +kernel
theorem dX12_bringsAll_25 : decode cX12_bringsAll 25 = .ok (.aload_n 0, 1) := by decide +kernel
theorem dX12_bringsAll_26 : decode cX12_bringsAll 26 = .ok (.iload_n 1, 1) := by decide +kernel
theorem dX12_bringsAll_27 : decode cX12_bringsAll 27 = .ok (.iload 4, 2) := by decide +kernel
theorem dX12_bringsAll_29 : decode cX12_bringsAll 29 = .ok (.invokevirtual 212, 3) := by decide +kernel
theorem dX12_bringsAll_32 : decode cX12_bringsAll 32 = .ok (.ifCond .eq 7, 3) := by decide +kernel
theorem dX12_bringsAll_35 : decode cX12_bringsAll 35 = .ok (.iconst 1, 1) := by decide +kernel
theorem dX12_bringsAll_36 : decode cX12_bringsAll 36 = .ok (.goto 4, 3) := by decide +kernel
theorem dX12_bringsAll_39 : decode cX12_bringsAll 39 = .ok (.iconst 0, 1) := by decide +kernel
theorem dX12_bringsAll_40 : decode cX12_bringsAll 40 = .ok (.istore_n 3, 1) := by decide +kernel
theorem dX12_bringsAll_41 : decode cX12_bringsAll 41 = .ok (.iinc 4 1, 3) := by decide +kernel
theorem dX12_bringsAll_44 : decode cX12_bringsAll 44 = .ok (.goto (-39), 3) := by decide +kernel
theorem dX12_bringsAll_47 : decode cX12_bringsAll 47 = .ok (.iload_n 3, 1) := by decide +kernel
theorem dX12_bringsAll_48 : decode cX12_bringsAll 48 = .ok (.ireturn, 1) := by decide +kernel
def rm_fMM_bringsAll : Room := { frames := 7, cells := 0, slots := 0, locals := 216 }
set_option maxHeartbeats 4000000 in
set_option maxRecDepth 100000 in
theorem c_fMM_bringsAll (l : Launch) (X : eX) (sz : Nat) (a1 : Int32) (a2 : Int32) (σ : sT) (rz : Int32) (σz : sT) (h0 : fMM_bringsAll a1 a2 σ = some (rz, σz)) : ctI l yX12_bringsAll cX12_bringsAll 5 (some .boolean) rm_fMM_bringsAll [.ref (X.2.1 33), .int a1, .int a2] (wM X) (tM X) (aM X) X sz σ rz σz := by
  refine ct_of (by decide +kernel) (Nat.le_of_ble_eq_true rfl) ?_
  intro p e s m args below meth c ls hz B hl Z
  have B : Bd p s m args meth c RX12 cX12_bringsAll 5 (some .boolean) := B
  have hl : lv_has ls 5 [(0, .ref (X.2.1 33)), (1, .int a1), (2, .int a2)] := hl
  have hx := B.1
  have hb := B.2.1
  unfold fMM_bringsAll at h0
  refine lv_iconst (v := (1 : Int32)) hx hb dX12_bringsAll_0 (by decide) ?_
  refine lv_istore_n (lv' := [(3, .int (1 : Int32)), (0, .ref (X.2.1 33)), (1, .int a1), (2, .int a2)]) hx hb dX12_bringsAll_1 rfl hl (by decide) rfl (fun ls hl => ?_)
  refine lv_iconst (v := (0 : Int32)) hx hb dX12_bringsAll_2 (by decide) ?_
  refine lv_istore (lv' := [(4, .int (0 : Int32)), (3, .int (1 : Int32)), (0, .ref (X.2.1 33)), (1, .int a1), (2, .int a2)]) hx hb dX12_bringsAll_3 hl (by decide) rfl (fun ls hl => ?_)
  have lL5 : ∀ (n : Nat), ∀ (x1 : Int32) (x2 : Int32) (σ3 : sT) (H : Heap) (locs : List Loc) (ls : Array Slot), Wd (wM X) (tM X) (aM X) X s σ3 H locs → lv_has ls 5 [(0, .ref (X.2.1 33)), (1, .int a1), (2, .int a2), (3, .int x1), (4, .int x2)] → fMM_bringsAll_L5 a1 a2 n x1 x2 σ3 = some (rz, σz) → W p l e rm_fMM_bringsAll s m args below meth c H locs 0 0 (MQ below (va_Qi (fun a u => a = rz ∧ u = σz) (poW (wM X) (tM X) (aM X) X sz) (aA (aM X) sz)) args s 0 0 (aA (aM X) sz)) (F0 m 5 ls []) := by
    intro n
    induction n with
    | zero =>
      intro x1 x2 σ3 H locs ls Z hl h
      exact nomatch (show (none : Option (Int32 × sT)) = some _ from h)
    | succ n4 ih4 =>
      intro x1 x2 σ3 H locs ls Z hl h1
      unfold fMM_bringsAll_L5 at h1
      refine lv_iload hx hb dX12_bringsAll_5 (lv_at hl 4 rfl) ?_
      refine lv_bipush (v := (12 : Int32)) hx hb dX12_bringsAll_7 (by decide) ?_
      refine lv_icmp_ge (tgt := 47) hx hb dX12_bringsAll_9 (by decide) (fun c5 => ?_) (fun c5 => ?_)
      · have h2 := dit h1 c5
        clear h1
        refine lv_iload_n hx hb dX12_bringsAll_47 rfl (lv_at hl 3 rfl) ?_
        obtain ⟨z6, h3⟩ := dck_s h2
        clear h2
        exact reI B Z (okZ_n z6) hz h3 dX12_bringsAll_48
      · have h4 := dif h1 c5
        clear h1
        refine lv_iload_n hx hb dX12_bringsAll_12 rfl (lv_at hl 3 rfl) ?_
        refine lv_if_eq (tgt := 39) hx hb dX12_bringsAll_13 (by decide) (fun c7 => ?_) (fun c7 => ?_)
        · have h5 := dit h4 c7
          clear h4
          refine lv_iconst (v := (0 : Int32)) hx hb dX12_bringsAll_39 (by decide) ?_
          refine lv_istore_n (lv' := [(3, .int (0 : Int32)), (0, .ref (X.2.1 33)), (1, .int a1), (2, .int a2), (4, .int x2)]) hx hb dX12_bringsAll_40 rfl hl (by decide) rfl (fun ls hl => ?_)
          refine lv_iinc (v := x2 + (1 : Int32)) (lv' := [(4, .int (x2 + (1 : Int32))), (3, .int (0 : Int32)), (0, .ref (X.2.1 33)), (1, .int a1), (2, .int a2)]) hx hb dX12_bringsAll_41 hl (k := 4) rfl (by rfl) (by decide) rfl (fun ls hl => ?_)
          refine lv_goto (tgt := 5) hx hb dX12_bringsAll_44 (by decide) ?_
          exact ih4 (0 : Int32) (x2 + (1 : Int32)) σ3 _ _ _ Z (lv_sub hl [2, 3, 4, 1, 0] rfl) h5
        · have h6 := dif h4 c7
          clear h4
          refine lv_iload_n hx hb dX12_bringsAll_16 rfl (lv_at hl 2 rfl) ?_
          refine lv_iload hx hb dX12_bringsAll_17 (lv_at hl 4 rfl) ?_
          obtain ⟨r9, hc7, h7⟩ := db1_s h6
          clear h6
          refine cS_I [.int a2, .int x2] [] B mx_yX12_has (c_fMM_has l X _ a2 x2 σ3 r9 hc7) kl_RX12_95 ks_yX12_has Z hl rfl rfl ⟨Nat.le_of_ble_eq_true rfl, Nat.le_of_ble_eq_true rfl⟩ rfl rfl (Nat.le_of_ble_eq_true rfl) dX12_bringsAll_19 (fun H locs Z => ?_)
          clear hc7
          refine lv_if_eq (tgt := 35) hx hb dX12_bringsAll_22 (by decide) (fun c10 => ?_) (fun c10 => ?_)
          · have h8 := dit h7 c10
            clear h7
            refine lv_iconst (v := (1 : Int32)) hx hb dX12_bringsAll_35 (by decide) ?_
            refine lv_goto (tgt := 40) hx hb dX12_bringsAll_36 (by decide) ?_
            refine lv_istore_n (lv' := [(3, .int (1 : Int32)), (0, .ref (X.2.1 33)), (1, .int a1), (2, .int a2), (4, .int x2)]) hx hb dX12_bringsAll_40 rfl hl (by decide) rfl (fun ls hl => ?_)
            refine lv_iinc (v := x2 + (1 : Int32)) (lv' := [(4, .int (x2 + (1 : Int32))), (3, .int (1 : Int32)), (0, .ref (X.2.1 33)), (1, .int a1), (2, .int a2)]) hx hb dX12_bringsAll_41 hl (k := 4) rfl (by rfl) (by decide) rfl (fun ls hl => ?_)
            refine lv_goto (tgt := 5) hx hb dX12_bringsAll_44 (by decide) ?_
            exact ih4 (1 : Int32) (x2 + (1 : Int32)) σ3 _ _ _ Z (lv_sub hl [2, 3, 4, 1, 0] rfl) h8
          · have h9 := dif h7 c10
            clear h7
            refine lv_aload_n hx hb dX12_bringsAll_25 rfl (lv_at hl 0 rfl) ?_
            refine lv_iload_n hx hb dX12_bringsAll_26 rfl (lv_at hl 1 rfl) ?_
            refine lv_iload hx hb dX12_bringsAll_27 (lv_at hl 4 rfl) ?_
            obtain ⟨r12, σ13, hc10, h10⟩ := db2_s h9
            clear h9
            refine cV_I [.int a1, .int x2] [] B mx_yX12_bringsRow (c_fMM_bringsRow l X _ a1 x2 σ3 r12 σ13 hc10) kl_RX12_212 mi_yX12_bringsRow (rv_33 _ _) hcl_12 Z hl rfl rfl ⟨Nat.le_of_ble_eq_true rfl, Nat.le_of_ble_eq_true rfl⟩ rfl rfl (Nat.le_of_ble_eq_true rfl) dX12_bringsAll_29 (fun H locs Z => ?_)
            clear hc10
            refine lv_if_eq (tgt := 39) hx hb dX12_bringsAll_32 (by decide) (fun c14 => ?_) (fun c14 => ?_)
            · have h11 := dit h10 c14
              clear h10
              refine lv_iconst (v := (0 : Int32)) hx hb dX12_bringsAll_39 (by decide) ?_
              refine lv_istore_n (lv' := [(3, .int (0 : Int32)), (0, .ref (X.2.1 33)), (1, .int a1), (2, .int a2), (4, .int x2)]) hx hb dX12_bringsAll_40 rfl hl (by decide) rfl (fun ls hl => ?_)
              refine lv_iinc (v := x2 + (1 : Int32)) (lv' := [(4, .int (x2 + (1 : Int32))), (3, .int (0 : Int32)), (0, .ref (X.2.1 33)), (1, .int a1), (2, .int a2)]) hx hb dX12_bringsAll_41 hl (k := 4) rfl (by rfl) (by decide) rfl (fun ls hl => ?_)
              refine lv_goto (tgt := 5) hx hb dX12_bringsAll_44 (by decide) ?_
              exact ih4 (0 : Int32) (x2 + (1 : Int32)) σ13 _ _ _ Z (lv_sub hl [2, 3, 4, 1, 0] rfl) h11
            · have h12 := dif h10 c14
              clear h10
              refine lv_iconst (v := (1 : Int32)) hx hb dX12_bringsAll_35 (by decide) ?_
              refine lv_goto (tgt := 40) hx hb dX12_bringsAll_36 (by decide) ?_
              refine lv_istore_n (lv' := [(3, .int (1 : Int32)), (0, .ref (X.2.1 33)), (1, .int a1), (2, .int a2), (4, .int x2)]) hx hb dX12_bringsAll_40 rfl hl (by decide) rfl (fun ls hl => ?_)
              refine lv_iinc (v := x2 + (1 : Int32)) (lv' := [(4, .int (x2 + (1 : Int32))), (3, .int (1 : Int32)), (0, .ref (X.2.1 33)), (1, .int a1), (2, .int a2)]) hx hb dX12_bringsAll_41 hl (k := 4) rfl (by rfl) (by decide) rfl (fun ls hl => ?_)
              refine lv_goto (tgt := 5) hx hb dX12_bringsAll_44 (by decide) ?_
              exact ih4 (1 : Int32) (x2 + (1 : Int32)) σ13 _ _ _ Z (lv_sub hl [2, 3, 4, 1, 0] rfl) h12
  exact lL5 FU (1 : Int32) (0 : Int32) σ _ _ _ Z (lv_sub hl [2, 3, 4, 1, 0] rfl) h0
theorem dX12_same_0 : decode cX12_same 0 = .ok (.aload_n 0, 1) := by decide +kernel
theorem dX12_same_1 : decode cX12_same 1 = .ok (.iload_n 1, 1) := by decide +kernel
theorem dX12_same_2 : decode cX12_same 2 = .ok (.invokevirtual 183, 3) := by decide +kernel
theorem dX12_same_5 : decode cX12_same 5 = .ok (.ifCond .eq 11, 3) := by decide +kernel
theorem dX12_same_8 : decode cX12_same 8 = .ok (.aload_n 0, 1) := by decide +kernel
theorem dX12_same_9 : decode cX12_same 9 = .ok (.iload_n 2, 1) := by decide +kernel
theorem dX12_same_10 : decode cX12_same 10 = .ok (.invokevirtual 183, 3) := by decide +kernel
theorem dX12_same_13 : decode cX12_same 13 = .ok (.ifCond .ne 10, 3) := by decide +kernel
theorem dX12_same_16 : decode cX12_same 16 = .ok (.aload_n 0, 1) := by decide +kernel
theorem dX12_same_17 : decode cX12_same 17 = .ok (.ldc 63, 2) := by decide +kernel
theorem dX12_same_19 : decode cX12_same 19 = .ok (.invokevirtual 168, 3) := by decide +kernel
theorem dX12_same_22 : decode cX12_same 22 = .ok (.ireturn, 1) := by decide +kernel
theorem dX12_same_23 : decode cX12_same 23 = .ok (.aload_n 0, 1) := by decide +kernel
theorem dX12_same_24 : decode cX12_same 24 = .ok (.iload_n 1, 1) := by decide +kernel
theorem dX12_same_25 : decode cX12_same 25 = .ok (.iload_n 2, 1) := by decide +kernel
theorem dX12_same_26 : decode cX12_same 26 = .ok (.invokevirtual 215, 3) := by decide +kernel
theorem dX12_same_29 : decode cX12_same 29 = .ok (.ifCond .eq 16, 3) := by decide +kernel
theorem dX12_same_32 : decode cX12_same 32 = .ok (.aload_n 0, 1) := by decide +kernel
theorem dX12_same_33 : decode cX12_same 33 = .ok (.iload_n 2, 1) := by decide +kernel
theorem dX12_same_34 : decode cX12_same 34 = .ok (.iload_n 1, 1) := by decide +kernel
theorem dX12_same_35 : decode cX12_same 35 = .ok (.invokevirtual 215, 3) := by decide +kernel
theorem dX12_same_38 : decode cX12_same 38 = .ok (.ifCond .eq 7, 3) := by decide +kernel
theorem dX12_same_41 : decode cX12_same 41 = .ok (.iconst 1, 1) := by decide +kernel
theorem dX12_same_42 : decode cX12_same 42 = .ok (.goto 4, 3) := by decide +kernel
theorem dX12_same_45 : decode cX12_same 45 = .ok (.iconst 0, 1) := by decide +kernel
theorem dX12_same_46 : decode cX12_same 46 = .ok (.ireturn, 1) := by decide +kernel
def rm_fMM_same : Room := { frames := 8, cells := 0, slots := 0, locals := 240 }
set_option maxHeartbeats 4000000 in
set_option maxRecDepth 100000 in
theorem c_fMM_same (l : Launch) (X : eX) (sz : Nat) (a1 : Int32) (a2 : Int32) (σ : sT) (rz : Int32) (σz : sT) (h0 : fMM_same a1 a2 σ = some (rz, σz)) : ctI l yX12_same cX12_same 3 (some .int) rm_fMM_same [.ref (X.2.1 33), .int a1, .int a2] (wM X) (tM X) (aM X) X sz σ rz σz := by
  refine ct_of (by decide +kernel) (Nat.le_of_ble_eq_true rfl) ?_
  intro p e s m args below meth c ls hz B hl Z
  have B : Bd p s m args meth c RX12 cX12_same 3 (some .int) := B
  have hl : lv_has ls 3 [(0, .ref (X.2.1 33)), (1, .int a1), (2, .int a2)] := hl
  have hx := B.1
  have hb := B.2.1
  unfold fMM_same at h0
  refine lv_aload_n hx hb dX12_same_0 rfl (lv_at hl 0 rfl) ?_
  refine lv_iload_n hx hb dX12_same_1 rfl (lv_at hl 1 rfl) ?_
  obtain ⟨r2, hc0, h1⟩ := db1_s h0
  clear h0
  refine cV_I [.int a1] [] B mx_yX12_isSet (c_fMM_isSet l X _ a1 σ r2 hc0) kl_RX12_183 mi_yX12_isSet (rv_33 _ _) hcl_12 Z hl rfl rfl ⟨Nat.le_of_ble_eq_true rfl, Nat.le_of_ble_eq_true rfl⟩ rfl rfl (Nat.le_of_ble_eq_true rfl) dX12_same_2 (fun H locs Z => ?_)
  clear hc0
  obtain ⟨J3, eJ3, h4⟩ := dlt_s h1
  clear h1
  have kJ3 : ∀ (H : Heap) (locs : List Loc) (ls : Array Slot), Wd (wM X) (tM X) (aM X) X s σ H locs → lv_has ls 3 [(0, .ref (X.2.1 33))] → J3 () = some (rz, σz) → W p l e rm_fMM_same s m args below meth c H locs 0 0 (MQ below (va_Qi (fun a u => a = rz ∧ u = σz) (poW (wM X) (tM X) (aM X) X sz) (aA (aM X) sz)) args s 0 0 (aA (aM X) sz)) (F0 m 16 ls []) := by
    intro  H locs ls Z hl h2
    rw [eJ3] at h2
    refine lv_aload_n hx hb dX12_same_16 rfl (lv_at hl 0 rfl) ?_
    refine lv_ldc hx hb B.2.2.2.1 (B.2.2.2.2.1 _ kc_RX12_63) dX12_same_17 ?_
    obtain ⟨r5, σ6, hc3, h3⟩ := db2_s h2
    clear h2
    refine cV_I [.int (-1000002 : Int32)] [] B mx_yX12_refuses (c_fMM_refuses l X _ (-1000002 : Int32) σ r5 σ6 hc3) kl_RX12_168 mi_yX12_refuses (rv_33 _ _) hcl_12 Z hl rfl rfl ⟨Nat.le_of_ble_eq_true rfl, Nat.le_of_ble_eq_true rfl⟩ rfl rfl (Nat.le_of_ble_eq_true rfl) dX12_same_19 (fun H locs Z => ?_)
    clear hc3
    exact reI B Z rfl hz h3 dX12_same_22
  clear eJ3
  refine lv_if_eq (tgt := 16) hx hb dX12_same_5 (by decide) (fun c7 => ?_) (fun c7 => ?_)
  · have h5 := dit h4 c7
    clear h4
    exact kJ3  _ _ _ Z (lv_sub hl [0] rfl) h5
  · have h6 := dif h4 c7
    clear h4
    refine lv_aload_n hx hb dX12_same_8 rfl (lv_at hl 0 rfl) ?_
    refine lv_iload_n hx hb dX12_same_9 rfl (lv_at hl 2 rfl) ?_
    obtain ⟨r9, hc7, h7⟩ := db1_s h6
    clear h6
    refine cV_I [.int a2] [] B mx_yX12_isSet (c_fMM_isSet l X _ a2 σ r9 hc7) kl_RX12_183 mi_yX12_isSet (rv_33 _ _) hcl_12 Z hl rfl rfl ⟨Nat.le_of_ble_eq_true rfl, Nat.le_of_ble_eq_true rfl⟩ rfl rfl (Nat.le_of_ble_eq_true rfl) dX12_same_10 (fun H locs Z => ?_)
    clear hc7
    refine lv_if_ne (tgt := 23) hx hb dX12_same_13 (by decide) (fun c10 => ?_) (fun c10 => ?_)
    · have h8 := dif h7 c10
      clear h7
      refine lv_aload_n hx hb dX12_same_23 rfl (lv_at hl 0 rfl) ?_
      refine lv_iload_n hx hb dX12_same_24 rfl (lv_at hl 1 rfl) ?_
      refine lv_iload_n hx hb dX12_same_25 rfl (lv_at hl 2 rfl) ?_
      obtain ⟨r12, σ13, hc10, h9⟩ := db2_s h8
      clear h8
      refine cV_I [.int a1, .int a2] [] B mx_yX12_bringsAll (c_fMM_bringsAll l X _ a1 a2 σ r12 σ13 hc10) kl_RX12_215 mi_yX12_bringsAll (rv_33 _ _) hcl_12 Z hl rfl rfl ⟨Nat.le_of_ble_eq_true rfl, Nat.le_of_ble_eq_true rfl⟩ rfl rfl (Nat.le_of_ble_eq_true rfl) dX12_same_26 (fun H locs Z => ?_)
      clear hc10
      refine lv_if_eq (tgt := 45) hx hb dX12_same_29 (by decide) (fun c14 => ?_) (fun c14 => ?_)
      · have h10 := dit h9 c14
        clear h9
        refine lv_iconst (v := (0 : Int32)) hx hb dX12_same_45 (by decide) ?_
        exact reI B Z rfl hz h10 dX12_same_46
      · have h11 := dif h9 c14
        clear h9
        refine lv_aload_n hx hb dX12_same_32 rfl (lv_at hl 0 rfl) ?_
        refine lv_iload_n hx hb dX12_same_33 rfl (lv_at hl 2 rfl) ?_
        refine lv_iload_n hx hb dX12_same_34 rfl (lv_at hl 1 rfl) ?_
        obtain ⟨r16, σ17, hc14, h12⟩ := db2_s h11
        clear h11
        refine cV_I [.int a2, .int a1] [] B mx_yX12_bringsAll (c_fMM_bringsAll l X _ a2 a1 σ13 r16 σ17 hc14) kl_RX12_215 mi_yX12_bringsAll (rv_33 _ _) hcl_12 Z hl rfl rfl ⟨Nat.le_of_ble_eq_true rfl, Nat.le_of_ble_eq_true rfl⟩ rfl rfl (Nat.le_of_ble_eq_true rfl) dX12_same_35 (fun H locs Z => ?_)
        clear hc14
        refine lv_if_eq (tgt := 45) hx hb dX12_same_38 (by decide) (fun c18 => ?_) (fun c18 => ?_)
        · have h13 := dit h12 c18
          clear h12
          refine lv_iconst (v := (0 : Int32)) hx hb dX12_same_45 (by decide) ?_
          exact reI B Z rfl hz h13 dX12_same_46
        · have h14 := dif h12 c18
          clear h12
          refine lv_iconst (v := (1 : Int32)) hx hb dX12_same_41 (by decide) ?_
          refine lv_goto (tgt := 46) hx hb dX12_same_42 (by decide) ?_
          exact reI B Z rfl hz h14 dX12_same_46
    · have h15 := dit h7 c10
      clear h7
      exact kJ3  _ _ _ Z (lv_sub hl [0] rfl) h15
theorem dX12_laysWith_0 : decode cX12_laysWith 0 = .ok (.iload_n 2, 1) := by decide +kernel
theorem dX12_laysWith_1 : decode cX12_laysWith 1 = .ok (.ifCond .le 12, 3) := by decide +kernel
theorem dX12_laysWith_4 : decode cX12_laysWith 4 = .ok (.aload_n 0, 1) := by decide +kernel
theorem dX12_laysWith_5 : decode cX12_laysWith 5 = .ok (.getfield 29, 3) := by decide +kernel
theorem dX12_laysWith_8 : decode cX12_laysWith 8 = .ok (.iconst 0, 1) := by decide +kernel
theorem dX12_laysWith_9 : decode cX12_laysWith 9 = .ok (.laload, 1) := by decide +kernel
theorem dX12_laysWith_10 : decode cX12_laysWith 10 = .ok (.goto 4, 3) := by decide +kernel
theorem dX12_laysWith_13 : decode cX12_laysWith 13 = .ok (.lconst 0, 1) := by decide +kernel
theorem dX12_laysWith_14 : decode cX12_laysWith 14 = .ok (.lstore_n 3, 1) := by decide +kernel
theorem dX12_laysWith_15 : decode cX12_laysWith 15 = .ok (.iload_n 2, 1) := by decide +kernel
theorem dX12_laysWith_16 : decode cX12_laysWith 16 = .ok (.ifCond .le 12, 3) := by decide +kernel
theorem dX12_laysWith_19 : decode cX12_laysWith 19 = .ok (.aload_n 0, 1) := by decide +kernel
theorem dX12_laysWith_20 : decode cX12_laysWith 20 = .ok (.getfield 29, 3) := by decide +kernel
theorem dX12_laysWith_23 : decode cX12_laysWith 23 = .ok (.iconst 1, 1) := by decide +kernel
theorem dX12_laysWith_24 : decode cX12_laysWith 24 = .ok (.laload, 1) := by decide +kernel
theorem dX12_laysWith_25 : decode cX12_laysWith 25 = .ok (.goto 4, 3) := by decide +kernel
theorem dX12_laysWith_28 : decode cX12_laysWith 28 = .ok (.lconst 1, 1) := by decide +kernel
theorem dX12_laysWith_29 : decode cX12_laysWith 29 = .ok (.lstore 5, 2) := by decide +kernel
theorem dX12_laysWith_31 : decode cX12_laysWith 31 = .ok (.iload_n 2, 1) := by decide +kernel
theorem dX12_laysWith_32 : decode cX12_laysWith 32 = .ok (.iconst 1, 1) := by decide +kernel
theorem dX12_laysWith_33 : decode cX12_laysWith 33 = .ok (.if_icmp .le 12, 3) := by decide +kernel
theorem dX12_laysWith_36 : decode cX12_laysWith 36 = .ok (.aload_n 0, 1) := by decide +kernel
theorem dX12_laysWith_37 : decode cX12_laysWith 37 = .ok (.getfield 29, 3) := by decide +kernel
theorem dX12_laysWith_40 : decode cX12_laysWith 40 = .ok (.iconst 2, 1) := by decide +kernel
theorem dX12_laysWith_41 : decode cX12_laysWith 41 = .ok (.laload, 1) := by decide +kernel
theorem dX12_laysWith_42 : decode cX12_laysWith 42 = .ok (.goto 4, 3) := by decide +kernel
theorem dX12_laysWith_45 : decode cX12_laysWith 45 = .ok (.lconst 0, 1) := by decide +kernel
theorem dX12_laysWith_46 : decode cX12_laysWith 46 = .ok (.lstore 7, 2) := by decide +kernel
theorem dX12_laysWith_48 : decode cX12_laysWith 48 = .ok (.iload_n 2, 1) := by decide +kernel
theorem dX12_laysWith_49 : decode cX12_laysWith 49 = .ok (.iconst 1, 1) := by decide +kernel
theorem dX12_laysWith_50 : decode cX12_laysWith 50 = .ok (.if_icmp .le 12, 3) := by decide +kernel
theorem dX12_laysWith_53 : decode cX12_laysWith 53 = .ok (.aload_n 0, 1) := by decide +kernel
theorem dX12_laysWith_54 : decode cX12_laysWith 54 = .ok (.getfield 29, 3) := by decide +kernel
theorem dX12_laysWith_57 : decode cX12_laysWith 57 = .ok (.iconst 3, 1) := by decide +kernel
theorem dX12_laysWith_58 : decode cX12_laysWith 58 = .ok (.laload, 1) := by decide +kernel
theorem dX12_laysWith_59 : decode cX12_laysWith 59 = .ok (.goto 4, 3) := by decide +kernel
theorem dX12_laysWith_62 : decode cX12_laysWith 62 = .ok (.lconst 1, 1) := by decide +kernel
theorem dX12_laysWith_63 : decode cX12_laysWith 63 = .ok (.lstore 9, 2) := by decide +kernel
theorem dX12_laysWith_65 : decode cX12_laysWith 65 = .ok (.lload 5, 2) := by decide +kernel
theorem dX12_laysWith_67 : decode cX12_laysWith 67 = .ok (.lload 9, 2) := by decide +kernel
theorem dX12_laysWith_69 : decode cX12_laysWith 69 = .ok (.invokestatic 204, 3) := by decide +kernel
theorem dX12_laysWith_72 : decode cX12_laysWith 72 = .ok (.lstore 11, 2) := by decide +kernel
theorem dX12_laysWith_74 : decode cX12_laysWith 74 = .ok (.lload 5, 2) := by decide +kernel
theorem dX12_laysWith_76 : decode cX12_laysWith 76 = .ok (.lload 11, 2) := by decide +kernel
theorem dX12_laysWith_78 : decode cX12_laysWith 78 = .ok (.ldiv, 1) := by decide +kernel
theorem dX12_laysWith_79 : decode cX12_laysWith 79 = .ok (.lload 9, 2) := by decide +kernel
theorem dX12_laysWith_81 : decode cX12_laysWith 81 = .ok (.lmul, 1) := by decide +kernel
theorem dX12_laysWith_82 : decode cX12_laysWith 82 = .ok (.lstore 13, 2) := by decide +kernel
theorem dX12_laysWith_84 : decode cX12_laysWith 84 = .ok (.aload_n 0, 1) := by decide +kernel
theorem dX12_laysWith_85 : decode cX12_laysWith 85 = .ok (.iconst 0, 1) := by decide +kernel
theorem dX12_laysWith_86 : decode cX12_laysWith 86 = .ok (.putfield 80, 3) := by decide +kernel
theorem dX12_laysWith_89 : decode cX12_laysWith 89 = .ok (.iconst 0, 1) := by decide +kernel
theorem dX12_laysWith_90 : decode cX12_laysWith 90 = .ok (.istore 15, 2) := by decide +kernel
theorem dX12_laysWith_92 : decode cX12_laysWith 92 = .ok (.iload 15, 2) := by decide +kernel
theorem dX12_laysWith_94 : decode cX12_laysWith 94 = .ok (.aload_n 0, 1) := by decide +kernel
theorem dX12_laysWith_95 : decode cX12_laysWith 95 = .ok (.getfield 7, 3) := by decide +kernel
theorem dX12_laysWith_98 : decode cX12_laysWith 98 = .ok (.iconst 0, 1) := by decide +kernel
theorem dX12_laysWith_99 : decode cX12_laysWith 99 = .ok (.iaload, 1) := by decide +kernel
theorem dX12_laysWith_100 : decode cX12_laysWith 100 = .ok (.if_icmp .ge 120, 3) := by decide +kernel
theorem dX12_laysWith_103 : decode cX12_laysWith 103 = .ok (.iload_n 1, 1) := by decide +kernel
theorem dX12_laysWith_104 : decode cX12_laysWith 104 = .ok (.iload 15, 2) := by decide +kernel
theorem dX12_laysWith_106 : decode cX12_laysWith 106 = .ok (.invokestatic 95, 3) := by decide +kernel
theorem dX12_laysWith_109 : decode cX12_laysWith 109 = .ok (.ifCond .eq 105, 3) := by decide +kernel
theorem dX12_laysWith_112 : decode cX12_laysWith 112 = .ok (.aload_n 0, 1) := by decide +kernel
theorem dX12_laysWith_113 : decode cX12_laysWith 113 = .ok (.iload 15, 2) := by decide +kernel
theorem dX12_laysWith_115 : decode cX12_laysWith 115 = .ok (.iconst 4, 1) := by decide +kernel
theorem dX12_laysWith_116 : decode cX12_laysWith 116 = .ok (.invokevirtual 87, 3) := by decide +kernel
theorem dX12_laysWith_119 : decode cX12_laysWith 119 = .ok (.i2l, 1) := by decide +kernel
theorem dX12_laysWith_120 : decode cX12_laysWith 120 = .ok (.lload 13, 2) := by decide +kernel
theorem dX12_laysWith_122 : decode cX12_laysWith 122 = .ok (.lmul, 1) := by decide +kernel
theorem dX12_laysWith_123 : decode cX12_laysWith 123 = .ok (.aload_n 0, 1) := by decide +kernel
theorem dX12_laysWith_124 : decode cX12_laysWith 124 = .ok (.iload 15, 2) := by decide +kernel
theorem dX12_laysWith_126 : decode cX12_laysWith 126 = .ok (.iconst 0, 1) := by decide +kernel
theorem dX12_laysWith_127 : decode cX12_laysWith 127 = .ok (.invokevirtual 87, 3) := by decide +kernel
theorem dX12_laysWith_130 : decode cX12_laysWith 130 = .ok (.i2l, 1) := by decide +kernel
theorem dX12_laysWith_131 : decode cX12_laysWith 131 = .ok (.lload_n 3, 1) := by decide +kernel
theorem dX12_laysWith_132 : decode cX12_laysWith 132 = .ok (.lmul, 1) := by decide +kernel
theorem dX12_laysWith_133 : decode cX12_laysWith 133 = .ok (.lload 13, 2) := by decide +kernel
theorem dX12_laysWith_135 : decode cX12_laysWith 135 = .ok (.lload 5, 2) := by decide +kernel
theorem dX12_laysWith_137 : decode cX12_laysWith 137 = .ok (.ldiv, 1) := by decide +kernel
theorem dX12_laysWith_138 : decode cX12_laysWith 138 = .ok (.lmul, 1) := by decide +kernel
theorem dX12_laysWith_139 : decode cX12_laysWith 139 = .ok (.lsub, 1) := by decide +kernel
theorem dX12_laysWith_140 : decode cX12_laysWith 140 = .ok (.aload_n 0, 1) := by decide +kernel
theorem dX12_laysWith_141 : decode cX12_laysWith 141 = .ok (.iload 15, 2) := by decide +kernel
theorem dX12_laysWith_143 : decode cX12_laysWith 143 = .ok (.iconst 1, 1) := by decide +kernel
theorem dX12_laysWith_144 : decode cX12_laysWith 144 = .ok (.invokevirtual 87, 3) := by decide +kernel
theorem dX12_laysWith_147 : decode cX12_laysWith 147 = .ok (.i2l, 1) := by decide +kernel
theorem dX12_laysWith_148 : decode cX12_laysWith 148 = .ok (.lload 7, 2) := by decide +kernel
theorem dX12_laysWith_150 : decode cX12_laysWith 150 = .ok (.lmul, 1) := by decide +kernel
theorem dX12_laysWith_151 : decode cX12_laysWith 151 = .ok (.lload 13, 2) := by decide +kernel
theorem dX12_laysWith_153 : decode cX12_laysWith 153 = .ok (.lload 9, 2) := by decide +kernel
theorem dX12_laysWith_155 : decode cX12_laysWith 155 = .ok (.ldiv, 1) := by decide +kernel
theorem dX12_laysWith_156 : decode cX12_laysWith 156 = .ok (.lmul, 1) := by decide +kernel
theorem dX12_laysWith_157 : decode cX12_laysWith 157 = .ok (.lsub, 1) := by decide +kernel
theorem dX12_laysWith_158 : decode cX12_laysWith 158 = .ok (.lstore 16, 2) := by decide +kernel
theorem dX12_laysWith_160 : decode cX12_laysWith 160 = .ok (.aload_n 0, 1) := by decide +kernel
theorem dX12_laysWith_161 : decode cX12_laysWith 161 = .ok (.iload_n 2, 1) := by decide +kernel
theorem dX12_laysWith_162 : decode cX12_laysWith 162 = .ok (.ifCond .le 7, 3) := by decide +kernel
theorem dX12_laysWith_165 : decode cX12_laysWith 165 = .ok (.lconst 0, 1) := by decide +kernel
theorem dX12_laysWith_166 : decode cX12_laysWith 166 = .ok (.goto 11, 3) := by decide +kernel
theorem dX12_laysWith_169 : decode cX12_laysWith 169 = .ok (.aload_n 0, 1) := by decide +kernel
theorem dX12_laysWith_170 : decode cX12_laysWith 170 = .ok (.iload 15, 2) := by decide +kernel
theorem dX12_laysWith_172 : decode cX12_laysWith 172 = .ok (.iconst 0, 1) := by decide +kernel
theorem dX12_laysWith_173 : decode cX12_laysWith 173 = .ok (.invokevirtual 87, 3) := by decide +kernel
theorem dX12_laysWith_176 : decode cX12_laysWith 176 = .ok (.i2l, 1) := by decide +kernel
theorem dX12_laysWith_177 : decode cX12_laysWith 177 = .ok (.iload_n 2, 1) := by decide +kernel
theorem dX12_laysWith_178 : decode cX12_laysWith 178 = .ok (.iconst 1, 1) := by decide +kernel
theorem dX12_laysWith_179 : decode cX12_laysWith 179 = .ok (.if_icmp .le 7, 3) := by decide +kernel
theorem dX12_laysWith_182 : decode cX12_laysWith 182 = .ok (.lconst 0, 1) := by decide +kernel
theorem dX12_laysWith_183 : decode cX12_laysWith 183 = .ok (.goto 11, 3) := by decide +kernel
theorem dX12_laysWith_186 : decode cX12_laysWith 186 = .ok (.aload_n 0, 1) := by decide +kernel
theorem dX12_laysWith_187 : decode cX12_laysWith 187 = .ok (.iload 15, 2) := by decide +kernel
theorem dX12_laysWith_189 : decode cX12_laysWith 189 = .ok (.iconst 1, 1) := by decide +kernel
theorem dX12_laysWith_190 : decode cX12_laysWith 190 = .ok (.invokevirtual 87, 3) := by decide +kernel
theorem dX12_laysWith_193 : decode cX12_laysWith 193 = .ok (.i2l, 1) := by decide +kernel
theorem dX12_laysWith_194 : decode cX12_laysWith 194 = .ok (.aload_n 0, 1) := by decide +kernel
theorem dX12_laysWith_195 : decode cX12_laysWith 195 = .ok (.iload 15, 2) := by decide +kernel
theorem dX12_laysWith_197 : decode cX12_laysWith 197 = .ok (.iconst 2, 1) := by decide +kernel
theorem dX12_laysWith_198 : decode cX12_laysWith 198 = .ok (.invokevirtual 87, 3) := by decide +kernel
theorem dX12_laysWith_201 : decode cX12_laysWith 201 = .ok (.i2l, 1) := by decide +kernel
theorem dX12_laysWith_202 : decode cX12_laysWith 202 = .ok (.lload 16, 2) := by decide +kernel
theorem dX12_laysWith_204 : decode cX12_laysWith 204 = .ok (.aload_n 0, 1) := by decide +kernel
theorem dX12_laysWith_205 : decode cX12_laysWith 205 = .ok (.iload 15, 2) := by decide +kernel
theorem dX12_laysWith_207 : decode cX12_laysWith 207 = .ok (.iconst 3, 1) := by decide +kernel
theorem dX12_laysWith_208 : decode cX12_laysWith 208 = .ok (.invokevirtual 87, 3) := by decide +kernel
theorem dX12_laysWith_211 : decode cX12_laysWith 211 = .ok (.invokevirtual 91, 3) := by decide +kernel
theorem dX12_laysWith_214 : decode cX12_laysWith 214 = .ok (.iinc 15 1, 3) := by decide +kernel
theorem dX12_laysWith_217 : decode cX12_laysWith 217 = .ok (.goto (-125), 3) := by decide +kernel
theorem dX12_laysWith_220 : decode cX12_laysWith 220 = .ok (.lload 13, 2) := by decide +kernel
theorem dX12_laysWith_222 : decode cX12_laysWith 222 = .ok (.lreturn, 1) := by decide +kernel
def rm_fMM_laysWith : Room := { frames := 3, cells := 0, slots := 0, locals := 119 }
set_option maxHeartbeats 4000000 in
set_option maxRecDepth 100000 in
theorem c_fMM_laysWith (l : Launch) (X : eX) (sz : Nat) (a1 : Int32) (a2 : Int32) (σ : sT) (rz : Int64) (σz : sT) (h0 : fMM_laysWith a1 a2 σ = some (rz, σz)) : ctL l yX12_laysWith cX12_laysWith 18 (some .long) rm_fMM_laysWith [.ref (X.2.1 33), .int a1, .int a2] (wM X) (tM X) (aM X) X sz σ rz σz := by
  refine ct_of (by decide +kernel) (Nat.le_of_ble_eq_true rfl) ?_
  intro p e s m args below meth c ls hz B hl Z
  have B : Bd p s m args meth c RX12 cX12_laysWith 18 (some .long) := B
  have hl : lv_has ls 18 [(0, .ref (X.2.1 33)), (1, .int a1), (2, .int a2)] := hl
  have hx := B.1
  have hb := B.2.1
  unfold fMM_laysWith at h0
  refine lv_iload_n hx hb dX12_laysWith_0 rfl (lv_at hl 2 rfl) ?_
  obtain ⟨J2, eJ2, h47⟩ := dlt_s h0
  clear h0
  have kJ2 : ∀ (x1 : Int64) (H : Heap) (locs : List Loc) (ls : Array Slot), Wd (wM X) (tM X) (aM X) X s σ H locs → lv_has ls 18 [(0, .ref (X.2.1 33)), (1, .int a1), (2, .int a2)] → J2 x1 = some (rz, σz) → W p l e rm_fMM_laysWith s m args below meth c H locs 0 0 (MQ below (va_Ql (fun a u => a = rz ∧ u = σz) (poW (wM X) (tM X) (aM X) X sz) (aA (aM X) sz)) args s 0 0 (aA (aM X) sz)) (F0 m 14 ls [.long x1]) := by
    intro x1 H locs ls Z hl h1
    rw [eJ2] at h1
    refine lv_lstore_n (lv' := [(3, .long x1), (0, .ref (X.2.1 33)), (1, .int a1), (2, .int a2)]) hx hb dX12_laysWith_14 rfl hl (by decide) rfl (fun ls hl => ?_)
    refine lv_iload_n hx hb dX12_laysWith_15 rfl (lv_at hl 3 rfl) ?_
    obtain ⟨J4, eJ4, h43⟩ := dlt_s h1
    clear h1
    have kJ4 : ∀ (x3 : Int64) (H : Heap) (locs : List Loc) (ls : Array Slot), Wd (wM X) (tM X) (aM X) X s σ H locs → lv_has ls 18 [(0, .ref (X.2.1 33)), (1, .int a1), (2, .int a2), (3, .long x1)] → J4 x3 = some (rz, σz) → W p l e rm_fMM_laysWith s m args below meth c H locs 0 0 (MQ below (va_Ql (fun a u => a = rz ∧ u = σz) (poW (wM X) (tM X) (aM X) X sz) (aA (aM X) sz)) args s 0 0 (aA (aM X) sz)) (F0 m 29 ls [.long x3]) := by
      intro x3 H locs ls Z hl h2
      rw [eJ4] at h2
      refine lv_lstore (lv' := [(5, .long x3), (0, .ref (X.2.1 33)), (1, .int a1), (2, .int a2), (3, .long x1)]) hx hb dX12_laysWith_29 hl (by decide) rfl (fun ls hl => ?_)
      refine lv_iload_n hx hb dX12_laysWith_31 rfl (lv_at hl 3 rfl) ?_
      refine lv_iconst (v := (1 : Int32)) hx hb dX12_laysWith_32 (by decide) ?_
      obtain ⟨J6, eJ6, h39⟩ := dlt_s h2
      clear h2
      have kJ6 : ∀ (x5 : Int64) (H : Heap) (locs : List Loc) (ls : Array Slot), Wd (wM X) (tM X) (aM X) X s σ H locs → lv_has ls 18 [(0, .ref (X.2.1 33)), (1, .int a1), (2, .int a2), (3, .long x1), (5, .long x3)] → J6 x5 = some (rz, σz) → W p l e rm_fMM_laysWith s m args below meth c H locs 0 0 (MQ below (va_Ql (fun a u => a = rz ∧ u = σz) (poW (wM X) (tM X) (aM X) X sz) (aA (aM X) sz)) args s 0 0 (aA (aM X) sz)) (F0 m 46 ls [.long x5]) := by
        intro x5 H locs ls Z hl h3
        rw [eJ6] at h3
        refine lv_lstore (lv' := [(7, .long x5), (0, .ref (X.2.1 33)), (1, .int a1), (2, .int a2), (3, .long x1), (5, .long x3)]) hx hb dX12_laysWith_46 hl (by decide) rfl (fun ls hl => ?_)
        refine lv_iload_n hx hb dX12_laysWith_48 rfl (lv_at hl 3 rfl) ?_
        refine lv_iconst (v := (1 : Int32)) hx hb dX12_laysWith_49 (by decide) ?_
        obtain ⟨J8, eJ8, h35⟩ := dlt_s h3
        clear h3
        have kJ8 : ∀ (x7 : Int64) (H : Heap) (locs : List Loc) (ls : Array Slot), Wd (wM X) (tM X) (aM X) X s σ H locs → lv_has ls 18 [(0, .ref (X.2.1 33)), (1, .int a1), (2, .int a2), (3, .long x1), (5, .long x3), (7, .long x5)] → J8 x7 = some (rz, σz) → W p l e rm_fMM_laysWith s m args below meth c H locs 0 0 (MQ below (va_Ql (fun a u => a = rz ∧ u = σz) (poW (wM X) (tM X) (aM X) X sz) (aA (aM X) sz)) args s 0 0 (aA (aM X) sz)) (F0 m 63 ls [.long x7]) := by
          intro x7 H locs ls Z hl h4
          rw [eJ8] at h4
          refine lv_lstore (lv' := [(9, .long x7), (0, .ref (X.2.1 33)), (1, .int a1), (2, .int a2), (3, .long x1), (5, .long x3), (7, .long x5)]) hx hb dX12_laysWith_63 hl (by decide) rfl (fun ls hl => ?_)
          refine lv_lload hx hb dX12_laysWith_65 (lv_at hl 5 rfl) ?_
          refine lv_lload hx hb dX12_laysWith_67 (lv_at hl 0 rfl) ?_
          obtain ⟨r10, hc8, h5⟩ := db1_s h4
          clear h4
          refine cS_L [.long x3, .long x7] [] B mx_yX12_divisor (c_fMM_divisor l X _ x3 x7 σ r10 hc8) kl_RX12_204 ks_yX12_divisor Z hl rfl rfl ⟨Nat.le_of_ble_eq_true rfl, Nat.le_of_ble_eq_true rfl⟩ rfl rfl (Nat.le_of_ble_eq_true rfl) dX12_laysWith_69 (fun H locs Z => ?_)
          clear hc8
          refine lv_lstore (lv' := [(11, .long r10), (9, .long x7), (0, .ref (X.2.1 33)), (1, .int a1), (2, .int a2), (3, .long x1), (5, .long x3), (7, .long x5)]) hx hb dX12_laysWith_72 hl (by decide) rfl (fun ls hl => ?_)
          refine lv_lload hx hb dX12_laysWith_74 (lv_at hl 6 rfl) ?_
          refine lv_lload hx hb dX12_laysWith_76 (lv_at hl 0 rfl) ?_
          obtain ⟨z11, h6⟩ := dck_s h5
          clear h5
          refine lv_ldiv hx hb dX12_laysWith_78 (okE_s z11) ?_
          refine lv_lload hx hb dX12_laysWith_79 (lv_at hl 1 rfl) ?_
          refine lv_lmul hx hb dX12_laysWith_81 ?_
          refine lv_topl (fun x12 ex12 => ?_)
          have h7 := dlt_e ex12 h6
          clear ex12 h6
          refine lv_lstore (lv' := [(13, .long x12), (11, .long r10), (9, .long x7), (0, .ref (X.2.1 33)), (1, .int a1), (2, .int a2), (3, .long x1), (5, .long x3), (7, .long x5)]) hx hb dX12_laysWith_82 hl (by decide) rfl (fun ls hl => ?_)
          refine lv_aload_n hx hb dX12_laysWith_84 rfl (lv_at hl 3 rfl) ?_
          refine lv_iconst (v := (0 : Int32)) hx hb dX12_laysWith_85 (by decide) ?_
          refine s_33_5 B Z kf_RX12_80 dX12_laysWith_86 (fun H locs Z => ?_)
          obtain ⟨σ13, eσ13, h8⟩ := dlt_s h7
          clear h7
          replace Z := Wd.eq eσ13 Z
          clear eσ13
          refine lv_iconst (v := (0 : Int32)) hx hb dX12_laysWith_89 (by decide) ?_
          refine lv_istore (lv' := [(15, .int (0 : Int32)), (13, .long x12), (11, .long r10), (9, .long x7), (0, .ref (X.2.1 33)), (1, .int a1), (2, .int a2), (3, .long x1), (5, .long x3), (7, .long x5)]) hx hb dX12_laysWith_90 hl (by decide) rfl (fun ls hl => ?_)
          have lL92 : ∀ (n : Nat), ∀ (x14 : Int32) (σ15 : sT) (H : Heap) (locs : List Loc) (ls : Array Slot), Wd (wM X) (tM X) (aM X) X s σ15 H locs → lv_has ls 18 [(0, .ref (X.2.1 33)), (1, .int a1), (2, .int a2), (3, .long x1), (5, .long x3), (7, .long x5), (9, .long x7), (13, .long x12), (15, .int x14)] → fMM_laysWith_L92 a1 a2 x1 x3 x5 x7 x12 n x14 σ15 = some (rz, σz) → W p l e rm_fMM_laysWith s m args below meth c H locs 0 0 (MQ below (va_Ql (fun a u => a = rz ∧ u = σz) (poW (wM X) (tM X) (aM X) X sz) (aA (aM X) sz)) args s 0 0 (aA (aM X) sz)) (F0 m 92 ls []) := by
            intro n
            induction n with
            | zero =>
              intro x14 σ15 H locs ls Z hl h
              exact nomatch (show (none : Option (Int64 × sT)) = some _ from h)
            | succ n16 ih53 =>
              intro x14 σ15 H locs ls Z hl h9
              unfold fMM_laysWith_L92 at h9
              refine lv_iload hx hb dX12_laysWith_92 (lv_at hl 8 rfl) ?_
              refine lv_aload_n hx hb dX12_laysWith_94 rfl (lv_at hl 0 rfl) ?_
              refine g_33_0 B Z kf_RX12_7 dX12_laysWith_95 ?_
              refine lv_iconst (v := (0 : Int32)) hx hb dX12_laysWith_98 (by decide) ?_
              obtain ⟨z17, h10⟩ := dck_s h9
              clear h9
              refine ld_34 B Z z17 dX12_laysWith_99 ?_
              refine lv_icmp_ge (tgt := 220) hx hb dX12_laysWith_100 (by decide) (fun c18 => ?_) (fun c18 => ?_)
              · have h11 := dit h10 c18
                clear h10
                refine lv_lload hx hb dX12_laysWith_220 (lv_at hl 7 rfl) ?_
                exact reL B Z hz h11 dX12_laysWith_222
              · have h12 := dif h10 c18
                clear h10
                refine lv_iload_n hx hb dX12_laysWith_103 rfl (lv_at hl 1 rfl) ?_
                refine lv_iload hx hb dX12_laysWith_104 (lv_at hl 8 rfl) ?_
                obtain ⟨r20, hc18, h13⟩ := db1_s h12
                clear h12
                refine cS_I [.int a1, .int x14] [] B mx_yX12_has (c_fMM_has l X _ a1 x14 σ15 r20 hc18) kl_RX12_95 ks_yX12_has Z hl rfl rfl ⟨Nat.le_of_ble_eq_true rfl, Nat.le_of_ble_eq_true rfl⟩ rfl rfl (Nat.le_of_ble_eq_true rfl) dX12_laysWith_106 (fun H locs Z => ?_)
                clear hc18
                refine lv_if_eq (tgt := 214) hx hb dX12_laysWith_109 (by decide) (fun c21 => ?_) (fun c21 => ?_)
                · have h14 := dit h13 c21
                  clear h13
                  refine lv_iinc (v := x14 + (1 : Int32)) (lv' := [(15, .int (x14 + (1 : Int32))), (0, .ref (X.2.1 33)), (1, .int a1), (2, .int a2), (3, .long x1), (5, .long x3), (7, .long x5), (9, .long x7), (13, .long x12)]) hx hb dX12_laysWith_214 hl (k := 8) rfl (by rfl) (by decide) rfl (fun ls hl => ?_)
                  refine lv_goto (tgt := 92) hx hb dX12_laysWith_217 (by decide) ?_
                  exact ih53 (x14 + (1 : Int32)) σ15 _ _ _ Z (lv_sub hl [1, 2, 3, 4, 5, 6, 7, 8, 0] rfl) h14
                · have h15 := dif h13 c21
                  clear h13
                  refine lv_aload_n hx hb dX12_laysWith_112 rfl (lv_at hl 0 rfl) ?_
                  refine lv_iload hx hb dX12_laysWith_113 (lv_at hl 8 rfl) ?_
                  refine lv_iconst (v := (4 : Int32)) hx hb dX12_laysWith_115 (by decide) ?_
                  obtain ⟨r23, hc21, h16⟩ := db1_s h15
                  clear h15
                  refine cV_I [.int x14, .int (4 : Int32)] [] B mx_yX12_at (c_fMM_at l X _ x14 (4 : Int32) σ15 r23 hc21) kl_RX12_87 mi_yX12_at (rv_33 _ _) hcl_12 Z hl rfl rfl ⟨Nat.le_of_ble_eq_true rfl, Nat.le_of_ble_eq_true rfl⟩ rfl rfl (Nat.le_of_ble_eq_true rfl) dX12_laysWith_116 (fun H locs Z => ?_)
                  clear hc21
                  refine lv_i2l hx hb dX12_laysWith_119 rfl ?_
                  refine lv_lload hx hb dX12_laysWith_120 (lv_at hl 7 rfl) ?_
                  refine lv_lmul hx hb dX12_laysWith_122 ?_
                  refine lv_aload_n hx hb dX12_laysWith_123 rfl (lv_at hl 0 rfl) ?_
                  refine lv_iload hx hb dX12_laysWith_124 (lv_at hl 8 rfl) ?_
                  refine lv_iconst (v := (0 : Int32)) hx hb dX12_laysWith_126 (by decide) ?_
                  obtain ⟨r25, hc23, h17⟩ := db1_s h16
                  clear h16
                  refine cV_I [.int x14, .int (0 : Int32)] [.long (r23.toInt64 * x12)] B mx_yX12_at (c_fMM_at l X _ x14 (0 : Int32) σ15 r25 hc23) kl_RX12_87 mi_yX12_at (rv_33 _ _) hcl_12 Z hl rfl rfl ⟨Nat.le_of_ble_eq_true rfl, Nat.le_of_ble_eq_true rfl⟩ rfl rfl (Nat.le_of_ble_eq_true rfl) dX12_laysWith_127 (fun H locs Z => ?_)
                  clear hc23
                  refine lv_i2l hx hb dX12_laysWith_130 rfl ?_
                  refine lv_lload_n hx hb dX12_laysWith_131 rfl (lv_at hl 3 rfl) ?_
                  refine lv_lmul hx hb dX12_laysWith_132 ?_
                  refine lv_lload hx hb dX12_laysWith_133 (lv_at hl 7 rfl) ?_
                  refine lv_lload hx hb dX12_laysWith_135 (lv_at hl 4 rfl) ?_
                  obtain ⟨z26, h18⟩ := dck_s h17
                  clear h17
                  refine lv_ldiv hx hb dX12_laysWith_137 (okE_s z26) ?_
                  refine lv_lmul hx hb dX12_laysWith_138 ?_
                  refine lv_lsub hx hb dX12_laysWith_139 ?_
                  refine lv_aload_n hx hb dX12_laysWith_140 rfl (lv_at hl 0 rfl) ?_
                  refine lv_iload hx hb dX12_laysWith_141 (lv_at hl 8 rfl) ?_
                  refine lv_iconst (v := (1 : Int32)) hx hb dX12_laysWith_143 (by decide) ?_
                  obtain ⟨r28, hc26, h19⟩ := db1_s h18
                  clear h18
                  refine cV_I [.int x14, .int (1 : Int32)] [.long ((r23.toInt64 * x12) - ((r25.toInt64 * x1) * (x12 / x3)))] B mx_yX12_at (c_fMM_at l X _ x14 (1 : Int32) σ15 r28 hc26) kl_RX12_87 mi_yX12_at (rv_33 _ _) hcl_12 Z hl rfl rfl ⟨Nat.le_of_ble_eq_true rfl, Nat.le_of_ble_eq_true rfl⟩ rfl rfl (Nat.le_of_ble_eq_true rfl) dX12_laysWith_144 (fun H locs Z => ?_)
                  clear hc26
                  refine lv_i2l hx hb dX12_laysWith_147 rfl ?_
                  refine lv_lload hx hb dX12_laysWith_148 (lv_at hl 5 rfl) ?_
                  refine lv_lmul hx hb dX12_laysWith_150 ?_
                  refine lv_lload hx hb dX12_laysWith_151 (lv_at hl 7 rfl) ?_
                  refine lv_lload hx hb dX12_laysWith_153 (lv_at hl 6 rfl) ?_
                  obtain ⟨z29, h20⟩ := dck_s h19
                  clear h19
                  refine lv_ldiv hx hb dX12_laysWith_155 (okE_s z29) ?_
                  refine lv_lmul hx hb dX12_laysWith_156 ?_
                  refine lv_lsub hx hb dX12_laysWith_157 ?_
                  refine lv_topl (fun x30 ex30 => ?_)
                  have h21 := dlt_e ex30 h20
                  clear ex30 h20
                  refine lv_lstore (lv' := [(16, .long x30), (0, .ref (X.2.1 33)), (1, .int a1), (2, .int a2), (3, .long x1), (5, .long x3), (7, .long x5), (9, .long x7), (13, .long x12), (15, .int x14)]) hx hb dX12_laysWith_158 hl (by decide) rfl (fun ls hl => ?_)
                  refine lv_aload_n hx hb dX12_laysWith_160 rfl (lv_at hl 1 rfl) ?_
                  refine lv_iload_n hx hb dX12_laysWith_161 rfl (lv_at hl 3 rfl) ?_
                  obtain ⟨J32, eJ32, h31⟩ := dlt_s h21
                  clear h21
                  have kJ32 : ∀ (x31 : Int64) (H : Heap) (locs : List Loc) (ls : Array Slot), Wd (wM X) (tM X) (aM X) X s σ15 H locs → lv_has ls 18 [(0, .ref (X.2.1 33)), (1, .int a1), (2, .int a2), (3, .long x1), (5, .long x3), (7, .long x5), (9, .long x7), (13, .long x12), (15, .int x14), (16, .long x30)] → J32 x31 = some (rz, σz) → W p l e rm_fMM_laysWith s m args below meth c H locs 0 0 (MQ below (va_Ql (fun a u => a = rz ∧ u = σz) (poW (wM X) (tM X) (aM X) X sz) (aA (aM X) sz)) args s 0 0 (aA (aM X) sz)) (F0 m 177 ls [.long x31, .ref (X.2.1 33)]) := by
                    intro x31 H locs ls Z hl h22
                    rw [eJ32] at h22
                    refine lv_iload_n hx hb dX12_laysWith_177 rfl (lv_at hl 2 rfl) ?_
                    refine lv_iconst (v := (1 : Int32)) hx hb dX12_laysWith_178 (by decide) ?_
                    obtain ⟨J35, eJ35, h27⟩ := dlt_s h22
                    clear h22
                    have kJ35 : ∀ (x33 : Int64) (x34 : Int64) (H : Heap) (locs : List Loc) (ls : Array Slot), Wd (wM X) (tM X) (aM X) X s σ15 H locs → lv_has ls 18 [(0, .ref (X.2.1 33)), (1, .int a1), (2, .int a2), (3, .long x1), (5, .long x3), (7, .long x5), (9, .long x7), (13, .long x12), (15, .int x14), (16, .long x30)] → J35 x33 x34 = some (rz, σz) → W p l e rm_fMM_laysWith s m args below meth c H locs 0 0 (MQ below (va_Ql (fun a u => a = rz ∧ u = σz) (poW (wM X) (tM X) (aM X) X sz) (aA (aM X) sz)) args s 0 0 (aA (aM X) sz)) (F0 m 194 ls [.long x34, .long x33, .ref (X.2.1 33)]) := by
                      intro x33 x34 H locs ls Z hl h23
                      rw [eJ35] at h23
                      refine lv_aload_n hx hb dX12_laysWith_194 rfl (lv_at hl 0 rfl) ?_
                      refine lv_iload hx hb dX12_laysWith_195 (lv_at hl 8 rfl) ?_
                      refine lv_iconst (v := (2 : Int32)) hx hb dX12_laysWith_197 (by decide) ?_
                      obtain ⟨r37, hc35, h24⟩ := db1_s h23
                      clear h23
                      refine cV_I [.int x14, .int (2 : Int32)] [.long x34, .long x33, .ref (X.2.1 33)] B mx_yX12_at (c_fMM_at l X _ x14 (2 : Int32) σ15 r37 hc35) kl_RX12_87 mi_yX12_at (rv_33 _ _) hcl_12 Z hl rfl rfl ⟨Nat.le_of_ble_eq_true rfl, Nat.le_of_ble_eq_true rfl⟩ rfl rfl (Nat.le_of_ble_eq_true rfl) dX12_laysWith_198 (fun H locs Z => ?_)
                      clear hc35
                      refine lv_i2l hx hb dX12_laysWith_201 rfl ?_
                      refine lv_lload hx hb dX12_laysWith_202 (lv_at hl 9 rfl) ?_
                      refine lv_aload_n hx hb dX12_laysWith_204 rfl (lv_at hl 0 rfl) ?_
                      refine lv_iload hx hb dX12_laysWith_205 (lv_at hl 8 rfl) ?_
                      refine lv_iconst (v := (3 : Int32)) hx hb dX12_laysWith_207 (by decide) ?_
                      obtain ⟨r39, hc37, h25⟩ := db1_s h24
                      clear h24
                      refine cVw_I [.int x14, .int (3 : Int32)] [.long x30, .long r37.toInt64, .long x34, .long x33, .ref (X.2.1 33)] B mx_yX12_at (c_fMM_at l X _ x14 (3 : Int32) σ15 r39 hc37) kl_RX12_87 mi_yX12_at (rv_33 _ _) hcl_12 Z hl rfl rfl ⟨Nat.le_of_ble_eq_true rfl, Nat.le_of_ble_eq_true rfl⟩ rfl rfl 16 (Nat.le_of_ble_eq_true rfl) (Nat.le_of_ble_eq_true rfl) dX12_laysWith_208 (fun H locs Z => ?_)
                      clear hc37
                      obtain ⟨σ41, hc39, h26⟩ := db1_s h25
                      clear h25
                      refine cV_V [.long x33, .long x34, .long r37.toInt64, .long x30, .int r39] [] B mx_yX12_laysSum (c_fMM_laysSum l X _ x33 x34 r37.toInt64 x30 r39 σ15 σ41 hc39) kl_RX12_91 mi_yX12_laysSum (rv_33 _ _) hcl_12 Z hl rfl rfl ⟨Nat.le_of_ble_eq_true rfl, Nat.le_of_ble_eq_true rfl⟩ rfl rfl (Nat.le_of_ble_eq_true rfl) dX12_laysWith_211 (fun H locs Z => ?_)
                      clear hc39
                      refine lv_iinc (v := x14 + (1 : Int32)) (lv' := [(15, .int (x14 + (1 : Int32))), (0, .ref (X.2.1 33)), (1, .int a1), (2, .int a2), (3, .long x1), (5, .long x3), (7, .long x5), (9, .long x7), (13, .long x12), (16, .long x30)]) hx hb dX12_laysWith_214 hl (k := 8) rfl (by rfl) (by decide) rfl (fun ls hl => ?_)
                      refine lv_goto (tgt := 92) hx hb dX12_laysWith_217 (by decide) ?_
                      exact ih53 (x14 + (1 : Int32)) σ41 _ _ _ Z (lv_sub hl [1, 2, 3, 4, 5, 6, 7, 8, 0] rfl) h26
                    clear eJ35
                    refine lv_icmp_le (tgt := 186) hx hb dX12_laysWith_179 (by decide) (fun c42 => ?_) (fun c42 => ?_)
                    · have h28 := dit h27 c42
                      clear h27
                      refine lv_aload_n hx hb dX12_laysWith_186 rfl (lv_at hl 0 rfl) ?_
                      refine lv_iload hx hb dX12_laysWith_187 (lv_at hl 8 rfl) ?_
                      refine lv_iconst (v := (1 : Int32)) hx hb dX12_laysWith_189 (by decide) ?_
                      obtain ⟨r44, hc42, h29⟩ := db1_s h28
                      clear h28
                      refine cV_I [.int x14, .int (1 : Int32)] [.long x31, .ref (X.2.1 33)] B mx_yX12_at (c_fMM_at l X _ x14 (1 : Int32) σ15 r44 hc42) kl_RX12_87 mi_yX12_at (rv_33 _ _) hcl_12 Z hl rfl rfl ⟨Nat.le_of_ble_eq_true rfl, Nat.le_of_ble_eq_true rfl⟩ rfl rfl (Nat.le_of_ble_eq_true rfl) dX12_laysWith_190 (fun H locs Z => ?_)
                      clear hc42
                      refine lv_i2l hx hb dX12_laysWith_193 rfl ?_
                      exact kJ35 x31 r44.toInt64 _ _ _ Z (lv_sub hl [0, 1, 2, 3, 4, 5, 6, 7, 8, 9] rfl) h29
                    · have h30 := dif h27 c42
                      clear h27
                      refine lv_lconst (v := (0 : Int64)) hx hb dX12_laysWith_182 (by decide) ?_
                      refine lv_goto (tgt := 194) hx hb dX12_laysWith_183 (by decide) ?_
                      exact kJ35 x31 (0 : Int64) _ _ _ Z (lv_sub hl [0, 1, 2, 3, 4, 5, 6, 7, 8, 9] rfl) h30
                  clear eJ32
                  refine lv_if_le (tgt := 169) hx hb dX12_laysWith_162 (by decide) (fun c45 => ?_) (fun c45 => ?_)
                  · have h32 := dit h31 c45
                    clear h31
                    refine lv_aload_n hx hb dX12_laysWith_169 rfl (lv_at hl 1 rfl) ?_
                    refine lv_iload hx hb dX12_laysWith_170 (lv_at hl 9 rfl) ?_
                    refine lv_iconst (v := (0 : Int32)) hx hb dX12_laysWith_172 (by decide) ?_
                    obtain ⟨r47, hc45, h33⟩ := db1_s h32
                    clear h32
                    refine cV_I [.int x14, .int (0 : Int32)] [.ref (X.2.1 33)] B mx_yX12_at (c_fMM_at l X _ x14 (0 : Int32) σ15 r47 hc45) kl_RX12_87 mi_yX12_at (rv_33 _ _) hcl_12 Z hl rfl rfl ⟨Nat.le_of_ble_eq_true rfl, Nat.le_of_ble_eq_true rfl⟩ rfl rfl (Nat.le_of_ble_eq_true rfl) dX12_laysWith_173 (fun H locs Z => ?_)
                    clear hc45
                    refine lv_i2l hx hb dX12_laysWith_176 rfl ?_
                    exact kJ32 r47.toInt64 _ _ _ Z (lv_sub hl [1, 2, 3, 4, 5, 6, 7, 8, 9, 0] rfl) h33
                  · have h34 := dif h31 c45
                    clear h31
                    refine lv_lconst (v := (0 : Int64)) hx hb dX12_laysWith_165 (by decide) ?_
                    refine lv_goto (tgt := 177) hx hb dX12_laysWith_166 (by decide) ?_
                    exact kJ32 (0 : Int64) _ _ _ Z (lv_sub hl [1, 2, 3, 4, 5, 6, 7, 8, 9, 0] rfl) h34
          exact lL92 FU (0 : Int32) σ13 _ _ _ Z (lv_sub hl [4, 5, 6, 7, 8, 9, 3, 1, 0] rfl) h8
        clear eJ8
        refine lv_icmp_le (tgt := 62) hx hb dX12_laysWith_50 (by decide) (fun c48 => ?_) (fun c48 => ?_)
        · have h36 := dit h35 c48
          clear h35
          refine lv_lconst (v := (1 : Int64)) hx hb dX12_laysWith_62 (by decide) ?_
          exact kJ8 (1 : Int64) _ _ _ Z (lv_sub hl [1, 2, 3, 4, 5, 0] rfl) h36
        · have h37 := dif h35 c48
          clear h35
          refine lv_aload_n hx hb dX12_laysWith_53 rfl (lv_at hl 1 rfl) ?_
          refine g_33_18 B Z kf_RX12_29 dX12_laysWith_54 ?_
          refine lv_iconst (v := (3 : Int32)) hx hb dX12_laysWith_57 (by decide) ?_
          obtain ⟨z49, h38⟩ := dck_s h37
          clear h37
          refine ld_40 B Z z49 dX12_laysWith_58 ?_
          refine lv_goto (tgt := 63) hx hb dX12_laysWith_59 (by decide) ?_
          exact kJ8 (σ.2 40 (3 : Int32).toNatClampNeg) _ _ _ Z (lv_sub hl [1, 2, 3, 4, 5, 0] rfl) h38
      clear eJ6
      refine lv_icmp_le (tgt := 45) hx hb dX12_laysWith_33 (by decide) (fun c50 => ?_) (fun c50 => ?_)
      · have h40 := dit h39 c50
        clear h39
        refine lv_lconst (v := (0 : Int64)) hx hb dX12_laysWith_45 (by decide) ?_
        exact kJ6 (0 : Int64) _ _ _ Z (lv_sub hl [1, 2, 3, 4, 0] rfl) h40
      · have h41 := dif h39 c50
        clear h39
        refine lv_aload_n hx hb dX12_laysWith_36 rfl (lv_at hl 1 rfl) ?_
        refine g_33_18 B Z kf_RX12_29 dX12_laysWith_37 ?_
        refine lv_iconst (v := (2 : Int32)) hx hb dX12_laysWith_40 (by decide) ?_
        obtain ⟨z51, h42⟩ := dck_s h41
        clear h41
        refine ld_40 B Z z51 dX12_laysWith_41 ?_
        refine lv_goto (tgt := 46) hx hb dX12_laysWith_42 (by decide) ?_
        exact kJ6 (σ.2 40 (2 : Int32).toNatClampNeg) _ _ _ Z (lv_sub hl [1, 2, 3, 4, 0] rfl) h42
    clear eJ4
    refine lv_if_le (tgt := 28) hx hb dX12_laysWith_16 (by decide) (fun c52 => ?_) (fun c52 => ?_)
    · have h44 := dit h43 c52
      clear h43
      refine lv_lconst (v := (1 : Int64)) hx hb dX12_laysWith_28 (by decide) ?_
      exact kJ4 (1 : Int64) _ _ _ Z (lv_sub hl [1, 2, 3, 0] rfl) h44
    · have h45 := dif h43 c52
      clear h43
      refine lv_aload_n hx hb dX12_laysWith_19 rfl (lv_at hl 1 rfl) ?_
      refine g_33_18 B Z kf_RX12_29 dX12_laysWith_20 ?_
      refine lv_iconst (v := (1 : Int32)) hx hb dX12_laysWith_23 (by decide) ?_
      obtain ⟨z53, h46⟩ := dck_s h45
      clear h45
      refine ld_40 B Z z53 dX12_laysWith_24 ?_
      refine lv_goto (tgt := 29) hx hb dX12_laysWith_25 (by decide) ?_
      exact kJ4 (σ.2 40 (1 : Int32).toNatClampNeg) _ _ _ Z (lv_sub hl [1, 2, 3, 0] rfl) h46
  clear eJ2
  refine lv_if_le (tgt := 13) hx hb dX12_laysWith_1 (by decide) (fun c54 => ?_) (fun c54 => ?_)
  · have h48 := dit h47 c54
    clear h47
    refine lv_lconst (v := (0 : Int64)) hx hb dX12_laysWith_13 (by decide) ?_
    exact kJ2 (0 : Int64) _ _ _ Z (lv_sub hl [0, 1, 2] rfl) h48
  · have h49 := dif h47 c54
    clear h47
    refine lv_aload_n hx hb dX12_laysWith_4 rfl (lv_at hl 0 rfl) ?_
    refine g_33_18 B Z kf_RX12_29 dX12_laysWith_5 ?_
    refine lv_iconst (v := (0 : Int32)) hx hb dX12_laysWith_8 (by decide) ?_
    obtain ⟨z55, h50⟩ := dck_s h49
    clear h49
    refine ld_40 B Z z55 dX12_laysWith_9 ?_
    refine lv_goto (tgt := 14) hx hb dX12_laysWith_10 (by decide) ?_
    exact kJ2 (σ.2 40 (0 : Int32).toNatClampNeg) _ _ _ Z (lv_sub hl [0, 1, 2] rfl) h50
theorem dX12_floor_0 : decode cX12_floor 0 = .ok (.lload_n 0, 1) := by decide +kernel
theorem dX12_floor_1 : decode cX12_floor 1 = .ok (.lload_n 2, 1) := by decide +kernel
theorem dX12_floor_2 : decode cX12_floor 2 = .ok (.ldiv, 1) := by decide +kernel
theorem dX12_floor_3 : decode cX12_floor 3 = .ok (.lstore 4, 2) := by decide +kernel
theorem dX12_floor_5 : decode cX12_floor 5 = .ok (.lload_n 0, 1) := by decide +kernel
theorem dX12_floor_6 : decode cX12_floor 6 = .ok (.lload_n 2, 1) := by decide +kernel
theorem dX12_floor_7 : decode cX12_floor 7 = .ok (.lrem, 1) := by decide +kernel
theorem dX12_floor_8 : decode cX12_floor 8 = .ok (.lconst 0, 1) := by decide +kernel
theorem dX12_floor_9 : decode cX12_floor 9 = .ok (.lcmp, 1) := by decide +kernel
theorem dX12_floor_10 : decode cX12_floor 10 = .ok (.ifCond .eq 16, 3) := by decide +kernel
theorem dX12_floor_13 : decode cX12_floor 13 = .ok (.lload_n 0, 1) := by decide +kernel
theorem dX12_floor_14 : decode cX12_floor 14 = .ok (.lconst 0, 1) := by decide +kernel
theorem dX12_floor_15 : decode cX12_floor 15 = .ok (.lcmp, 1) := by decide +kernel
theorem dX12_floor_16 : decode cX12_floor 16 = .ok (.ifCond .ge 10, 3) := by decide +kernel
theorem dX12_floor_19 : decode cX12_floor 19 = .ok (.lload 4, 2) := by decide +kernel
theorem dX12_floor_21 : decode cX12_floor 21 = .ok (.lconst 1, 1) := by decide +kernel
theorem dX12_floor_22 : decode cX12_floor 22 = .ok (.lsub, 1) := by decide +kernel
theorem dX12_floor_23 : decode cX12_floor 23 = .ok (.goto 5, 3) := by decide +kernel
theorem dX12_floor_26 : decode cX12_floor 26 = .ok (.lload 4, 2) := by decide +kernel
theorem dX12_floor_28 : decode cX12_floor 28 = .ok (.lreturn, 1) := by decide +kernel
def rm_fMM_floor : Room := { frames := 1, cells := 0, slots := 0, locals := 60 }
set_option maxHeartbeats 4000000 in
set_option maxRecDepth 100000 in
theorem c_fMM_floor (l : Launch) (X : eX) (sz : Nat) (a1 : Int64) (a2 : Int64) (σ : sT) (rz : Int64) (h0 : fMM_floor a1 a2 = some rz) : ctL l yX12_floor cX12_floor 6 (some .long) rm_fMM_floor [.long a1, .long a2] (wM X) (tM X) (aM X) X sz σ rz σ := by
  refine ct_of (by decide +kernel) (Nat.le_of_ble_eq_true rfl) ?_
  intro p e s m args below meth c ls hz B hl Z
  have B : Bd p s m args meth c RX12 cX12_floor 6 (some .long) := B
  have hl : lv_has ls 6 [(0, .long a1), (2, .long a2)] := hl
  have hx := B.1
  have hb := B.2.1
  unfold fMM_floor at h0
  refine lv_lload_n hx hb dX12_floor_0 rfl (lv_at hl 0 rfl) ?_
  refine lv_lload_n hx hb dX12_floor_1 rfl (lv_at hl 1 rfl) ?_
  obtain ⟨z1, h1⟩ := dck_s h0
  clear h0
  refine lv_ldiv hx hb dX12_floor_2 (okE_s z1) ?_
  refine lv_topl (fun x2 ex2 => ?_)
  have h2 := dlt_e ex2 h1
  clear ex2 h1
  refine lv_lstore (lv' := [(4, .long x2), (0, .long a1), (2, .long a2)]) hx hb dX12_floor_3 hl (by decide) rfl (fun ls hl => ?_)
  refine lv_lload_n hx hb dX12_floor_5 rfl (lv_at hl 1 rfl) ?_
  refine lv_lload_n hx hb dX12_floor_6 rfl (lv_at hl 2 rfl) ?_
  obtain ⟨z3, h3⟩ := dck_s h2
  clear h2
  refine lv_lrem hx hb dX12_floor_7 (okE_s z3) ?_
  refine lv_lconst (v := (0 : Int64)) hx hb dX12_floor_8 (by decide) ?_
  refine W.lcmp hx hb dX12_floor_9 ?_
  refine lv_if_eq (tgt := 26) hx hb dX12_floor_10 (by decide) (fun c4 => ?_) (fun c4 => ?_)
  · have h4 := dit h3 c4
    clear h3
    refine lv_lload hx hb dX12_floor_26 (lv_at hl 0 rfl) ?_
    exact reL B Z hz (congrArg (Option.map (fun q => (q, σ))) h4) dX12_floor_28
  · have h5 := dif h3 c4
    clear h3
    refine lv_lload_n hx hb dX12_floor_13 rfl (lv_at hl 1 rfl) ?_
    refine lv_lconst (v := (0 : Int64)) hx hb dX12_floor_14 (by decide) ?_
    refine W.lcmp hx hb dX12_floor_15 ?_
    refine lv_if_ge (tgt := 26) hx hb dX12_floor_16 (by decide) (fun c5 => ?_) (fun c5 => ?_)
    · have h6 := dit h5 c5
      clear h5
      refine lv_lload hx hb dX12_floor_26 (lv_at hl 0 rfl) ?_
      exact reL B Z hz (congrArg (Option.map (fun q => (q, σ))) h6) dX12_floor_28
    · have h7 := dif h5 c5
      clear h5
      refine lv_lload hx hb dX12_floor_19 (lv_at hl 0 rfl) ?_
      refine lv_lconst (v := (1 : Int64)) hx hb dX12_floor_21 (by decide) ?_
      refine lv_lsub hx hb dX12_floor_22 ?_
      refine lv_goto (tgt := 28) hx hb dX12_floor_23 (by decide) ?_
      exact reL B Z hz (congrArg (Option.map (fun q => (q, σ))) h7) dX12_floor_28
