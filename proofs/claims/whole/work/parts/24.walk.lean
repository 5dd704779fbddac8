theorem dX12_minor_0 : decode cX12_minor 0 = .ok (.aload_n 0, 1) := by decide +kernel
theorem dX12_minor_1 : decode cX12_minor 1 = .ok (.iload_n 2, 1) := by decide +kernel
theorem dX12_minor_2 : decode cX12_minor 2 = .ok (.iconst 1, 1) := by decide +kernel
theorem dX12_minor_3 : decode cX12_minor 3 = .ok (.invokevirtual 248, 3) := by decide +kernel
theorem dX12_minor_6 : decode cX12_minor 6 = .ok (.aload_n 0, 1) := by decide +kernel
theorem dX12_minor_7 : decode cX12_minor 7 = .ok (.iload_n 3, 1) := by decide +kernel
theorem dX12_minor_8 : decode cX12_minor 8 = .ok (.iconst 2, 1) := by decide +kernel
theorem dX12_minor_9 : decode cX12_minor 9 = .ok (.invokevirtual 248, 3) := by decide +kernel
theorem dX12_minor_12 : decode cX12_minor 12 = .ok (.lmul, 1) := by decide +kernel
theorem dX12_minor_13 : decode cX12_minor 13 = .ok (.aload_n 0, 1) := by decide +kernel
theorem dX12_minor_14 : decode cX12_minor 14 = .ok (.iload_n 2, 1) := by decide +kernel
theorem dX12_minor_15 : decode cX12_minor 15 = .ok (.iconst 2, 1) := by decide +kernel
theorem dX12_minor_16 : decode cX12_minor 16 = .ok (.invokevirtual 248, 3) := by decide +kernel
theorem dX12_minor_19 : decode cX12_minor 19 = .ok (.aload_n 0, 1) := by decide +kernel
theorem dX12_minor_20 : decode cX12_minor 20 = .ok (.iload_n 3, 1) := by decide +kernel
theorem dX12_minor_21 : decode cX12_minor 21 = .ok (.iconst 1, 1) := by decide +kernel
theorem dX12_minor_22 : decode cX12_minor 22 = .ok (.invokevirtual 248, 3) := by decide +kernel
theorem dX12_minor_25 : decode cX12_minor 25 = .ok (.lmul, 1) := by decide +kernel
theorem dX12_minor_26 : decode cX12_minor 26 = .ok (.lsub, 1) := by decide +kernel
theorem dX12_minor_27 : decode cX12_minor 27 = .ok (.lstore 4, 2) := by decide +kernel
theorem dX12_minor_29 : decode cX12_minor 29 = .ok (.aload_n 0, 1) := by decide +kernel
theorem dX12_minor_30 : decode cX12_minor 30 = .ok (.iload_n 2, 1) := by decide +kernel
theorem dX12_minor_31 : decode cX12_minor 31 = .ok (.iconst 2, 1) := by decide +kernel
theorem dX12_minor_32 : decode cX12_minor 32 = .ok (.invokevirtual 248, 3) := by decide +kernel
theorem dX12_minor_35 : decode cX12_minor 35 = .ok (.aload_n 0, 1) := by decide +kernel
theorem dX12_minor_36 : decode cX12_minor 36 = .ok (.iload_n 3, 1) := by decide +kernel
theorem dX12_minor_37 : decode cX12_minor 37 = .ok (.iconst 0, 1) := by decide +kernel
theorem dX12_minor_38 : decode cX12_minor 38 = .ok (.invokevirtual 248, 3) := by decide +kernel
theorem dX12_minor_41 : decode cX12_minor 41 = .ok (.lmul, 1) := by decide +kernel
theorem dX12_minor_42 : decode cX12_minor 42 = .ok (.aload_n 0, 1) := by decide +kernel
theorem dX12_minor_43 : decode cX12_minor 43 = .ok (.iload_n 2, 1) := by decide +kernel
theorem dX12_minor_44 : decode cX12_minor 44 = .ok (.iconst 0, 1) := by decide +kernel
theorem dX12_minor_45 : decode cX12_minor 45 = .ok (.invokevirtual 248, 3) := by decide +kernel
theorem dX12_minor_48 : decode cX12_minor 48 = .ok (.aload_n 0, 1) := by decide +kernel
theorem dX12_minor_49 : decode cX12_minor 49 = .ok (.iload_n 3, 1) := by decide +kernel
theorem dX12_minor_50 : decode cX12_minor 50 = .ok (.iconst 2, 1) := by decide +kernel
theorem dX12_minor_51 : decode cX12_minor 51 = .ok (.invokevirtual 248, 3) := by decide +kernel
theorem dX12_minor_54 : decode cX12_minor 54 = .ok (.lmul, 1) := by decide +kernel
theorem dX12_minor_55 : decode cX12_minor 55 = .ok (.lsub, 1) := by decide +kernel
theorem dX12_minor_56 : decode cX12_minor 56 = .ok (.lstore 6, 2) := by decide +kernel
theorem dX12_minor_58 : decode cX12_minor 58 = .ok (.aload_n 0, 1) := by decide +kernel
theorem dX12_minor_59 : decode cX12_minor 59 = .ok (.iload_n 2, 1) := by decide +kernel
theorem dX12_minor_60 : decode cX12_minor 60 = .ok (.iconst 0, 1) := by decide +kernel
theorem dX12_minor_61 : decode cX12_minor 61 = .ok (.invokevirtual 248, 3) := by decide +kernel
theorem dX12_minor_64 : decode cX12_minor 64 = .ok (.aload_n 0, 1) := by decide +kernel
theorem dX12_minor_65 : decode cX12_minor 65 = .ok (.iload_n 3, 1) := by decide +kernel
theorem dX12_minor_66 : decode cX12_minor 66 = .ok (.iconst 1, 1) := by decide +kernel
theorem dX12_minor_67 : decode cX12_minor 67 = .ok (.invokevirtual 248, 3) := by decide +kernel
theorem dX12_minor_70 : decode cX12_minor 70 = .ok (.lmul, 1) := by decide +kernel
theorem dX12_minor_71 : decode cX12_minor 71 = .ok (.aload_n 0, 1) := by decide +kernel
theorem dX12_minor_72 : decode cX12_minor 72 = .ok (.iload_n 2, 1) := by decide +kernel
theorem dX12_minor_73 : decode cX12_minor 73 = .ok (.iconst 1, 1) := by decide +kernel
theorem dX12_minor_74 : decode cX12_minor 74 = .ok (.invokevirtual 248, 3) := by decide +kernel
theorem dX12_minor_77 : decode cX12_minor 77 = .ok (.aload_n 0, 1) := by decide +kernel
theorem dX12_minor_78 : decode cX12_minor 78 = .ok (.iload_n 3, 1) := by decide +kernel
theorem dX12_minor_79 : decode cX12_minor 79 = .ok (.iconst 0, 1) := by decide +kernel
theorem dX12_minor_80 : decode cX12_minor 80 = .ok (.invokevirtual 248, 3) := by decide +kernel
theorem dX12_minor_83 : decode cX12_minor 83 = .ok (.lmul, 1) := by decide +kernel
theorem dX12_minor_84 : decode cX12_minor 84 = .ok (.lsub, 1) := by decide +kernel
theorem dX12_minor_85 : decode cX12_minor 85 = .ok (.lstore 8, 2) := by decide +kernel
theorem dX12_minor_87 : decode cX12_minor 87 = .ok (.aload_n 0, 1) := by decide +kernel
theorem dX12_minor_88 : decode cX12_minor 88 = .ok (.iload_n 1, 1) := by decide +kernel
theorem dX12_minor_89 : decode cX12_minor 89 = .ok (.iconst 0, 1) := by decide +kernel
theorem dX12_minor_90 : decode cX12_minor 90 = .ok (.invokevirtual 248, 3) := by decide +kernel
theorem dX12_minor_93 : decode cX12_minor 93 = .ok (.lload 4, 2) := by decide +kernel
theorem dX12_minor_95 : decode cX12_minor 95 = .ok (.lmul, 1) := by decide +kernel
theorem dX12_minor_96 : decode cX12_minor 96 = .ok (.aload_n 0, 1) := by decide +kernel
theorem dX12_minor_97 : decode cX12_minor 97 = .ok (.iload_n 1, 1) := by decide +kernel
theorem dX12_minor_98 : decode cX12_minor 98 = .ok (.iconst 1, 1) := by decide +kernel
theorem dX12_minor_99 : decode cX12_minor 99 = .ok (.invokevirtual 248, 3) := by decide +kernel
theorem dX12_minor_102 : decode cX12_minor 102 = .ok (.lload 6, 2) := by decide +kernel
theorem dX12_minor_104 : decode cX12_minor 104 = .ok (.lmul, 1) := by decide +kernel
theorem dX12_minor_105 : decode cX12_minor 105 = .ok (.ladd, 1) := by decide +kernel
theorem dX12_minor_106 : decode cX12_minor 106 = .ok (.aload_n 0, 1) := by decide +kernel
theorem dX12_minor_107 : decode cX12_minor 107 = .ok (.iload_n 1, 1) := by decide +kernel
theorem dX12_minor_108 : decode cX12_minor 108 = .ok (.iconst 2, 1) := by decide +kernel
theorem dX12_minor_109 : decode cX12_minor 109 = .ok (.invokevirtual 248, 3) := by decide +kernel
theorem dX12_minor_112 : decode cX12_minor 112 = .ok (.lload 8, 2) := by decide +kernel
theorem dX12_minor_114 : decode cX12_minor 114 = .ok (.lmul, 1) := by decide +kernel
theorem dX12_minor_115 : decode cX12_minor 115 = .ok (.ladd, 1) := by decide +kernel
theorem dX12_minor_116 : decode cX12_minor 116 = .ok (.lreturn, 1) := by decide +kernel
def rm_fMM_minor : Room := { frames := 3, cells := 0, slots := 0, locals := 104 }
set_option maxHeartbeats 4000000 in
set_option maxRecDepth 100000 in
theorem c_fMM_minor (l : Launch) (X : eX) (sz : Nat) (a1 : Int32) (a2 : Int32) (a3 : Int32) (σ : sT) (rz : Int64) (h0 : fMM_minor a1 a2 a3 σ = some rz) : ctL l yX12_minor cX12_minor 10 (some .long) rm_fMM_minor [.ref (X.2.1 33), .int a1, .int a2, .int a3] (wM X) (tM X) (aM X) X sz σ rz σ := by
  refine ct_of (by decide +kernel) (Nat.le_of_ble_eq_true rfl) ?_
  intro p e s m args below meth c ls hz B hl Z
  have B : Bd p s m args meth c RX12 cX12_minor 10 (some .long) := B
  have hl : lv_has ls 10 [(0, .ref (X.2.1 33)), (1, .int a1), (2, .int a2), (3, .int a3)] := hl
  have hx := B.1
  have hb := B.2.1
  unfold fMM_minor at h0
  refine lv_aload_n hx hb dX12_minor_0 rfl (lv_at hl 0 rfl) ?_
  refine lv_iload_n hx hb dX12_minor_1 rfl (lv_at hl 2 rfl) ?_
  refine lv_iconst (v := (1 : Int32)) hx hb dX12_minor_2 (by decide) ?_
  obtain ⟨r2, hc0, h1⟩ := db1_s h0
  clear h0
  refine cV_L [.int a2, .int (1 : Int32)] [] B mx_yX12_number (c_fMM_number l X _ a2 (1 : Int32) σ r2 hc0) kl_RX12_248 mi_yX12_number (rv_33 _ _) hcl_12 Z hl rfl rfl ⟨Nat.le_of_ble_eq_true rfl, Nat.le_of_ble_eq_true rfl⟩ rfl rfl (Nat.le_of_ble_eq_true rfl) dX12_minor_3 (fun H locs Z => ?_)
  clear hc0
  refine lv_aload_n hx hb dX12_minor_6 rfl (lv_at hl 0 rfl) ?_
  refine lv_iload_n hx hb dX12_minor_7 rfl (lv_at hl 3 rfl) ?_
  refine lv_iconst (v := (2 : Int32)) hx hb dX12_minor_8 (by decide) ?_
  obtain ⟨r4, hc2, h2⟩ := db1_s h1
  clear h1
  refine cV_L [.int a3, .int (2 : Int32)] [.long r2] B mx_yX12_number (c_fMM_number l X _ a3 (2 : Int32) σ r4 hc2) kl_RX12_248 mi_yX12_number (rv_33 _ _) hcl_12 Z hl rfl rfl ⟨Nat.le_of_ble_eq_true rfl, Nat.le_of_ble_eq_true rfl⟩ rfl rfl (Nat.le_of_ble_eq_true rfl) dX12_minor_9 (fun H locs Z => ?_)
  clear hc2
  refine lv_lmul hx hb dX12_minor_12 ?_
  refine lv_aload_n hx hb dX12_minor_13 rfl (lv_at hl 0 rfl) ?_
  refine lv_iload_n hx hb dX12_minor_14 rfl (lv_at hl 2 rfl) ?_
  refine lv_iconst (v := (2 : Int32)) hx hb dX12_minor_15 (by decide) ?_
  obtain ⟨r6, hc4, h3⟩ := db1_s h2
  clear h2
  refine cV_L [.int a2, .int (2 : Int32)] [.long (r2 * r4)] B mx_yX12_number (c_fMM_number l X _ a2 (2 : Int32) σ r6 hc4) kl_RX12_248 mi_yX12_number (rv_33 _ _) hcl_12 Z hl rfl rfl ⟨Nat.le_of_ble_eq_true rfl, Nat.le_of_ble_eq_true rfl⟩ rfl rfl (Nat.le_of_ble_eq_true rfl) dX12_minor_16 (fun H locs Z => ?_)
  clear hc4
  refine lv_aload_n hx hb dX12_minor_19 rfl (lv_at hl 0 rfl) ?_
  refine lv_iload_n hx hb dX12_minor_20 rfl (lv_at hl 3 rfl) ?_
  refine lv_iconst (v := (1 : Int32)) hx hb dX12_minor_21 (by decide) ?_
  obtain ⟨r8, hc6, h4⟩ := db1_s h3
  clear h3
  refine cV_L [.int a3, .int (1 : Int32)] [.long r6, .long (r2 * r4)] B mx_yX12_number (c_fMM_number l X _ a3 (1 : Int32) σ r8 hc6) kl_RX12_248 mi_yX12_number (rv_33 _ _) hcl_12 Z hl rfl rfl ⟨Nat.le_of_ble_eq_true rfl, Nat.le_of_ble_eq_true rfl⟩ rfl rfl (Nat.le_of_ble_eq_true rfl) dX12_minor_22 (fun H locs Z => ?_)
  clear hc6
  refine lv_lmul hx hb dX12_minor_25 ?_
  refine lv_lsub hx hb dX12_minor_26 ?_
  refine lv_topl (fun x9 ex9 => ?_)
  have h5 := dlt_e ex9 h4
  clear ex9 h4
  refine lv_lstore (lv' := [(4, .long x9), (0, .ref (X.2.1 33)), (1, .int a1), (2, .int a2), (3, .int a3)]) hx hb dX12_minor_27 hl (by decide) rfl (fun ls hl => ?_)
  refine lv_aload_n hx hb dX12_minor_29 rfl (lv_at hl 1 rfl) ?_
  refine lv_iload_n hx hb dX12_minor_30 rfl (lv_at hl 3 rfl) ?_
  refine lv_iconst (v := (2 : Int32)) hx hb dX12_minor_31 (by decide) ?_
  obtain ⟨r11, hc9, h6⟩ := db1_s h5
  clear h5
  refine cV_L [.int a2, .int (2 : Int32)] [] B mx_yX12_number (c_fMM_number l X _ a2 (2 : Int32) σ r11 hc9) kl_RX12_248 mi_yX12_number (rv_33 _ _) hcl_12 Z hl rfl rfl ⟨Nat.le_of_ble_eq_true rfl, Nat.le_of_ble_eq_true rfl⟩ rfl rfl (Nat.le_of_ble_eq_true rfl) dX12_minor_32 (fun H locs Z => ?_)
  clear hc9
  refine lv_aload_n hx hb dX12_minor_35 rfl (lv_at hl 1 rfl) ?_
  refine lv_iload_n hx hb dX12_minor_36 rfl (lv_at hl 4 rfl) ?_
  refine lv_iconst (v := (0 : Int32)) hx hb dX12_minor_37 (by decide) ?_
  obtain ⟨r13, hc11, h7⟩ := db1_s h6
  clear h6
  refine cV_L [.int a3, .int (0 : Int32)] [.long r11] B mx_yX12_number (c_fMM_number l X _ a3 (0 : Int32) σ r13 hc11) kl_RX12_248 mi_yX12_number (rv_33 _ _) hcl_12 Z hl rfl rfl ⟨Nat.le_of_ble_eq_true rfl, Nat.le_of_ble_eq_true rfl⟩ rfl rfl (Nat.le_of_ble_eq_true rfl) dX12_minor_38 (fun H locs Z => ?_)
  clear hc11
  refine lv_lmul hx hb dX12_minor_41 ?_
  refine lv_aload_n hx hb dX12_minor_42 rfl (lv_at hl 1 rfl) ?_
  refine lv_iload_n hx hb dX12_minor_43 rfl (lv_at hl 3 rfl) ?_
  refine lv_iconst (v := (0 : Int32)) hx hb dX12_minor_44 (by decide) ?_
  obtain ⟨r15, hc13, h8⟩ := db1_s h7
  clear h7
  refine cV_L [.int a2, .int (0 : Int32)] [.long (r11 * r13)] B mx_yX12_number (c_fMM_number l X _ a2 (0 : Int32) σ r15 hc13) kl_RX12_248 mi_yX12_number (rv_33 _ _) hcl_12 Z hl rfl rfl ⟨Nat.le_of_ble_eq_true rfl, Nat.le_of_ble_eq_true rfl⟩ rfl rfl (Nat.le_of_ble_eq_true rfl) dX12_minor_45 (fun H locs Z => ?_)
  clear hc13
  refine lv_aload_n hx hb dX12_minor_48 rfl (lv_at hl 1 rfl) ?_
  refine lv_iload_n hx hb dX12_minor_49 rfl (lv_at hl 4 rfl) ?_
  refine lv_iconst (v := (2 : Int32)) hx hb dX12_minor_50 (by decide) ?_
  obtain ⟨r17, hc15, h9⟩ := db1_s h8
  clear h8
  refine cV_L [.int a3, .int (2 : Int32)] [.long r15, .long (r11 * r13)] B mx_yX12_number (c_fMM_number l X _ a3 (2 : Int32) σ r17 hc15) kl_RX12_248 mi_yX12_number (rv_33 _ _) hcl_12 Z hl rfl rfl ⟨Nat.le_of_ble_eq_true rfl, Nat.le_of_ble_eq_true rfl⟩ rfl rfl (Nat.le_of_ble_eq_true rfl) dX12_minor_51 (fun H locs Z => ?_)
  clear hc15
  refine lv_lmul hx hb dX12_minor_54 ?_
  refine lv_lsub hx hb dX12_minor_55 ?_
  refine lv_topl (fun x18 ex18 => ?_)
  have h10 := dlt_e ex18 h9
  clear ex18 h9
  refine lv_lstore (lv' := [(6, .long x18), (4, .long x9), (0, .ref (X.2.1 33)), (1, .int a1), (2, .int a2), (3, .int a3)]) hx hb dX12_minor_56 hl (by decide) rfl (fun ls hl => ?_)
  refine lv_aload_n hx hb dX12_minor_58 rfl (lv_at hl 2 rfl) ?_
  refine lv_iload_n hx hb dX12_minor_59 rfl (lv_at hl 4 rfl) ?_
  refine lv_iconst (v := (0 : Int32)) hx hb dX12_minor_60 (by decide) ?_
  obtain ⟨r20, hc18, h11⟩ := db1_s h10
  clear h10
  refine cV_L [.int a2, .int (0 : Int32)] [] B mx_yX12_number (c_fMM_number l X _ a2 (0 : Int32) σ r20 hc18) kl_RX12_248 mi_yX12_number (rv_33 _ _) hcl_12 Z hl rfl rfl ⟨Nat.le_of_ble_eq_true rfl, Nat.le_of_ble_eq_true rfl⟩ rfl rfl (Nat.le_of_ble_eq_true rfl) dX12_minor_61 (fun H locs Z => ?_)
  clear hc18
  refine lv_aload_n hx hb dX12_minor_64 rfl (lv_at hl 2 rfl) ?_
  refine lv_iload_n hx hb dX12_minor_65 rfl (lv_at hl 5 rfl) ?_
  refine lv_iconst (v := (1 : Int32)) hx hb dX12_minor_66 (by decide) ?_
  obtain ⟨r22, hc20, h12⟩ := db1_s h11
  clear h11
  refine cV_L [.int a3, .int (1 : Int32)] [.long r20] B mx_yX12_number (c_fMM_number l X _ a3 (1 : Int32) σ r22 hc20) kl_RX12_248 mi_yX12_number (rv_33 _ _) hcl_12 Z hl rfl rfl ⟨Nat.le_of_ble_eq_true rfl, Nat.le_of_ble_eq_true rfl⟩ rfl rfl (Nat.le_of_ble_eq_true rfl) dX12_minor_67 (fun H locs Z => ?_)
  clear hc20
  refine lv_lmul hx hb dX12_minor_70 ?_
  refine lv_aload_n hx hb dX12_minor_71 rfl (lv_at hl 2 rfl) ?_
  refine lv_iload_n hx hb dX12_minor_72 rfl (lv_at hl 4 rfl) ?_
  refine lv_iconst (v := (1 : Int32)) hx hb dX12_minor_73 (by decide) ?_
  obtain ⟨r24, hc22, h13⟩ := db1_s h12
  clear h12
  refine cV_L [.int a2, .int (1 : Int32)] [.long (r20 * r22)] B mx_yX12_number (c_fMM_number l X _ a2 (1 : Int32) σ r24 hc22) kl_RX12_248 mi_yX12_number (rv_33 _ _) hcl_12 Z hl rfl rfl ⟨Nat.le_of_ble_eq_true rfl, Nat.le_of_ble_eq_true rfl⟩ rfl rfl (Nat.le_of_ble_eq_true rfl) dX12_minor_74 (fun H locs Z => ?_)
  clear hc22
  refine lv_aload_n hx hb dX12_minor_77 rfl (lv_at hl 2 rfl) ?_
  refine lv_iload_n hx hb dX12_minor_78 rfl (lv_at hl 5 rfl) ?_
  refine lv_iconst (v := (0 : Int32)) hx hb dX12_minor_79 (by decide) ?_
  obtain ⟨r26, hc24, h14⟩ := db1_s h13
  clear h13
  refine cV_L [.int a3, .int (0 : Int32)] [.long r24, .long (r20 * r22)] B mx_yX12_number (c_fMM_number l X _ a3 (0 : Int32) σ r26 hc24) kl_RX12_248 mi_yX12_number (rv_33 _ _) hcl_12 Z hl rfl rfl ⟨Nat.le_of_ble_eq_true rfl, Nat.le_of_ble_eq_true rfl⟩ rfl rfl (Nat.le_of_ble_eq_true rfl) dX12_minor_80 (fun H locs Z => ?_)
  clear hc24
  refine lv_lmul hx hb dX12_minor_83 ?_
  refine lv_lsub hx hb dX12_minor_84 ?_
  refine lv_topl (fun x27 ex27 => ?_)
  have h15 := dlt_e ex27 h14
  clear ex27 h14
  refine lv_lstore (lv' := [(8, .long x27), (6, .long x18), (4, .long x9), (0, .ref (X.2.1 33)), (1, .int a1), (2, .int a2), (3, .int a3)]) hx hb dX12_minor_85 hl (by decide) rfl (fun ls hl => ?_)
  refine lv_aload_n hx hb dX12_minor_87 rfl (lv_at hl 3 rfl) ?_
  refine lv_iload_n hx hb dX12_minor_88 rfl (lv_at hl 4 rfl) ?_
  refine lv_iconst (v := (0 : Int32)) hx hb dX12_minor_89 (by decide) ?_
  obtain ⟨r29, hc27, h16⟩ := db1_s h15
  clear h15
  refine cV_L [.int a1, .int (0 : Int32)] [] B mx_yX12_number (c_fMM_number l X _ a1 (0 : Int32) σ r29 hc27) kl_RX12_248 mi_yX12_number (rv_33 _ _) hcl_12 Z hl rfl rfl ⟨Nat.le_of_ble_eq_true rfl, Nat.le_of_ble_eq_true rfl⟩ rfl rfl (Nat.le_of_ble_eq_true rfl) dX12_minor_90 (fun H locs Z => ?_)
  clear hc27
  refine lv_lload hx hb dX12_minor_93 (lv_at hl 2 rfl) ?_
  refine lv_lmul hx hb dX12_minor_95 ?_
  refine lv_aload_n hx hb dX12_minor_96 rfl (lv_at hl 3 rfl) ?_
  refine lv_iload_n hx hb dX12_minor_97 rfl (lv_at hl 4 rfl) ?_
  refine lv_iconst (v := (1 : Int32)) hx hb dX12_minor_98 (by decide) ?_
  obtain ⟨r31, hc29, h17⟩ := db1_s h16
  clear h16
  refine cV_L [.int a1, .int (1 : Int32)] [.long (r29 * x9)] B mx_yX12_number (c_fMM_number l X _ a1 (1 : Int32) σ r31 hc29) kl_RX12_248 mi_yX12_number (rv_33 _ _) hcl_12 Z hl rfl rfl ⟨Nat.le_of_ble_eq_true rfl, Nat.le_of_ble_eq_true rfl⟩ rfl rfl (Nat.le_of_ble_eq_true rfl) dX12_minor_99 (fun H locs Z => ?_)
  clear hc29
  refine lv_lload hx hb dX12_minor_102 (lv_at hl 1 rfl) ?_
  refine lv_lmul hx hb dX12_minor_104 ?_
  refine lv_ladd hx hb dX12_minor_105 ?_
  refine lv_aload_n hx hb dX12_minor_106 rfl (lv_at hl 3 rfl) ?_
  refine lv_iload_n hx hb dX12_minor_107 rfl (lv_at hl 4 rfl) ?_
  refine lv_iconst (v := (2 : Int32)) hx hb dX12_minor_108 (by decide) ?_
  obtain ⟨r33, hc31, h18⟩ := db1_s h17
  clear h17
  refine cV_L [.int a1, .int (2 : Int32)] [.long ((r29 * x9) + (r31 * x18))] B mx_yX12_number (c_fMM_number l X _ a1 (2 : Int32) σ r33 hc31) kl_RX12_248 mi_yX12_number (rv_33 _ _) hcl_12 Z hl rfl rfl ⟨Nat.le_of_ble_eq_true rfl, Nat.le_of_ble_eq_true rfl⟩ rfl rfl (Nat.le_of_ble_eq_true rfl) dX12_minor_109 (fun H locs Z => ?_)
  clear hc31
  refine lv_lload hx hb dX12_minor_112 (lv_at hl 0 rfl) ?_
  refine lv_lmul hx hb dX12_minor_114 ?_
  refine lv_ladd hx hb dX12_minor_115 ?_
  exact reL B Z hz (congrArg (Option.map (fun q => (q, σ))) h18) dX12_minor_116
theorem dX12_takesThree_0 : decode cX12_takesThree 0 = .ok (.iconst 0, 1) := by decide +kernel
theorem dX12_takesThree_1 : decode cX12_takesThree 1 = .ok (.istore_n 3, 1) := by decide +kernel
theorem dX12_takesThree_2 : decode cX12_takesThree 2 = .ok (.iload_n 3, 1) := by decide +kernel
theorem dX12_takesThree_3 : decode cX12_takesThree 3 = .ok (.iconst 3, 1) := by decide +kernel
theorem dX12_takesThree_4 : decode cX12_takesThree 4 = .ok (.if_icmp .ge 60, 3) := by decide +kernel
theorem dX12_takesThree_7 : decode cX12_takesThree 7 = .ok (.iload_n 3, 1) := by decide +kernel
theorem dX12_takesThree_8 : decode cX12_takesThree 8 = .ok (.iconst 1, 1) := by decide +kernel
theorem dX12_takesThree_9 : decode cX12_takesThree 9 = .ok (.iadd, 1) := by decide +kernel
theorem dX12_takesThree_10 : decode cX12_takesThree 10 = .ok (.iconst 3, 1) := by decide +kernel
theorem dX12_takesThree_11 : decode cX12_takesThree 11 = .ok (.irem, 1) := by decide +kernel
theorem dX12_takesThree_12 : decode cX12_takesThree 12 = .ok (.istore 4, 2) := by decide +kernel
theorem dX12_takesThree_14 : decode cX12_takesThree 14 = .ok (.iload_n 3, 1) := by decide +kernel
theorem dX12_takesThree_15 : decode cX12_takesThree 15 = .ok (.iconst 2, 1) := by decide +kernel
theorem dX12_takesThree_16 : decode cX12_takesThree 16 = .ok (.iadd, 1) := by decide +kernel
theorem dX12_takesThree_17 : decode cX12_takesThree 17 = .ok (.iconst 3, 1) := by decide +kernel
theorem dX12_takesThree_18 : decode cX12_takesThree 18 = .ok (.irem, 1) := by decide +kernel
theorem dX12_takesThree_19 : decode cX12_takesThree 19 = .ok (.istore 5, 2) := by decide +kernel
theorem dX12_takesThree_21 : decode cX12_takesThree 21 = .ok (.aload_n 0, 1) := by decide +kernel
theorem dX12_takesThree_22 : decode cX12_takesThree 22 = .ok (.getfield 35, 3) := by decide +kernel
theorem dX12_takesThree_25 : decode cX12_takesThree 25 = .ok (.iload_n 3, 1) := by decide +kernel
theorem dX12_takesThree_26 : decode cX12_takesThree 26 = .ok (.aload_n 0, 1) := by decide +kernel
theorem dX12_takesThree_27 : decode cX12_takesThree 27 = .ok (.iload 4, 2) := by decide +kernel
theorem dX12_takesThree_29 : decode cX12_takesThree 29 = .ok (.iload_n 1, 1) := by decide +kernel
theorem dX12_takesThree_30 : decode cX12_takesThree 30 = .ok (.invokevirtual 248, 3) := by decide +kernel
theorem dX12_takesThree_33 : decode cX12_takesThree 33 = .ok (.aload_n 0, 1) := by decide +kernel
theorem dX12_takesThree_34 : decode cX12_takesThree 34 = .ok (.iload 5, 2) := by decide +kernel
theorem dX12_takesThree_36 : decode cX12_takesThree 36 = .ok (.iload_n 2, 1) := by decide +kernel
theorem dX12_takesThree_37 : decode cX12_takesThree 37 = .ok (.invokevirtual 248, 3) := by decide +kernel
theorem dX12_takesThree_40 : decode cX12_takesThree 40 = .ok (.lmul, 1) := by decide +kernel
theorem dX12_takesThree_41 : decode cX12_takesThree 41 = .ok (.aload_n 0, 1) := by decide +kernel
theorem dX12_takesThree_42 : decode cX12_takesThree 42 = .ok (.iload 5, 2) := by decide +kernel
theorem dX12_takesThree_44 : decode cX12_takesThree 44 = .ok (.iload_n 1, 1) := by decide +kernel
theorem dX12_takesThree_45 : decode cX12_takesThree 45 = .ok (.invokevirtual 248, 3) := by decide +kernel
theorem dX12_takesThree_48 : decode cX12_takesThree 48 = .ok (.aload_n 0, 1) := by decide +kernel
theorem dX12_takesThree_49 : decode cX12_takesThree 49 = .ok (.iload 4, 2) := by decide +kernel
theorem dX12_takesThree_51 : decode cX12_takesThree 51 = .ok (.iload_n 2, 1) := by decide +kernel
theorem dX12_takesThree_52 : decode cX12_takesThree 52 = .ok (.invokevirtual 248, 3) := by decide +kernel
theorem dX12_takesThree_55 : decode cX12_takesThree 55 = .ok (.lmul, 1) := by decide +kernel
theorem dX12_takesThree_56 : decode cX12_takesThree 56 = .ok (.lsub, 1) := by decide +kernel
theorem dX12_takesThree_57 : decode cX12_takesThree 57 = .ok (.lastore, 1) := by decide +kernel
theorem dX12_takesThree_58 : decode cX12_takesThree 58 = .ok (.iinc 3 1, 3) := by decide +kernel
theorem dX12_takesThree_61 : decode cX12_takesThree 61 = .ok (.goto (-59), 3) := by decide +kernel
theorem dX12_takesThree_64 : decode cX12_takesThree 64 = .ok (.aload_n 0, 1) := by decide +kernel
theorem dX12_takesThree_65 : decode cX12_takesThree 65 = .ok (.getfield 35, 3) := by decide +kernel
theorem dX12_takesThree_68 : decode cX12_takesThree 68 = .ok (.iconst 0, 1) := by decide +kernel
theorem dX12_takesThree_69 : decode cX12_takesThree 69 = .ok (.laload, 1) := by decide +kernel
theorem dX12_takesThree_70 : decode cX12_takesThree 70 = .ok (.lconst 0, 1) := by decide +kernel
theorem dX12_takesThree_71 : decode cX12_takesThree 71 = .ok (.lcmp, 1) := by decide +kernel
theorem dX12_takesThree_72 : decode cX12_takesThree 72 = .ok (.ifCond .ne 25, 3) := by decide +kernel
theorem dX12_takesThree_75 : decode cX12_takesThree 75 = .ok (.aload_n 0, 1) := by decide +kernel
theorem dX12_takesThree_76 : decode cX12_takesThree 76 = .ok (.getfield 35, 3) := by decide +kernel
theorem dX12_takesThree_79 : decode cX12_takesThree 79 = .ok (.iconst 1, 1) := by decide +kernel
theorem dX12_takesThree_80 : decode cX12_takesThree 80 = .ok (.laload, 1) := by decide +kernel
theorem dX12_takesThree_81 : decode cX12_takesThree 81 = .ok (.lconst 0, 1) := by decide +kernel
theorem dX12_takesThree_82 : decode cX12_takesThree 82 = .ok (.lcmp, 1) := by decide +kernel
theorem dX12_takesThree_83 : decode cX12_takesThree 83 = .ok (.ifCond .ne 14, 3) := by decide +kernel
theorem dX12_takesThree_86 : decode cX12_takesThree 86 = .ok (.aload_n 0, 1) := by decide +kernel
theorem dX12_takesThree_87 : decode cX12_takesThree 87 = .ok (.getfield 35, 3) := by decide +kernel
theorem dX12_takesThree_90 : decode cX12_takesThree 90 = .ok (.iconst 2, 1) := by decide +kernel
theorem dX12_takesThree_91 : decode cX12_takesThree 91 = .ok (.laload, 1) := by decide +kernel
theorem dX12_takesThree_92 : decode cX12_takesThree 92 = .ok (.lconst 0, 1) := by decide +kernel
theorem dX12_takesThree_93 : decode cX12_takesThree 93 = .ok (.lcmp, 1) := by decide +kernel
theorem dX12_takesThree_94 : decode cX12_takesThree 94 = .ok (.ifCond .eq 7, 3) := by decide +kernel
theorem dX12_takesThree_97 : decode cX12_takesThree 97 = .ok (.iconst 1, 1) := by decide +kernel
theorem dX12_takesThree_98 : decode cX12_takesThree 98 = .ok (.goto 4, 3) := by decide +kernel
theorem dX12_takesThree_101 : decode cX12_takesThree 101 = .ok (.iconst 0, 1) := by decide +kernel
theorem dX12_takesThree_102 : decode cX12_takesThree 102 = .ok (.ireturn, 1) := by decide +kernel
def rm_fMM_takesThree : Room := { frames := 3, cells := 0, slots := 0, locals := 104 }
set_option maxHeartbeats 4000000 in
set_option maxRecDepth 100000 in
theorem c_fMM_takesThree (l : Launch) (X : eX) (sz : Nat) (a1 : Int32) (a2 : Int32) (σ : sT) (rz : Int32) (σz : sT) (h0 : fMM_takesThree a1 a2 σ = some (rz, σz)) : ctI l yX12_takesThree cX12_takesThree 6 (some .boolean) rm_fMM_takesThree [.ref (X.2.1 33), .int a1, .int a2] (wM X) (tM X) (aM X) X sz σ rz σz := by
  refine ct_of (by decide +kernel) (Nat.le_of_ble_eq_true rfl) ?_
  intro p e s m args below meth c ls hz B hl Z
  have B : Bd p s m args meth c RX12 cX12_takesThree 6 (some .boolean) := B
  have hl : lv_has ls 6 [(0, .ref (X.2.1 33)), (1, .int a1), (2, .int a2)] := hl
  have hx := B.1
  have hb := B.2.1
  unfold fMM_takesThree at h0
  refine lv_iconst (v := (0 : Int32)) hx hb dX12_takesThree_0 (by decide) ?_
  refine lv_istore_n (lv' := [(3, .int (0 : Int32)), (0, .ref (X.2.1 33)), (1, .int a1), (2, .int a2)]) hx hb dX12_takesThree_1 rfl hl (by decide) rfl (fun ls hl => ?_)
  obtain ⟨K4, eK4, h11⟩ := dlt_s h0
  clear h0
  have kK4 : ∀ (σ3 : sT) (H : Heap) (locs : List Loc) (ls : Array Slot), Wd (wM X) (tM X) (aM X) X s σ3 H locs → lv_has ls 6 [(0, .ref (X.2.1 33))] → K4 σ3 = some (rz, σz) → W p l e rm_fMM_takesThree s m args below meth c H locs 0 0 (MQ below (va_Qi (fun a u => a = rz ∧ u = σz) (poW (wM X) (tM X) (aM X) X sz) (aA (aM X) sz)) args s 0 0 (aA (aM X) sz)) (F0 m 64 ls []) := by
    intro σ3 H locs ls Z hl h1
    rw [eK4] at h1
    refine lv_aload_n hx hb dX12_takesThree_64 rfl (lv_at hl 0 rfl) ?_
    refine g_33_21 B Z kf_RX12_35 dX12_takesThree_65 ?_
    refine lv_iconst (v := (0 : Int32)) hx hb dX12_takesThree_68 (by decide) ?_
    obtain ⟨z5, h2⟩ := dck_s h1
    clear h1
    refine ld_42 B Z z5 dX12_takesThree_69 ?_
    refine lv_lconst (v := (0 : Int64)) hx hb dX12_takesThree_70 (by decide) ?_
    refine W.lcmp hx hb dX12_takesThree_71 ?_
    refine lv_if_ne (tgt := 97) hx hb dX12_takesThree_72 (by decide) (fun c6 => ?_) (fun c6 => ?_)
    · have h3 := dif h2 c6
      clear h2
      refine lv_iconst (v := (1 : Int32)) hx hb dX12_takesThree_97 (by decide) ?_
      refine lv_goto (tgt := 102) hx hb dX12_takesThree_98 (by decide) ?_
      exact reI B Z rfl hz h3 dX12_takesThree_102
    · have h4 := dit h2 c6
      clear h2
      refine lv_aload_n hx hb dX12_takesThree_75 rfl (lv_at hl 0 rfl) ?_
      refine g_33_21 B Z kf_RX12_35 dX12_takesThree_76 ?_
      refine lv_iconst (v := (1 : Int32)) hx hb dX12_takesThree_79 (by decide) ?_
      obtain ⟨z7, h5⟩ := dck_s h4
      clear h4
      refine ld_42 B Z z7 dX12_takesThree_80 ?_
      refine lv_lconst (v := (0 : Int64)) hx hb dX12_takesThree_81 (by decide) ?_
      refine W.lcmp hx hb dX12_takesThree_82 ?_
      refine lv_if_ne (tgt := 97) hx hb dX12_takesThree_83 (by decide) (fun c8 => ?_) (fun c8 => ?_)
      · have h6 := dif h5 c8
        clear h5
        refine lv_iconst (v := (1 : Int32)) hx hb dX12_takesThree_97 (by decide) ?_
        refine lv_goto (tgt := 102) hx hb dX12_takesThree_98 (by decide) ?_
        exact reI B Z rfl hz h6 dX12_takesThree_102
      · have h7 := dit h5 c8
        clear h5
        refine lv_aload_n hx hb dX12_takesThree_86 rfl (lv_at hl 0 rfl) ?_
        refine g_33_21 B Z kf_RX12_35 dX12_takesThree_87 ?_
        refine lv_iconst (v := (2 : Int32)) hx hb dX12_takesThree_90 (by decide) ?_
        obtain ⟨z9, h8⟩ := dck_s h7
        clear h7
        refine ld_42 B Z z9 dX12_takesThree_91 ?_
        refine lv_lconst (v := (0 : Int64)) hx hb dX12_takesThree_92 (by decide) ?_
        refine W.lcmp hx hb dX12_takesThree_93 ?_
        refine lv_if_eq (tgt := 101) hx hb dX12_takesThree_94 (by decide) (fun c10 => ?_) (fun c10 => ?_)
        · have h9 := dit h8 c10
          clear h8
          refine lv_iconst (v := (0 : Int32)) hx hb dX12_takesThree_101 (by decide) ?_
          exact reI B Z rfl hz h9 dX12_takesThree_102
        · have h10 := dif h8 c10
          clear h8
          refine lv_iconst (v := (1 : Int32)) hx hb dX12_takesThree_97 (by decide) ?_
          refine lv_goto (tgt := 102) hx hb dX12_takesThree_98 (by decide) ?_
          exact reI B Z rfl hz h10 dX12_takesThree_102
  clear eK4
  have lL2 : ∀ (n : Nat), ∀ (x1 : Int32) (σ2 : sT) (H : Heap) (locs : List Loc) (ls : Array Slot), Wd (wM X) (tM X) (aM X) X s σ2 H locs → lv_has ls 6 [(0, .ref (X.2.1 33)), (1, .int a1), (2, .int a2), (3, .int x1)] → fMM_takesThree_L2 a1 a2 K4 n x1 σ2 = some (rz, σz) → W p l e rm_fMM_takesThree s m args below meth c H locs 0 0 (MQ below (va_Qi (fun a u => a = rz ∧ u = σz) (poW (wM X) (tM X) (aM X) X sz) (aA (aM X) sz)) args s 0 0 (aA (aM X) sz)) (F0 m 2 ls []) := by
    intro n
    induction n with
    | zero =>
      intro x1 σ2 H locs ls Z hl h
      exact nomatch (show (none : Option (Int32 × sT)) = some _ from h)
    | succ n11 ih2 =>
      intro x1 σ2 H locs ls Z hl h12
      unfold fMM_takesThree_L2 at h12
      refine lv_iload_n hx hb dX12_takesThree_2 rfl (lv_at hl 3 rfl) ?_
      refine lv_iconst (v := (3 : Int32)) hx hb dX12_takesThree_3 (by decide) ?_
      refine lv_icmp_ge (tgt := 64) hx hb dX12_takesThree_4 (by decide) (fun c12 => ?_) (fun c12 => ?_)
      · have h13 := dit h12 c12
        clear h12
        exact kK4 σ2 _ _ _ Z (lv_sub hl [0] rfl) h13
      · have h14 := dif h12 c12
        clear h12
        refine lv_iload_n hx hb dX12_takesThree_7 rfl (lv_at hl 3 rfl) ?_
        refine lv_iconst (v := (1 : Int32)) hx hb dX12_takesThree_8 (by decide) ?_
        refine lv_iadd hx hb dX12_takesThree_9 ?_
        refine lv_iconst (v := (3 : Int32)) hx hb dX12_takesThree_10 (by decide) ?_
        refine lv_irem hx hb dX12_takesThree_11 (by decide) ?_
        refine lv_topi (fun x13 ex13 => ?_)
        have h15 := dlt_e ex13 h14
        clear ex13 h14
        refine lv_istore (lv' := [(4, .int x13), (0, .ref (X.2.1 33)), (1, .int a1), (2, .int a2), (3, .int x1)]) hx hb dX12_takesThree_12 hl (by decide) rfl (fun ls hl => ?_)
        refine lv_iload_n hx hb dX12_takesThree_14 rfl (lv_at hl 4 rfl) ?_
        refine lv_iconst (v := (2 : Int32)) hx hb dX12_takesThree_15 (by decide) ?_
        refine lv_iadd hx hb dX12_takesThree_16 ?_
        refine lv_iconst (v := (3 : Int32)) hx hb dX12_takesThree_17 (by decide) ?_
        refine lv_irem hx hb dX12_takesThree_18 (by decide) ?_
        refine lv_topi (fun x14 ex14 => ?_)
        have h16 := dlt_e ex14 h15
        clear ex14 h15
        refine lv_istore (lv' := [(5, .int x14), (4, .int x13), (0, .ref (X.2.1 33)), (1, .int a1), (2, .int a2), (3, .int x1)]) hx hb dX12_takesThree_19 hl (by decide) rfl (fun ls hl => ?_)
        refine lv_aload_n hx hb dX12_takesThree_21 rfl (lv_at hl 2 rfl) ?_
        refine g_33_21 B Z kf_RX12_35 dX12_takesThree_22 ?_
        refine lv_iload_n hx hb dX12_takesThree_25 rfl (lv_at hl 5 rfl) ?_
        refine lv_aload_n hx hb dX12_takesThree_26 rfl (lv_at hl 2 rfl) ?_
        refine lv_iload hx hb dX12_takesThree_27 (lv_at hl 1 rfl) ?_
        refine lv_iload_n hx hb dX12_takesThree_29 rfl (lv_at hl 3 rfl) ?_
        obtain ⟨r16, hc14, h17⟩ := db1_s h16
        clear h16
        refine cV_L [.int x13, .int a1] [.int x1, .ref (X.2.1 42)] B mx_yX12_number (c_fMM_number l X _ x13 a1 σ2 r16 hc14) kl_RX12_248 mi_yX12_number (rv_33 _ _) hcl_12 Z hl rfl rfl ⟨Nat.le_of_ble_eq_true rfl, Nat.le_of_ble_eq_true rfl⟩ rfl rfl (Nat.le_of_ble_eq_true rfl) dX12_takesThree_30 (fun H locs Z => ?_)
        clear hc14
        refine lv_aload_n hx hb dX12_takesThree_33 rfl (lv_at hl 2 rfl) ?_
        refine lv_iload hx hb dX12_takesThree_34 (lv_at hl 0 rfl) ?_
        refine lv_iload_n hx hb dX12_takesThree_36 rfl (lv_at hl 4 rfl) ?_
        obtain ⟨r18, hc16, h18⟩ := db1_s h17
        clear h17
        refine cV_L [.int x14, .int a2] [.long r16, .int x1, .ref (X.2.1 42)] B mx_yX12_number (c_fMM_number l X _ x14 a2 σ2 r18 hc16) kl_RX12_248 mi_yX12_number (rv_33 _ _) hcl_12 Z hl rfl rfl ⟨Nat.le_of_ble_eq_true rfl, Nat.le_of_ble_eq_true rfl⟩ rfl rfl (Nat.le_of_ble_eq_true rfl) dX12_takesThree_37 (fun H locs Z => ?_)
        clear hc16
        refine lv_lmul hx hb dX12_takesThree_40 ?_
        refine lv_aload_n hx hb dX12_takesThree_41 rfl (lv_at hl 2 rfl) ?_
        refine lv_iload hx hb dX12_takesThree_42 (lv_at hl 0 rfl) ?_
        refine lv_iload_n hx hb dX12_takesThree_44 rfl (lv_at hl 3 rfl) ?_
        obtain ⟨r20, hc18, h19⟩ := db1_s h18
        clear h18
        refine cV_L [.int x14, .int a1] [.long (r16 * r18), .int x1, .ref (X.2.1 42)] B mx_yX12_number (c_fMM_number l X _ x14 a1 σ2 r20 hc18) kl_RX12_248 mi_yX12_number (rv_33 _ _) hcl_12 Z hl rfl rfl ⟨Nat.le_of_ble_eq_true rfl, Nat.le_of_ble_eq_true rfl⟩ rfl rfl (Nat.le_of_ble_eq_true rfl) dX12_takesThree_45 (fun H locs Z => ?_)
        clear hc18
        refine lv_aload_n hx hb dX12_takesThree_48 rfl (lv_at hl 2 rfl) ?_
        refine lv_iload hx hb dX12_takesThree_49 (lv_at hl 1 rfl) ?_
        refine lv_iload_n hx hb dX12_takesThree_51 rfl (lv_at hl 4 rfl) ?_
        obtain ⟨r22, hc20, h20⟩ := db1_s h19
        clear h19
        refine cV_L [.int x13, .int a2] [.long r20, .long (r16 * r18), .int x1, .ref (X.2.1 42)] B mx_yX12_number (c_fMM_number l X _ x13 a2 σ2 r22 hc20) kl_RX12_248 mi_yX12_number (rv_33 _ _) hcl_12 Z hl rfl rfl ⟨Nat.le_of_ble_eq_true rfl, Nat.le_of_ble_eq_true rfl⟩ rfl rfl (Nat.le_of_ble_eq_true rfl) dX12_takesThree_52 (fun H locs Z => ?_)
        clear hc20
        refine lv_lmul hx hb dX12_takesThree_55 ?_
        refine lv_lsub hx hb dX12_takesThree_56 ?_
        obtain ⟨z23, h21⟩ := dck_s h20
        clear h20
        refine st_42 B Z z23 dX12_takesThree_57 (fun H locs Z => ?_)
        obtain ⟨σ24, eσ24, h22⟩ := dlt_s h21
        clear h21
        replace Z := Wd.eq eσ24 Z
        clear eσ24
        refine lv_iinc (v := x1 + (1 : Int32)) (lv' := [(3, .int (x1 + (1 : Int32))), (5, .int x14), (4, .int x13), (0, .ref (X.2.1 33)), (1, .int a1), (2, .int a2)]) hx hb dX12_takesThree_58 hl (k := 5) rfl (by rfl) (by decide) rfl (fun ls hl => ?_)
        refine lv_goto (tgt := 2) hx hb dX12_takesThree_61 (by decide) ?_
        exact ih2 (x1 + (1 : Int32)) σ24 _ _ _ Z (lv_sub hl [3, 4, 5, 0] rfl) h22
  exact lL2 FU (0 : Int32) σ _ _ _ Z (lv_sub hl [1, 2, 3, 0] rfl) h11
theorem dX12_takesSome_0 : decode cX12_takesSome 0 = .ok (.aload_n 0, 1) := by decide +kernel
theorem dX12_takesSome_1 : decode cX12_takesSome 1 = .ok (.getfield 251, 3) := by decide +kernel
theorem dX12_takesSome_4 : decode cX12_takesSome 4 = .ok (.iconst 1, 1) := by decide +kernel
theorem dX12_takesSome_5 : decode cX12_takesSome 5 = .ok (.if_icmp .ne 13, 3) := by decide +kernel
theorem dX12_takesSome_8 : decode cX12_takesSome 8 = .ok (.aload_n 0, 1) := by decide +kernel
theorem dX12_takesSome_9 : decode cX12_takesSome 9 = .ok (.getfield 35, 3) := by decide +kernel
theorem dX12_takesSome_12 : decode cX12_takesSome 12 = .ok (.iconst 0, 1) := by decide +kernel
theorem dX12_takesSome_13 : decode cX12_takesSome 13 = .ok (.lconst 1, 1) := by decide +kernel
theorem dX12_takesSome_14 : decode cX12_takesSome 14 = .ok (.lastore, 1) := by decide +kernel
theorem dX12_takesSome_15 : decode cX12_takesSome 15 = .ok (.goto 169, 3) := by decide +kernel
theorem dX12_takesSome_18 : decode cX12_takesSome 18 = .ok (.aload_n 0, 1) := by decide +kernel
theorem dX12_takesSome_19 : decode cX12_takesSome 19 = .ok (.getfield 251, 3) := by decide +kernel
theorem dX12_takesSome_22 : decode cX12_takesSome 22 = .ok (.iconst 2, 1) := by decide +kernel
theorem dX12_takesSome_23 : decode cX12_takesSome 23 = .ok (.if_icmp .ne 63, 3) := by decide +kernel
theorem dX12_takesSome_26 : decode cX12_takesSome 26 = .ok (.aload_n 0, 1) := by decide +kernel
theorem dX12_takesSome_27 : decode cX12_takesSome 27 = .ok (.iconst 0, 1) := by decide +kernel
theorem dX12_takesSome_28 : decode cX12_takesSome 28 = .ok (.iconst 0, 1) := by decide +kernel
theorem dX12_takesSome_29 : decode cX12_takesSome 29 = .ok (.invokevirtual 248, 3) := by decide +kernel
theorem dX12_takesSome_32 : decode cX12_takesSome 32 = .ok (.lconst 0, 1) := by decide +kernel
theorem dX12_takesSome_33 : decode cX12_takesSome 33 = .ok (.lcmp, 1) := by decide +kernel
theorem dX12_takesSome_34 : decode cX12_takesSome 34 = .ok (.ifCond .eq 7, 3) := by decide +kernel
theorem dX12_takesSome_37 : decode cX12_takesSome 37 = .ok (.iconst 0, 1) := by decide +kernel
theorem dX12_takesSome_38 : decode cX12_takesSome 38 = .ok (.goto 19, 3) := by decide +kernel
theorem dX12_takesSome_41 : decode cX12_takesSome 41 = .ok (.aload_n 0, 1) := by decide +kernel
theorem dX12_takesSome_42 : decode cX12_takesSome 42 = .ok (.iconst 0, 1) := by decide +kernel
theorem dX12_takesSome_43 : decode cX12_takesSome 43 = .ok (.iconst 1, 1) := by decide +kernel
theorem dX12_takesSome_44 : decode cX12_takesSome 44 = .ok (.invokevirtual 248, 3) := by decide +kernel
theorem dX12_takesSome_47 : decode cX12_takesSome 47 = .ok (.lconst 0, 1) := by decide +kernel
theorem dX12_takesSome_48 : decode cX12_takesSome 48 = .ok (.lcmp, 1) := by decide +kernel
theorem dX12_takesSome_49 : decode cX12_takesSome 49 = .ok (.ifCond .eq 7, 3) := by decide +kernel
theorem dX12_takesSome_52 : decode cX12_takesSome 52 = .ok (.iconst 1, 1) := by decide +kernel
theorem dX12_takesSome_53 : decode cX12_takesSome 53 = .ok (.goto 4, 3) := by decide +kernel
theorem dX12_takesSome_56 : decode cX12_takesSome 56 = .ok (.iconst 2, 1) := by decide +kernel
theorem dX12_takesSome_57 : decode cX12_takesSome 57 = .ok (.istore_n 1, 1) := by decide +kernel
theorem dX12_takesSome_58 : decode cX12_takesSome 58 = .ok (.aload_n 0, 1) := by decide +kernel
theorem dX12_takesSome_59 : decode cX12_takesSome 59 = .ok (.getfield 35, 3) := by decide +kernel
theorem dX12_takesSome_62 : decode cX12_takesSome 62 = .ok (.iconst 0, 1) := by decide +kernel
theorem dX12_takesSome_63 : decode cX12_takesSome 63 = .ok (.aload_n 0, 1) := by decide +kernel
theorem dX12_takesSome_64 : decode cX12_takesSome 64 = .ok (.iconst 1, 1) := by decide +kernel
theorem dX12_takesSome_65 : decode cX12_takesSome 65 = .ok (.iload_n 1, 1) := by decide +kernel
theorem dX12_takesSome_66 : decode cX12_takesSome 66 = .ok (.invokevirtual 248, 3) := by decide +kernel
theorem dX12_takesSome_69 : decode cX12_takesSome 69 = .ok (.lastore, 1) := by decide +kernel
theorem dX12_takesSome_70 : decode cX12_takesSome 70 = .ok (.aload_n 0, 1) := by decide +kernel
theorem dX12_takesSome_71 : decode cX12_takesSome 71 = .ok (.getfield 35, 3) := by decide +kernel
theorem dX12_takesSome_74 : decode cX12_takesSome 74 = .ok (.iconst 1, 1) := by decide +kernel
theorem dX12_takesSome_75 : decode cX12_takesSome 75 = .ok (.aload_n 0, 1) := by decide +kernel
theorem dX12_takesSome_76 : decode cX12_takesSome 76 = .ok (.iconst 0, 1) := by decide +kernel
theorem dX12_takesSome_77 : decode cX12_takesSome 77 = .ok (.iload_n 1, 1) := by decide +kernel
theorem dX12_takesSome_78 : decode cX12_takesSome 78 = .ok (.invokevirtual 248, 3) := by decide +kernel
theorem dX12_takesSome_81 : decode cX12_takesSome 81 = .ok (.lneg, 1) := by decide +kernel
theorem dX12_takesSome_82 : decode cX12_takesSome 82 = .ok (.lastore, 1) := by decide +kernel
theorem dX12_takesSome_83 : decode cX12_takesSome 83 = .ok (.goto 101, 3) := by decide +kernel
theorem dX12_takesSome_86 : decode cX12_takesSome 86 = .ok (.aload_n 0, 1) := by decide +kernel
theorem dX12_takesSome_87 : decode cX12_takesSome 87 = .ok (.getfield 251, 3) := by decide +kernel
theorem dX12_takesSome_90 : decode cX12_takesSome 90 = .ok (.iconst 3, 1) := by decide +kernel
theorem dX12_takesSome_91 : decode cX12_takesSome 91 = .ok (.if_icmp .ne 39, 3) := by decide +kernel
theorem dX12_takesSome_94 : decode cX12_takesSome 94 = .ok (.aload_n 0, 1) := by decide +kernel
theorem dX12_takesSome_95 : decode cX12_takesSome 95 = .ok (.iconst 0, 1) := by decide +kernel
theorem dX12_takesSome_96 : decode cX12_takesSome 96 = .ok (.iconst 1, 1) := by decide +kernel
theorem dX12_takesSome_97 : decode cX12_takesSome 97 = .ok (.invokevirtual 254, 3) := by decide +kernel
theorem dX12_takesSome_100 : decode cX12_takesSome 100 = .ok (.ifCond .ne 21, 3) := by decide +kernel
theorem dX12_takesSome_103 : decode cX12_takesSome 103 = .ok (.aload_n 0, 1) := by decide +kernel
theorem dX12_takesSome_104 : decode cX12_takesSome 104 = .ok (.iconst 1, 1) := by decide +kernel
theorem dX12_takesSome_105 : decode cX12_takesSome 105 = .ok (.iconst 2, 1) := by decide +kernel
theorem dX12_takesSome_106 : decode cX12_takesSome 106 = .ok (.invokevirtual 254, 3) := by decide +kernel
theorem dX12_takesSome_109 : decode cX12_takesSome 109 = .ok (.ifCond .ne 12, 3) := by decide +kernel
theorem dX12_takesSome_112 : decode cX12_takesSome 112 = .ok (.aload_n 0, 1) := by decide +kernel
theorem dX12_takesSome_113 : decode cX12_takesSome 113 = .ok (.iconst 0, 1) := by decide +kernel
theorem dX12_takesSome_114 : decode cX12_takesSome 114 = .ok (.iconst 2, 1) := by decide +kernel
theorem dX12_takesSome_115 : decode cX12_takesSome 115 = .ok (.invokevirtual 254, 3) := by decide +kernel
theorem dX12_takesSome_118 : decode cX12_takesSome 118 = .ok (.ifCond .eq 7, 3) := by decide +kernel
theorem dX12_takesSome_121 : decode cX12_takesSome 121 = .ok (.iconst 1, 1) := by decide +kernel
theorem dX12_takesSome_122 : decode cX12_takesSome 122 = .ok (.goto 4, 3) := by decide +kernel
theorem dX12_takesSome_125 : decode cX12_takesSome 125 = .ok (.iconst 0, 1) := by decide +kernel
theorem dX12_takesSome_126 : decode cX12_takesSome 126 = .ok (.istore_n 1, 1) := by decide +kernel
theorem dX12_takesSome_127 : decode cX12_takesSome 127 = .ok (.goto 57, 3) := by decide +kernel
theorem dX12_takesSome_130 : decode cX12_takesSome 130 = .ok (.aload_n 0, 1) := by decide +kernel
theorem dX12_takesSome_131 : decode cX12_takesSome 131 = .ok (.getfield 35, 3) := by decide +kernel
theorem dX12_takesSome_134 : decode cX12_takesSome 134 = .ok (.iconst 0, 1) := by decide +kernel
theorem dX12_takesSome_135 : decode cX12_takesSome 135 = .ok (.aload_n 0, 1) := by decide +kernel
theorem dX12_takesSome_136 : decode cX12_takesSome 136 = .ok (.iconst 1, 1) := by decide +kernel
theorem dX12_takesSome_137 : decode cX12_takesSome 137 = .ok (.iconst 2, 1) := by decide +kernel
theorem dX12_takesSome_138 : decode cX12_takesSome 138 = .ok (.iconst 3, 1) := by decide +kernel
theorem dX12_takesSome_139 : decode cX12_takesSome 139 = .ok (.invokevirtual 257, 3) := by decide +kernel
theorem dX12_takesSome_142 : decode cX12_takesSome 142 = .ok (.lastore, 1) := by decide +kernel
theorem dX12_takesSome_143 : decode cX12_takesSome 143 = .ok (.aload_n 0, 1) := by decide +kernel
theorem dX12_takesSome_144 : decode cX12_takesSome 144 = .ok (.getfield 35, 3) := by decide +kernel
theorem dX12_takesSome_147 : decode cX12_takesSome 147 = .ok (.iconst 1, 1) := by decide +kernel
theorem dX12_takesSome_148 : decode cX12_takesSome 148 = .ok (.aload_n 0, 1) := by decide +kernel
theorem dX12_takesSome_149 : decode cX12_takesSome 149 = .ok (.iconst 0, 1) := by decide +kernel
theorem dX12_takesSome_150 : decode cX12_takesSome 150 = .ok (.iconst 2, 1) := by decide +kernel
theorem dX12_takesSome_151 : decode cX12_takesSome 151 = .ok (.iconst 3, 1) := by decide +kernel
theorem dX12_takesSome_152 : decode cX12_takesSome 152 = .ok (.invokevirtual 257, 3) := by decide +kernel
theorem dX12_takesSome_155 : decode cX12_takesSome 155 = .ok (.lneg, 1) := by decide +kernel
theorem dX12_takesSome_156 : decode cX12_takesSome 156 = .ok (.lastore, 1) := by decide +kernel
theorem dX12_takesSome_157 : decode cX12_takesSome 157 = .ok (.aload_n 0, 1) := by decide +kernel
theorem dX12_takesSome_158 : decode cX12_takesSome 158 = .ok (.getfield 35, 3) := by decide +kernel
theorem dX12_takesSome_161 : decode cX12_takesSome 161 = .ok (.iconst 2, 1) := by decide +kernel
theorem dX12_takesSome_162 : decode cX12_takesSome 162 = .ok (.aload_n 0, 1) := by decide +kernel
theorem dX12_takesSome_163 : decode cX12_takesSome 163 = .ok (.iconst 0, 1) := by decide +kernel
theorem dX12_takesSome_164 : decode cX12_takesSome 164 = .ok (.iconst 1, 1) := by decide +kernel
theorem dX12_takesSome_165 : decode cX12_takesSome 165 = .ok (.iconst 3, 1) := by decide +kernel
theorem dX12_takesSome_166 : decode cX12_takesSome 166 = .ok (.invokevirtual 257, 3) := by decide +kernel
theorem dX12_takesSome_169 : decode cX12_takesSome 169 = .ok (.lastore, 1) := by decide +kernel
theorem dX12_takesSome_170 : decode cX12_takesSome 170 = .ok (.aload_n 0, 1) := by decide +kernel
theorem dX12_takesSome_171 : decode cX12_takesSome 171 = .ok (.getfield 35, 3) := by decide +kernel
theorem dX12_takesSome_174 : decode cX12_takesSome 174 = .ok (.iconst 3, 1) := by decide +kernel
theorem dX12_takesSome_175 : decode cX12_takesSome 175 = .ok (.aload_n 0, 1) := by decide +kernel
theorem dX12_takesSome_176 : decode cX12_takesSome 176 = .ok (.iconst 0, 1) := by decide +kernel
theorem dX12_takesSome_177 : decode cX12_takesSome 177 = .ok (.iconst 1, 1) := by decide +kernel
theorem dX12_takesSome_178 : decode cX12_takesSome 178 = .ok (.iconst 2, 1) := by decide +kernel
theorem dX12_takesSome_179 : decode cX12_takesSome 179 = .ok (.invokevirtual 257, 3) := by decide +kernel
theorem dX12_takesSome_182 : decode cX12_takesSome 182 = .ok (.lneg, 1) := by decide +kernel
theorem dX12_takesSome_183 : decode cX12_takesSome 183 = .ok (.lastore, 1) := by decide +kernel
theorem dX12_takesSome_184 : decode cX12_takesSome 184 = .ok (.return_, 1) := by decide +kernel
def rm_fMM_takesSome : Room := { frames := 4, cells := 0, slots := 0, locals := 133 }
set_option maxHeartbeats 4000000 in
set_option maxRecDepth 100000 in
theorem c_fMM_takesSome (l : Launch) (X : eX) (sz : Nat)  (σ : sT) (σz : sT) (h0 : fMM_takesSome σ = some σz) : ctV l yX12_takesSome cX12_takesSome 2 none rm_fMM_takesSome [.ref (X.2.1 33)] (wM X) (tM X) (aM X) X sz σ σz := by
  refine ct_of (by decide +kernel) (Nat.le_of_ble_eq_true rfl) ?_
  intro p e s m args below meth c ls hz B hl Z
  have B : Bd p s m args meth c RX12 cX12_takesSome 2 none := B
  have hl : lv_has ls 2 [(0, .ref (X.2.1 33))] := hl
  have hx := B.1
  have hb := B.2.1
  unfold fMM_takesSome at h0
  refine lv_aload_n hx hb dX12_takesSome_0 rfl (lv_at hl 0 rfl) ?_
  refine g_33_20 B Z kf_RX12_251 dX12_takesSome_1 ?_
  refine lv_iconst (v := (1 : Int32)) hx hb dX12_takesSome_4 (by decide) ?_
  refine lv_icmp_ne (tgt := 18) hx hb dX12_takesSome_5 (by decide) (fun c1 => ?_) (fun c1 => ?_)
  · have h1 := dif h0 c1
    clear h0
    refine lv_aload_n hx hb dX12_takesSome_18 rfl (lv_at hl 0 rfl) ?_
    refine g_33_20 B Z kf_RX12_251 dX12_takesSome_19 ?_
    refine lv_iconst (v := (2 : Int32)) hx hb dX12_takesSome_22 (by decide) ?_
    refine lv_icmp_ne (tgt := 86) hx hb dX12_takesSome_23 (by decide) (fun c2 => ?_) (fun c2 => ?_)
    · have h2 := dif h1 c2
      clear h1
      refine lv_aload_n hx hb dX12_takesSome_86 rfl (lv_at hl 0 rfl) ?_
      refine g_33_20 B Z kf_RX12_251 dX12_takesSome_87 ?_
      refine lv_iconst (v := (3 : Int32)) hx hb dX12_takesSome_90 (by decide) ?_
      refine lv_icmp_ne (tgt := 130) hx hb dX12_takesSome_91 (by decide) (fun c3 => ?_) (fun c3 => ?_)
      · have h3 := dif h2 c3
        clear h2
        refine lv_aload_n hx hb dX12_takesSome_130 rfl (lv_at hl 0 rfl) ?_
        refine g_33_21 B Z kf_RX12_35 dX12_takesSome_131 ?_
        refine lv_iconst (v := (0 : Int32)) hx hb dX12_takesSome_134 (by decide) ?_
        refine lv_aload_n hx hb dX12_takesSome_135 rfl (lv_at hl 0 rfl) ?_
        refine lv_iconst (v := (1 : Int32)) hx hb dX12_takesSome_136 (by decide) ?_
        refine lv_iconst (v := (2 : Int32)) hx hb dX12_takesSome_137 (by decide) ?_
        refine lv_iconst (v := (3 : Int32)) hx hb dX12_takesSome_138 (by decide) ?_
        obtain ⟨r5, hc3, h4⟩ := db1_s h3
        clear h3
        refine cV_L [.int (1 : Int32), .int (2 : Int32), .int (3 : Int32)] [.int (0 : Int32), .ref (X.2.1 42)] B mx_yX12_minor (c_fMM_minor l X _ (1 : Int32) (2 : Int32) (3 : Int32) σ r5 hc3) kl_RX12_257 mi_yX12_minor (rv_33 _ _) hcl_12 Z hl rfl rfl ⟨Nat.le_of_ble_eq_true rfl, Nat.le_of_ble_eq_true rfl⟩ rfl rfl (Nat.le_of_ble_eq_true rfl) dX12_takesSome_139 (fun H locs Z => ?_)
        clear hc3
        obtain ⟨z6, h5⟩ := dck_s h4
        clear h4
        refine st_42 B Z z6 dX12_takesSome_142 (fun H locs Z => ?_)
        obtain ⟨σ7, eσ7, h6⟩ := dlt_s h5
        clear h5
        replace Z := Wd.eq eσ7 Z
        clear eσ7
        refine lv_aload_n hx hb dX12_takesSome_143 rfl (lv_at hl 0 rfl) ?_
        refine g_33_21 B Z kf_RX12_35 dX12_takesSome_144 ?_
        refine lv_iconst (v := (1 : Int32)) hx hb dX12_takesSome_147 (by decide) ?_
        refine lv_aload_n hx hb dX12_takesSome_148 rfl (lv_at hl 0 rfl) ?_
        refine lv_iconst (v := (0 : Int32)) hx hb dX12_takesSome_149 (by decide) ?_
        refine lv_iconst (v := (2 : Int32)) hx hb dX12_takesSome_150 (by decide) ?_
        refine lv_iconst (v := (3 : Int32)) hx hb dX12_takesSome_151 (by decide) ?_
        obtain ⟨r9, hc7, h7⟩ := db1_s h6
        clear h6
        refine cV_L [.int (0 : Int32), .int (2 : Int32), .int (3 : Int32)] [.int (1 : Int32), .ref (X.2.1 42)] B mx_yX12_minor (c_fMM_minor l X _ (0 : Int32) (2 : Int32) (3 : Int32) σ7 r9 hc7) kl_RX12_257 mi_yX12_minor (rv_33 _ _) hcl_12 Z hl rfl rfl ⟨Nat.le_of_ble_eq_true rfl, Nat.le_of_ble_eq_true rfl⟩ rfl rfl (Nat.le_of_ble_eq_true rfl) dX12_takesSome_152 (fun H locs Z => ?_)
        clear hc7
        refine lv_lneg hx hb dX12_takesSome_155 ?_
        obtain ⟨z10, h8⟩ := dck_s h7
        clear h7
        refine st_42 B Z z10 dX12_takesSome_156 (fun H locs Z => ?_)
        obtain ⟨σ11, eσ11, h9⟩ := dlt_s h8
        clear h8
        replace Z := Wd.eq eσ11 Z
        clear eσ11
        refine lv_aload_n hx hb dX12_takesSome_157 rfl (lv_at hl 0 rfl) ?_
        refine g_33_21 B Z kf_RX12_35 dX12_takesSome_158 ?_
        refine lv_iconst (v := (2 : Int32)) hx hb dX12_takesSome_161 (by decide) ?_
        refine lv_aload_n hx hb dX12_takesSome_162 rfl (lv_at hl 0 rfl) ?_
        refine lv_iconst (v := (0 : Int32)) hx hb dX12_takesSome_163 (by decide) ?_
        refine lv_iconst (v := (1 : Int32)) hx hb dX12_takesSome_164 (by decide) ?_
        refine lv_iconst (v := (3 : Int32)) hx hb dX12_takesSome_165 (by decide) ?_
        obtain ⟨r13, hc11, h10⟩ := db1_s h9
        clear h9
        refine cV_L [.int (0 : Int32), .int (1 : Int32), .int (3 : Int32)] [.int (2 : Int32), .ref (X.2.1 42)] B mx_yX12_minor (c_fMM_minor l X _ (0 : Int32) (1 : Int32) (3 : Int32) σ11 r13 hc11) kl_RX12_257 mi_yX12_minor (rv_33 _ _) hcl_12 Z hl rfl rfl ⟨Nat.le_of_ble_eq_true rfl, Nat.le_of_ble_eq_true rfl⟩ rfl rfl (Nat.le_of_ble_eq_true rfl) dX12_takesSome_166 (fun H locs Z => ?_)
        clear hc11
        obtain ⟨z14, h11⟩ := dck_s h10
        clear h10
        refine st_42 B Z z14 dX12_takesSome_169 (fun H locs Z => ?_)
        obtain ⟨σ15, eσ15, h12⟩ := dlt_s h11
        clear h11
        replace Z := Wd.eq eσ15 Z
        clear eσ15
        refine lv_aload_n hx hb dX12_takesSome_170 rfl (lv_at hl 0 rfl) ?_
        refine g_33_21 B Z kf_RX12_35 dX12_takesSome_171 ?_
        refine lv_iconst (v := (3 : Int32)) hx hb dX12_takesSome_174 (by decide) ?_
        refine lv_aload_n hx hb dX12_takesSome_175 rfl (lv_at hl 0 rfl) ?_
        refine lv_iconst (v := (0 : Int32)) hx hb dX12_takesSome_176 (by decide) ?_
        refine lv_iconst (v := (1 : Int32)) hx hb dX12_takesSome_177 (by decide) ?_
        refine lv_iconst (v := (2 : Int32)) hx hb dX12_takesSome_178 (by decide) ?_
        obtain ⟨r17, hc15, h13⟩ := db1_s h12
        clear h12
        refine cV_L [.int (0 : Int32), .int (1 : Int32), .int (2 : Int32)] [.int (3 : Int32), .ref (X.2.1 42)] B mx_yX12_minor (c_fMM_minor l X _ (0 : Int32) (1 : Int32) (2 : Int32) σ15 r17 hc15) kl_RX12_257 mi_yX12_minor (rv_33 _ _) hcl_12 Z hl rfl rfl ⟨Nat.le_of_ble_eq_true rfl, Nat.le_of_ble_eq_true rfl⟩ rfl rfl (Nat.le_of_ble_eq_true rfl) dX12_takesSome_179 (fun H locs Z => ?_)
        clear hc15
        refine lv_lneg hx hb dX12_takesSome_182 ?_
        obtain ⟨z18, h14⟩ := dck_s h13
        clear h13
        refine st_42 B Z z18 dX12_takesSome_183 (fun H locs Z => ?_)
        obtain ⟨σ19, eσ19, h15⟩ := dlt_s h14
        clear h14
        replace Z := Wd.eq eσ19 Z
        clear eσ19
        exact reV B Z hz h15 dX12_takesSome_184
      · have h16 := dit h2 c3
        clear h2
        refine lv_aload_n hx hb dX12_takesSome_94 rfl (lv_at hl 0 rfl) ?_
        refine lv_iconst (v := (0 : Int32)) hx hb dX12_takesSome_95 (by decide) ?_
        refine lv_iconst (v := (1 : Int32)) hx hb dX12_takesSome_96 (by decide) ?_
        obtain ⟨r21, σ22, hc19, h17⟩ := db2_s h16
        clear h16
        refine cV_I [.int (0 : Int32), .int (1 : Int32)] [] B mx_yX12_takesThree (c_fMM_takesThree l X _ (0 : Int32) (1 : Int32) σ r21 σ22 hc19) kl_RX12_254 mi_yX12_takesThree (rv_33 _ _) hcl_12 Z hl rfl rfl ⟨Nat.le_of_ble_eq_true rfl, Nat.le_of_ble_eq_true rfl⟩ rfl rfl (Nat.le_of_ble_eq_true rfl) dX12_takesSome_97 (fun H locs Z => ?_)
        clear hc19
        refine lv_if_ne (tgt := 121) hx hb dX12_takesSome_100 (by decide) (fun c23 => ?_) (fun c23 => ?_)
        · have h18 := dif h17 c23
          clear h17
          refine lv_iconst (v := (1 : Int32)) hx hb dX12_takesSome_121 (by decide) ?_
          refine lv_goto (tgt := 126) hx hb dX12_takesSome_122 (by decide) ?_
          refine lv_istore_n (lv' := [(1, .int (1 : Int32)), (0, .ref (X.2.1 33))]) hx hb dX12_takesSome_126 rfl hl (by decide) rfl (fun ls hl => ?_)
          refine lv_goto (tgt := 184) hx hb dX12_takesSome_127 (by decide) ?_
          exact reV B Z hz h18 dX12_takesSome_184
        · have h19 := dit h17 c23
          clear h17
          refine lv_aload_n hx hb dX12_takesSome_103 rfl (lv_at hl 0 rfl) ?_
          refine lv_iconst (v := (1 : Int32)) hx hb dX12_takesSome_104 (by decide) ?_
          refine lv_iconst (v := (2 : Int32)) hx hb dX12_takesSome_105 (by decide) ?_
          obtain ⟨r25, σ26, hc23, h20⟩ := db2_s h19
          clear h19
          refine cV_I [.int (1 : Int32), .int (2 : Int32)] [] B mx_yX12_takesThree (c_fMM_takesThree l X _ (1 : Int32) (2 : Int32) σ22 r25 σ26 hc23) kl_RX12_254 mi_yX12_takesThree (rv_33 _ _) hcl_12 Z hl rfl rfl ⟨Nat.le_of_ble_eq_true rfl, Nat.le_of_ble_eq_true rfl⟩ rfl rfl (Nat.le_of_ble_eq_true rfl) dX12_takesSome_106 (fun H locs Z => ?_)
          clear hc23
          refine lv_if_ne (tgt := 121) hx hb dX12_takesSome_109 (by decide) (fun c27 => ?_) (fun c27 => ?_)
          · have h21 := dif h20 c27
            clear h20
            refine lv_iconst (v := (1 : Int32)) hx hb dX12_takesSome_121 (by decide) ?_
            refine lv_goto (tgt := 126) hx hb dX12_takesSome_122 (by decide) ?_
            refine lv_istore_n (lv' := [(1, .int (1 : Int32)), (0, .ref (X.2.1 33))]) hx hb dX12_takesSome_126 rfl hl (by decide) rfl (fun ls hl => ?_)
            refine lv_goto (tgt := 184) hx hb dX12_takesSome_127 (by decide) ?_
            exact reV B Z hz h21 dX12_takesSome_184
          · have h22 := dit h20 c27
            clear h20
            refine lv_aload_n hx hb dX12_takesSome_112 rfl (lv_at hl 0 rfl) ?_
            refine lv_iconst (v := (0 : Int32)) hx hb dX12_takesSome_113 (by decide) ?_
            refine lv_iconst (v := (2 : Int32)) hx hb dX12_takesSome_114 (by decide) ?_
            obtain ⟨r29, σ30, hc27, h23⟩ := db2_s h22
            clear h22
            refine cV_I [.int (0 : Int32), .int (2 : Int32)] [] B mx_yX12_takesThree (c_fMM_takesThree l X _ (0 : Int32) (2 : Int32) σ26 r29 σ30 hc27) kl_RX12_254 mi_yX12_takesThree (rv_33 _ _) hcl_12 Z hl rfl rfl ⟨Nat.le_of_ble_eq_true rfl, Nat.le_of_ble_eq_true rfl⟩ rfl rfl (Nat.le_of_ble_eq_true rfl) dX12_takesSome_115 (fun H locs Z => ?_)
            clear hc27
            refine lv_if_eq (tgt := 125) hx hb dX12_takesSome_118 (by decide) (fun c31 => ?_) (fun c31 => ?_)
            · have h24 := dit h23 c31
              clear h23
              refine lv_iconst (v := (0 : Int32)) hx hb dX12_takesSome_125 (by decide) ?_
              refine lv_istore_n (lv' := [(1, .int (0 : Int32)), (0, .ref (X.2.1 33))]) hx hb dX12_takesSome_126 rfl hl (by decide) rfl (fun ls hl => ?_)
              refine lv_goto (tgt := 184) hx hb dX12_takesSome_127 (by decide) ?_
              exact reV B Z hz h24 dX12_takesSome_184
            · have h25 := dif h23 c31
              clear h23
              refine lv_iconst (v := (1 : Int32)) hx hb dX12_takesSome_121 (by decide) ?_
              refine lv_goto (tgt := 126) hx hb dX12_takesSome_122 (by decide) ?_
              refine lv_istore_n (lv' := [(1, .int (1 : Int32)), (0, .ref (X.2.1 33))]) hx hb dX12_takesSome_126 rfl hl (by decide) rfl (fun ls hl => ?_)
              refine lv_goto (tgt := 184) hx hb dX12_takesSome_127 (by decide) ?_
              exact reV B Z hz h25 dX12_takesSome_184
    · have h26 := dit h1 c2
      clear h1
      refine lv_aload_n hx hb dX12_takesSome_26 rfl (lv_at hl 0 rfl) ?_
      refine lv_iconst (v := (0 : Int32)) hx hb dX12_takesSome_27 (by decide) ?_
      refine lv_iconst (v := (0 : Int32)) hx hb dX12_takesSome_28 (by decide) ?_
      obtain ⟨r33, hc31, h27⟩ := db1_s h26
      clear h26
      refine cV_L [.int (0 : Int32), .int (0 : Int32)] [] B mx_yX12_number (c_fMM_number l X _ (0 : Int32) (0 : Int32) σ r33 hc31) kl_RX12_248 mi_yX12_number (rv_33 _ _) hcl_12 Z hl rfl rfl ⟨Nat.le_of_ble_eq_true rfl, Nat.le_of_ble_eq_true rfl⟩ rfl rfl (Nat.le_of_ble_eq_true rfl) dX12_takesSome_29 (fun H locs Z => ?_)
      clear hc31
      refine lv_lconst (v := (0 : Int64)) hx hb dX12_takesSome_32 (by decide) ?_
      refine W.lcmp hx hb dX12_takesSome_33 ?_
      obtain ⟨J35, eJ35, h35⟩ := dlt_s h27
      clear h27
      have kJ35 : ∀ (x34 : Int32) (H : Heap) (locs : List Loc) (ls : Array Slot), Wd (wM X) (tM X) (aM X) X s σ H locs → lv_has ls 2 [(0, .ref (X.2.1 33))] → J35 x34 = some σz → W p l e rm_fMM_takesSome s m args below meth c H locs 0 0 (MQ below (va_Qv (fun u => u = σz) (poW (wM X) (tM X) (aM X) X sz) (aA (aM X) sz)) args s 0 0 (aA (aM X) sz)) (F0 m 57 ls [.int x34]) := by
        intro x34 H locs ls Z hl h28
        rw [eJ35] at h28
        refine lv_istore_n (lv' := [(1, .int x34), (0, .ref (X.2.1 33))]) hx hb dX12_takesSome_57 rfl hl (by decide) rfl (fun ls hl => ?_)
        refine lv_aload_n hx hb dX12_takesSome_58 rfl (lv_at hl 1 rfl) ?_
        refine g_33_21 B Z kf_RX12_35 dX12_takesSome_59 ?_
        refine lv_iconst (v := (0 : Int32)) hx hb dX12_takesSome_62 (by decide) ?_
        refine lv_aload_n hx hb dX12_takesSome_63 rfl (lv_at hl 1 rfl) ?_
        refine lv_iconst (v := (1 : Int32)) hx hb dX12_takesSome_64 (by decide) ?_
        refine lv_iload_n hx hb dX12_takesSome_65 rfl (lv_at hl 0 rfl) ?_
        obtain ⟨r37, hc35, h29⟩ := db1_s h28
        clear h28
        refine cV_L [.int (1 : Int32), .int x34] [.int (0 : Int32), .ref (X.2.1 42)] B mx_yX12_number (c_fMM_number l X _ (1 : Int32) x34 σ r37 hc35) kl_RX12_248 mi_yX12_number (rv_33 _ _) hcl_12 Z hl rfl rfl ⟨Nat.le_of_ble_eq_true rfl, Nat.le_of_ble_eq_true rfl⟩ rfl rfl (Nat.le_of_ble_eq_true rfl) dX12_takesSome_66 (fun H locs Z => ?_)
        clear hc35
        obtain ⟨z38, h30⟩ := dck_s h29
        clear h29
        refine st_42 B Z z38 dX12_takesSome_69 (fun H locs Z => ?_)
        obtain ⟨σ39, eσ39, h31⟩ := dlt_s h30
        clear h30
        replace Z := Wd.eq eσ39 Z
        clear eσ39
        refine lv_aload_n hx hb dX12_takesSome_70 rfl (lv_at hl 1 rfl) ?_
        refine g_33_21 B Z kf_RX12_35 dX12_takesSome_71 ?_
        refine lv_iconst (v := (1 : Int32)) hx hb dX12_takesSome_74 (by decide) ?_
        refine lv_aload_n hx hb dX12_takesSome_75 rfl (lv_at hl 1 rfl) ?_
        refine lv_iconst (v := (0 : Int32)) hx hb dX12_takesSome_76 (by decide) ?_
        refine lv_iload_n hx hb dX12_takesSome_77 rfl (lv_at hl 0 rfl) ?_
        obtain ⟨r41, hc39, h32⟩ := db1_s h31
        clear h31
        refine cV_L [.int (0 : Int32), .int x34] [.int (1 : Int32), .ref (X.2.1 42)] B mx_yX12_number (c_fMM_number l X _ (0 : Int32) x34 σ39 r41 hc39) kl_RX12_248 mi_yX12_number (rv_33 _ _) hcl_12 Z hl rfl rfl ⟨Nat.le_of_ble_eq_true rfl, Nat.le_of_ble_eq_true rfl⟩ rfl rfl (Nat.le_of_ble_eq_true rfl) dX12_takesSome_78 (fun H locs Z => ?_)
        clear hc39
        refine lv_lneg hx hb dX12_takesSome_81 ?_
        obtain ⟨z42, h33⟩ := dck_s h32
        clear h32
        refine st_42 B Z z42 dX12_takesSome_82 (fun H locs Z => ?_)
        obtain ⟨σ43, eσ43, h34⟩ := dlt_s h33
        clear h33
        replace Z := Wd.eq eσ43 Z
        clear eσ43
        refine lv_goto (tgt := 184) hx hb dX12_takesSome_83 (by decide) ?_
        exact reV B Z hz h34 dX12_takesSome_184
      clear eJ35
      refine lv_if_eq (tgt := 41) hx hb dX12_takesSome_34 (by decide) (fun c44 => ?_) (fun c44 => ?_)
      · have h36 := dit h35 c44
        clear h35
        refine lv_aload_n hx hb dX12_takesSome_41 rfl (lv_at hl 0 rfl) ?_
        refine lv_iconst (v := (0 : Int32)) hx hb dX12_takesSome_42 (by decide) ?_
        refine lv_iconst (v := (1 : Int32)) hx hb dX12_takesSome_43 (by decide) ?_
        obtain ⟨r46, hc44, h37⟩ := db1_s h36
        clear h36
        refine cV_L [.int (0 : Int32), .int (1 : Int32)] [] B mx_yX12_number (c_fMM_number l X _ (0 : Int32) (1 : Int32) σ r46 hc44) kl_RX12_248 mi_yX12_number (rv_33 _ _) hcl_12 Z hl rfl rfl ⟨Nat.le_of_ble_eq_true rfl, Nat.le_of_ble_eq_true rfl⟩ rfl rfl (Nat.le_of_ble_eq_true rfl) dX12_takesSome_44 (fun H locs Z => ?_)
        clear hc44
        refine lv_lconst (v := (0 : Int64)) hx hb dX12_takesSome_47 (by decide) ?_
        refine W.lcmp hx hb dX12_takesSome_48 ?_
        refine lv_if_eq (tgt := 56) hx hb dX12_takesSome_49 (by decide) (fun c47 => ?_) (fun c47 => ?_)
        · have h38 := dit h37 c47
          clear h37
          refine lv_iconst (v := (2 : Int32)) hx hb dX12_takesSome_56 (by decide) ?_
          exact kJ35 (2 : Int32) _ _ _ Z (lv_sub hl [0] rfl) h38
        · have h39 := dif h37 c47
          clear h37
          refine lv_iconst (v := (1 : Int32)) hx hb dX12_takesSome_52 (by decide) ?_
          refine lv_goto (tgt := 57) hx hb dX12_takesSome_53 (by decide) ?_
          exact kJ35 (1 : Int32) _ _ _ Z (lv_sub hl [0] rfl) h39
      · have h40 := dif h35 c44
        clear h35
        refine lv_iconst (v := (0 : Int32)) hx hb dX12_takesSome_37 (by decide) ?_
        refine lv_goto (tgt := 57) hx hb dX12_takesSome_38 (by decide) ?_
        exact kJ35 (0 : Int32) _ _ _ Z (lv_sub hl [0] rfl) h40
  · have h41 := dit h0 c1
    clear h0
    refine lv_aload_n hx hb dX12_takesSome_8 rfl (lv_at hl 0 rfl) ?_
    refine g_33_21 B Z kf_RX12_35 dX12_takesSome_9 ?_
    refine lv_iconst (v := (0 : Int32)) hx hb dX12_takesSome_12 (by decide) ?_
    refine lv_lconst (v := (1 : Int64)) hx hb dX12_takesSome_13 (by decide) ?_
    obtain ⟨z48, h42⟩ := dck_s h41
    clear h41
    refine st_42 B Z z48 dX12_takesSome_14 (fun H locs Z => ?_)
    obtain ⟨σ49, eσ49, h43⟩ := dlt_s h42
    clear h42
    replace Z := Wd.eq eσ49 Z
    clear eσ49
    refine lv_goto (tgt := 184) hx hb dX12_takesSome_15 (by decide) ?_
    exact reV B Z hz h43 dX12_takesSome_184
theorem dX12_findsTimes_0 : decode cX12_findsTimes 0 = .ok (.aload_n 0, 1) := by decide +kernel
theorem dX12_findsTimes_1 : decode cX12_findsTimes 1 = .ok (.iconst 0, 1) := by decide +kernel
theorem dX12_findsTimes_2 : decode cX12_findsTimes 2 = .ok (.putfield 251, 3) := by decide +kernel
theorem dX12_findsTimes_5 : decode cX12_findsTimes 5 = .ok (.iconst 0, 1) := by decide +kernel
theorem dX12_findsTimes_6 : decode cX12_findsTimes 6 = .ok (.istore_n 2, 1) := by decide +kernel
theorem dX12_findsTimes_7 : decode cX12_findsTimes 7 = .ok (.iload_n 2, 1) := by decide +kernel
theorem dX12_findsTimes_8 : decode cX12_findsTimes 8 = .ok (.aload_n 0, 1) := by decide +kernel
theorem dX12_findsTimes_9 : decode cX12_findsTimes 9 = .ok (.getfield 7, 3) := by decide +kernel
theorem dX12_findsTimes_12 : decode cX12_findsTimes 12 = .ok (.iconst 0, 1) := by decide +kernel
theorem dX12_findsTimes_13 : decode cX12_findsTimes 13 = .ok (.iaload, 1) := by decide +kernel
theorem dX12_findsTimes_14 : decode cX12_findsTimes 14 = .ok (.if_icmp .ge 37, 3) := by decide +kernel
theorem dX12_findsTimes_17 : decode cX12_findsTimes 17 = .ok (.iload_n 1, 1) := by decide +kernel
theorem dX12_findsTimes_18 : decode cX12_findsTimes 18 = .ok (.iload_n 2, 1) := by decide +kernel
theorem dX12_findsTimes_19 : decode cX12_findsTimes 19 = .ok (.invokestatic 95, 3) := by decide +kernel
theorem dX12_findsTimes_22 : decode cX12_findsTimes 22 = .ok (.ifCond .eq 23, 3) := by decide +kernel
theorem dX12_findsTimes_25 : decode cX12_findsTimes 25 = .ok (.aload_n 0, 1) := by decide +kernel
theorem dX12_findsTimes_26 : decode cX12_findsTimes 26 = .ok (.getfield 32, 3) := by decide +kernel
theorem dX12_findsTimes_29 : decode cX12_findsTimes 29 = .ok (.aload_n 0, 1) := by decide +kernel
theorem dX12_findsTimes_30 : decode cX12_findsTimes 30 = .ok (.getfield 251, 3) := by decide +kernel
theorem dX12_findsTimes_33 : decode cX12_findsTimes 33 = .ok (.iload_n 2, 1) := by decide +kernel
theorem dX12_findsTimes_34 : decode cX12_findsTimes 34 = .ok (.iastore, 1) := by decide +kernel
theorem dX12_findsTimes_35 : decode cX12_findsTimes 35 = .ok (.aload_n 0, 1) := by decide +kernel
theorem dX12_findsTimes_36 : decode cX12_findsTimes 36 = .ok (.dup, 1) := by decide +kernel
theorem dX12_findsTimes_37 : decode cX12_findsTimes 37 = .ok (.getfield 251, 3) := by decide +kernel
theorem dX12_findsTimes_40 : decode cX12_findsTimes 40 = .ok (.iconst 1, 1) := by decide +kernel
theorem dX12_findsTimes_41 : decode cX12_findsTimes 41 = .ok (.iadd, 1) := by decide +kernel
theorem dX12_findsTimes_42 : decode cX12_findsTimes 42 = .ok (.putfield 251, 3) := by decide +kernel
theorem dX12_findsTimes_45 : decode cX12_findsTimes 45 = .ok (.iinc 2 1, 3) := by decide +kernel
theorem dX12_findsTimes_48 : decode cX12_findsTimes 48 = .ok (.goto (-41), 3) := by decide +kernel
theorem dX12_findsTimes_51 : decode cX12_findsTimes 51 = .ok (.aload_n 0, 1) := by decide +kernel
theorem dX12_findsTimes_52 : decode cX12_findsTimes 52 = .ok (.invokevirtual 261, 3) := by decide +kernel
theorem dX12_findsTimes_55 : decode cX12_findsTimes 55 = .ok (.lconst 0, 1) := by decide +kernel
theorem dX12_findsTimes_56 : decode cX12_findsTimes 56 = .ok (.lstore_n 2, 1) := by decide +kernel
theorem dX12_findsTimes_57 : decode cX12_findsTimes 57 = .ok (.lconst 0, 1) := by decide +kernel
theorem dX12_findsTimes_58 : decode cX12_findsTimes 58 = .ok (.lstore 4, 2) := by decide +kernel
theorem dX12_findsTimes_60 : decode cX12_findsTimes 60 = .ok (.lconst 0, 1) := by decide +kernel
theorem dX12_findsTimes_61 : decode cX12_findsTimes 61 = .ok (.lstore 6, 2) := by decide +kernel
theorem dX12_findsTimes_63 : decode cX12_findsTimes 63 = .ok (.iconst 0, 1) := by decide +kernel
theorem dX12_findsTimes_64 : decode cX12_findsTimes 64 = .ok (.istore 8, 2) := by decide +kernel
theorem dX12_findsTimes_66 : decode cX12_findsTimes 66 = .ok (.iload 8, 2) := by decide +kernel
theorem dX12_findsTimes_68 : decode cX12_findsTimes 68 = .ok (.aload_n 0, 1) := by decide +kernel
theorem dX12_findsTimes_69 : decode cX12_findsTimes 69 = .ok (.getfield 251, 3) := by decide +kernel
theorem dX12_findsTimes_72 : decode cX12_findsTimes 72 = .ok (.if_icmp .ge 71, 3) := by decide +kernel
theorem dX12_findsTimes_75 : decode cX12_findsTimes 75 = .ok (.lload_n 2, 1) := by decide +kernel
theorem dX12_findsTimes_76 : decode cX12_findsTimes 76 = .ok (.aload_n 0, 1) := by decide +kernel
theorem dX12_findsTimes_77 : decode cX12_findsTimes 77 = .ok (.getfield 35, 3) := by decide +kernel
theorem dX12_findsTimes_80 : decode cX12_findsTimes 80 = .ok (.iload 8, 2) := by decide +kernel
theorem dX12_findsTimes_82 : decode cX12_findsTimes 82 = .ok (.laload, 1) := by decide +kernel
theorem dX12_findsTimes_83 : decode cX12_findsTimes 83 = .ok (.invokestatic 204, 3) := by decide +kernel
theorem dX12_findsTimes_86 : decode cX12_findsTimes 86 = .ok (.lstore_n 2, 1) := by decide +kernel
theorem dX12_findsTimes_87 : decode cX12_findsTimes 87 = .ok (.lload 4, 2) := by decide +kernel
theorem dX12_findsTimes_89 : decode cX12_findsTimes 89 = .ok (.aload_n 0, 1) := by decide +kernel
theorem dX12_findsTimes_90 : decode cX12_findsTimes 90 = .ok (.getfield 35, 3) := by decide +kernel
theorem dX12_findsTimes_93 : decode cX12_findsTimes 93 = .ok (.iload 8, 2) := by decide +kernel
theorem dX12_findsTimes_95 : decode cX12_findsTimes 95 = .ok (.laload, 1) := by decide +kernel
theorem dX12_findsTimes_96 : decode cX12_findsTimes 96 = .ok (.aload_n 0, 1) := by decide +kernel
theorem dX12_findsTimes_97 : decode cX12_findsTimes 97 = .ok (.iload 8, 2) := by decide +kernel
theorem dX12_findsTimes_99 : decode cX12_findsTimes 99 = .ok (.iconst 4, 1) := by decide +kernel
theorem dX12_findsTimes_100 : decode cX12_findsTimes 100 = .ok (.invokevirtual 248, 3) := by decide +kernel
theorem dX12_findsTimes_103 : decode cX12_findsTimes 103 = .ok (.lmul, 1) := by decide +kernel
theorem dX12_findsTimes_104 : decode cX12_findsTimes 104 = .ok (.ladd, 1) := by decide +kernel
theorem dX12_findsTimes_105 : decode cX12_findsTimes 105 = .ok (.lstore 4, 2) := by decide +kernel
theorem dX12_findsTimes_107 : decode cX12_findsTimes 107 = .ok (.aload_n 0, 1) := by decide +kernel
theorem dX12_findsTimes_108 : decode cX12_findsTimes 108 = .ok (.aload_n 0, 1) := by decide +kernel
theorem dX12_findsTimes_109 : decode cX12_findsTimes 109 = .ok (.getfield 32, 3) := by decide +kernel
theorem dX12_findsTimes_112 : decode cX12_findsTimes 112 = .ok (.iload 8, 2) := by decide +kernel
theorem dX12_findsTimes_114 : decode cX12_findsTimes 114 = .ok (.iaload, 1) := by decide +kernel
theorem dX12_findsTimes_115 : decode cX12_findsTimes 115 = .ok (.iconst 3, 1) := by decide +kernel
theorem dX12_findsTimes_116 : decode cX12_findsTimes 116 = .ok (.invokevirtual 87, 3) := by decide +kernel
theorem dX12_findsTimes_119 : decode cX12_findsTimes 119 = .ok (.iconst 2, 1) := by decide +kernel
theorem dX12_findsTimes_120 : decode cX12_findsTimes 120 = .ok (.if_icmp .eq 13, 3) := by decide +kernel
theorem dX12_findsTimes_123 : decode cX12_findsTimes 123 = .ok (.aload_n 0, 1) := by decide +kernel
theorem dX12_findsTimes_124 : decode cX12_findsTimes 124 = .ok (.getfield 35, 3) := by decide +kernel
theorem dX12_findsTimes_127 : decode cX12_findsTimes 127 = .ok (.iload 8, 2) := by decide +kernel
theorem dX12_findsTimes_129 : decode cX12_findsTimes 129 = .ok (.laload, 1) := by decide +kernel
theorem dX12_findsTimes_130 : decode cX12_findsTimes 130 = .ok (.goto 5, 3) := by decide +kernel
theorem dX12_findsTimes_133 : decode cX12_findsTimes 133 = .ok (.lload 6, 2) := by decide +kernel
theorem dX12_findsTimes_135 : decode cX12_findsTimes 135 = .ok (.lstore 6, 2) := by decide +kernel
theorem dX12_findsTimes_137 : decode cX12_findsTimes 137 = .ok (.iinc 8 1, 3) := by decide +kernel
theorem dX12_findsTimes_140 : decode cX12_findsTimes 140 = .ok (.goto (-74), 3) := by decide +kernel
theorem dX12_findsTimes_143 : decode cX12_findsTimes 143 = .ok (.lload 6, 2) := by decide +kernel
theorem dX12_findsTimes_145 : decode cX12_findsTimes 145 = .ok (.lconst 0, 1) := by decide +kernel
theorem dX12_findsTimes_146 : decode cX12_findsTimes 146 = .ok (.lcmp, 1) := by decide +kernel
theorem dX12_findsTimes_147 : decode cX12_findsTimes 147 = .ok (.ifCond .lt 17, 3) := by decide +kernel
theorem dX12_findsTimes_150 : decode cX12_findsTimes 150 = .ok (.lload 6, 2) := by decide +kernel
theorem dX12_findsTimes_152 : decode cX12_findsTimes 152 = .ok (.lconst 0, 1) := by decide +kernel
theorem dX12_findsTimes_153 : decode cX12_findsTimes 153 = .ok (.lcmp, 1) := by decide +kernel
theorem dX12_findsTimes_154 : decode cX12_findsTimes 154 = .ok (.ifCond .ne 14, 3) := by decide +kernel
theorem dX12_findsTimes_157 : decode cX12_findsTimes 157 = .ok (.lload 4, 2) := by decide +kernel
theorem dX12_findsTimes_159 : decode cX12_findsTimes 159 = .ok (.lconst 0, 1) := by decide +kernel
theorem dX12_findsTimes_160 : decode cX12_findsTimes 160 = .ok (.lcmp, 1) := by decide +kernel
theorem dX12_findsTimes_161 : decode cX12_findsTimes 161 = .ok (.ifCond .le 7, 3) := by decide +kernel
theorem dX12_findsTimes_164 : decode cX12_findsTimes 164 = .ok (.iconst 1, 1) := by decide +kernel
theorem dX12_findsTimes_165 : decode cX12_findsTimes 165 = .ok (.goto 4, 3) := by decide +kernel
theorem dX12_findsTimes_168 : decode cX12_findsTimes 168 = .ok (.iconst 0, 1) := by decide +kernel
theorem dX12_findsTimes_169 : decode cX12_findsTimes 169 = .ok (.istore 8, 2) := by decide +kernel
theorem dX12_findsTimes_171 : decode cX12_findsTimes 171 = .ok (.iconst 0, 1) := by decide +kernel
theorem dX12_findsTimes_172 : decode cX12_findsTimes 172 = .ok (.istore 9, 2) := by decide +kernel
theorem dX12_findsTimes_174 : decode cX12_findsTimes 174 = .ok (.iload 9, 2) := by decide +kernel
theorem dX12_findsTimes_176 : decode cX12_findsTimes 176 = .ok (.aload_n 0, 1) := by decide +kernel
theorem dX12_findsTimes_177 : decode cX12_findsTimes 177 = .ok (.getfield 251, 3) := by decide +kernel
theorem dX12_findsTimes_180 : decode cX12_findsTimes 180 = .ok (.if_icmp .ge 41, 3) := by decide +kernel
theorem dX12_findsTimes_183 : decode cX12_findsTimes 183 = .ok (.aload_n 0, 1) := by decide +kernel
theorem dX12_findsTimes_184 : decode cX12_findsTimes 184 = .ok (.getfield 35, 3) := by decide +kernel
theorem dX12_findsTimes_187 : decode cX12_findsTimes 187 = .ok (.iload 9, 2) := by decide +kernel
theorem dX12_findsTimes_189 : decode cX12_findsTimes 189 = .ok (.iload 8, 2) := by decide +kernel
theorem dX12_findsTimes_191 : decode cX12_findsTimes 191 = .ok (.ifCond .eq 14, 3) := by decide +kernel
theorem dX12_findsTimes_194 : decode cX12_findsTimes 194 = .ok (.aload_n 0, 1) := by decide +kernel
theorem dX12_findsTimes_195 : decode cX12_findsTimes 195 = .ok (.getfield 35, 3) := by decide +kernel
theorem dX12_findsTimes_198 : decode cX12_findsTimes 198 = .ok (.iload 9, 2) := by decide +kernel
theorem dX12_findsTimes_200 : decode cX12_findsTimes 200 = .ok (.laload, 1) := by decide +kernel
theorem dX12_findsTimes_201 : decode cX12_findsTimes 201 = .ok (.lneg, 1) := by decide +kernel
theorem dX12_findsTimes_202 : decode cX12_findsTimes 202 = .ok (.goto 10, 3) := by decide +kernel
theorem dX12_findsTimes_205 : decode cX12_findsTimes 205 = .ok (.aload_n 0, 1) := by decide +kernel
theorem dX12_findsTimes_206 : decode cX12_findsTimes 206 = .ok (.getfield 35, 3) := by decide +kernel
theorem dX12_findsTimes_209 : decode cX12_findsTimes 209 = .ok (.iload 9, 2) := by decide +kernel
theorem dX12_findsTimes_211 : decode cX12_findsTimes 211 = .ok (.laload, 1) := by decide +kernel
theorem dX12_findsTimes_212 : decode cX12_findsTimes 212 = .ok (.lload_n 2, 1) := by decide +kernel
theorem dX12_findsTimes_213 : decode cX12_findsTimes 213 = .ok (.ldiv, 1) := by decide +kernel
theorem dX12_findsTimes_214 : decode cX12_findsTimes 214 = .ok (.lastore, 1) := by decide +kernel
theorem dX12_findsTimes_215 : decode cX12_findsTimes 215 = .ok (.iinc 9 1, 3) := by decide +kernel
theorem dX12_findsTimes_218 : decode cX12_findsTimes 218 = .ok (.goto (-44), 3) := by decide +kernel
theorem dX12_findsTimes_221 : decode cX12_findsTimes 221 = .ok (.return_, 1) := by decide +kernel
def rm_fMM_findsTimes : Room := { frames := 5, cells := 0, slots := 0, locals := 154 }
set_option maxHeartbeats 4000000 in
set_option maxRecDepth 100000 in
theorem c_fMM_findsTimes (l : Launch) (X : eX) (sz : Nat) (a1 : Int32) (σ : sT) (σz : sT) (h0 : fMM_findsTimes a1 σ = some σz) : ctV l yX12_findsTimes cX12_findsTimes 10 none rm_fMM_findsTimes [.ref (X.2.1 33), .int a1] (wM X) (tM X) (aM X) X sz σ σz := by
  refine ct_of (by decide +kernel) (Nat.le_of_ble_eq_true rfl) ?_
  intro p e s m args below meth c ls hz B hl Z
  have B : Bd p s m args meth c RX12 cX12_findsTimes 10 none := B
  have hl : lv_has ls 10 [(0, .ref (X.2.1 33)), (1, .int a1)] := hl
  have hx := B.1
  have hb := B.2.1
  unfold fMM_findsTimes at h0
  refine lv_aload_n hx hb dX12_findsTimes_0 rfl (lv_at hl 0 rfl) ?_
  refine lv_iconst (v := (0 : Int32)) hx hb dX12_findsTimes_1 (by decide) ?_
  refine s_33_20 B Z kf_RX12_251 dX12_findsTimes_2 (fun H locs Z => ?_)
  obtain ⟨σ1, eσ1, h1⟩ := dlt_s h0
  clear h0
  replace Z := Wd.eq eσ1 Z
  clear eσ1
  refine lv_iconst (v := (0 : Int32)) hx hb dX12_findsTimes_5 (by decide) ?_
  refine lv_istore_n (lv' := [(2, .int (0 : Int32)), (0, .ref (X.2.1 33)), (1, .int a1)]) hx hb dX12_findsTimes_6 rfl hl (by decide) rfl (fun ls hl => ?_)
  obtain ⟨K5, eK5, h44⟩ := dlt_s h1
  clear h1
  have kK5 : ∀ (σ4 : sT) (H : Heap) (locs : List Loc) (ls : Array Slot), Wd (wM X) (tM X) (aM X) X s σ4 H locs → lv_has ls 10 [(0, .ref (X.2.1 33))] → K5 σ4 = some σz → W p l e rm_fMM_findsTimes s m args below meth c H locs 0 0 (MQ below (va_Qv (fun u => u = σz) (poW (wM X) (tM X) (aM X) X sz) (aA (aM X) sz)) args s 0 0 (aA (aM X) sz)) (F0 m 51 ls []) := by
    intro σ4 H locs ls Z hl h2
    rw [eK5] at h2
    refine lv_aload_n hx hb dX12_findsTimes_51 rfl (lv_at hl 0 rfl) ?_
    obtain ⟨σ7, hc5, h3⟩ := db1_s h2
    clear h2
    refine cV_V [] [] B mx_yX12_takesSome (c_fMM_takesSome l X _ σ4 σ7 hc5) kl_RX12_261 mi_yX12_takesSome (rv_33 _ _) hcl_12 Z hl rfl rfl ⟨Nat.le_of_ble_eq_true rfl, Nat.le_of_ble_eq_true rfl⟩ rfl rfl (Nat.le_of_ble_eq_true rfl) dX12_findsTimes_52 (fun H locs Z => ?_)
    clear hc5
    refine lv_lconst (v := (0 : Int64)) hx hb dX12_findsTimes_55 (by decide) ?_
    refine lv_lstore_n (lv' := [(2, .long (0 : Int64)), (0, .ref (X.2.1 33))]) hx hb dX12_findsTimes_56 rfl hl (by decide) rfl (fun ls hl => ?_)
    refine lv_lconst (v := (0 : Int64)) hx hb dX12_findsTimes_57 (by decide) ?_
    refine lv_lstore (lv' := [(4, .long (0 : Int64)), (2, .long (0 : Int64)), (0, .ref (X.2.1 33))]) hx hb dX12_findsTimes_58 hl (by decide) rfl (fun ls hl => ?_)
    refine lv_lconst (v := (0 : Int64)) hx hb dX12_findsTimes_60 (by decide) ?_
    refine lv_lstore (lv' := [(6, .long (0 : Int64)), (4, .long (0 : Int64)), (2, .long (0 : Int64)), (0, .ref (X.2.1 33))]) hx hb dX12_findsTimes_61 hl (by decide) rfl (fun ls hl => ?_)
    refine lv_iconst (v := (0 : Int32)) hx hb dX12_findsTimes_63 (by decide) ?_
    refine lv_istore (lv' := [(8, .int (0 : Int32)), (6, .long (0 : Int64)), (4, .long (0 : Int64)), (2, .long (0 : Int64)), (0, .ref (X.2.1 33))]) hx hb dX12_findsTimes_64 hl (by decide) rfl (fun ls hl => ?_)
    obtain ⟨K15, eK15, h29⟩ := dlt_s h3
    clear h3
    have kK15 : ∀ (x12 : Int64) (x13 : Int64) (x14 : Int64) (H : Heap) (locs : List Loc) (ls : Array Slot), Wd (wM X) (tM X) (aM X) X s σ7 H locs → lv_has ls 10 [(0, .ref (X.2.1 33)), (2, .long x12), (4, .long x13), (6, .long x14)] → K15 x12 x13 x14 = some σz → W p l e rm_fMM_findsTimes s m args below meth c H locs 0 0 (MQ below (va_Qv (fun u => u = σz) (poW (wM X) (tM X) (aM X) X sz) (aA (aM X) sz)) args s 0 0 (aA (aM X) sz)) (F0 m 143 ls []) := by
      intro x12 x13 x14 H locs ls Z hl h4
      rw [eK15] at h4
      refine lv_lload hx hb dX12_findsTimes_143 (lv_at hl 3 rfl) ?_
      refine lv_lconst (v := (0 : Int64)) hx hb dX12_findsTimes_145 (by decide) ?_
      refine W.lcmp hx hb dX12_findsTimes_146 ?_
      obtain ⟨J17, eJ17, h18⟩ := dlt_s h4
      clear h4
      have kJ17 : ∀ (x16 : Int32) (H : Heap) (locs : List Loc) (ls : Array Slot), Wd (wM X) (tM X) (aM X) X s σ7 H locs → lv_has ls 10 [(0, .ref (X.2.1 33)), (2, .long x12)] → J17 x16 = some σz → W p l e rm_fMM_findsTimes s m args below meth c H locs 0 0 (MQ below (va_Qv (fun u => u = σz) (poW (wM X) (tM X) (aM X) X sz) (aA (aM X) sz)) args s 0 0 (aA (aM X) sz)) (F0 m 169 ls [.int x16]) := by
        intro x16 H locs ls Z hl h5
        rw [eJ17] at h5
        refine lv_istore (lv' := [(8, .int x16), (0, .ref (X.2.1 33)), (2, .long x12)]) hx hb dX12_findsTimes_169 hl (by decide) rfl (fun ls hl => ?_)
        refine lv_iconst (v := (0 : Int32)) hx hb dX12_findsTimes_171 (by decide) ?_
        refine lv_istore (lv' := [(9, .int (0 : Int32)), (8, .int x16), (0, .ref (X.2.1 33)), (2, .long x12)]) hx hb dX12_findsTimes_172 hl (by decide) rfl (fun ls hl => ?_)
        have lL174 : ∀ (n : Nat), ∀ (x18 : Int32) (σ19 : sT) (H : Heap) (locs : List Loc) (ls : Array Slot), Wd (wM X) (tM X) (aM X) X s σ19 H locs → lv_has ls 10 [(0, .ref (X.2.1 33)), (2, .long x12), (8, .int x16), (9, .int x18)] → fMM_findsTimes_L174 x12 x16 n x18 σ19 = some σz → W p l e rm_fMM_findsTimes s m args below meth c H locs 0 0 (MQ below (va_Qv (fun u => u = σz) (poW (wM X) (tM X) (aM X) X sz) (aA (aM X) sz)) args s 0 0 (aA (aM X) sz)) (F0 m 174 ls []) := by
          intro n
          induction n with
          | zero =>
            intro x18 σ19 H locs ls Z hl h
            exact nomatch (show (none : Option (sT)) = some _ from h)
          | succ n20 ih98 =>
            intro x18 σ19 H locs ls Z hl h6
            unfold fMM_findsTimes_L174 at h6
            refine lv_iload hx hb dX12_findsTimes_174 (lv_at hl 3 rfl) ?_
            refine lv_aload_n hx hb dX12_findsTimes_176 rfl (lv_at hl 0 rfl) ?_
            refine g_33_20 B Z kf_RX12_251 dX12_findsTimes_177 ?_
            refine lv_icmp_ge (tgt := 221) hx hb dX12_findsTimes_180 (by decide) (fun c21 => ?_) (fun c21 => ?_)
            · have h7 := dit h6 c21
              clear h6
              exact reV B Z hz h7 dX12_findsTimes_221
            · have h8 := dif h6 c21
              clear h6
              refine lv_aload_n hx hb dX12_findsTimes_183 rfl (lv_at hl 0 rfl) ?_
              refine g_33_21 B Z kf_RX12_35 dX12_findsTimes_184 ?_
              refine lv_iload hx hb dX12_findsTimes_187 (lv_at hl 3 rfl) ?_
              refine lv_iload hx hb dX12_findsTimes_189 (lv_at hl 2 rfl) ?_
              obtain ⟨J24, eJ24, h13⟩ := dlt_s h8
              clear h8
              have kJ24 : ∀ (x22 : Int32) (x23 : Int64) (H : Heap) (locs : List Loc) (ls : Array Slot), Wd (wM X) (tM X) (aM X) X s σ19 H locs → lv_has ls 10 [(0, .ref (X.2.1 33)), (2, .long x12), (8, .int x16), (9, .int x18)] → J24 x22 x23 = some σz → W p l e rm_fMM_findsTimes s m args below meth c H locs 0 0 (MQ below (va_Qv (fun u => u = σz) (poW (wM X) (tM X) (aM X) X sz) (aA (aM X) sz)) args s 0 0 (aA (aM X) sz)) (F0 m 212 ls [.long x23, .int x22, .ref (X.2.1 42)]) := by
                intro x22 x23 H locs ls Z hl h9
                rw [eJ24] at h9
                refine lv_lload_n hx hb dX12_findsTimes_212 rfl (lv_at hl 1 rfl) ?_
                obtain ⟨z25, h10⟩ := dck_s h9
                clear h9
                refine lv_ldiv hx hb dX12_findsTimes_213 (okE_s z25) ?_
                obtain ⟨z26, h11⟩ := dck_s h10
                clear h10
                refine st_42 B Z z26 dX12_findsTimes_214 (fun H locs Z => ?_)
                obtain ⟨σ27, eσ27, h12⟩ := dlt_s h11
                clear h11
                replace Z := Wd.eq eσ27 Z
                clear eσ27
                refine lv_iinc (v := x18 + (1 : Int32)) (lv' := [(9, .int (x18 + (1 : Int32))), (0, .ref (X.2.1 33)), (2, .long x12), (8, .int x16)]) hx hb dX12_findsTimes_215 hl (k := 3) rfl (by rfl) (by decide) rfl (fun ls hl => ?_)
                refine lv_goto (tgt := 174) hx hb dX12_findsTimes_218 (by decide) ?_
                exact ih98 (x18 + (1 : Int32)) σ27 _ _ _ Z (lv_sub hl [1, 2, 3, 0] rfl) h12
              clear eJ24
              refine lv_if_eq (tgt := 205) hx hb dX12_findsTimes_191 (by decide) (fun c28 => ?_) (fun c28 => ?_)
              · have h14 := dit h13 c28
                clear h13
                refine lv_aload_n hx hb dX12_findsTimes_205 rfl (lv_at hl 0 rfl) ?_
                refine g_33_21 B Z kf_RX12_35 dX12_findsTimes_206 ?_
                refine lv_iload hx hb dX12_findsTimes_209 (lv_at hl 3 rfl) ?_
                obtain ⟨z29, h15⟩ := dck_s h14
                clear h14
                refine ld_42 B Z z29 dX12_findsTimes_211 ?_
                exact kJ24 x18 (σ19.2 42 x18.toNatClampNeg) _ _ _ Z (lv_sub hl [0, 1, 2, 3] rfl) h15
              · have h16 := dif h13 c28
                clear h13
                refine lv_aload_n hx hb dX12_findsTimes_194 rfl (lv_at hl 0 rfl) ?_
                refine g_33_21 B Z kf_RX12_35 dX12_findsTimes_195 ?_
                refine lv_iload hx hb dX12_findsTimes_198 (lv_at hl 3 rfl) ?_
                obtain ⟨z30, h17⟩ := dck_s h16
                clear h16
                refine ld_42 B Z z30 dX12_findsTimes_200 ?_
                refine lv_lneg hx hb dX12_findsTimes_201 ?_
                refine lv_goto (tgt := 212) hx hb dX12_findsTimes_202 (by decide) ?_
                exact kJ24 x18 (-(σ19.2 42 x18.toNatClampNeg)) _ _ _ Z (lv_sub hl [0, 1, 2, 3] rfl) h17
        exact lL174 FU (0 : Int32) σ7 _ _ _ Z (lv_sub hl [2, 3, 1, 0] rfl) h5
      clear eJ17
      obtain ⟨J31, eJ31, h20⟩ := dlt_s h18
      clear h18
      have kJ31 : ∀ (H : Heap) (locs : List Loc) (ls : Array Slot), Wd (wM X) (tM X) (aM X) X s σ7 H locs → lv_has ls 10 [(0, .ref (X.2.1 33)), (2, .long x12)] → J31 () = some σz → W p l e rm_fMM_findsTimes s m args below meth c H locs 0 0 (MQ below (va_Qv (fun u => u = σz) (poW (wM X) (tM X) (aM X) X sz) (aA (aM X) sz)) args s 0 0 (aA (aM X) sz)) (F0 m 164 ls []) := by
        intro  H locs ls Z hl h19
        rw [eJ31] at h19
        refine lv_iconst (v := (1 : Int32)) hx hb dX12_findsTimes_164 (by decide) ?_
        refine lv_goto (tgt := 169) hx hb dX12_findsTimes_165 (by decide) ?_
        exact kJ17 (1 : Int32) _ _ _ Z (lv_sub hl [0, 1] rfl) h19
      clear eJ31
      refine lv_if_lt (tgt := 164) hx hb dX12_findsTimes_147 (by decide) (fun c32 => ?_) (fun c32 => ?_)
      · have h21 := dit h20 c32
        clear h20
        exact kJ31  _ _ _ Z (lv_sub hl [0, 1] rfl) h21
      · have h22 := dif h20 c32
        clear h20
        refine lv_lload hx hb dX12_findsTimes_150 (lv_at hl 3 rfl) ?_
        refine lv_lconst (v := (0 : Int64)) hx hb dX12_findsTimes_152 (by decide) ?_
        refine W.lcmp hx hb dX12_findsTimes_153 ?_
        obtain ⟨J33, eJ33, h24⟩ := dlt_s h22
        clear h22
        have kJ33 : ∀ (H : Heap) (locs : List Loc) (ls : Array Slot), Wd (wM X) (tM X) (aM X) X s σ7 H locs → lv_has ls 10 [(0, .ref (X.2.1 33)), (2, .long x12)] → J33 () = some σz → W p l e rm_fMM_findsTimes s m args below meth c H locs 0 0 (MQ below (va_Qv (fun u => u = σz) (poW (wM X) (tM X) (aM X) X sz) (aA (aM X) sz)) args s 0 0 (aA (aM X) sz)) (F0 m 168 ls []) := by
          intro  H locs ls Z hl h23
          rw [eJ33] at h23
          refine lv_iconst (v := (0 : Int32)) hx hb dX12_findsTimes_168 (by decide) ?_
          exact kJ17 (0 : Int32) _ _ _ Z (lv_sub hl [0, 1] rfl) h23
        clear eJ33
        refine lv_if_ne (tgt := 168) hx hb dX12_findsTimes_154 (by decide) (fun c34 => ?_) (fun c34 => ?_)
        · have h25 := dif h24 c34
          clear h24
          exact kJ33  _ _ _ Z (lv_sub hl [0, 1] rfl) h25
        · have h26 := dit h24 c34
          clear h24
          refine lv_lload hx hb dX12_findsTimes_157 (lv_at hl 2 rfl) ?_
          refine lv_lconst (v := (0 : Int64)) hx hb dX12_findsTimes_159 (by decide) ?_
          refine W.lcmp hx hb dX12_findsTimes_160 ?_
          refine lv_if_le (tgt := 168) hx hb dX12_findsTimes_161 (by decide) (fun c35 => ?_) (fun c35 => ?_)
          · have h27 := dit h26 c35
            clear h26
            exact kJ33  _ _ _ Z (lv_sub hl [0, 1] rfl) h27
          · have h28 := dif h26 c35
            clear h26
            exact kJ31  _ _ _ Z (lv_sub hl [0, 1] rfl) h28
    clear eK15
    have lL66 : ∀ (n : Nat), ∀ (x8 : Int64) (x9 : Int64) (x10 : Int64) (x11 : Int32) (H : Heap) (locs : List Loc) (ls : Array Slot), Wd (wM X) (tM X) (aM X) X s σ7 H locs → lv_has ls 10 [(0, .ref (X.2.1 33)), (2, .long x8), (4, .long x9), (6, .long x10), (8, .int x11)] → fMM_findsTimes_L66 σ7 K15 n x8 x9 x10 x11 = some σz → W p l e rm_fMM_findsTimes s m args below meth c H locs 0 0 (MQ below (va_Qv (fun u => u = σz) (poW (wM X) (tM X) (aM X) X sz) (aA (aM X) sz)) args s 0 0 (aA (aM X) sz)) (F0 m 66 ls []) := by
      intro n
      induction n with
      | zero =>
        intro x8 x9 x10 x11 H locs ls Z hl h
        exact nomatch (show (none : Option (sT)) = some _ from h)
      | succ n36 ih39 =>
        intro x8 x9 x10 x11 H locs ls Z hl h30
        unfold fMM_findsTimes_L66 at h30
        refine lv_iload hx hb dX12_findsTimes_66 (lv_at hl 4 rfl) ?_
        refine lv_aload_n hx hb dX12_findsTimes_68 rfl (lv_at hl 0 rfl) ?_
        refine g_33_20 B Z kf_RX12_251 dX12_findsTimes_69 ?_
        refine lv_icmp_ge (tgt := 143) hx hb dX12_findsTimes_72 (by decide) (fun c37 => ?_) (fun c37 => ?_)
        · have h31 := dit h30 c37
          clear h30
          exact kK15 x8 x9 x10 _ _ _ Z (lv_sub hl [0, 1, 2, 3] rfl) h31
        · have h32 := dif h30 c37
          clear h30
          refine lv_lload_n hx hb dX12_findsTimes_75 rfl (lv_at hl 1 rfl) ?_
          refine lv_aload_n hx hb dX12_findsTimes_76 rfl (lv_at hl 0 rfl) ?_
          refine g_33_21 B Z kf_RX12_35 dX12_findsTimes_77 ?_
          refine lv_iload hx hb dX12_findsTimes_80 (lv_at hl 4 rfl) ?_
          obtain ⟨z38, h33⟩ := dck_s h32
          clear h32
          refine ld_42 B Z z38 dX12_findsTimes_82 ?_
          obtain ⟨r40, hc38, h34⟩ := db1_s h33
          clear h33
          refine cS_L [.long x8, .long (σ7.2 42 x11.toNatClampNeg)] [] B mx_yX12_divisor (c_fMM_divisor l X _ x8 (σ7.2 42 x11.toNatClampNeg) σ7 r40 hc38) kl_RX12_204 ks_yX12_divisor Z hl rfl rfl ⟨Nat.le_of_ble_eq_true rfl, Nat.le_of_ble_eq_true rfl⟩ rfl rfl (Nat.le_of_ble_eq_true rfl) dX12_findsTimes_83 (fun H locs Z => ?_)
          clear hc38
          refine lv_lstore_n (lv' := [(2, .long r40), (0, .ref (X.2.1 33)), (4, .long x9), (6, .long x10), (8, .int x11)]) hx hb dX12_findsTimes_86 rfl hl (by decide) rfl (fun ls hl => ?_)
          refine lv_lload hx hb dX12_findsTimes_87 (lv_at hl 2 rfl) ?_
          refine lv_aload_n hx hb dX12_findsTimes_89 rfl (lv_at hl 1 rfl) ?_
          refine g_33_21 B Z kf_RX12_35 dX12_findsTimes_90 ?_
          refine lv_iload hx hb dX12_findsTimes_93 (lv_at hl 4 rfl) ?_
          obtain ⟨z41, h35⟩ := dck_s h34
          clear h34
          refine ld_42 B Z z41 dX12_findsTimes_95 ?_
          refine lv_aload_n hx hb dX12_findsTimes_96 rfl (lv_at hl 1 rfl) ?_
          refine lv_iload hx hb dX12_findsTimes_97 (lv_at hl 4 rfl) ?_
          refine lv_iconst (v := (4 : Int32)) hx hb dX12_findsTimes_99 (by decide) ?_
          obtain ⟨r43, hc41, h36⟩ := db1_s h35
          clear h35
          refine cV_L [.int x11, .int (4 : Int32)] [.long (σ7.2 42 x11.toNatClampNeg), .long x9] B mx_yX12_number (c_fMM_number l X _ x11 (4 : Int32) σ7 r43 hc41) kl_RX12_248 mi_yX12_number (rv_33 _ _) hcl_12 Z hl rfl rfl ⟨Nat.le_of_ble_eq_true rfl, Nat.le_of_ble_eq_true rfl⟩ rfl rfl (Nat.le_of_ble_eq_true rfl) dX12_findsTimes_100 (fun H locs Z => ?_)
          clear hc41
          refine lv_lmul hx hb dX12_findsTimes_103 ?_
          refine lv_ladd hx hb dX12_findsTimes_104 ?_
          refine lv_topl (fun x44 ex44 => ?_)
          have h37 := dlt_e ex44 h36
          clear ex44 h36
          refine lv_lstore (lv' := [(4, .long x44), (2, .long r40), (0, .ref (X.2.1 33)), (6, .long x10), (8, .int x11)]) hx hb dX12_findsTimes_105 hl (by decide) rfl (fun ls hl => ?_)
          refine lv_aload_n hx hb dX12_findsTimes_107 rfl (lv_at hl 2 rfl) ?_
          refine lv_aload_n hx hb dX12_findsTimes_108 rfl (lv_at hl 2 rfl) ?_
          refine g_33_19 B Z kf_RX12_32 dX12_findsTimes_109 ?_
          refine lv_iload hx hb dX12_findsTimes_112 (lv_at hl 4 rfl) ?_
          obtain ⟨z45, h38⟩ := dck_s h37
          clear h37
          refine ld_41 B Z z45 dX12_findsTimes_114 ?_
          refine lv_iconst (v := (3 : Int32)) hx hb dX12_findsTimes_115 (by decide) ?_
          obtain ⟨r47, hc45, h39⟩ := db1_s h38
          clear h38
          refine cV_I [.int (σ7.1 41 x11.toNatClampNeg), .int (3 : Int32)] [] B mx_yX12_at (c_fMM_at l X _ (σ7.1 41 x11.toNatClampNeg) (3 : Int32) σ7 r47 hc45) kl_RX12_87 mi_yX12_at (rv_33 _ _) hcl_12 Z hl rfl rfl ⟨Nat.le_of_ble_eq_true rfl, Nat.le_of_ble_eq_true rfl⟩ rfl rfl (Nat.le_of_ble_eq_true rfl) dX12_findsTimes_116 (fun H locs Z => ?_)
          clear hc45
          refine lv_iconst (v := (2 : Int32)) hx hb dX12_findsTimes_119 (by decide) ?_
          refine lv_icmp_eq (tgt := 133) hx hb dX12_findsTimes_120 (by decide) (fun c48 => ?_) (fun c48 => ?_)
          · have h40 := dit h39 c48
            clear h39
            refine lv_lload hx hb dX12_findsTimes_133 (lv_at hl 3 rfl) ?_
            refine lv_lstore (lv' := [(6, .long x10), (4, .long x44), (2, .long r40), (0, .ref (X.2.1 33)), (8, .int x11)]) hx hb dX12_findsTimes_135 hl (by decide) rfl (fun ls hl => ?_)
            refine lv_iinc (v := x11 + (1 : Int32)) (lv' := [(8, .int (x11 + (1 : Int32))), (6, .long x10), (4, .long x44), (2, .long r40), (0, .ref (X.2.1 33))]) hx hb dX12_findsTimes_137 hl (k := 4) rfl (by rfl) (by decide) rfl (fun ls hl => ?_)
            refine lv_goto (tgt := 66) hx hb dX12_findsTimes_140 (by decide) ?_
            exact ih39 r40 x44 x10 (x11 + (1 : Int32)) _ _ _ Z (lv_sub hl [4, 3, 2, 1, 0] rfl) h40
          · have h41 := dif h39 c48
            clear h39
            refine lv_aload_n hx hb dX12_findsTimes_123 rfl (lv_at hl 2 rfl) ?_
            refine g_33_21 B Z kf_RX12_35 dX12_findsTimes_124 ?_
            refine lv_iload hx hb dX12_findsTimes_127 (lv_at hl 4 rfl) ?_
            obtain ⟨z49, h42⟩ := dck_s h41
            clear h41
            refine ld_42 B Z z49 dX12_findsTimes_129 ?_
            refine lv_goto (tgt := 135) hx hb dX12_findsTimes_130 (by decide) ?_
            refine lv_topl (fun x50 ex50 => ?_)
            have h43 := dlt_e ex50 h42
            clear ex50 h42
            refine lv_lstore (lv' := [(6, .long x50), (4, .long x44), (2, .long r40), (0, .ref (X.2.1 33)), (8, .int x11)]) hx hb dX12_findsTimes_135 hl (by decide) rfl (fun ls hl => ?_)
            refine lv_iinc (v := x11 + (1 : Int32)) (lv' := [(8, .int (x11 + (1 : Int32))), (6, .long x50), (4, .long x44), (2, .long r40), (0, .ref (X.2.1 33))]) hx hb dX12_findsTimes_137 hl (k := 4) rfl (by rfl) (by decide) rfl (fun ls hl => ?_)
            refine lv_goto (tgt := 66) hx hb dX12_findsTimes_140 (by decide) ?_
            exact ih39 r40 x44 x50 (x11 + (1 : Int32)) _ _ _ Z (lv_sub hl [4, 3, 2, 1, 0] rfl) h43
    exact lL66 FU (0 : Int64) (0 : Int64) (0 : Int64) (0 : Int32) _ _ _ Z (lv_sub hl [4, 3, 2, 1, 0] rfl) h29
  clear eK5
  have lL7 : ∀ (n : Nat), ∀ (x2 : Int32) (σ3 : sT) (H : Heap) (locs : List Loc) (ls : Array Slot), Wd (wM X) (tM X) (aM X) X s σ3 H locs → lv_has ls 10 [(0, .ref (X.2.1 33)), (1, .int a1), (2, .int x2)] → fMM_findsTimes_L7 a1 K5 n x2 σ3 = some σz → W p l e rm_fMM_findsTimes s m args below meth c H locs 0 0 (MQ below (va_Qv (fun u => u = σz) (poW (wM X) (tM X) (aM X) X sz) (aA (aM X) sz)) args s 0 0 (aA (aM X) sz)) (F0 m 7 ls []) := by
    intro n
    induction n with
    | zero =>
      intro x2 σ3 H locs ls Z hl h
      exact nomatch (show (none : Option (sT)) = some _ from h)
    | succ n51 ih5 =>
      intro x2 σ3 H locs ls Z hl h45
      unfold fMM_findsTimes_L7 at h45
      refine lv_iload_n hx hb dX12_findsTimes_7 rfl (lv_at hl 2 rfl) ?_
      refine lv_aload_n hx hb dX12_findsTimes_8 rfl (lv_at hl 0 rfl) ?_
      refine g_33_0 B Z kf_RX12_7 dX12_findsTimes_9 ?_
      refine lv_iconst (v := (0 : Int32)) hx hb dX12_findsTimes_12 (by decide) ?_
      obtain ⟨z52, h46⟩ := dck_s h45
      clear h45
      refine ld_34 B Z z52 dX12_findsTimes_13 ?_
      refine lv_icmp_ge (tgt := 51) hx hb dX12_findsTimes_14 (by decide) (fun c53 => ?_) (fun c53 => ?_)
      · have h47 := dit h46 c53
        clear h46
        exact kK5 σ3 _ _ _ Z (lv_sub hl [0] rfl) h47
      · have h48 := dif h46 c53
        clear h46
        refine lv_iload_n hx hb dX12_findsTimes_17 rfl (lv_at hl 1 rfl) ?_
        refine lv_iload_n hx hb dX12_findsTimes_18 rfl (lv_at hl 2 rfl) ?_
        obtain ⟨r55, hc53, h49⟩ := db1_s h48
        clear h48
        refine cS_I [.int a1, .int x2] [] B mx_yX12_has (c_fMM_has l X _ a1 x2 σ3 r55 hc53) kl_RX12_95 ks_yX12_has Z hl rfl rfl ⟨Nat.le_of_ble_eq_true rfl, Nat.le_of_ble_eq_true rfl⟩ rfl rfl (Nat.le_of_ble_eq_true rfl) dX12_findsTimes_19 (fun H locs Z => ?_)
        clear hc53
        refine lv_if_eq (tgt := 45) hx hb dX12_findsTimes_22 (by decide) (fun c56 => ?_) (fun c56 => ?_)
        · have h50 := dit h49 c56
          clear h49
          refine lv_iinc (v := x2 + (1 : Int32)) (lv' := [(2, .int (x2 + (1 : Int32))), (0, .ref (X.2.1 33)), (1, .int a1)]) hx hb dX12_findsTimes_45 hl (k := 2) rfl (by rfl) (by decide) rfl (fun ls hl => ?_)
          refine lv_goto (tgt := 7) hx hb dX12_findsTimes_48 (by decide) ?_
          exact ih5 (x2 + (1 : Int32)) σ3 _ _ _ Z (lv_sub hl [1, 2, 0] rfl) h50
        · have h51 := dif h49 c56
          clear h49
          refine lv_aload_n hx hb dX12_findsTimes_25 rfl (lv_at hl 0 rfl) ?_
          refine g_33_19 B Z kf_RX12_32 dX12_findsTimes_26 ?_
          refine lv_aload_n hx hb dX12_findsTimes_29 rfl (lv_at hl 0 rfl) ?_
          refine g_33_20 B Z kf_RX12_251 dX12_findsTimes_30 ?_
          refine lv_iload_n hx hb dX12_findsTimes_33 rfl (lv_at hl 2 rfl) ?_
          obtain ⟨z57, h52⟩ := dck_s h51
          clear h51
          refine st_41 B Z z57 dX12_findsTimes_34 (fun H locs Z => ?_)
          obtain ⟨σ58, eσ58, h53⟩ := dlt_s h52
          clear h52
          replace Z := Wd.eq eσ58 Z
          clear eσ58
          refine lv_aload_n hx hb dX12_findsTimes_35 rfl (lv_at hl 0 rfl) ?_
          refine lv_dup hx hb dX12_findsTimes_36 rfl ?_
          refine g_33_20 B Z kf_RX12_251 dX12_findsTimes_37 ?_
          refine lv_iconst (v := (1 : Int32)) hx hb dX12_findsTimes_40 (by decide) ?_
          refine lv_iadd hx hb dX12_findsTimes_41 ?_
          refine s_33_20 B Z kf_RX12_251 dX12_findsTimes_42 (fun H locs Z => ?_)
          obtain ⟨σ59, eσ59, h54⟩ := dlt_s h53
          clear h53
          replace Z := Wd.eq eσ59 Z
          clear eσ59
          refine lv_iinc (v := x2 + (1 : Int32)) (lv' := [(2, .int (x2 + (1 : Int32))), (0, .ref (X.2.1 33)), (1, .int a1)]) hx hb dX12_findsTimes_45 hl (k := 2) rfl (by rfl) (by decide) rfl (fun ls hl => ?_)
          refine lv_goto (tgt := 7) hx hb dX12_findsTimes_48 (by decide) ?_
          exact ih5 (x2 + (1 : Int32)) σ59 _ _ _ Z (lv_sub hl [1, 2, 0] rfl) h54
  exact lL7 FU (0 : Int32) σ1 _ _ _ Z (lv_sub hl [1, 2, 0] rfl) h44
theorem dX12_timesOf_0 : decode cX12_timesOf 0 = .ok (.aload_n 0, 1) := by decide +kernel
theorem dX12_timesOf_1 : decode cX12_timesOf 1 = .ok (.iload_n 1, 1) := by decide +kernel
theorem dX12_timesOf_2 : decode cX12_timesOf 2 = .ok (.invokevirtual 264, 3) := by decide +kernel
theorem dX12_timesOf_5 : decode cX12_timesOf 5 = .ok (.iconst 0, 1) := by decide +kernel
theorem dX12_timesOf_6 : decode cX12_timesOf 6 = .ok (.istore_n 3, 1) := by decide +kernel
theorem dX12_timesOf_7 : decode cX12_timesOf 7 = .ok (.iconst 0, 1) := by decide +kernel
theorem dX12_timesOf_8 : decode cX12_timesOf 8 = .ok (.istore 4, 2) := by decide +kernel
theorem dX12_timesOf_10 : decode cX12_timesOf 10 = .ok (.iload 4, 2) := by decide +kernel
theorem dX12_timesOf_12 : decode cX12_timesOf 12 = .ok (.aload_n 0, 1) := by decide +kernel
theorem dX12_timesOf_13 : decode cX12_timesOf 13 = .ok (.getfield 251, 3) := by decide +kernel
theorem dX12_timesOf_16 : decode cX12_timesOf 16 = .ok (.if_icmp .ge 33, 3) := by decide +kernel
theorem dX12_timesOf_19 : decode cX12_timesOf 19 = .ok (.aload_n 0, 1) := by decide +kernel
theorem dX12_timesOf_20 : decode cX12_timesOf 20 = .ok (.getfield 32, 3) := by decide +kernel
theorem dX12_timesOf_23 : decode cX12_timesOf 23 = .ok (.iload 4, 2) := by decide +kernel
theorem dX12_timesOf_25 : decode cX12_timesOf 25 = .ok (.iaload, 1) := by decide +kernel
theorem dX12_timesOf_26 : decode cX12_timesOf 26 = .ok (.iload_n 2, 1) := by decide +kernel
theorem dX12_timesOf_27 : decode cX12_timesOf 27 = .ok (.if_icmp .ne 14, 3) := by decide +kernel
theorem dX12_timesOf_30 : decode cX12_timesOf 30 = .ok (.aload_n 0, 1) := by decide +kernel
theorem dX12_timesOf_31 : decode cX12_timesOf 31 = .ok (.getfield 35, 3) := by decide +kernel
theorem dX12_timesOf_34 : decode cX12_timesOf 34 = .ok (.iload 4, 2) := by decide +kernel
theorem dX12_timesOf_36 : decode cX12_timesOf 36 = .ok (.laload, 1) := by decide +kernel
theorem dX12_timesOf_37 : decode cX12_timesOf 37 = .ok (.l2i, 1) := by decide +kernel
theorem dX12_timesOf_38 : decode cX12_timesOf 38 = .ok (.goto 4, 3) := by decide +kernel
theorem dX12_timesOf_41 : decode cX12_timesOf 41 = .ok (.iload_n 3, 1) := by decide +kernel
theorem dX12_timesOf_42 : decode cX12_timesOf 42 = .ok (.istore_n 3, 1) := by decide +kernel
theorem dX12_timesOf_43 : decode cX12_timesOf 43 = .ok (.iinc 4 1, 3) := by decide +kernel
theorem dX12_timesOf_46 : decode cX12_timesOf 46 = .ok (.goto (-36), 3) := by decide +kernel
theorem dX12_timesOf_49 : decode cX12_timesOf 49 = .ok (.iload_n 3, 1) := by decide +kernel
theorem dX12_timesOf_50 : decode cX12_timesOf 50 = .ok (.ireturn, 1) := by decide +kernel
def rm_fMM_timesOf : Room := { frames := 6, cells := 0, slots := 0, locals := 183 }
set_option maxHeartbeats 4000000 in
set_option maxRecDepth 100000 in
theorem c_fMM_timesOf (l : Launch) (X : eX) (sz : Nat) (a1 : Int32) (a2 : Int32) (σ : sT) (rz : Int32) (σz : sT) (h0 : fMM_timesOf a1 a2 σ = some (rz, σz)) : ctI l yX12_timesOf cX12_timesOf 5 (some .int) rm_fMM_timesOf [.ref (X.2.1 33), .int a1, .int a2] (wM X) (tM X) (aM X) X sz σ rz σz := by
  refine ct_of (by decide +kernel) (Nat.le_of_ble_eq_true rfl) ?_
  intro p e s m args below meth c ls hz B hl Z
  have B : Bd p s m args meth c RX12 cX12_timesOf 5 (some .int) := B
  have hl : lv_has ls 5 [(0, .ref (X.2.1 33)), (1, .int a1), (2, .int a2)] := hl
  have hx := B.1
  have hb := B.2.1
  unfold fMM_timesOf at h0
  refine lv_aload_n hx hb dX12_timesOf_0 rfl (lv_at hl 0 rfl) ?_
  refine lv_iload_n hx hb dX12_timesOf_1 rfl (lv_at hl 1 rfl) ?_
  obtain ⟨σ2, hc0, h1⟩ := db1_s h0
  clear h0
  refine cV_V [.int a1] [] B mx_yX12_findsTimes (c_fMM_findsTimes l X _ a1 σ σ2 hc0) kl_RX12_264 mi_yX12_findsTimes (rv_33 _ _) hcl_12 Z hl rfl rfl ⟨Nat.le_of_ble_eq_true rfl, Nat.le_of_ble_eq_true rfl⟩ rfl rfl (Nat.le_of_ble_eq_true rfl) dX12_timesOf_2 (fun H locs Z => ?_)
  clear hc0
  refine lv_iconst (v := (0 : Int32)) hx hb dX12_timesOf_5 (by decide) ?_
  refine lv_istore_n (lv' := [(3, .int (0 : Int32)), (0, .ref (X.2.1 33)), (1, .int a1), (2, .int a2)]) hx hb dX12_timesOf_6 rfl hl (by decide) rfl (fun ls hl => ?_)
  refine lv_iconst (v := (0 : Int32)) hx hb dX12_timesOf_7 (by decide) ?_
  refine lv_istore (lv' := [(4, .int (0 : Int32)), (3, .int (0 : Int32)), (0, .ref (X.2.1 33)), (1, .int a1), (2, .int a2)]) hx hb dX12_timesOf_8 hl (by decide) rfl (fun ls hl => ?_)
  have lL10 : ∀ (n : Nat), ∀ (x3 : Int32) (x4 : Int32) (H : Heap) (locs : List Loc) (ls : Array Slot), Wd (wM X) (tM X) (aM X) X s σ2 H locs → lv_has ls 5 [(0, .ref (X.2.1 33)), (2, .int a2), (3, .int x3), (4, .int x4)] → fMM_timesOf_L10 a2 σ2 n x3 x4 = some (rz, σz) → W p l e rm_fMM_timesOf s m args below meth c H locs 0 0 (MQ below (va_Qi (fun a u => a = rz ∧ u = σz) (poW (wM X) (tM X) (aM X) X sz) (aA (aM X) sz)) args s 0 0 (aA (aM X) sz)) (F0 m 10 ls []) := by
    intro n
    induction n with
    | zero =>
      intro x3 x4 H locs ls Z hl h
      exact nomatch (show (none : Option (Int32 × sT)) = some _ from h)
    | succ n5 ih7 =>
      intro x3 x4 H locs ls Z hl h2
      unfold fMM_timesOf_L10 at h2
      refine lv_iload hx hb dX12_timesOf_10 (lv_at hl 3 rfl) ?_
      refine lv_aload_n hx hb dX12_timesOf_12 rfl (lv_at hl 0 rfl) ?_
      refine g_33_20 B Z kf_RX12_251 dX12_timesOf_13 ?_
      refine lv_icmp_ge (tgt := 49) hx hb dX12_timesOf_16 (by decide) (fun c6 => ?_) (fun c6 => ?_)
      · have h3 := dit h2 c6
        clear h2
        refine lv_iload_n hx hb dX12_timesOf_49 rfl (lv_at hl 2 rfl) ?_
        exact reI B Z rfl hz h3 dX12_timesOf_50
      · have h4 := dif h2 c6
        clear h2
        refine lv_aload_n hx hb dX12_timesOf_19 rfl (lv_at hl 0 rfl) ?_
        refine g_33_19 B Z kf_RX12_32 dX12_timesOf_20 ?_
        refine lv_iload hx hb dX12_timesOf_23 (lv_at hl 3 rfl) ?_
        obtain ⟨z7, h5⟩ := dck_s h4
        clear h4
        refine ld_41 B Z z7 dX12_timesOf_25 ?_
        refine lv_iload_n hx hb dX12_timesOf_26 rfl (lv_at hl 1 rfl) ?_
        refine lv_icmp_ne (tgt := 41) hx hb dX12_timesOf_27 (by decide) (fun c8 => ?_) (fun c8 => ?_)
        · have h6 := dif h5 c8
          clear h5
          refine lv_iload_n hx hb dX12_timesOf_41 rfl (lv_at hl 2 rfl) ?_
          refine lv_istore_n (lv' := [(3, .int x3), (0, .ref (X.2.1 33)), (2, .int a2), (4, .int x4)]) hx hb dX12_timesOf_42 rfl hl (by decide) rfl (fun ls hl => ?_)
          refine lv_iinc (v := x4 + (1 : Int32)) (lv' := [(4, .int (x4 + (1 : Int32))), (3, .int x3), (0, .ref (X.2.1 33)), (2, .int a2)]) hx hb dX12_timesOf_43 hl (k := 3) rfl (by rfl) (by decide) rfl (fun ls hl => ?_)
          refine lv_goto (tgt := 10) hx hb dX12_timesOf_46 (by decide) ?_
          exact ih7 x3 (x4 + (1 : Int32)) _ _ _ Z (lv_sub hl [2, 3, 1, 0] rfl) h6
        · have h7 := dit h5 c8
          clear h5
          refine lv_aload_n hx hb dX12_timesOf_30 rfl (lv_at hl 0 rfl) ?_
          refine g_33_21 B Z kf_RX12_35 dX12_timesOf_31 ?_
          refine lv_iload hx hb dX12_timesOf_34 (lv_at hl 3 rfl) ?_
          obtain ⟨z9, h8⟩ := dck_s h7
          clear h7
          refine ld_42 B Z z9 dX12_timesOf_36 ?_
          refine lv_l2i hx hb dX12_timesOf_37 rfl ?_
          refine lv_goto (tgt := 42) hx hb dX12_timesOf_38 (by decide) ?_
          refine lv_topi (fun x10 ex10 => ?_)
          have h9 := dlt_e ex10 h8
          clear ex10 h8
          refine lv_istore_n (lv' := [(3, .int x10), (0, .ref (X.2.1 33)), (2, .int a2), (4, .int x4)]) hx hb dX12_timesOf_42 rfl hl (by decide) rfl (fun ls hl => ?_)
          refine lv_iinc (v := x4 + (1 : Int32)) (lv' := [(4, .int (x4 + (1 : Int32))), (3, .int x10), (0, .ref (X.2.1 33)), (2, .int a2)]) hx hb dX12_timesOf_43 hl (k := 3) rfl (by rfl) (by decide) rfl (fun ls hl => ?_)
          refine lv_goto (tgt := 10) hx hb dX12_timesOf_46 (by decide) ?_
          exact ih7 x10 (x4 + (1 : Int32)) _ _ _ Z (lv_sub hl [2, 3, 1, 0] rfl) h9
  exact lL10 FU (0 : Int32) (0 : Int32) _ _ _ Z (lv_sub hl [2, 4, 1, 0] rfl) h1
