theorem dX11_reads_0 : decode cX11_reads 0 = .ok (.aload_n 0, 1) := by decide +kernel
theorem dX11_reads_1 : decode cX11_reads 1 = .ok (.getfield 62, 3) := by decide +kernel
theorem dX11_reads_4 : decode cX11_reads 4 = .ok (.invokevirtual 218, 3) := by decide +kernel
theorem dX11_reads_7 : decode cX11_reads 7 = .ok (.istore_n 1, 1) := by decide +kernel
theorem dX11_reads_8 : decode cX11_reads 8 = .ok (.aload_n 0, 1) := by decide +kernel
theorem dX11_reads_9 : decode cX11_reads 9 = .ok (.getfield 44, 3) := by decide +kernel
theorem dX11_reads_12 : decode cX11_reads 12 = .ok (.invokevirtual 203, 3) := by decide +kernel
theorem dX11_reads_15 : decode cX11_reads 15 = .ok (.ifCond .eq 14, 3) := by decide +kernel
theorem dX11_reads_18 : decode cX11_reads 18 = .ok (.bipush (-10), 2) := by decide +kernel
theorem dX11_reads_20 : decode cX11_reads 20 = .ok (.aload_n 0, 1) := by decide +kernel
theorem dX11_reads_21 : decode cX11_reads 21 = .ok (.getfield 44, 3) := by decide +kernel
theorem dX11_reads_24 : decode cX11_reads 24 = .ok (.getfield 207, 3) := by decide +kernel
theorem dX11_reads_27 : decode cX11_reads 27 = .ok (.isub, 1) := by decide +kernel
theorem dX11_reads_28 : decode cX11_reads 28 = .ok (.ireturn, 1) := by decide +kernel
theorem dX11_reads_29 : decode cX11_reads 29 = .ok (.iload_n 1, 1) := by decide +kernel
theorem dX11_reads_30 : decode cX11_reads 30 = .ok (.bipush 12, 2) := by decide +kernel
theorem dX11_reads_32 : decode cX11_reads 32 = .ok (.aload_n 0, 1) := by decide +kernel
theorem dX11_reads_33 : decode cX11_reads 33 = .ok (.getfield 10, 3) := by decide +kernel
theorem dX11_reads_36 : decode cX11_reads 36 = .ok (.getfield 85, 3) := by decide +kernel
theorem dX11_reads_39 : decode cX11_reads 39 = .ok (.isub, 1) := by decide +kernel
theorem dX11_reads_40 : decode cX11_reads 40 = .ok (.if_icmp .le 8, 3) := by decide +kernel
theorem dX11_reads_43 : decode cX11_reads 43 = .ok (.aload_n 0, 1) := by decide +kernel
theorem dX11_reads_44 : decode cX11_reads 44 = .ok (.invokevirtual 89, 3) := by decide +kernel
theorem dX11_reads_47 : decode cX11_reads 47 = .ok (.ireturn, 1) := by decide +kernel
theorem dX11_reads_48 : decode cX11_reads 48 = .ok (.aload_n 0, 1) := by decide +kernel
theorem dX11_reads_49 : decode cX11_reads 49 = .ok (.getfield 10, 3) := by decide +kernel
theorem dX11_reads_52 : decode cX11_reads 52 = .ok (.invokevirtual 92, 3) := by decide +kernel
theorem dX11_reads_55 : decode cX11_reads 55 = .ok (.iconst 0, 1) := by decide +kernel
theorem dX11_reads_56 : decode cX11_reads 56 = .ok (.istore_n 2, 1) := by decide +kernel
theorem dX11_reads_57 : decode cX11_reads 57 = .ok (.iload_n 2, 1) := by decide +kernel
theorem dX11_reads_58 : decode cX11_reads 58 = .ok (.iload_n 1, 1) := by decide +kernel
theorem dX11_reads_59 : decode cX11_reads 59 = .ok (.if_icmp .ge 62, 3) := by decide +kernel
theorem dX11_reads_62 : decode cX11_reads 62 = .ok (.aload_n 0, 1) := by decide +kernel
theorem dX11_reads_63 : decode cX11_reads 63 = .ok (.getfield 10, 3) := by decide +kernel
theorem dX11_reads_66 : decode cX11_reads 66 = .ok (.aload_n 0, 1) := by decide +kernel
theorem dX11_reads_67 : decode cX11_reads 67 = .ok (.getfield 62, 3) := by decide +kernel
theorem dX11_reads_70 : decode cX11_reads 70 = .ok (.iload_n 2, 1) := by decide +kernel
theorem dX11_reads_71 : decode cX11_reads 71 = .ok (.iconst 0, 1) := by decide +kernel
theorem dX11_reads_72 : decode cX11_reads 72 = .ok (.invokevirtual 219, 3) := by decide +kernel
theorem dX11_reads_75 : decode cX11_reads 75 = .ok (.aload_n 0, 1) := by decide +kernel
theorem dX11_reads_76 : decode cX11_reads 76 = .ok (.getfield 62, 3) := by decide +kernel
theorem dX11_reads_79 : decode cX11_reads 79 = .ok (.iload_n 2, 1) := by decide +kernel
theorem dX11_reads_80 : decode cX11_reads 80 = .ok (.iconst 1, 1) := by decide +kernel
theorem dX11_reads_81 : decode cX11_reads 81 = .ok (.invokevirtual 219, 3) := by decide +kernel
theorem dX11_reads_84 : decode cX11_reads 84 = .ok (.aload_n 0, 1) := by decide +kernel
theorem dX11_reads_85 : decode cX11_reads 85 = .ok (.getfield 62, 3) := by decide +kernel
theorem dX11_reads_88 : decode cX11_reads 88 = .ok (.iload_n 2, 1) := by decide +kernel
theorem dX11_reads_89 : decode cX11_reads 89 = .ok (.iconst 2, 1) := by decide +kernel
theorem dX11_reads_90 : decode cX11_reads 90 = .ok (.invokevirtual 219, 3) := by decide +kernel
theorem dX11_reads_93 : decode cX11_reads 93 = .ok (.aload_n 0, 1) := by decide +kernel
theorem dX11_reads_94 : decode cX11_reads 94 = .ok (.getfield 62, 3) := by decide +kernel
theorem dX11_reads_97 : decode cX11_reads 97 = .ok (.iload_n 2, 1) := by decide +kernel
theorem dX11_reads_98 : decode cX11_reads 98 = .ok (.iconst 3, 1) := by decide +kernel
theorem dX11_reads_99 : decode cX11_reads 99 = .ok (.invokevirtual 219, 3) := by decide +kernel
theorem dX11_reads_102 : decode cX11_reads 102 = .ok (.aload_n 0, 1) := by decide +kernel
theorem dX11_reads_103 : decode cX11_reads 103 = .ok (.getfield 62, 3) := by decide +kernel
theorem dX11_reads_106 : decode cX11_reads 106 = .ok (.iload_n 2, 1) := by decide +kernel
theorem dX11_reads_107 : decode cX11_reads 107 = .ok (.iconst 4, 1) := by decide +kernel
theorem dX11_reads_108 : decode cX11_reads 108 = .ok (.invokevirtual 219, 3) := by decide +kernel
theorem dX11_reads_111 : decode cX11_reads 111 = .ok (.iconst 0, 1) := by decide +kernel
theorem dX11_reads_112 : decode cX11_reads 112 = .ok (.invokevirtual 95, 3) := by decide +kernel
theorem dX11_reads_115 : decode cX11_reads 115 = .ok (.iinc 2 1, 3) := by decide +kernel
theorem dX11_reads_118 : decode cX11_reads 118 = .ok (.goto (-61), 3) := by decide +kernel
theorem dX11_reads_121 : decode cX11_reads 121 = .ok (.iload_n 1, 1) := by decide +kernel
theorem dX11_reads_122 : decode cX11_reads 122 = .ok (.ireturn, 1) := by decide +kernel
def rm_fRM_reads : Room := { frames := 6, cells := 0, slots := 0, locals := 172 }
set_option maxHeartbeats 4000000 in
set_option maxRecDepth 100000 in
theorem c_fRM_reads (l : Launch) (X : eX) (sz : Nat)  (σ : sT) (rz : Int32) (σz : sT) (h0 : fRM_reads σ = some (rz, σz)) : ctI l yX11_reads cX11_reads 3 (some .int) rm_fRM_reads [.ref (X.2.1 0)] (wC X) (tC X) (aC X) X sz σ rz σz := by
  refine ct_of (by decide +kernel) (Nat.le_of_ble_eq_true rfl) ?_
  intro p e s m args below meth c ls hz B hl Z
  have B : Bd p s m args meth c RX11 cX11_reads 3 (some .int) := B
  have hl : lv_has ls 3 [(0, .ref (X.2.1 0))] := hl
  have hx := B.1
  have hb := B.2.1
  unfold fRM_reads at h0
  refine lv_aload_n hx hb dX11_reads_0 rfl (lv_at hl 0 rfl) ?_
  refine g_0_6 B Z kf_RX11_62 dX11_reads_1 ?_
  obtain ⟨r2, σ3, hc0, h1⟩ := db2_s h0
  clear h0
  refine cV_I [] [] B mx_yX2_read (c_fOR_read l X _ σ r2 σ3 hc0) kl_RX11_218 mi_yX2_read (rv_29 _ _) hcl_2 Z hl rfl rfl ⟨Nat.le_of_ble_eq_true rfl, Nat.le_of_ble_eq_true rfl⟩ rfl rfl (Nat.le_of_ble_eq_true rfl) dX11_reads_4 (fun H locs Z => ?_)
  clear hc0
  refine lv_istore_n (lv' := [(1, .int r2), (0, .ref (X.2.1 0))]) hx hb dX11_reads_7 rfl hl (by decide) rfl (fun ls hl => ?_)
  refine lv_aload_n hx hb dX11_reads_8 rfl (lv_at hl 1 rfl) ?_
  refine g_0_4 B Z kf_RX11_44 dX11_reads_9 ?_
  obtain ⟨r5, hc3, h2⟩ := db1_s h1
  clear h1
  refine cV_I [] [] B mx_yX5_hasFailed (c_fSc_hasFailed l X _ σ3 r5 hc3) kl_RX11_203 mi_yX5_hasFailed (rv_26 _ _) hcl_5 Z hl rfl rfl ⟨Nat.le_of_ble_eq_true rfl, Nat.le_of_ble_eq_true rfl⟩ rfl rfl (Nat.le_of_ble_eq_true rfl) dX11_reads_12 (fun H locs Z => ?_)
  clear hc3
  refine lv_if_eq (tgt := 29) hx hb dX11_reads_15 (by decide) (fun c6 => ?_) (fun c6 => ?_)
  · have h3 := dit h2 c6
    clear h2
    refine lv_iload_n hx hb dX11_reads_29 rfl (lv_at hl 0 rfl) ?_
    refine lv_bipush (v := (12 : Int32)) hx hb dX11_reads_30 (by decide) ?_
    refine lv_aload_n hx hb dX11_reads_32 rfl (lv_at hl 1 rfl) ?_
    refine g_0_0 B Z kf_RX11_10 dX11_reads_33 ?_
    refine gn_1_3 B Z kx_RX11_85 dX11_reads_36 ?_
    refine lv_isub hx hb dX11_reads_39 ?_
    refine lv_icmp_le (tgt := 48) hx hb dX11_reads_40 (by decide) (fun c7 => ?_) (fun c7 => ?_)
    · have h4 := dit h3 c7
      clear h3
      refine lv_aload_n hx hb dX11_reads_48 rfl (lv_at hl 1 rfl) ?_
      refine g_0_0 B Z kf_RX11_10 dX11_reads_49 ?_
      obtain ⟨σ9, hc7, h5⟩ := db1_s h4
      clear h4
      refine cV_V [] [] B mx_yX0_remember (c_fBk_remember l X _ σ3 σ9 hc7) kl_RX11_92 mi_yX0_remember (rv_1 _ _) hcl_0 Z hl rfl rfl ⟨Nat.le_of_ble_eq_true rfl, Nat.le_of_ble_eq_true rfl⟩ rfl rfl (Nat.le_of_ble_eq_true rfl) dX11_reads_52 (fun H locs Z => ?_)
      clear hc7
      refine lv_iconst (v := (0 : Int32)) hx hb dX11_reads_55 (by decide) ?_
      refine lv_istore_n (lv' := [(2, .int (0 : Int32)), (1, .int r2), (0, .ref (X.2.1 0))]) hx hb dX11_reads_56 rfl hl (by decide) rfl (fun ls hl => ?_)
      have lL57 : ∀ (n : Nat), ∀ (x10 : Int32) (σ11 : sT) (H : Heap) (locs : List Loc) (ls : Array Slot), Wd (wC X) (tC X) (aC X) X s σ11 H locs → lv_has ls 3 [(0, .ref (X.2.1 0)), (1, .int r2), (2, .int x10)] → fRM_reads_L57 r2 n x10 σ11 = some (rz, σz) → W p l e rm_fRM_reads s m args below meth c H locs 0 0 (MQ below (va_Qi (fun a u => a = rz ∧ u = σz) (poW (wC X) (tC X) (aC X) X sz) (aA (aC X) sz)) args s 0 0 (aA (aC X) sz)) (F0 m 57 ls []) := by
        intro n
        induction n with
        | zero =>
          intro x10 σ11 H locs ls Z hl h
          exact nomatch (show (none : Option (Int32 × sT)) = some _ from h)
        | succ n12 ih29 =>
          intro x10 σ11 H locs ls Z hl h6
          unfold fRM_reads_L57 at h6
          refine lv_iload_n hx hb dX11_reads_57 rfl (lv_at hl 2 rfl) ?_
          refine lv_iload_n hx hb dX11_reads_58 rfl (lv_at hl 1 rfl) ?_
          refine lv_icmp_ge (tgt := 121) hx hb dX11_reads_59 (by decide) (fun c13 => ?_) (fun c13 => ?_)
          · have h7 := dit h6 c13
            clear h6
            refine lv_iload_n hx hb dX11_reads_121 rfl (lv_at hl 1 rfl) ?_
            exact reI B Z rfl hz h7 dX11_reads_122
          · have h8 := dif h6 c13
            clear h6
            refine lv_aload_n hx hb dX11_reads_62 rfl (lv_at hl 0 rfl) ?_
            refine g_0_0 B Z kf_RX11_10 dX11_reads_63 ?_
            refine lv_aload_n hx hb dX11_reads_66 rfl (lv_at hl 0 rfl) ?_
            refine g_0_6 B Z kf_RX11_62 dX11_reads_67 ?_
            refine lv_iload_n hx hb dX11_reads_70 rfl (lv_at hl 2 rfl) ?_
            refine lv_iconst (v := (0 : Int32)) hx hb dX11_reads_71 (by decide) ?_
            obtain ⟨r15, hc13, h9⟩ := db1_s h8
            clear h8
            refine cV_I [.int x10, .int (0 : Int32)] [.ref (X.2.1 1)] B mx_yX2_get (c_fOR_get l X _ x10 (0 : Int32) σ11 r15 hc13) kl_RX11_219 mi_yX2_get (rv_29 _ _) hcl_2 Z hl rfl rfl ⟨Nat.le_of_ble_eq_true rfl, Nat.le_of_ble_eq_true rfl⟩ rfl rfl (Nat.le_of_ble_eq_true rfl) dX11_reads_72 (fun H locs Z => ?_)
            clear hc13
            refine lv_aload_n hx hb dX11_reads_75 rfl (lv_at hl 0 rfl) ?_
            refine g_0_6 B Z kf_RX11_62 dX11_reads_76 ?_
            refine lv_iload_n hx hb dX11_reads_79 rfl (lv_at hl 2 rfl) ?_
            refine lv_iconst (v := (1 : Int32)) hx hb dX11_reads_80 (by decide) ?_
            obtain ⟨r17, hc15, h10⟩ := db1_s h9
            clear h9
            refine cV_I [.int x10, .int (1 : Int32)] [.int r15, .ref (X.2.1 1)] B mx_yX2_get (c_fOR_get l X _ x10 (1 : Int32) σ11 r17 hc15) kl_RX11_219 mi_yX2_get (rv_29 _ _) hcl_2 Z hl rfl rfl ⟨Nat.le_of_ble_eq_true rfl, Nat.le_of_ble_eq_true rfl⟩ rfl rfl (Nat.le_of_ble_eq_true rfl) dX11_reads_81 (fun H locs Z => ?_)
            clear hc15
            refine lv_aload_n hx hb dX11_reads_84 rfl (lv_at hl 0 rfl) ?_
            refine g_0_6 B Z kf_RX11_62 dX11_reads_85 ?_
            refine lv_iload_n hx hb dX11_reads_88 rfl (lv_at hl 2 rfl) ?_
            refine lv_iconst (v := (2 : Int32)) hx hb dX11_reads_89 (by decide) ?_
            obtain ⟨r19, hc17, h11⟩ := db1_s h10
            clear h10
            refine cV_I [.int x10, .int (2 : Int32)] [.int r17, .int r15, .ref (X.2.1 1)] B mx_yX2_get (c_fOR_get l X _ x10 (2 : Int32) σ11 r19 hc17) kl_RX11_219 mi_yX2_get (rv_29 _ _) hcl_2 Z hl rfl rfl ⟨Nat.le_of_ble_eq_true rfl, Nat.le_of_ble_eq_true rfl⟩ rfl rfl (Nat.le_of_ble_eq_true rfl) dX11_reads_90 (fun H locs Z => ?_)
            clear hc17
            refine lv_aload_n hx hb dX11_reads_93 rfl (lv_at hl 0 rfl) ?_
            refine g_0_6 B Z kf_RX11_62 dX11_reads_94 ?_
            refine lv_iload_n hx hb dX11_reads_97 rfl (lv_at hl 2 rfl) ?_
            refine lv_iconst (v := (3 : Int32)) hx hb dX11_reads_98 (by decide) ?_
            obtain ⟨r21, hc19, h12⟩ := db1_s h11
            clear h11
            refine cV_I [.int x10, .int (3 : Int32)] [.int r19, .int r17, .int r15, .ref (X.2.1 1)] B mx_yX2_get (c_fOR_get l X _ x10 (3 : Int32) σ11 r21 hc19) kl_RX11_219 mi_yX2_get (rv_29 _ _) hcl_2 Z hl rfl rfl ⟨Nat.le_of_ble_eq_true rfl, Nat.le_of_ble_eq_true rfl⟩ rfl rfl (Nat.le_of_ble_eq_true rfl) dX11_reads_99 (fun H locs Z => ?_)
            clear hc19
            refine lv_aload_n hx hb dX11_reads_102 rfl (lv_at hl 0 rfl) ?_
            refine g_0_6 B Z kf_RX11_62 dX11_reads_103 ?_
            refine lv_iload_n hx hb dX11_reads_106 rfl (lv_at hl 2 rfl) ?_
            refine lv_iconst (v := (4 : Int32)) hx hb dX11_reads_107 (by decide) ?_
            obtain ⟨r23, hc21, h13⟩ := db1_s h12
            clear h12
            refine cV_I [.int x10, .int (4 : Int32)] [.int r21, .int r19, .int r17, .int r15, .ref (X.2.1 1)] B mx_yX2_get (c_fOR_get l X _ x10 (4 : Int32) σ11 r23 hc21) kl_RX11_219 mi_yX2_get (rv_29 _ _) hcl_2 Z hl rfl rfl ⟨Nat.le_of_ble_eq_true rfl, Nat.le_of_ble_eq_true rfl⟩ rfl rfl (Nat.le_of_ble_eq_true rfl) dX11_reads_108 (fun H locs Z => ?_)
            clear hc21
            refine lv_iconst (v := (0 : Int32)) hx hb dX11_reads_111 (by decide) ?_
            obtain ⟨σ25, hc23, h14⟩ := db1_s h13
            clear h13
            refine cV_V [.int r15, .int r17, .int r19, .int r21, .int r23, .int (0 : Int32)] [] B mx_yX0_append (c_fBk_append l X _ r15 r17 r19 r21 r23 (0 : Int32) σ11 σ25 hc23) kl_RX11_95 mi_yX0_append (rv_1 _ _) hcl_0 Z hl rfl rfl ⟨Nat.le_of_ble_eq_true rfl, Nat.le_of_ble_eq_true rfl⟩ rfl rfl (Nat.le_of_ble_eq_true rfl) dX11_reads_112 (fun H locs Z => ?_)
            clear hc23
            refine lv_iinc (v := x10 + (1 : Int32)) (lv' := [(2, .int (x10 + (1 : Int32))), (0, .ref (X.2.1 0)), (1, .int r2)]) hx hb dX11_reads_115 hl (k := 2) rfl (by rfl) (by decide) rfl (fun ls hl => ?_)
            refine lv_goto (tgt := 57) hx hb dX11_reads_118 (by decide) ?_
            exact ih29 (x10 + (1 : Int32)) σ25 _ _ _ Z (lv_sub hl [1, 2, 0] rfl) h14
      exact lL57 FU (0 : Int32) σ9 _ _ _ Z (lv_sub hl [2, 1, 0] rfl) h5
    · have h15 := dif h3 c7
      clear h3
      refine lv_aload_n hx hb dX11_reads_43 rfl (lv_at hl 1 rfl) ?_
      obtain ⟨r27, σ28, hc25, h16⟩ := db2_s h15
      clear h15
      refine cV_I [] [] B mx_yX11_full (c_fRM_full l X _ σ3 r27 σ28 hc25) kl_RX11_89 mi_yX11_full (rv_0 _ _) hcl_11 Z hl rfl rfl ⟨Nat.le_of_ble_eq_true rfl, Nat.le_of_ble_eq_true rfl⟩ rfl rfl (Nat.le_of_ble_eq_true rfl) dX11_reads_44 (fun H locs Z => ?_)
      clear hc25
      exact reI B Z rfl hz h16 dX11_reads_47
  · have h17 := dif h2 c6
    clear h2
    refine lv_bipush (v := (-10 : Int32)) hx hb dX11_reads_18 (by decide) ?_
    refine lv_aload_n hx hb dX11_reads_20 rfl (lv_at hl 1 rfl) ?_
    refine g_0_4 B Z kf_RX11_44 dX11_reads_21 ?_
    refine gn_26_3 B Z kx_RX11_207 dX11_reads_24 ?_
    refine lv_isub hx hb dX11_reads_27 ?_
    exact reI B Z rfl hz h17 dX11_reads_28
theorem dX10_put_0 : decode cX10_put 0 = .ok (.aload_n 0, 1) := by decide +kernel
theorem dX10_put_1 : decode cX10_put 1 = .ok (.getfield 19, 3) := by decide +kernel
theorem dX10_put_4 : decode cX10_put 4 = .ok (.bipush 14, 2) := by decide +kernel
theorem dX10_put_6 : decode cX10_put 6 = .ok (.if_icmp .ge 24, 3) := by decide +kernel
theorem dX10_put_9 : decode cX10_put 9 = .ok (.aload_n 0, 1) := by decide +kernel
theorem dX10_put_10 : decode cX10_put 10 = .ok (.getfield 11, 3) := by decide +kernel
theorem dX10_put_13 : decode cX10_put 13 = .ok (.aload_n 0, 1) := by decide +kernel
theorem dX10_put_14 : decode cX10_put 14 = .ok (.getfield 19, 3) := by decide +kernel
theorem dX10_put_17 : decode cX10_put 17 = .ok (.iload_n 1, 1) := by decide +kernel
theorem dX10_put_18 : decode cX10_put 18 = .ok (.i2b, 1) := by decide +kernel
theorem dX10_put_19 : decode cX10_put 19 = .ok (.bastore, 1) := by decide +kernel
theorem dX10_put_20 : decode cX10_put 20 = .ok (.aload_n 0, 1) := by decide +kernel
theorem dX10_put_21 : decode cX10_put 21 = .ok (.dup, 1) := by decide +kernel
theorem dX10_put_22 : decode cX10_put 22 = .ok (.getfield 19, 3) := by decide +kernel
theorem dX10_put_25 : decode cX10_put 25 = .ok (.iconst 1, 1) := by decide +kernel
theorem dX10_put_26 : decode cX10_put 26 = .ok (.iadd, 1) := by decide +kernel
theorem dX10_put_27 : decode cX10_put 27 = .ok (.putfield 19, 3) := by decide +kernel
theorem dX10_put_30 : decode cX10_put 30 = .ok (.return_, 1) := by decide +kernel
def rm_fWr_put : Room := { frames := 1, cells := 0, slots := 0, locals := 60 }
set_option maxHeartbeats 4000000 in
set_option maxRecDepth 100000 in
theorem c_fWr_put (l : Launch) (X : eX) (sz : Nat) (a1 : Int32) (σ : sT) (σz : sT) (h0 : fWr_put a1 σ = some σz) : ctV l yX10_put cX10_put 2 none rm_fWr_put [.ref (X.2.1 31), .int a1] (wC X) (tC X) (aC X) X sz σ σz := by
  refine ct_of (by decide +kernel) (Nat.le_of_ble_eq_true rfl) ?_
  intro p e s m args below meth c ls hz B hl Z
  have B : Bd p s m args meth c RX10 cX10_put 2 none := B
  have hl : lv_has ls 2 [(0, .ref (X.2.1 31)), (1, .int a1)] := hl
  have hx := B.1
  have hb := B.2.1
  unfold fWr_put at h0
  refine lv_aload_n hx hb dX10_put_0 rfl (lv_at hl 0 rfl) ?_
  refine g_31_2 B Z kf_RX10_19 dX10_put_1 ?_
  refine lv_bipush (v := (14 : Int32)) hx hb dX10_put_4 (by decide) ?_
  refine lv_icmp_ge (tgt := 30) hx hb dX10_put_6 (by decide) (fun c1 => ?_) (fun c1 => ?_)
  · have h1 := dit h0 c1
    clear h0
    exact reV B Z hz h1 dX10_put_30
  · have h2 := dif h0 c1
    clear h0
    refine lv_aload_n hx hb dX10_put_9 rfl (lv_at hl 0 rfl) ?_
    refine g_31_1 B Z kf_RX10_11 dX10_put_10 ?_
    refine lv_aload_n hx hb dX10_put_13 rfl (lv_at hl 0 rfl) ?_
    refine g_31_2 B Z kf_RX10_19 dX10_put_14 ?_
    refine lv_iload_n hx hb dX10_put_17 rfl (lv_at hl 1 rfl) ?_
    refine lv_i2b hx hb dX10_put_18 rfl ?_
    obtain ⟨z2, h3⟩ := dck_s h2
    clear h2
    refine st_32 B Z z2 dX10_put_19 (fun H locs Z => ?_)
    obtain ⟨σ3, eσ3, h4⟩ := dlt_s h3
    clear h3
    replace Z := Wd.eq eσ3 Z
    clear eσ3
    refine lv_aload_n hx hb dX10_put_20 rfl (lv_at hl 0 rfl) ?_
    refine lv_dup hx hb dX10_put_21 rfl ?_
    refine g_31_2 B Z kf_RX10_19 dX10_put_22 ?_
    refine lv_iconst (v := (1 : Int32)) hx hb dX10_put_25 (by decide) ?_
    refine lv_iadd hx hb dX10_put_26 ?_
    refine s_31_2 B Z kf_RX10_19 dX10_put_27 (fun H locs Z => ?_)
    obtain ⟨σ4, eσ4, h5⟩ := dlt_s h4
    clear h4
    replace Z := Wd.eq eσ4 Z
    clear eσ4
    exact reV B Z hz h5 dX10_put_30
theorem dX10_writeKind_0 : decode cX10_writeKind 0 = .ok (.iload_n 1, 1) := by decide +kernel
theorem dX10_writeKind_1 : decode cX10_writeKind 1 = .ok (.iconst 2, 1) := by decide +kernel
theorem dX10_writeKind_2 : decode cX10_writeKind 2 = .ok (.if_icmp .eq 9, 3) := by decide +kernel
theorem dX10_writeKind_5 : decode cX10_writeKind 5 = .ok (.aload_n 0, 1) := by decide +kernel
theorem dX10_writeKind_6 : decode cX10_writeKind 6 = .ok (.bipush 60, 2) := by decide +kernel
theorem dX10_writeKind_8 : decode cX10_writeKind 8 = .ok (.invokevirtual 34, 3) := by decide +kernel
theorem dX10_writeKind_11 : decode cX10_writeKind 11 = .ok (.iload_n 1, 1) := by decide +kernel
theorem dX10_writeKind_12 : decode cX10_writeKind 12 = .ok (.ifCond .eq 9, 3) := by decide +kernel
theorem dX10_writeKind_15 : decode cX10_writeKind 15 = .ok (.aload_n 0, 1) := by decide +kernel
theorem dX10_writeKind_16 : decode cX10_writeKind 16 = .ok (.bipush 61, 2) := by decide +kernel
theorem dX10_writeKind_18 : decode cX10_writeKind 18 = .ok (.invokevirtual 34, 3) := by decide +kernel
theorem dX10_writeKind_21 : decode cX10_writeKind 21 = .ok (.return_, 1) := by decide +kernel
def rm_fWr_writeKind : Room := { frames := 2, cells := 0, slots := 0, locals := 81 }
set_option maxHeartbeats 4000000 in
set_option maxRecDepth 100000 in
theorem c_fWr_writeKind (l : Launch) (X : eX) (sz : Nat) (a1 : Int32) (σ : sT) (σz : sT) (h0 : fWr_writeKind a1 σ = some σz) : ctV l yX10_writeKind cX10_writeKind 2 none rm_fWr_writeKind [.ref (X.2.1 31), .int a1] (wC X) (tC X) (aC X) X sz σ σz := by
  refine ct_of (by decide +kernel) (Nat.le_of_ble_eq_true rfl) ?_
  intro p e s m args below meth c ls hz B hl Z
  have B : Bd p s m args meth c RX10 cX10_writeKind 2 none := B
  have hl : lv_has ls 2 [(0, .ref (X.2.1 31)), (1, .int a1)] := hl
  have hx := B.1
  have hb := B.2.1
  unfold fWr_writeKind at h0
  refine lv_iload_n hx hb dX10_writeKind_0 rfl (lv_at hl 1 rfl) ?_
  refine lv_iconst (v := (2 : Int32)) hx hb dX10_writeKind_1 (by decide) ?_
  obtain ⟨J2, eJ2, h5⟩ := dlt_s h0
  clear h0
  have kJ2 : ∀ (σ1 : sT) (H : Heap) (locs : List Loc) (ls : Array Slot), Wd (wC X) (tC X) (aC X) X s σ1 H locs → lv_has ls 2 [(0, .ref (X.2.1 31)), (1, .int a1)] → J2 σ1 = some σz → W p l e rm_fWr_writeKind s m args below meth c H locs 0 0 (MQ below (va_Qv (fun u => u = σz) (poW (wC X) (tC X) (aC X) X sz) (aA (aC X) sz)) args s 0 0 (aA (aC X) sz)) (F0 m 11 ls []) := by
    intro σ1 H locs ls Z hl h1
    rw [eJ2] at h1
    refine lv_iload_n hx hb dX10_writeKind_11 rfl (lv_at hl 1 rfl) ?_
    refine lv_if_eq (tgt := 21) hx hb dX10_writeKind_12 (by decide) (fun c3 => ?_) (fun c3 => ?_)
    · have h2 := dit h1 c3
      clear h1
      exact reV B Z hz h2 dX10_writeKind_21
    · have h3 := dif h1 c3
      clear h1
      refine lv_aload_n hx hb dX10_writeKind_15 rfl (lv_at hl 0 rfl) ?_
      refine lv_bipush (v := (61 : Int32)) hx hb dX10_writeKind_16 (by decide) ?_
      obtain ⟨σ5, hc3, h4⟩ := db1_s h3
      clear h3
      refine cV_V [.int (61 : Int32)] [] B mx_yX10_put (c_fWr_put l X _ (61 : Int32) σ1 σ5 hc3) kl_RX10_34 mi_yX10_put (rv_31 _ _) hcl_10 Z hl rfl rfl ⟨Nat.le_of_ble_eq_true rfl, Nat.le_of_ble_eq_true rfl⟩ rfl rfl (Nat.le_of_ble_eq_true rfl) dX10_writeKind_18 (fun H locs Z => ?_)
      clear hc3
      exact reV B Z hz h4 dX10_writeKind_21
  clear eJ2
  refine lv_icmp_eq (tgt := 11) hx hb dX10_writeKind_2 (by decide) (fun c6 => ?_) (fun c6 => ?_)
  · have h6 := dit h5 c6
    clear h5
    exact kJ2 σ _ _ _ Z (lv_sub hl [0, 1] rfl) h6
  · have h7 := dif h5 c6
    clear h5
    refine lv_aload_n hx hb dX10_writeKind_5 rfl (lv_at hl 0 rfl) ?_
    refine lv_bipush (v := (60 : Int32)) hx hb dX10_writeKind_6 (by decide) ?_
    obtain ⟨σ8, hc6, h8⟩ := db1_s h7
    clear h7
    refine cV_V [.int (60 : Int32)] [] B mx_yX10_put (c_fWr_put l X _ (60 : Int32) σ σ8 hc6) kl_RX10_34 mi_yX10_put (rv_31 _ _) hcl_10 Z hl rfl rfl ⟨Nat.le_of_ble_eq_true rfl, Nat.le_of_ble_eq_true rfl⟩ rfl rfl (Nat.le_of_ble_eq_true rfl) dX10_writeKind_8 (fun H locs Z => ?_)
    clear hc6
    exact kJ2 σ8 _ _ _ Z (lv_sub hl [0, 1] rfl) h8
theorem dX10_writeRight_0 : decode cX10_writeRight 0 = .ok (.iload_n 1, 1) := by decide +kernel
theorem dX10_writeRight_1 : decode cX10_writeRight 1 = .ok (.invokestatic 44, 3) := by decide +kernel
theorem dX10_writeRight_4 : decode cX10_writeRight 4 = .ok (.istore_n 2, 1) := by decide +kernel
theorem dX10_writeRight_5 : decode cX10_writeRight 5 = .ok (.iload_n 1, 1) := by decide +kernel
theorem dX10_writeRight_6 : decode cX10_writeRight 6 = .ok (.ifCond .ge 9, 3) := by decide +kernel
theorem dX10_writeRight_9 : decode cX10_writeRight 9 = .ok (.aload_n 0, 1) := by decide +kernel
theorem dX10_writeRight_10 : decode cX10_writeRight 10 = .ok (.bipush 45, 2) := by decide +kernel
theorem dX10_writeRight_12 : decode cX10_writeRight 12 = .ok (.invokevirtual 34, 3) := by decide +kernel
theorem dX10_writeRight_15 : decode cX10_writeRight 15 = .ok (.iload_n 2, 1) := by decide +kernel
theorem dX10_writeRight_16 : decode cX10_writeRight 16 = .ok (.bipush 10, 2) := by decide +kernel
theorem dX10_writeRight_18 : decode cX10_writeRight 18 = .ok (.if_icmp .lt 14, 3) := by decide +kernel
theorem dX10_writeRight_21 : decode cX10_writeRight 21 = .ok (.aload_n 0, 1) := by decide +kernel
theorem dX10_writeRight_22 : decode cX10_writeRight 22 = .ok (.bipush 48, 2) := by decide +kernel
theorem dX10_writeRight_24 : decode cX10_writeRight 24 = .ok (.iload_n 2, 1) := by decide +kernel
theorem dX10_writeRight_25 : decode cX10_writeRight 25 = .ok (.bipush 10, 2) := by decide +kernel
theorem dX10_writeRight_27 : decode cX10_writeRight 27 = .ok (.idiv, 1) := by decide +kernel
theorem dX10_writeRight_28 : decode cX10_writeRight 28 = .ok (.iadd, 1) := by decide +kernel
theorem dX10_writeRight_29 : decode cX10_writeRight 29 = .ok (.invokevirtual 34, 3) := by decide +kernel
theorem dX10_writeRight_32 : decode cX10_writeRight 32 = .ok (.aload_n 0, 1) := by decide +kernel
theorem dX10_writeRight_33 : decode cX10_writeRight 33 = .ok (.bipush 48, 2) := by decide +kernel
theorem dX10_writeRight_35 : decode cX10_writeRight 35 = .ok (.iload_n 2, 1) := by decide +kernel
theorem dX10_writeRight_36 : decode cX10_writeRight 36 = .ok (.bipush 10, 2) := by decide +kernel
theorem dX10_writeRight_38 : decode cX10_writeRight 38 = .ok (.irem, 1) := by decide +kernel
theorem dX10_writeRight_39 : decode cX10_writeRight 39 = .ok (.iadd, 1) := by decide +kernel
theorem dX10_writeRight_40 : decode cX10_writeRight 40 = .ok (.invokevirtual 34, 3) := by decide +kernel
theorem dX10_writeRight_43 : decode cX10_writeRight 43 = .ok (.return_, 1) := by decide +kernel
def rm_fWr_writeRight : Room := { frames := 2, cells := 0, slots := 0, locals := 81 }
set_option maxHeartbeats 4000000 in
set_option maxRecDepth 100000 in
theorem c_fWr_writeRight (l : Launch) (X : eX) (sz : Nat) (a1 : Int32) (σ : sT) (σz : sT) (h0 : fWr_writeRight a1 σ = some σz) : ctV l yX10_writeRight cX10_writeRight 3 none rm_fWr_writeRight [.ref (X.2.1 31), .int a1] (wC X) (tC X) (aC X) X sz σ σz := by
  refine ct_of (by decide +kernel) (Nat.le_of_ble_eq_true rfl) ?_
  intro p e s m args below meth c ls hz B hl Z
  have B : Bd p s m args meth c RX10 cX10_writeRight 3 none := B
  have hl : lv_has ls 3 [(0, .ref (X.2.1 31)), (1, .int a1)] := hl
  have hx := B.1
  have hb := B.2.1
  unfold fWr_writeRight at h0
  refine lv_iload_n hx hb dX10_writeRight_0 rfl (lv_at hl 1 rfl) ?_
  refine va_mabs hx hb (B.2.2.1.trans hl.1.symm) B.2.2.2.1 (B.2.2.2.2.1 _ kl_RX10_44) (B.2.2.2.2.1 _ ks_JabsI) (B.2.2.2.2.1 _ kz_RJ9) (B.2.2.2.2.1 _ kd_JabsI) (Nat.le_of_ble_eq_true rfl) (Nat.le_of_ble_eq_true rfl) (Nat.zero_le _) (Nat.zero_le _) dX10_writeRight_1 ?_
  refine lv_topi (fun x1 ex1 => ?_)
  have h1 := dlt_e ex1 h0
  clear ex1 h0
  refine lv_istore_n (lv' := [(2, .int x1), (0, .ref (X.2.1 31)), (1, .int a1)]) hx hb dX10_writeRight_4 rfl hl (by decide) rfl (fun ls hl => ?_)
  refine lv_iload_n hx hb dX10_writeRight_5 rfl (lv_at hl 2 rfl) ?_
  obtain ⟨J3, eJ3, h9⟩ := dlt_s h1
  clear h1
  have kJ3 : ∀ (σ2 : sT) (H : Heap) (locs : List Loc) (ls : Array Slot), Wd (wC X) (tC X) (aC X) X s σ2 H locs → lv_has ls 3 [(0, .ref (X.2.1 31)), (2, .int x1)] → J3 σ2 = some σz → W p l e rm_fWr_writeRight s m args below meth c H locs 0 0 (MQ below (va_Qv (fun u => u = σz) (poW (wC X) (tC X) (aC X) X sz) (aA (aC X) sz)) args s 0 0 (aA (aC X) sz)) (F0 m 15 ls []) := by
    intro σ2 H locs ls Z hl h2
    rw [eJ3] at h2
    refine lv_iload_n hx hb dX10_writeRight_15 rfl (lv_at hl 1 rfl) ?_
    refine lv_bipush (v := (10 : Int32)) hx hb dX10_writeRight_16 (by decide) ?_
    obtain ⟨J5, eJ5, h5⟩ := dlt_s h2
    clear h2
    have kJ5 : ∀ (σ4 : sT) (H : Heap) (locs : List Loc) (ls : Array Slot), Wd (wC X) (tC X) (aC X) X s σ4 H locs → lv_has ls 3 [(0, .ref (X.2.1 31)), (2, .int x1)] → J5 σ4 = some σz → W p l e rm_fWr_writeRight s m args below meth c H locs 0 0 (MQ below (va_Qv (fun u => u = σz) (poW (wC X) (tC X) (aC X) X sz) (aA (aC X) sz)) args s 0 0 (aA (aC X) sz)) (F0 m 32 ls []) := by
      intro σ4 H locs ls Z hl h3
      rw [eJ5] at h3
      refine lv_aload_n hx hb dX10_writeRight_32 rfl (lv_at hl 0 rfl) ?_
      refine lv_bipush (v := (48 : Int32)) hx hb dX10_writeRight_33 (by decide) ?_
      refine lv_iload_n hx hb dX10_writeRight_35 rfl (lv_at hl 1 rfl) ?_
      refine lv_bipush (v := (10 : Int32)) hx hb dX10_writeRight_36 (by decide) ?_
      refine lv_irem hx hb dX10_writeRight_38 (by decide) ?_
      refine lv_iadd hx hb dX10_writeRight_39 ?_
      obtain ⟨σ7, hc5, h4⟩ := db1_s h3
      clear h3
      refine cV_V [.int ((48 : Int32) + (x1 - x1 / (10 : Int32) * (10 : Int32)))] [] B mx_yX10_put (c_fWr_put l X _ ((48 : Int32) + (x1 - x1 / (10 : Int32) * (10 : Int32))) σ4 σ7 hc5) kl_RX10_34 mi_yX10_put (rv_31 _ _) hcl_10 Z hl rfl rfl ⟨Nat.le_of_ble_eq_true rfl, Nat.le_of_ble_eq_true rfl⟩ rfl rfl (Nat.le_of_ble_eq_true rfl) dX10_writeRight_40 (fun H locs Z => ?_)
      clear hc5
      exact reV B Z hz h4 dX10_writeRight_43
    clear eJ5
    refine lv_icmp_lt (tgt := 32) hx hb dX10_writeRight_18 (by decide) (fun c8 => ?_) (fun c8 => ?_)
    · have h6 := dit h5 c8
      clear h5
      exact kJ5 σ2 _ _ _ Z (lv_sub hl [0, 1] rfl) h6
    · have h7 := dif h5 c8
      clear h5
      refine lv_aload_n hx hb dX10_writeRight_21 rfl (lv_at hl 0 rfl) ?_
      refine lv_bipush (v := (48 : Int32)) hx hb dX10_writeRight_22 (by decide) ?_
      refine lv_iload_n hx hb dX10_writeRight_24 rfl (lv_at hl 1 rfl) ?_
      refine lv_bipush (v := (10 : Int32)) hx hb dX10_writeRight_25 (by decide) ?_
      refine lv_idiv hx hb dX10_writeRight_27 (by decide) ?_
      refine lv_iadd hx hb dX10_writeRight_28 ?_
      obtain ⟨σ10, hc8, h8⟩ := db1_s h7
      clear h7
      refine cV_V [.int ((48 : Int32) + (x1 / (10 : Int32)))] [] B mx_yX10_put (c_fWr_put l X _ ((48 : Int32) + (x1 / (10 : Int32))) σ2 σ10 hc8) kl_RX10_34 mi_yX10_put (rv_31 _ _) hcl_10 Z hl rfl rfl ⟨Nat.le_of_ble_eq_true rfl, Nat.le_of_ble_eq_true rfl⟩ rfl rfl (Nat.le_of_ble_eq_true rfl) dX10_writeRight_29 (fun H locs Z => ?_)
      clear hc8
      exact kJ5 σ10 _ _ _ Z (lv_sub hl [0, 1] rfl) h8
  clear eJ3
  refine lv_if_ge (tgt := 15) hx hb dX10_writeRight_6 (by decide) (fun c11 => ?_) (fun c11 => ?_)
  · have h10 := dit h9 c11
    clear h9
    exact kJ3 σ _ _ _ Z (lv_sub hl [1, 0] rfl) h10
  · have h11 := dif h9 c11
    clear h9
    refine lv_aload_n hx hb dX10_writeRight_9 rfl (lv_at hl 1 rfl) ?_
    refine lv_bipush (v := (45 : Int32)) hx hb dX10_writeRight_10 (by decide) ?_
    obtain ⟨σ13, hc11, h12⟩ := db1_s h11
    clear h11
    refine cV_V [.int (45 : Int32)] [] B mx_yX10_put (c_fWr_put l X _ (45 : Int32) σ σ13 hc11) kl_RX10_34 mi_yX10_put (rv_31 _ _) hcl_10 Z hl rfl rfl ⟨Nat.le_of_ble_eq_true rfl, Nat.le_of_ble_eq_true rfl⟩ rfl rfl (Nat.le_of_ble_eq_true rfl) dX10_writeRight_12 (fun H locs Z => ?_)
    clear hc11
    exact kJ3 σ13 _ _ _ Z (lv_sub hl [1, 0] rfl) h12
theorem dX10_writeTerm_0 : decode cX10_writeTerm 0 = .ok (.iload_n 1, 1) := by decide +kernel
theorem dX10_writeTerm_1 : decode cX10_writeTerm 1 = .ok (.ifCond .ne 4, 3) := by decide +kernel
theorem dX10_writeTerm_4 : decode cX10_writeTerm 4 = .ok (.return_, 1) := by decide +kernel
theorem dX10_writeTerm_5 : decode cX10_writeTerm 5 = .ok (.iload_n 1, 1) := by decide +kernel
theorem dX10_writeTerm_6 : decode cX10_writeTerm 6 = .ok (.ifCond .ge 12, 3) := by decide +kernel
theorem dX10_writeTerm_9 : decode cX10_writeTerm 9 = .ok (.aload_n 0, 1) := by decide +kernel
theorem dX10_writeTerm_10 : decode cX10_writeTerm 10 = .ok (.bipush 45, 2) := by decide +kernel
theorem dX10_writeTerm_12 : decode cX10_writeTerm 12 = .ok (.invokevirtual 34, 3) := by decide +kernel
theorem dX10_writeTerm_15 : decode cX10_writeTerm 15 = .ok (.goto 16, 3) := by decide +kernel
theorem dX10_writeTerm_18 : decode cX10_writeTerm 18 = .ok (.aload_n 0, 1) := by decide +kernel
theorem dX10_writeTerm_19 : decode cX10_writeTerm 19 = .ok (.getfield 19, 3) := by decide +kernel
theorem dX10_writeTerm_22 : decode cX10_writeTerm 22 = .ok (.ifCond .le 9, 3) := by decide +kernel
theorem dX10_writeTerm_25 : decode cX10_writeTerm 25 = .ok (.aload_n 0, 1) := by decide +kernel
theorem dX10_writeTerm_26 : decode cX10_writeTerm 26 = .ok (.bipush 43, 2) := by decide +kernel
theorem dX10_writeTerm_28 : decode cX10_writeTerm 28 = .ok (.invokevirtual 34, 3) := by decide +kernel
theorem dX10_writeTerm_31 : decode cX10_writeTerm 31 = .ok (.iload_n 1, 1) := by decide +kernel
theorem dX10_writeTerm_32 : decode cX10_writeTerm 32 = .ok (.invokestatic 44, 3) := by decide +kernel
theorem dX10_writeTerm_35 : decode cX10_writeTerm 35 = .ok (.iconst 1, 1) := by decide +kernel
theorem dX10_writeTerm_36 : decode cX10_writeTerm 36 = .ok (.if_icmp .le 14, 3) := by decide +kernel
theorem dX10_writeTerm_39 : decode cX10_writeTerm 39 = .ok (.aload_n 0, 1) := by decide +kernel
theorem dX10_writeTerm_40 : decode cX10_writeTerm 40 = .ok (.bipush 48, 2) := by decide +kernel
theorem dX10_writeTerm_42 : decode cX10_writeTerm 42 = .ok (.iload_n 1, 1) := by decide +kernel
theorem dX10_writeTerm_43 : decode cX10_writeTerm 43 = .ok (.invokestatic 44, 3) := by decide +kernel
theorem dX10_writeTerm_46 : decode cX10_writeTerm 46 = .ok (.iadd, 1) := by decide +kernel
theorem dX10_writeTerm_47 : decode cX10_writeTerm 47 = .ok (.invokevirtual 34, 3) := by decide +kernel
theorem dX10_writeTerm_50 : decode cX10_writeTerm 50 = .ok (.aload_n 0, 1) := by decide +kernel
theorem dX10_writeTerm_51 : decode cX10_writeTerm 51 = .ok (.iload_n 2, 1) := by decide +kernel
theorem dX10_writeTerm_52 : decode cX10_writeTerm 52 = .ok (.invokevirtual 34, 3) := by decide +kernel
theorem dX10_writeTerm_55 : decode cX10_writeTerm 55 = .ok (.return_, 1) := by decide +kernel
def rm_fWr_writeTerm : Room := { frames := 2, cells := 0, slots := 0, locals := 81 }
set_option maxHeartbeats 4000000 in
set_option maxRecDepth 100000 in
theorem c_fWr_writeTerm (l : Launch) (X : eX) (sz : Nat) (a1 : Int32) (a2 : Int32) (σ : sT) (σz : sT) (h0 : fWr_writeTerm a1 a2 σ = some σz) : ctV l yX10_writeTerm cX10_writeTerm 3 none rm_fWr_writeTerm [.ref (X.2.1 31), .int a1, .int a2] (wC X) (tC X) (aC X) X sz σ σz := by
  refine ct_of (by decide +kernel) (Nat.le_of_ble_eq_true rfl) ?_
  intro p e s m args below meth c ls hz B hl Z
  have B : Bd p s m args meth c RX10 cX10_writeTerm 3 none := B
  have hl : lv_has ls 3 [(0, .ref (X.2.1 31)), (1, .int a1), (2, .int a2)] := hl
  have hx := B.1
  have hb := B.2.1
  unfold fWr_writeTerm at h0
  refine lv_iload_n hx hb dX10_writeTerm_0 rfl (lv_at hl 1 rfl) ?_
  refine lv_if_ne (tgt := 5) hx hb dX10_writeTerm_1 (by decide) (fun c1 => ?_) (fun c1 => ?_)
  · have h1 := dif h0 c1
    clear h0
    refine lv_iload_n hx hb dX10_writeTerm_5 rfl (lv_at hl 1 rfl) ?_
    obtain ⟨J3, eJ3, h9⟩ := dlt_s h1
    clear h1
    have kJ3 : ∀ (σ2 : sT) (H : Heap) (locs : List Loc) (ls : Array Slot), Wd (wC X) (tC X) (aC X) X s σ2 H locs → lv_has ls 3 [(0, .ref (X.2.1 31)), (1, .int a1), (2, .int a2)] → J3 σ2 = some σz → W p l e rm_fWr_writeTerm s m args below meth c H locs 0 0 (MQ below (va_Qv (fun u => u = σz) (poW (wC X) (tC X) (aC X) X sz) (aA (aC X) sz)) args s 0 0 (aA (aC X) sz)) (F0 m 31 ls []) := by
      intro σ2 H locs ls Z hl h2
      rw [eJ3] at h2
      refine lv_iload_n hx hb dX10_writeTerm_31 rfl (lv_at hl 1 rfl) ?_
      refine va_mabs hx hb (B.2.2.1.trans hl.1.symm) B.2.2.2.1 (B.2.2.2.2.1 _ kl_RX10_44) (B.2.2.2.2.1 _ ks_JabsI) (B.2.2.2.2.1 _ kz_RJ9) (B.2.2.2.2.1 _ kd_JabsI) (Nat.le_of_ble_eq_true rfl) (Nat.le_of_ble_eq_true rfl) (Nat.zero_le _) (Nat.zero_le _) dX10_writeTerm_32 ?_
      refine lv_iconst (v := (1 : Int32)) hx hb dX10_writeTerm_35 (by decide) ?_
      obtain ⟨J5, eJ5, h5⟩ := dlt_s h2
      clear h2
      have kJ5 : ∀ (σ4 : sT) (H : Heap) (locs : List Loc) (ls : Array Slot), Wd (wC X) (tC X) (aC X) X s σ4 H locs → lv_has ls 3 [(0, .ref (X.2.1 31)), (2, .int a2)] → J5 σ4 = some σz → W p l e rm_fWr_writeTerm s m args below meth c H locs 0 0 (MQ below (va_Qv (fun u => u = σz) (poW (wC X) (tC X) (aC X) X sz) (aA (aC X) sz)) args s 0 0 (aA (aC X) sz)) (F0 m 50 ls []) := by
        intro σ4 H locs ls Z hl h3
        rw [eJ5] at h3
        refine lv_aload_n hx hb dX10_writeTerm_50 rfl (lv_at hl 0 rfl) ?_
        refine lv_iload_n hx hb dX10_writeTerm_51 rfl (lv_at hl 1 rfl) ?_
        obtain ⟨σ7, hc5, h4⟩ := db1_s h3
        clear h3
        refine cV_V [.int a2] [] B mx_yX10_put (c_fWr_put l X _ a2 σ4 σ7 hc5) kl_RX10_34 mi_yX10_put (rv_31 _ _) hcl_10 Z hl rfl rfl ⟨Nat.le_of_ble_eq_true rfl, Nat.le_of_ble_eq_true rfl⟩ rfl rfl (Nat.le_of_ble_eq_true rfl) dX10_writeTerm_52 (fun H locs Z => ?_)
        clear hc5
        exact reV B Z hz h4 dX10_writeTerm_55
      clear eJ5
      refine lv_icmp_le (tgt := 50) hx hb dX10_writeTerm_36 (by decide) (fun c8 => ?_) (fun c8 => ?_)
      · have h6 := dit h5 c8
        clear h5
        exact kJ5 σ2 _ _ _ Z (lv_sub hl [0, 2] rfl) h6
      · have h7 := dif h5 c8
        clear h5
        refine lv_aload_n hx hb dX10_writeTerm_39 rfl (lv_at hl 0 rfl) ?_
        refine lv_bipush (v := (48 : Int32)) hx hb dX10_writeTerm_40 (by decide) ?_
        refine lv_iload_n hx hb dX10_writeTerm_42 rfl (lv_at hl 1 rfl) ?_
        refine va_mabs hx hb (B.2.2.1.trans hl.1.symm) B.2.2.2.1 (B.2.2.2.2.1 _ kl_RX10_44) (B.2.2.2.2.1 _ ks_JabsI) (B.2.2.2.2.1 _ kz_RJ9) (B.2.2.2.2.1 _ kd_JabsI) (Nat.le_of_ble_eq_true rfl) (Nat.le_of_ble_eq_true rfl) (Nat.zero_le _) (Nat.zero_le _) dX10_writeTerm_43 ?_
        refine lv_iadd hx hb dX10_writeTerm_46 ?_
        obtain ⟨σ10, hc8, h8⟩ := db1_s h7
        clear h7
        refine cV_V [.int ((48 : Int32) + (if 0 ≤ a1 then a1 else 0 - a1))] [] B mx_yX10_put (c_fWr_put l X _ ((48 : Int32) + (if 0 ≤ a1 then a1 else 0 - a1)) σ2 σ10 hc8) kl_RX10_34 mi_yX10_put (rv_31 _ _) hcl_10 Z hl rfl rfl ⟨Nat.le_of_ble_eq_true rfl, Nat.le_of_ble_eq_true rfl⟩ rfl rfl (Nat.le_of_ble_eq_true rfl) dX10_writeTerm_47 (fun H locs Z => ?_)
        clear hc8
        exact kJ5 σ10 _ _ _ Z (lv_sub hl [0, 2] rfl) h8
    clear eJ3
    refine lv_if_ge (tgt := 18) hx hb dX10_writeTerm_6 (by decide) (fun c11 => ?_) (fun c11 => ?_)
    · have h10 := dit h9 c11
      clear h9
      refine lv_aload_n hx hb dX10_writeTerm_18 rfl (lv_at hl 0 rfl) ?_
      refine g_31_2 B Z kf_RX10_19 dX10_writeTerm_19 ?_
      refine lv_if_le (tgt := 31) hx hb dX10_writeTerm_22 (by decide) (fun c12 => ?_) (fun c12 => ?_)
      · have h11 := dit h10 c12
        clear h10
        exact kJ3 σ _ _ _ Z (lv_sub hl [0, 1, 2] rfl) h11
      · have h12 := dif h10 c12
        clear h10
        refine lv_aload_n hx hb dX10_writeTerm_25 rfl (lv_at hl 0 rfl) ?_
        refine lv_bipush (v := (43 : Int32)) hx hb dX10_writeTerm_26 (by decide) ?_
        obtain ⟨σ14, hc12, h13⟩ := db1_s h12
        clear h12
        refine cV_V [.int (43 : Int32)] [] B mx_yX10_put (c_fWr_put l X _ (43 : Int32) σ σ14 hc12) kl_RX10_34 mi_yX10_put (rv_31 _ _) hcl_10 Z hl rfl rfl ⟨Nat.le_of_ble_eq_true rfl, Nat.le_of_ble_eq_true rfl⟩ rfl rfl (Nat.le_of_ble_eq_true rfl) dX10_writeTerm_28 (fun H locs Z => ?_)
        clear hc12
        exact kJ3 σ14 _ _ _ Z (lv_sub hl [0, 1, 2] rfl) h13
    · have h14 := dif h9 c11
      clear h9
      refine lv_aload_n hx hb dX10_writeTerm_9 rfl (lv_at hl 0 rfl) ?_
      refine lv_bipush (v := (45 : Int32)) hx hb dX10_writeTerm_10 (by decide) ?_
      obtain ⟨σ16, hc14, h15⟩ := db1_s h14
      clear h14
      refine cV_V [.int (45 : Int32)] [] B mx_yX10_put (c_fWr_put l X _ (45 : Int32) σ σ16 hc14) kl_RX10_34 mi_yX10_put (rv_31 _ _) hcl_10 Z hl rfl rfl ⟨Nat.le_of_ble_eq_true rfl, Nat.le_of_ble_eq_true rfl⟩ rfl rfl (Nat.le_of_ble_eq_true rfl) dX10_writeTerm_12 (fun H locs Z => ?_)
      clear hc14
      refine lv_goto (tgt := 31) hx hb dX10_writeTerm_15 (by decide) ?_
      exact kJ3 σ16 _ _ _ Z (lv_sub hl [0, 1, 2] rfl) h15
  · have h16 := dit h0 c1
    clear h0
    exact reV B Z hz h16 dX10_writeTerm_4
theorem dX10_write_0 : decode cX10_write 0 = .ok (.aload_n 0, 1) := by decide +kernel
theorem dX10_write_1 : decode cX10_write 1 = .ok (.iconst 0, 1) := by decide +kernel
theorem dX10_write_2 : decode cX10_write 2 = .ok (.putfield 19, 3) := by decide +kernel
theorem dX10_write_5 : decode cX10_write 5 = .ok (.iconst 0, 1) := by decide +kernel
theorem dX10_write_6 : decode cX10_write 6 = .ok (.istore_n 2, 1) := by decide +kernel
theorem dX10_write_7 : decode cX10_write 7 = .ok (.iload_n 2, 1) := by decide +kernel
theorem dX10_write_8 : decode cX10_write 8 = .ok (.iconst 3, 1) := by decide +kernel
theorem dX10_write_9 : decode cX10_write 9 = .ok (.if_icmp .ge 26, 3) := by decide +kernel
theorem dX10_write_12 : decode cX10_write 12 = .ok (.aload_n 0, 1) := by decide +kernel
theorem dX10_write_13 : decode cX10_write 13 = .ok (.aload_n 0, 1) := by decide +kernel
theorem dX10_write_14 : decode cX10_write 14 = .ok (.getfield 15, 3) := by decide +kernel
theorem dX10_write_17 : decode cX10_write 17 = .ok (.iload_n 1, 1) := by decide +kernel
theorem dX10_write_18 : decode cX10_write 18 = .ok (.iload_n 2, 1) := by decide +kernel
theorem dX10_write_19 : decode cX10_write 19 = .ok (.invokevirtual 24, 3) := by decide +kernel
theorem dX10_write_22 : decode cX10_write 22 = .ok (.bipush 120, 2) := by decide +kernel
theorem dX10_write_24 : decode cX10_write 24 = .ok (.iload_n 2, 1) := by decide +kernel
theorem dX10_write_25 : decode cX10_write 25 = .ok (.iadd, 1) := by decide +kernel
theorem dX10_write_26 : decode cX10_write 26 = .ok (.invokevirtual 30, 3) := by decide +kernel
theorem dX10_write_29 : decode cX10_write 29 = .ok (.iinc 2 1, 3) := by decide +kernel
theorem dX10_write_32 : decode cX10_write 32 = .ok (.goto (-25), 3) := by decide +kernel
theorem dX10_write_35 : decode cX10_write 35 = .ok (.aload_n 0, 1) := by decide +kernel
theorem dX10_write_36 : decode cX10_write 36 = .ok (.getfield 19, 3) := by decide +kernel
theorem dX10_write_39 : decode cX10_write 39 = .ok (.ifCond .ne 9, 3) := by decide +kernel
theorem dX10_write_42 : decode cX10_write 42 = .ok (.aload_n 0, 1) := by decide +kernel
theorem dX10_write_43 : decode cX10_write 43 = .ok (.bipush 48, 2) := by decide +kernel
theorem dX10_write_45 : decode cX10_write 45 = .ok (.invokevirtual 34, 3) := by decide +kernel
theorem dX10_write_48 : decode cX10_write 48 = .ok (.aload_n 0, 1) := by decide +kernel
theorem dX10_write_49 : decode cX10_write 49 = .ok (.aload_n 0, 1) := by decide +kernel
theorem dX10_write_50 : decode cX10_write 50 = .ok (.getfield 15, 3) := by decide +kernel
theorem dX10_write_53 : decode cX10_write 53 = .ok (.iload_n 1, 1) := by decide +kernel
theorem dX10_write_54 : decode cX10_write 54 = .ok (.iconst 3, 1) := by decide +kernel
theorem dX10_write_55 : decode cX10_write 55 = .ok (.invokevirtual 24, 3) := by decide +kernel
theorem dX10_write_58 : decode cX10_write 58 = .ok (.invokevirtual 38, 3) := by decide +kernel
theorem dX10_write_61 : decode cX10_write 61 = .ok (.aload_n 0, 1) := by decide +kernel
theorem dX10_write_62 : decode cX10_write 62 = .ok (.aload_n 0, 1) := by decide +kernel
theorem dX10_write_63 : decode cX10_write 63 = .ok (.getfield 15, 3) := by decide +kernel
theorem dX10_write_66 : decode cX10_write 66 = .ok (.iload_n 1, 1) := by decide +kernel
theorem dX10_write_67 : decode cX10_write 67 = .ok (.iconst 4, 1) := by decide +kernel
theorem dX10_write_68 : decode cX10_write 68 = .ok (.invokevirtual 24, 3) := by decide +kernel
theorem dX10_write_71 : decode cX10_write 71 = .ok (.invokevirtual 41, 3) := by decide +kernel
theorem dX10_write_74 : decode cX10_write 74 = .ok (.return_, 1) := by decide +kernel
def rm_fWr_write : Room := { frames := 3, cells := 0, slots := 0, locals := 104 }
set_option maxHeartbeats 4000000 in
set_option maxRecDepth 100000 in
theorem c_fWr_write (l : Launch) (X : eX) (sz : Nat) (a1 : Int32) (σ : sT) (σz : sT) (h0 : fWr_write a1 σ = some σz) : ctV l yX10_write cX10_write 3 none rm_fWr_write [.ref (X.2.1 31), .int a1] (wC X) (tC X) (aC X) X sz σ σz := by
  refine ct_of (by decide +kernel) (Nat.le_of_ble_eq_true rfl) ?_
  intro p e s m args below meth c ls hz B hl Z
  have B : Bd p s m args meth c RX10 cX10_write 3 none := B
  have hl : lv_has ls 3 [(0, .ref (X.2.1 31)), (1, .int a1)] := hl
  have hx := B.1
  have hb := B.2.1
  unfold fWr_write at h0
  refine lv_aload_n hx hb dX10_write_0 rfl (lv_at hl 0 rfl) ?_
  refine lv_iconst (v := (0 : Int32)) hx hb dX10_write_1 (by decide) ?_
  refine s_31_2 B Z kf_RX10_19 dX10_write_2 (fun H locs Z => ?_)
  obtain ⟨σ1, eσ1, h1⟩ := dlt_s h0
  clear h0
  replace Z := Wd.eq eσ1 Z
  clear eσ1
  refine lv_iconst (v := (0 : Int32)) hx hb dX10_write_5 (by decide) ?_
  refine lv_istore_n (lv' := [(2, .int (0 : Int32)), (0, .ref (X.2.1 31)), (1, .int a1)]) hx hb dX10_write_6 rfl hl (by decide) rfl (fun ls hl => ?_)
  obtain ⟨K5, eK5, h12⟩ := dlt_s h1
  clear h1
  have kK5 : ∀ (σ4 : sT) (H : Heap) (locs : List Loc) (ls : Array Slot), Wd (wC X) (tC X) (aC X) X s σ4 H locs → lv_has ls 3 [(0, .ref (X.2.1 31)), (1, .int a1)] → K5 σ4 = some σz → W p l e rm_fWr_write s m args below meth c H locs 0 0 (MQ below (va_Qv (fun u => u = σz) (poW (wC X) (tC X) (aC X) X sz) (aA (aC X) sz)) args s 0 0 (aA (aC X) sz)) (F0 m 35 ls []) := by
    intro σ4 H locs ls Z hl h2
    rw [eK5] at h2
    refine lv_aload_n hx hb dX10_write_35 rfl (lv_at hl 0 rfl) ?_
    refine g_31_2 B Z kf_RX10_19 dX10_write_36 ?_
    obtain ⟨J7, eJ7, h8⟩ := dlt_s h2
    clear h2
    have kJ7 : ∀ (σ6 : sT) (H : Heap) (locs : List Loc) (ls : Array Slot), Wd (wC X) (tC X) (aC X) X s σ6 H locs → lv_has ls 3 [(0, .ref (X.2.1 31)), (1, .int a1)] → J7 σ6 = some σz → W p l e rm_fWr_write s m args below meth c H locs 0 0 (MQ below (va_Qv (fun u => u = σz) (poW (wC X) (tC X) (aC X) X sz) (aA (aC X) sz)) args s 0 0 (aA (aC X) sz)) (F0 m 48 ls []) := by
      intro σ6 H locs ls Z hl h3
      rw [eJ7] at h3
      refine lv_aload_n hx hb dX10_write_48 rfl (lv_at hl 0 rfl) ?_
      refine lv_aload_n hx hb dX10_write_49 rfl (lv_at hl 0 rfl) ?_
      refine g_31_0 B Z kf_RX10_15 dX10_write_50 ?_
      refine lv_iload_n hx hb dX10_write_53 rfl (lv_at hl 1 rfl) ?_
      refine lv_iconst (v := (3 : Int32)) hx hb dX10_write_54 (by decide) ?_
      obtain ⟨r9, hc7, h4⟩ := db1_s h3
      clear h3
      refine cV_I [.int a1, .int (3 : Int32)] [.ref (X.2.1 31)] B mx_yX0_get (c_fBk_get l X _ a1 (3 : Int32) σ6 r9 hc7) kl_RX10_24 mi_yX0_get (rv_1 _ _) hcl_0 Z hl rfl rfl ⟨Nat.le_of_ble_eq_true rfl, Nat.le_of_ble_eq_true rfl⟩ rfl rfl (Nat.le_of_ble_eq_true rfl) dX10_write_55 (fun H locs Z => ?_)
      clear hc7
      obtain ⟨σ11, hc9, h5⟩ := db1_s h4
      clear h4
      refine cV_V [.int r9] [] B mx_yX10_writeKind (c_fWr_writeKind l X _ r9 σ6 σ11 hc9) kl_RX10_38 mi_yX10_writeKind (rv_31 _ _) hcl_10 Z hl rfl rfl ⟨Nat.le_of_ble_eq_true rfl, Nat.le_of_ble_eq_true rfl⟩ rfl rfl (Nat.le_of_ble_eq_true rfl) dX10_write_58 (fun H locs Z => ?_)
      clear hc9
      refine lv_aload_n hx hb dX10_write_61 rfl (lv_at hl 0 rfl) ?_
      refine lv_aload_n hx hb dX10_write_62 rfl (lv_at hl 0 rfl) ?_
      refine g_31_0 B Z kf_RX10_15 dX10_write_63 ?_
      refine lv_iload_n hx hb dX10_write_66 rfl (lv_at hl 1 rfl) ?_
      refine lv_iconst (v := (4 : Int32)) hx hb dX10_write_67 (by decide) ?_
      obtain ⟨r13, hc11, h6⟩ := db1_s h5
      clear h5
      refine cV_I [.int a1, .int (4 : Int32)] [.ref (X.2.1 31)] B mx_yX0_get (c_fBk_get l X _ a1 (4 : Int32) σ11 r13 hc11) kl_RX10_24 mi_yX0_get (rv_1 _ _) hcl_0 Z hl rfl rfl ⟨Nat.le_of_ble_eq_true rfl, Nat.le_of_ble_eq_true rfl⟩ rfl rfl (Nat.le_of_ble_eq_true rfl) dX10_write_68 (fun H locs Z => ?_)
      clear hc11
      obtain ⟨σ15, hc13, h7⟩ := db1_s h6
      clear h6
      refine cV_V [.int r13] [] B mx_yX10_writeRight (c_fWr_writeRight l X _ r13 σ11 σ15 hc13) kl_RX10_41 mi_yX10_writeRight (rv_31 _ _) hcl_10 Z hl rfl rfl ⟨Nat.le_of_ble_eq_true rfl, Nat.le_of_ble_eq_true rfl⟩ rfl rfl (Nat.le_of_ble_eq_true rfl) dX10_write_71 (fun H locs Z => ?_)
      clear hc13
      exact reV B Z hz h7 dX10_write_74
    clear eJ7
    refine lv_if_ne (tgt := 48) hx hb dX10_write_39 (by decide) (fun c16 => ?_) (fun c16 => ?_)
    · have h9 := dif h8 c16
      clear h8
      exact kJ7 σ4 _ _ _ Z (lv_sub hl [0, 1] rfl) h9
    · have h10 := dit h8 c16
      clear h8
      refine lv_aload_n hx hb dX10_write_42 rfl (lv_at hl 0 rfl) ?_
      refine lv_bipush (v := (48 : Int32)) hx hb dX10_write_43 (by decide) ?_
      obtain ⟨σ18, hc16, h11⟩ := db1_s h10
      clear h10
      refine cV_V [.int (48 : Int32)] [] B mx_yX10_put (c_fWr_put l X _ (48 : Int32) σ4 σ18 hc16) kl_RX10_34 mi_yX10_put (rv_31 _ _) hcl_10 Z hl rfl rfl ⟨Nat.le_of_ble_eq_true rfl, Nat.le_of_ble_eq_true rfl⟩ rfl rfl (Nat.le_of_ble_eq_true rfl) dX10_write_45 (fun H locs Z => ?_)
      clear hc16
      exact kJ7 σ18 _ _ _ Z (lv_sub hl [0, 1] rfl) h11
  clear eK5
  have lL7 : ∀ (n : Nat), ∀ (x2 : Int32) (σ3 : sT) (H : Heap) (locs : List Loc) (ls : Array Slot), Wd (wC X) (tC X) (aC X) X s σ3 H locs → lv_has ls 3 [(0, .ref (X.2.1 31)), (1, .int a1), (2, .int x2)] → fWr_write_L7 a1 K5 n x2 σ3 = some σz → W p l e rm_fWr_write s m args below meth c H locs 0 0 (MQ below (va_Qv (fun u => u = σz) (poW (wC X) (tC X) (aC X) X sz) (aA (aC X) sz)) args s 0 0 (aA (aC X) sz)) (F0 m 7 ls []) := by
    intro n
    induction n with
    | zero =>
      intro x2 σ3 H locs ls Z hl h
      exact nomatch (show (none : Option (sT)) = some _ from h)
    | succ n19 ih5 =>
      intro x2 σ3 H locs ls Z hl h13
      unfold fWr_write_L7 at h13
      refine lv_iload_n hx hb dX10_write_7 rfl (lv_at hl 2 rfl) ?_
      refine lv_iconst (v := (3 : Int32)) hx hb dX10_write_8 (by decide) ?_
      refine lv_icmp_ge (tgt := 35) hx hb dX10_write_9 (by decide) (fun c20 => ?_) (fun c20 => ?_)
      · have h14 := dit h13 c20
        clear h13
        exact kK5 σ3 _ _ _ Z (lv_sub hl [0, 1] rfl) h14
      · have h15 := dif h13 c20
        clear h13
        refine lv_aload_n hx hb dX10_write_12 rfl (lv_at hl 0 rfl) ?_
        refine lv_aload_n hx hb dX10_write_13 rfl (lv_at hl 0 rfl) ?_
        refine g_31_0 B Z kf_RX10_15 dX10_write_14 ?_
        refine lv_iload_n hx hb dX10_write_17 rfl (lv_at hl 1 rfl) ?_
        refine lv_iload_n hx hb dX10_write_18 rfl (lv_at hl 2 rfl) ?_
        obtain ⟨r22, hc20, h16⟩ := db1_s h15
        clear h15
        refine cV_I [.int a1, .int x2] [.ref (X.2.1 31)] B mx_yX0_get (c_fBk_get l X _ a1 x2 σ3 r22 hc20) kl_RX10_24 mi_yX0_get (rv_1 _ _) hcl_0 Z hl rfl rfl ⟨Nat.le_of_ble_eq_true rfl, Nat.le_of_ble_eq_true rfl⟩ rfl rfl (Nat.le_of_ble_eq_true rfl) dX10_write_19 (fun H locs Z => ?_)
        clear hc20
        refine lv_bipush (v := (120 : Int32)) hx hb dX10_write_22 (by decide) ?_
        refine lv_iload_n hx hb dX10_write_24 rfl (lv_at hl 2 rfl) ?_
        refine lv_iadd hx hb dX10_write_25 ?_
        obtain ⟨σ24, hc22, h17⟩ := db1_s h16
        clear h16
        refine cV_V [.int r22, .int ((120 : Int32) + x2)] [] B mx_yX10_writeTerm (c_fWr_writeTerm l X _ r22 ((120 : Int32) + x2) σ3 σ24 hc22) kl_RX10_30 mi_yX10_writeTerm (rv_31 _ _) hcl_10 Z hl rfl rfl ⟨Nat.le_of_ble_eq_true rfl, Nat.le_of_ble_eq_true rfl⟩ rfl rfl (Nat.le_of_ble_eq_true rfl) dX10_write_26 (fun H locs Z => ?_)
        clear hc22
        refine lv_iinc (v := x2 + (1 : Int32)) (lv' := [(2, .int (x2 + (1 : Int32))), (0, .ref (X.2.1 31)), (1, .int a1)]) hx hb dX10_write_29 hl (k := 2) rfl (by rfl) (by decide) rfl (fun ls hl => ?_)
        refine lv_goto (tgt := 7) hx hb dX10_write_32 (by decide) ?_
        exact ih5 (x2 + (1 : Int32)) σ24 _ _ _ Z (lv_sub hl [1, 2, 0] rfl) h17
  exact lL7 FU (0 : Int32) σ1 _ _ _ Z (lv_sub hl [1, 2, 0] rfl) h12
theorem dX10_byteAt_0 : decode cX10_byteAt 0 = .ok (.iload_n 1, 1) := by decide +kernel
theorem dX10_byteAt_1 : decode cX10_byteAt 1 = .ok (.ifCond .lt 26, 3) := by decide +kernel
theorem dX10_byteAt_4 : decode cX10_byteAt 4 = .ok (.iload_n 1, 1) := by decide +kernel
theorem dX10_byteAt_5 : decode cX10_byteAt 5 = .ok (.aload_n 0, 1) := by decide +kernel
theorem dX10_byteAt_6 : decode cX10_byteAt 6 = .ok (.getfield 19, 3) := by decide +kernel
theorem dX10_byteAt_9 : decode cX10_byteAt 9 = .ok (.if_icmp .ge 18, 3) := by decide +kernel
theorem dX10_byteAt_12 : decode cX10_byteAt 12 = .ok (.iload_n 1, 1) := by decide +kernel
theorem dX10_byteAt_13 : decode cX10_byteAt 13 = .ok (.bipush 14, 2) := by decide +kernel
theorem dX10_byteAt_15 : decode cX10_byteAt 15 = .ok (.if_icmp .ge 12, 3) := by decide +kernel
theorem dX10_byteAt_18 : decode cX10_byteAt 18 = .ok (.aload_n 0, 1) := by decide +kernel
theorem dX10_byteAt_19 : decode cX10_byteAt 19 = .ok (.getfield 11, 3) := by decide +kernel
theorem dX10_byteAt_22 : decode cX10_byteAt 22 = .ok (.iload_n 1, 1) := by decide +kernel
theorem dX10_byteAt_23 : decode cX10_byteAt 23 = .ok (.baload, 1) := by decide +kernel
theorem dX10_byteAt_24 : decode cX10_byteAt 24 = .ok (.goto 5, 3) := by decide +kernel
theorem dX10_byteAt_27 : decode cX10_byteAt 27 = .ok (.ldc 23, 2) := by decide +kernel
theorem dX10_byteAt_29 : decode cX10_byteAt 29 = .ok (.ireturn, 1) := by decide +kernel
def rm_fWr_byteAt : Room := { frames := 1, cells := 0, slots := 0, locals := 60 }
set_option maxHeartbeats 4000000 in
set_option maxRecDepth 100000 in
theorem c_fWr_byteAt (l : Launch) (X : eX) (sz : Nat) (a1 : Int32) (σ : sT) (rz : Int32) (h0 : fWr_byteAt a1 σ = some rz) : ctI l yX10_byteAt cX10_byteAt 2 (some .int) rm_fWr_byteAt [.ref (X.2.1 31), .int a1] (wC X) (tC X) (aC X) X sz σ rz σ := by
  refine ct_of (by decide +kernel) (Nat.le_of_ble_eq_true rfl) ?_
  intro p e s m args below meth c ls hz B hl Z
  have B : Bd p s m args meth c RX10 cX10_byteAt 2 (some .int) := B
  have hl : lv_has ls 2 [(0, .ref (X.2.1 31)), (1, .int a1)] := hl
  have hx := B.1
  have hb := B.2.1
  unfold fWr_byteAt at h0
  refine lv_iload_n hx hb dX10_byteAt_0 rfl (lv_at hl 1 rfl) ?_
  refine lv_if_lt (tgt := 27) hx hb dX10_byteAt_1 (by decide) (fun c1 => ?_) (fun c1 => ?_)
  · have h1 := dit h0 c1
    clear h0
    refine lv_ldc hx hb B.2.2.2.1 (B.2.2.2.2.1 _ kc_RX10_23) dX10_byteAt_27 ?_
    exact reI B Z rfl hz (congrArg (Option.map (fun q => (q, σ))) h1) dX10_byteAt_29
  · have h2 := dif h0 c1
    clear h0
    refine lv_iload_n hx hb dX10_byteAt_4 rfl (lv_at hl 1 rfl) ?_
    refine lv_aload_n hx hb dX10_byteAt_5 rfl (lv_at hl 0 rfl) ?_
    refine g_31_2 B Z kf_RX10_19 dX10_byteAt_6 ?_
    refine lv_icmp_ge (tgt := 27) hx hb dX10_byteAt_9 (by decide) (fun c2 => ?_) (fun c2 => ?_)
    · have h3 := dit h2 c2
      clear h2
      refine lv_ldc hx hb B.2.2.2.1 (B.2.2.2.2.1 _ kc_RX10_23) dX10_byteAt_27 ?_
      exact reI B Z rfl hz (congrArg (Option.map (fun q => (q, σ))) h3) dX10_byteAt_29
    · have h4 := dif h2 c2
      clear h2
      refine lv_iload_n hx hb dX10_byteAt_12 rfl (lv_at hl 1 rfl) ?_
      refine lv_bipush (v := (14 : Int32)) hx hb dX10_byteAt_13 (by decide) ?_
      refine lv_icmp_ge (tgt := 27) hx hb dX10_byteAt_15 (by decide) (fun c3 => ?_) (fun c3 => ?_)
      · have h5 := dit h4 c3
        clear h4
        refine lv_ldc hx hb B.2.2.2.1 (B.2.2.2.2.1 _ kc_RX10_23) dX10_byteAt_27 ?_
        exact reI B Z rfl hz (congrArg (Option.map (fun q => (q, σ))) h5) dX10_byteAt_29
      · have h6 := dif h4 c3
        clear h4
        refine lv_aload_n hx hb dX10_byteAt_18 rfl (lv_at hl 0 rfl) ?_
        refine g_31_1 B Z kf_RX10_11 dX10_byteAt_19 ?_
        refine lv_iload_n hx hb dX10_byteAt_22 rfl (lv_at hl 1 rfl) ?_
        obtain ⟨z4, h7⟩ := dck_s h6
        clear h6
        refine ld_32 B Z z4 dX10_byteAt_23 ?_
        refine lv_goto (tgt := 29) hx hb dX10_byteAt_24 (by decide) ?_
        exact reI B Z rfl hz (congrArg (Option.map (fun q => (q, σ))) h7) dX10_byteAt_29
theorem dX11_shown_0 : decode cX11_shown 0 = .ok (.aload_n 0, 1) := by decide +kernel
theorem dX11_shown_1 : decode cX11_shown 1 = .ok (.getfield 10, 3) := by decide +kernel
theorem dX11_shown_4 : decode cX11_shown 4 = .ok (.iload_n 1, 1) := by decide +kernel
theorem dX11_shown_5 : decode cX11_shown 5 = .ok (.invokevirtual 99, 3) := by decide +kernel
theorem dX11_shown_8 : decode cX11_shown 8 = .ok (.ifCond .eq 7, 3) := by decide +kernel
theorem dX11_shown_11 : decode cX11_shown 11 = .ok (.iload_n 2, 1) := by decide +kernel
theorem dX11_shown_12 : decode cX11_shown 12 = .ok (.ifCond .ge 8, 3) := by decide +kernel
theorem dX11_shown_15 : decode cX11_shown 15 = .ok (.aload_n 0, 1) := by decide +kernel
theorem dX11_shown_16 : decode cX11_shown 16 = .ok (.invokevirtual 77, 3) := by decide +kernel
theorem dX11_shown_19 : decode cX11_shown 19 = .ok (.ireturn, 1) := by decide +kernel
theorem dX11_shown_20 : decode cX11_shown 20 = .ok (.aload_n 0, 1) := by decide +kernel
theorem dX11_shown_21 : decode cX11_shown 21 = .ok (.getfield 69, 3) := by decide +kernel
theorem dX11_shown_24 : decode cX11_shown 24 = .ok (.iload_n 1, 1) := by decide +kernel
theorem dX11_shown_25 : decode cX11_shown 25 = .ok (.invokevirtual 220, 3) := by decide +kernel
theorem dX11_shown_28 : decode cX11_shown 28 = .ok (.aload_n 0, 1) := by decide +kernel
theorem dX11_shown_29 : decode cX11_shown 29 = .ok (.getfield 69, 3) := by decide +kernel
theorem dX11_shown_32 : decode cX11_shown 32 = .ok (.iload_n 2, 1) := by decide +kernel
theorem dX11_shown_33 : decode cX11_shown 33 = .ok (.invokevirtual 223, 3) := by decide +kernel
theorem dX11_shown_36 : decode cX11_shown 36 = .ok (.ireturn, 1) := by decide +kernel
def rm_fRM_shown : Room := { frames := 4, cells := 0, slots := 0, locals := 126 }
set_option maxHeartbeats 4000000 in
set_option maxRecDepth 100000 in
theorem c_fRM_shown (l : Launch) (X : eX) (sz : Nat) (a1 : Int32) (a2 : Int32) (σ : sT) (rz : Int32) (σz : sT) (h0 : fRM_shown a1 a2 σ = some (rz, σz)) : ctI l yX11_shown cX11_shown 3 (some .int) rm_fRM_shown [.ref (X.2.1 0), .int a1, .int a2] (wC X) (tC X) (aC X) X sz σ rz σz := by
  refine ct_of (by decide +kernel) (Nat.le_of_ble_eq_true rfl) ?_
  intro p e s m args below meth c ls hz B hl Z
  have B : Bd p s m args meth c RX11 cX11_shown 3 (some .int) := B
  have hl : lv_has ls 3 [(0, .ref (X.2.1 0)), (1, .int a1), (2, .int a2)] := hl
  have hx := B.1
  have hb := B.2.1
  unfold fRM_shown at h0
  refine lv_aload_n hx hb dX11_shown_0 rfl (lv_at hl 0 rfl) ?_
  refine g_0_0 B Z kf_RX11_10 dX11_shown_1 ?_
  refine lv_iload_n hx hb dX11_shown_4 rfl (lv_at hl 1 rfl) ?_
  obtain ⟨r2, hc0, h1⟩ := db1_s h0
  clear h0
  refine cV_I [.int a1] [] B mx_yX0_has (c_fBk_has l X _ a1 σ r2 hc0) kl_RX11_99 mi_yX0_has (rv_1 _ _) hcl_0 Z hl rfl rfl ⟨Nat.le_of_ble_eq_true rfl, Nat.le_of_ble_eq_true rfl⟩ rfl rfl (Nat.le_of_ble_eq_true rfl) dX11_shown_5 (fun H locs Z => ?_)
  clear hc0
  obtain ⟨J3, eJ3, h4⟩ := dlt_s h1
  clear h1
  have kJ3 : ∀ (H : Heap) (locs : List Loc) (ls : Array Slot), Wd (wC X) (tC X) (aC X) X s σ H locs → lv_has ls 3 [(0, .ref (X.2.1 0))] → J3 () = some (rz, σz) → W p l e rm_fRM_shown s m args below meth c H locs 0 0 (MQ below (va_Qi (fun a u => a = rz ∧ u = σz) (poW (wC X) (tC X) (aC X) X sz) (aA (aC X) sz)) args s 0 0 (aA (aC X) sz)) (F0 m 15 ls []) := by
    intro  H locs ls Z hl h2
    rw [eJ3] at h2
    refine lv_aload_n hx hb dX11_shown_15 rfl (lv_at hl 0 rfl) ?_
    obtain ⟨r5, σ6, hc3, h3⟩ := db2_s h2
    clear h2
    refine cV_I [] [] B mx_yX11_bad (c_fRM_bad l X _ σ r5 σ6 hc3) kl_RX11_77 mi_yX11_bad (rv_0 _ _) hcl_11 Z hl rfl rfl ⟨Nat.le_of_ble_eq_true rfl, Nat.le_of_ble_eq_true rfl⟩ rfl rfl (Nat.le_of_ble_eq_true rfl) dX11_shown_16 (fun H locs Z => ?_)
    clear hc3
    exact reI B Z rfl hz h3 dX11_shown_19
  clear eJ3
  refine lv_if_eq (tgt := 15) hx hb dX11_shown_8 (by decide) (fun c7 => ?_) (fun c7 => ?_)
  · have h5 := dit h4 c7
    clear h4
    exact kJ3  _ _ _ Z (lv_sub hl [0] rfl) h5
  · have h6 := dif h4 c7
    clear h4
    refine lv_iload_n hx hb dX11_shown_11 rfl (lv_at hl 2 rfl) ?_
    refine lv_if_ge (tgt := 20) hx hb dX11_shown_12 (by decide) (fun c8 => ?_) (fun c8 => ?_)
    · have h7 := dit h6 c8
      clear h6
      refine lv_aload_n hx hb dX11_shown_20 rfl (lv_at hl 0 rfl) ?_
      refine g_0_7 B Z kf_RX11_69 dX11_shown_21 ?_
      refine lv_iload_n hx hb dX11_shown_24 rfl (lv_at hl 1 rfl) ?_
      obtain ⟨σ10, hc8, h8⟩ := db1_s h7
      clear h7
      refine cV_V [.int a1] [] B mx_yX10_write (c_fWr_write l X _ a1 σ σ10 hc8) kl_RX11_220 mi_yX10_write (rv_31 _ _) hcl_10 Z hl rfl rfl ⟨Nat.le_of_ble_eq_true rfl, Nat.le_of_ble_eq_true rfl⟩ rfl rfl (Nat.le_of_ble_eq_true rfl) dX11_shown_25 (fun H locs Z => ?_)
      clear hc8
      refine lv_aload_n hx hb dX11_shown_28 rfl (lv_at hl 0 rfl) ?_
      refine g_0_7 B Z kf_RX11_69 dX11_shown_29 ?_
      refine lv_iload_n hx hb dX11_shown_32 rfl (lv_at hl 2 rfl) ?_
      obtain ⟨r12, hc10, h9⟩ := db1_s h8
      clear h8
      refine cV_I [.int a2] [] B mx_yX10_byteAt (c_fWr_byteAt l X _ a2 σ10 r12 hc10) kl_RX11_223 mi_yX10_byteAt (rv_31 _ _) hcl_10 Z hl rfl rfl ⟨Nat.le_of_ble_eq_true rfl, Nat.le_of_ble_eq_true rfl⟩ rfl rfl (Nat.le_of_ble_eq_true rfl) dX11_shown_33 (fun H locs Z => ?_)
      clear hc10
      exact reI B Z rfl hz h9 dX11_shown_36
    · have h10 := dif h6 c8
      clear h6
      exact kJ3  _ _ _ Z (lv_sub hl [0] rfl) h10
theorem dX0_restore_0 : decode cX0_restore 0 = .ok (.aload_n 0, 1) := by decide +kernel
theorem dX0_restore_1 : decode cX0_restore 1 = .ok (.getfield 42, 3) := by decide +kernel
theorem dX0_restore_4 : decode cX0_restore 4 = .ok (.ifCond .gt 4, 3) := by decide +kernel
theorem dX0_restore_7 : decode cX0_restore 7 = .ok (.return_, 1) := by decide +kernel
theorem dX0_restore_8 : decode cX0_restore 8 = .ok (.aload_n 0, 1) := by decide +kernel
theorem dX0_restore_9 : decode cX0_restore 9 = .ok (.aload_n 0, 1) := by decide +kernel
theorem dX0_restore_10 : decode cX0_restore 10 = .ok (.getfield 33, 3) := by decide +kernel
theorem dX0_restore_13 : decode cX0_restore 13 = .ok (.bipush 6, 2) := by decide +kernel
theorem dX0_restore_15 : decode cX0_restore 15 = .ok (.iadd, 1) := by decide +kernel
theorem dX0_restore_16 : decode cX0_restore 16 = .ok (.iconst 1, 1) := by decide +kernel
theorem dX0_restore_17 : decode cX0_restore 17 = .ok (.isub, 1) := by decide +kernel
theorem dX0_restore_18 : decode cX0_restore 18 = .ok (.bipush 6, 2) := by decide +kernel
theorem dX0_restore_20 : decode cX0_restore 20 = .ok (.irem, 1) := by decide +kernel
theorem dX0_restore_21 : decode cX0_restore 21 = .ok (.putfield 33, 3) := by decide +kernel
theorem dX0_restore_24 : decode cX0_restore 24 = .ok (.aload_n 0, 1) := by decide +kernel
theorem dX0_restore_25 : decode cX0_restore 25 = .ok (.getfield 15, 3) := by decide +kernel
theorem dX0_restore_28 : decode cX0_restore 28 = .ok (.aload_n 0, 1) := by decide +kernel
theorem dX0_restore_29 : decode cX0_restore 29 = .ok (.getfield 33, 3) := by decide +kernel
theorem dX0_restore_32 : decode cX0_restore 32 = .ok (.bipush 72, 2) := by decide +kernel
theorem dX0_restore_34 : decode cX0_restore 34 = .ok (.imul, 1) := by decide +kernel
theorem dX0_restore_35 : decode cX0_restore 35 = .ok (.aload_n 0, 1) := by decide +kernel
theorem dX0_restore_36 : decode cX0_restore 36 = .ok (.getfield 11, 3) := by decide +kernel
theorem dX0_restore_39 : decode cX0_restore 39 = .ok (.iconst 0, 1) := by decide +kernel
theorem dX0_restore_40 : decode cX0_restore 40 = .ok (.bipush 72, 2) := by decide +kernel
theorem dX0_restore_42 : decode cX0_restore 42 = .ok (.invokestatic 36, 3) := by decide +kernel
theorem dX0_restore_45 : decode cX0_restore 45 = .ok (.aload_n 0, 1) := by decide +kernel
theorem dX0_restore_46 : decode cX0_restore 46 = .ok (.aload_n 0, 1) := by decide +kernel
theorem dX0_restore_47 : decode cX0_restore 47 = .ok (.getfield 18, 3) := by decide +kernel
theorem dX0_restore_50 : decode cX0_restore 50 = .ok (.aload_n 0, 1) := by decide +kernel
theorem dX0_restore_51 : decode cX0_restore 51 = .ok (.getfield 33, 3) := by decide +kernel
theorem dX0_restore_54 : decode cX0_restore 54 = .ok (.iaload, 1) := by decide +kernel
theorem dX0_restore_55 : decode cX0_restore 55 = .ok (.putfield 21, 3) := by decide +kernel
theorem dX0_restore_58 : decode cX0_restore 58 = .ok (.aload_n 0, 1) := by decide +kernel
theorem dX0_restore_59 : decode cX0_restore 59 = .ok (.dup, 1) := by decide +kernel
theorem dX0_restore_60 : decode cX0_restore 60 = .ok (.getfield 42, 3) := by decide +kernel
theorem dX0_restore_63 : decode cX0_restore 63 = .ok (.iconst 1, 1) := by decide +kernel
theorem dX0_restore_64 : decode cX0_restore 64 = .ok (.isub, 1) := by decide +kernel
theorem dX0_restore_65 : decode cX0_restore 65 = .ok (.putfield 42, 3) := by decide +kernel
theorem dX0_restore_68 : decode cX0_restore 68 = .ok (.return_, 1) := by decide +kernel
def rm_fBk_restore : Room := { frames := 1, cells := 0, slots := 0, locals := 60 }
set_option maxHeartbeats 4000000 in
set_option maxRecDepth 100000 in
theorem c_fBk_restore (l : Launch) (X : eX) (sz : Nat)  (σ : sT) (σz : sT) (h0 : fBk_restore σ = some σz) : ctV l yX0_restore cX0_restore 1 none rm_fBk_restore [.ref (X.2.1 1)] (wC X) (tC X) (aC X) X sz σ σz := by
  refine ct_of (by decide +kernel) (Nat.le_of_ble_eq_true rfl) ?_
  intro p e s m args below meth c ls hz B hl Z
  have B : Bd p s m args meth c RX0 cX0_restore 1 none := B
  have hl : lv_has ls 1 [(0, .ref (X.2.1 1))] := hl
  have hx := B.1
  have hb := B.2.1
  unfold fBk_restore at h0
  refine lv_aload_n hx hb dX0_restore_0 rfl (lv_at hl 0 rfl) ?_
  refine g_1_5 B Z kf_RX0_42 dX0_restore_1 ?_
  refine lv_if_gt (tgt := 8) hx hb dX0_restore_4 (by decide) (fun c1 => ?_) (fun c1 => ?_)
  · have h1 := dit h0 c1
    clear h0
    refine lv_aload_n hx hb dX0_restore_8 rfl (lv_at hl 0 rfl) ?_
    refine lv_aload_n hx hb dX0_restore_9 rfl (lv_at hl 0 rfl) ?_
    refine g_1_4 B Z kf_RX0_33 dX0_restore_10 ?_
    refine lv_bipush (v := (6 : Int32)) hx hb dX0_restore_13 (by decide) ?_
    refine lv_iadd hx hb dX0_restore_15 ?_
    refine lv_iconst (v := (1 : Int32)) hx hb dX0_restore_16 (by decide) ?_
    refine lv_isub hx hb dX0_restore_17 ?_
    refine lv_bipush (v := (6 : Int32)) hx hb dX0_restore_18 (by decide) ?_
    refine lv_irem hx hb dX0_restore_20 (by decide) ?_
    refine s_1_4 B Z kf_RX0_33 dX0_restore_21 (fun H locs Z => ?_)
    obtain ⟨σ2, eσ2, h2⟩ := dlt_s h1
    clear h1
    replace Z := Wd.eq eσ2 Z
    clear eσ2
    refine lv_aload_n hx hb dX0_restore_24 rfl (lv_at hl 0 rfl) ?_
    refine g_1_1 B Z kf_RX0_15 dX0_restore_25 ?_
    refine lv_aload_n hx hb dX0_restore_28 rfl (lv_at hl 0 rfl) ?_
    refine g_1_4 B Z kf_RX0_33 dX0_restore_29 ?_
    refine lv_bipush (v := (72 : Int32)) hx hb dX0_restore_32 (by decide) ?_
    refine lv_imul hx hb dX0_restore_34 ?_
    refine lv_aload_n hx hb dX0_restore_35 rfl (lv_at hl 0 rfl) ?_
    refine g_1_0 B Z kf_RX0_11 dX0_restore_36 ?_
    refine lv_iconst (v := (0 : Int32)) hx hb dX0_restore_39 (by decide) ?_
    refine lv_bipush (v := (72 : Int32)) hx hb dX0_restore_40 (by decide) ?_
    obtain ⟨z3, h3⟩ := dck_s h2
    clear h2
    refine cp_3_2 B Z hl kl_RX0_36 z3 (Nat.le_of_ble_eq_true rfl) (Nat.le_of_ble_eq_true rfl) dX0_restore_42 (fun H locs Z => ?_)
    obtain ⟨σ4, eσ4, h4⟩ := dlt_s h3
    clear h3
    replace Z := Wd.eq eσ4 Z
    clear eσ4
    refine lv_aload_n hx hb dX0_restore_45 rfl (lv_at hl 0 rfl) ?_
    refine lv_aload_n hx hb dX0_restore_46 rfl (lv_at hl 0 rfl) ?_
    refine g_1_2 B Z kf_RX0_18 dX0_restore_47 ?_
    refine lv_aload_n hx hb dX0_restore_50 rfl (lv_at hl 0 rfl) ?_
    refine g_1_4 B Z kf_RX0_33 dX0_restore_51 ?_
    obtain ⟨z5, h5⟩ := dck_s h4
    clear h4
    refine ld_4 B Z z5 dX0_restore_54 ?_
    refine s_1_3 B Z kf_RX0_21 dX0_restore_55 (fun H locs Z => ?_)
    obtain ⟨σ6, eσ6, h6⟩ := dlt_s h5
    clear h5
    replace Z := Wd.eq eσ6 Z
    clear eσ6
    refine lv_aload_n hx hb dX0_restore_58 rfl (lv_at hl 0 rfl) ?_
    refine lv_dup hx hb dX0_restore_59 rfl ?_
    refine g_1_5 B Z kf_RX0_42 dX0_restore_60 ?_
    refine lv_iconst (v := (1 : Int32)) hx hb dX0_restore_63 (by decide) ?_
    refine lv_isub hx hb dX0_restore_64 ?_
    refine s_1_5 B Z kf_RX0_42 dX0_restore_65 (fun H locs Z => ?_)
    obtain ⟨σ7, eσ7, h7⟩ := dlt_s h6
    clear h6
    replace Z := Wd.eq eσ7 Z
    clear eσ7
    exact reV B Z hz h7 dX0_restore_68
  · have h8 := dif h0 c1
    clear h0
    exact reV B Z hz h8 dX0_restore_7
theorem dX11_back_0 : decode cX11_back 0 = .ok (.aload_n 0, 1) := by decide +kernel
theorem dX11_back_1 : decode cX11_back 1 = .ok (.getfield 10, 3) := by decide +kernel
theorem dX11_back_4 : decode cX11_back 4 = .ok (.getfield 226, 3) := by decide +kernel
theorem dX11_back_7 : decode cX11_back 7 = .ok (.ifCond .gt 8, 3) := by decide +kernel
theorem dX11_back_10 : decode cX11_back 10 = .ok (.aload_n 0, 1) := by decide +kernel
theorem dX11_back_11 : decode cX11_back 11 = .ok (.invokevirtual 124, 3) := by decide +kernel
theorem dX11_back_14 : decode cX11_back 14 = .ok (.ireturn, 1) := by decide +kernel
theorem dX11_back_15 : decode cX11_back 15 = .ok (.aload_n 0, 1) := by decide +kernel
theorem dX11_back_16 : decode cX11_back 16 = .ok (.getfield 10, 3) := by decide +kernel
theorem dX11_back_19 : decode cX11_back 19 = .ok (.invokevirtual 229, 3) := by decide +kernel
theorem dX11_back_22 : decode cX11_back 22 = .ok (.aload_n 0, 1) := by decide +kernel
theorem dX11_back_23 : decode cX11_back 23 = .ok (.getfield 10, 3) := by decide +kernel
theorem dX11_back_26 : decode cX11_back 26 = .ok (.getfield 226, 3) := by decide +kernel
theorem dX11_back_29 : decode cX11_back 29 = .ok (.ireturn, 1) := by decide +kernel
def rm_fRM_back : Room := { frames := 2, cells := 0, slots := 0, locals := 80 }
set_option maxHeartbeats 4000000 in
set_option maxRecDepth 100000 in
theorem c_fRM_back (l : Launch) (X : eX) (sz : Nat)  (σ : sT) (rz : Int32) (σz : sT) (h0 : fRM_back σ = some (rz, σz)) : ctI l yX11_back cX11_back 1 (some .int) rm_fRM_back [.ref (X.2.1 0)] (wC X) (tC X) (aC X) X sz σ rz σz := by
  refine ct_of (by decide +kernel) (Nat.le_of_ble_eq_true rfl) ?_
  intro p e s m args below meth c ls hz B hl Z
  have B : Bd p s m args meth c RX11 cX11_back 1 (some .int) := B
  have hl : lv_has ls 1 [(0, .ref (X.2.1 0))] := hl
  have hx := B.1
  have hb := B.2.1
  unfold fRM_back at h0
  refine lv_aload_n hx hb dX11_back_0 rfl (lv_at hl 0 rfl) ?_
  refine g_0_0 B Z kf_RX11_10 dX11_back_1 ?_
  refine gn_1_5 B Z kx_RX11_226 dX11_back_4 ?_
  refine lv_if_gt (tgt := 15) hx hb dX11_back_7 (by decide) (fun c1 => ?_) (fun c1 => ?_)
  · have h1 := dit h0 c1
    clear h0
    refine lv_aload_n hx hb dX11_back_15 rfl (lv_at hl 0 rfl) ?_
    refine g_0_0 B Z kf_RX11_10 dX11_back_16 ?_
    obtain ⟨σ3, hc1, h2⟩ := db1_s h1
    clear h1
    refine cV_V [] [] B mx_yX0_restore (c_fBk_restore l X _ σ σ3 hc1) kl_RX11_229 mi_yX0_restore (rv_1 _ _) hcl_0 Z hl rfl rfl ⟨Nat.le_of_ble_eq_true rfl, Nat.le_of_ble_eq_true rfl⟩ rfl rfl (Nat.le_of_ble_eq_true rfl) dX11_back_19 (fun H locs Z => ?_)
    clear hc1
    refine lv_aload_n hx hb dX11_back_22 rfl (lv_at hl 0 rfl) ?_
    refine g_0_0 B Z kf_RX11_10 dX11_back_23 ?_
    refine gn_1_5 B Z kx_RX11_226 dX11_back_26 ?_
    exact reI B Z rfl hz h2 dX11_back_29
  · have h3 := dif h0 c1
    clear h0
    refine lv_aload_n hx hb dX11_back_10 rfl (lv_at hl 0 rfl) ?_
    obtain ⟨r5, σ6, hc3, h4⟩ := db2_s h3
    clear h3
    refine cV_I [] [] B mx_yX11_no (c_fRM_no l X _ σ r5 σ6 hc3) kl_RX11_124 mi_yX11_no (rv_0 _ _) hcl_11 Z hl rfl rfl ⟨Nat.le_of_ble_eq_true rfl, Nat.le_of_ble_eq_true rfl⟩ rfl rfl (Nat.le_of_ble_eq_true rfl) dX11_back_11 (fun H locs Z => ?_)
    clear hc3
    exact reI B Z rfl hz h4 dX11_back_14
theorem dX11_countOf_0 : decode cX11_countOf 0 = .ok (.iload_n 1, 1) := by decide +kernel
theorem dX11_countOf_1 : decode cX11_countOf 1 = .ok (.tableswitch 66 0 4 #[35, 40, 45, 50, 58], 35) := by decide +kernel
theorem dX11_countOf_36 : decode cX11_countOf 36 = .ok (.aload_n 0, 1) := by decide +kernel
theorem dX11_countOf_37 : decode cX11_countOf 37 = .ok (.getfield 246, 3) := by decide +kernel
theorem dX11_countOf_40 : decode cX11_countOf 40 = .ok (.ireturn, 1) := by decide +kernel
theorem dX11_countOf_41 : decode cX11_countOf 41 = .ok (.aload_n 0, 1) := by decide +kernel
theorem dX11_countOf_42 : decode cX11_countOf 42 = .ok (.getfield 249, 3) := by decide +kernel
theorem dX11_countOf_45 : decode cX11_countOf 45 = .ok (.ireturn, 1) := by decide +kernel
theorem dX11_countOf_46 : decode cX11_countOf 46 = .ok (.aload_n 0, 1) := by decide +kernel
theorem dX11_countOf_47 : decode cX11_countOf 47 = .ok (.getfield 252, 3) := by decide +kernel
theorem dX11_countOf_50 : decode cX11_countOf 50 = .ok (.ireturn, 1) := by decide +kernel
theorem dX11_countOf_51 : decode cX11_countOf 51 = .ok (.aload_n 0, 1) := by decide +kernel
theorem dX11_countOf_52 : decode cX11_countOf 52 = .ok (.getfield 44, 3) := by decide +kernel
theorem dX11_countOf_55 : decode cX11_countOf 55 = .ok (.getfield 213, 3) := by decide +kernel
theorem dX11_countOf_58 : decode cX11_countOf 58 = .ok (.ireturn, 1) := by decide +kernel
theorem dX11_countOf_59 : decode cX11_countOf 59 = .ok (.aload_n 0, 1) := by decide +kernel
theorem dX11_countOf_60 : decode cX11_countOf 60 = .ok (.getfield 10, 3) := by decide +kernel
theorem dX11_countOf_63 : decode cX11_countOf 63 = .ok (.getfield 85, 3) := by decide +kernel
theorem dX11_countOf_66 : decode cX11_countOf 66 = .ok (.ireturn, 1) := by decide +kernel
theorem dX11_countOf_67 : decode cX11_countOf 67 = .ok (.aload_n 0, 1) := by decide +kernel
theorem dX11_countOf_68 : decode cX11_countOf 68 = .ok (.getfield 10, 3) := by decide +kernel
theorem dX11_countOf_71 : decode cX11_countOf 71 = .ok (.getfield 226, 3) := by decide +kernel
theorem dX11_countOf_74 : decode cX11_countOf 74 = .ok (.ireturn, 1) := by decide +kernel
def rm_fRM_countOf : Room := { frames := 1, cells := 0, slots := 0, locals := 60 }
set_option maxHeartbeats 4000000 in
set_option maxRecDepth 100000 in
theorem c_fRM_countOf (l : Launch) (X : eX) (sz : Nat) (a1 : Int32) (σ : sT) (rz : Int32) (h0 : fRM_countOf a1 σ = some rz) : ctI l yX11_countOf cX11_countOf 2 (some .int) rm_fRM_countOf [.ref (X.2.1 0), .int a1] (wC X) (tC X) (aC X) X sz σ rz σ := by
  refine ct_of (by decide +kernel) (Nat.le_of_ble_eq_true rfl) ?_
  intro p e s m args below meth c ls hz B hl Z
  have B : Bd p s m args meth c RX11 cX11_countOf 2 (some .int) := B
  have hl : lv_has ls 2 [(0, .ref (X.2.1 0)), (1, .int a1)] := hl
  have hx := B.1
  have hb := B.2.1
  unfold fRM_countOf at h0
  refine lv_iload_n hx hb dX11_countOf_0 rfl (lv_at hl 1 rfl) ?_
  by_cases c1 : a1 = (0 : Int32)
  · have h1 := dit h0 c1
    clear h0
    refine lv_tableIn (tgt := 36) hx hb dX11_countOf_1 (by rw [c1]; decide) (by rw [c1]; decide) (by rw [c1]; rfl) (by decide) ?_
    refine lv_aload_n hx hb dX11_countOf_36 rfl (lv_at hl 0 rfl) ?_
    refine g_0_8 B Z kf_RX11_246 dX11_countOf_37 ?_
    exact reI B Z rfl hz (congrArg (Option.map (fun q => (q, σ))) h1) dX11_countOf_40
  · have h2 := dif h0 c1
    clear h0
    by_cases c2 : a1 = (1 : Int32)
    · have h3 := dit h2 c2
      clear h2
      refine lv_tableIn (tgt := 41) hx hb dX11_countOf_1 (by rw [c2]; decide) (by rw [c2]; decide) (by rw [c2]; rfl) (by decide) ?_
      refine lv_aload_n hx hb dX11_countOf_41 rfl (lv_at hl 0 rfl) ?_
      refine g_0_9 B Z kf_RX11_249 dX11_countOf_42 ?_
      exact reI B Z rfl hz (congrArg (Option.map (fun q => (q, σ))) h3) dX11_countOf_45
    · have h4 := dif h2 c2
      clear h2
      by_cases c3 : a1 = (2 : Int32)
      · have h5 := dit h4 c3
        clear h4
        refine lv_tableIn (tgt := 46) hx hb dX11_countOf_1 (by rw [c3]; decide) (by rw [c3]; decide) (by rw [c3]; rfl) (by decide) ?_
        refine lv_aload_n hx hb dX11_countOf_46 rfl (lv_at hl 0 rfl) ?_
        refine g_0_10 B Z kf_RX11_252 dX11_countOf_47 ?_
        exact reI B Z rfl hz (congrArg (Option.map (fun q => (q, σ))) h5) dX11_countOf_50
      · have h6 := dif h4 c3
        clear h4
        by_cases c4 : a1 = (3 : Int32)
        · have h7 := dit h6 c4
          clear h6
          refine lv_tableIn (tgt := 51) hx hb dX11_countOf_1 (by rw [c4]; decide) (by rw [c4]; decide) (by rw [c4]; rfl) (by decide) ?_
          refine lv_aload_n hx hb dX11_countOf_51 rfl (lv_at hl 0 rfl) ?_
          refine g_0_4 B Z kf_RX11_44 dX11_countOf_52 ?_
          refine gn_26_1 B Z kx_RX11_213 dX11_countOf_55 ?_
          exact reI B Z rfl hz (congrArg (Option.map (fun q => (q, σ))) h7) dX11_countOf_58
        · have h8 := dif h6 c4
          clear h6
          by_cases c5 : a1 = (4 : Int32)
          · have h9 := dit h8 c5
            clear h8
            refine lv_tableIn (tgt := 59) hx hb dX11_countOf_1 (by rw [c5]; decide) (by rw [c5]; decide) (by rw [c5]; rfl) (by decide) ?_
            refine lv_aload_n hx hb dX11_countOf_59 rfl (lv_at hl 0 rfl) ?_
            refine g_0_0 B Z kf_RX11_10 dX11_countOf_60 ?_
            refine gn_1_3 B Z kx_RX11_85 dX11_countOf_63 ?_
            exact reI B Z rfl hz (congrArg (Option.map (fun q => (q, σ))) h9) dX11_countOf_66
          · have h10 := dif h8 c5
            clear h8
            refine lv_tableOut (tgt := 67) hx hb dX11_countOf_1 (sw5 c1 c2 c3 c4 c5) (by decide) ?_
            refine lv_aload_n hx hb dX11_countOf_67 rfl (lv_at hl 0 rfl) ?_
            refine g_0_0 B Z kf_RX11_10 dX11_countOf_68 ?_
            refine gn_1_5 B Z kx_RX11_226 dX11_countOf_71 ?_
            exact reI B Z rfl hz (congrArg (Option.map (fun q => (q, σ))) h10) dX11_countOf_74
theorem dX11_told_0 : decode cX11_told 0 = .ok (.iload_n 1, 1) := by decide +kernel
theorem dX11_told_1 : decode cX11_told 1 = .ok (.iconst 0, 1) := by decide +kernel
theorem dX11_told_2 : decode cX11_told 2 = .ok (.iconst 5, 1) := by decide +kernel
theorem dX11_told_3 : decode cX11_told 3 = .ok (.invokestatic 106, 3) := by decide +kernel
theorem dX11_told_6 : decode cX11_told 6 = .ok (.ifCond .ne 8, 3) := by decide +kernel
theorem dX11_told_9 : decode cX11_told 9 = .ok (.aload_n 0, 1) := by decide +kernel
theorem dX11_told_10 : decode cX11_told 10 = .ok (.invokevirtual 77, 3) := by decide +kernel
theorem dX11_told_13 : decode cX11_told 13 = .ok (.ireturn, 1) := by decide +kernel
theorem dX11_told_14 : decode cX11_told 14 = .ok (.aload_n 0, 1) := by decide +kernel
theorem dX11_told_15 : decode cX11_told 15 = .ok (.iload_n 1, 1) := by decide +kernel
theorem dX11_told_16 : decode cX11_told 16 = .ok (.invokevirtual 232, 3) := by decide +kernel
theorem dX11_told_19 : decode cX11_told 19 = .ok (.ireturn, 1) := by decide +kernel
def rm_fRM_told : Room := { frames := 2, cells := 0, slots := 0, locals := 82 }
set_option maxHeartbeats 4000000 in
set_option maxRecDepth 100000 in
theorem c_fRM_told (l : Launch) (X : eX) (sz : Nat) (a1 : Int32) (σ : sT) (rz : Int32) (σz : sT) (h0 : fRM_told a1 σ = some (rz, σz)) : ctI l yX11_told cX11_told 2 (some .int) rm_fRM_told [.ref (X.2.1 0), .int a1] (wC X) (tC X) (aC X) X sz σ rz σz := by
  refine ct_of (by decide +kernel) (Nat.le_of_ble_eq_true rfl) ?_
  intro p e s m args below meth c ls hz B hl Z
  have B : Bd p s m args meth c RX11 cX11_told 2 (some .int) := B
  have hl : lv_has ls 2 [(0, .ref (X.2.1 0)), (1, .int a1)] := hl
  have hx := B.1
  have hb := B.2.1
  unfold fRM_told at h0
  refine lv_iload_n hx hb dX11_told_0 rfl (lv_at hl 1 rfl) ?_
  refine lv_iconst (v := (0 : Int32)) hx hb dX11_told_1 (by decide) ?_
  refine lv_iconst (v := (5 : Int32)) hx hb dX11_told_2 (by decide) ?_
  obtain ⟨r2, hc0, h1⟩ := db1_s h0
  clear h0
  refine cS_I [.int a1, .int (0 : Int32), .int (5 : Int32)] [] B mx_yX11_isWithin (c_fRM_isWithin l X _ a1 (0 : Int32) (5 : Int32) σ r2 hc0) kl_RX11_106 ks_yX11_isWithin Z hl rfl rfl ⟨Nat.le_of_ble_eq_true rfl, Nat.le_of_ble_eq_true rfl⟩ rfl rfl (Nat.le_of_ble_eq_true rfl) dX11_told_3 (fun H locs Z => ?_)
  clear hc0
  refine lv_if_ne (tgt := 14) hx hb dX11_told_6 (by decide) (fun c3 => ?_) (fun c3 => ?_)
  · have h2 := dif h1 c3
    clear h1
    refine lv_aload_n hx hb dX11_told_14 rfl (lv_at hl 0 rfl) ?_
    refine lv_iload_n hx hb dX11_told_15 rfl (lv_at hl 1 rfl) ?_
    obtain ⟨r5, hc3, h3⟩ := db1_s h2
    clear h2
    refine cV_I [.int a1] [] B mx_yX11_countOf (c_fRM_countOf l X _ a1 σ r5 hc3) kl_RX11_232 mi_yX11_countOf (rv_0 _ _) hcl_11 Z hl rfl rfl ⟨Nat.le_of_ble_eq_true rfl, Nat.le_of_ble_eq_true rfl⟩ rfl rfl (Nat.le_of_ble_eq_true rfl) dX11_told_16 (fun H locs Z => ?_)
    clear hc3
    exact reI B Z rfl hz h3 dX11_told_19
  · have h4 := dit h1 c3
    clear h1
    refine lv_aload_n hx hb dX11_told_9 rfl (lv_at hl 0 rfl) ?_
    obtain ⟨r7, σ8, hc5, h5⟩ := db2_s h4
    clear h4
    refine cV_I [] [] B mx_yX11_bad (c_fRM_bad l X _ σ r7 σ8 hc5) kl_RX11_77 mi_yX11_bad (rv_0 _ _) hcl_11 Z hl rfl rfl ⟨Nat.le_of_ble_eq_true rfl, Nat.le_of_ble_eq_true rfl⟩ rfl rfl (Nat.le_of_ble_eq_true rfl) dX11_told_10 (fun H locs Z => ?_)
    clear hc5
    exact reI B Z rfl hz h5 dX11_told_13
theorem dX11_digestWeights_0 : decode cX11_digestWeights 0 = .ok (.lload_n 1, 1) := by decide +kernel
theorem dX11_digestWeights_1 : decode cX11_digestWeights 1 = .ok (.lstore_n 3, 1) := by decide +kernel
theorem dX11_digestWeights_2 : decode cX11_digestWeights 2 = .ok (.iconst 0, 1) := by decide +kernel
theorem dX11_digestWeights_3 : decode cX11_digestWeights 3 = .ok (.istore 5, 2) := by decide +kernel
theorem dX11_digestWeights_5 : decode cX11_digestWeights 5 = .ok (.iload 5, 2) := by decide +kernel
theorem dX11_digestWeights_7 : decode cX11_digestWeights 7 = .ok (.aload_n 0, 1) := by decide +kernel
theorem dX11_digestWeights_8 : decode cX11_digestWeights 8 = .ok (.getfield 10, 3) := by decide +kernel
theorem dX11_digestWeights_11 : decode cX11_digestWeights 11 = .ok (.getfield 85, 3) := by decide +kernel
theorem dX11_digestWeights_14 : decode cX11_digestWeights 14 = .ok (.if_icmp .ge 26, 3) := by decide +kernel
theorem dX11_digestWeights_17 : decode cX11_digestWeights 17 = .ok (.ldc2_w 237, 3) := by decide +kernel
theorem dX11_digestWeights_20 : decode cX11_digestWeights 20 = .ok (.lload_n 3, 1) := by decide +kernel
theorem dX11_digestWeights_21 : decode cX11_digestWeights 21 = .ok (.lmul, 1) := by decide +kernel
theorem dX11_digestWeights_22 : decode cX11_digestWeights 22 = .ok (.aload_n 0, 1) := by decide +kernel
theorem dX11_digestWeights_23 : decode cX11_digestWeights 23 = .ok (.getfield 28, 3) := by decide +kernel
theorem dX11_digestWeights_26 : decode cX11_digestWeights 26 = .ok (.iload 5, 2) := by decide +kernel
theorem dX11_digestWeights_28 : decode cX11_digestWeights 28 = .ok (.invokevirtual 170, 3) := by decide +kernel
theorem dX11_digestWeights_31 : decode cX11_digestWeights 31 = .ok (.i2l, 1) := by decide +kernel
theorem dX11_digestWeights_32 : decode cX11_digestWeights 32 = .ok (.ladd, 1) := by decide +kernel
theorem dX11_digestWeights_33 : decode cX11_digestWeights 33 = .ok (.lstore_n 3, 1) := by decide +kernel
theorem dX11_digestWeights_34 : decode cX11_digestWeights 34 = .ok (.iinc 5 1, 3) := by decide +kernel
theorem dX11_digestWeights_37 : decode cX11_digestWeights 37 = .ok (.goto (-32), 3) := by decide +kernel
theorem dX11_digestWeights_40 : decode cX11_digestWeights 40 = .ok (.lload_n 3, 1) := by decide +kernel
theorem dX11_digestWeights_41 : decode cX11_digestWeights 41 = .ok (.lreturn, 1) := by decide +kernel
def rm_fRM_digestWeights : Room := { frames := 2, cells := 0, slots := 0, locals := 82 }
set_option maxHeartbeats 4000000 in
set_option maxRecDepth 100000 in
theorem c_fRM_digestWeights (l : Launch) (X : eX) (sz : Nat) (a1 : Int64) (σ : sT) (rz : Int64) (h0 : fRM_digestWeights a1 σ = some rz) : ctL l yX11_digestWeights cX11_digestWeights 6 (some .long) rm_fRM_digestWeights [.ref (X.2.1 0), .long a1] (wC X) (tC X) (aC X) X sz σ rz σ := by
  refine ct_of (by decide +kernel) (Nat.le_of_ble_eq_true rfl) ?_
  intro p e s m args below meth c ls hz B hl Z
  have B : Bd p s m args meth c RX11 cX11_digestWeights 6 (some .long) := B
  have hl : lv_has ls 6 [(0, .ref (X.2.1 0)), (1, .long a1)] := hl
  have hx := B.1
  have hb := B.2.1
  unfold fRM_digestWeights at h0
  refine lv_lload_n hx hb dX11_digestWeights_0 rfl (lv_at hl 1 rfl) ?_
  refine lv_lstore_n (lv' := [(3, .long a1), (0, .ref (X.2.1 0)), (1, .long a1)]) hx hb dX11_digestWeights_1 rfl hl (by decide) rfl (fun ls hl => ?_)
  refine lv_iconst (v := (0 : Int32)) hx hb dX11_digestWeights_2 (by decide) ?_
  refine lv_istore (lv' := [(5, .int (0 : Int32)), (3, .long a1), (0, .ref (X.2.1 0)), (1, .long a1)]) hx hb dX11_digestWeights_3 hl (by decide) rfl (fun ls hl => ?_)
  have lL5 : ∀ (n : Nat), ∀ (x1 : Int64) (x2 : Int32) (H : Heap) (locs : List Loc) (ls : Array Slot), Wd (wC X) (tC X) (aC X) X s σ H locs → lv_has ls 6 [(0, .ref (X.2.1 0)), (3, .long x1), (5, .int x2)] → fRM_digestWeights_L5 σ n x1 x2 = some rz → W p l e rm_fRM_digestWeights s m args below meth c H locs 0 0 (MQ below (va_Ql (fun a u => a = rz ∧ u = σ) (poW (wC X) (tC X) (aC X) X sz) (aA (aC X) sz)) args s 0 0 (aA (aC X) sz)) (F0 m 5 ls []) := by
    intro n
    induction n with
    | zero =>
      intro x1 x2 H locs ls Z hl h
      exact nomatch (show (none : Option (Int64)) = some _ from h)
    | succ n3 ih4 =>
      intro x1 x2 H locs ls Z hl h1
      unfold fRM_digestWeights_L5 at h1
      refine lv_iload hx hb dX11_digestWeights_5 (lv_at hl 2 rfl) ?_
      refine lv_aload_n hx hb dX11_digestWeights_7 rfl (lv_at hl 0 rfl) ?_
      refine g_0_0 B Z kf_RX11_10 dX11_digestWeights_8 ?_
      refine gn_1_3 B Z kx_RX11_85 dX11_digestWeights_11 ?_
      refine lv_icmp_ge (tgt := 40) hx hb dX11_digestWeights_14 (by decide) (fun c4 => ?_) (fun c4 => ?_)
      · have h2 := dit h1 c4
        clear h1
        refine lv_lload_n hx hb dX11_digestWeights_40 rfl (lv_at hl 1 rfl) ?_
        exact reL B Z hz (congrArg (Option.map (fun q => (q, σ))) h2) dX11_digestWeights_41
      · have h3 := dif h1 c4
        clear h1
        refine lv_ldc2 hx hb B.2.2.2.1 (B.2.2.2.2.1 _ kc_RX11_237) dX11_digestWeights_17 ?_
        refine lv_lload_n hx hb dX11_digestWeights_20 rfl (lv_at hl 1 rfl) ?_
        refine lv_lmul hx hb dX11_digestWeights_21 ?_
        refine lv_aload_n hx hb dX11_digestWeights_22 rfl (lv_at hl 0 rfl) ?_
        refine g_0_2 B Z kf_RX11_28 dX11_digestWeights_23 ?_
        refine lv_iload hx hb dX11_digestWeights_26 (lv_at hl 2 rfl) ?_
        obtain ⟨r6, hc4, h4⟩ := db1_s h3
        clear h3
        refine cV_I [.int x2] [.long ((31 : Int64) * x1)] B mx_yX9_weightOf (c_fWt_weightOf l X _ x2 σ r6 hc4) kl_RX11_170 mi_yX9_weightOf (rv_20 _ _) hcl_9 Z hl rfl rfl ⟨Nat.le_of_ble_eq_true rfl, Nat.le_of_ble_eq_true rfl⟩ rfl rfl (Nat.le_of_ble_eq_true rfl) dX11_digestWeights_28 (fun H locs Z => ?_)
        clear hc4
        refine lv_i2l hx hb dX11_digestWeights_31 rfl ?_
        refine lv_ladd hx hb dX11_digestWeights_32 ?_
        refine lv_topl (fun x7 ex7 => ?_)
        have h5 := dlt_e ex7 h4
        clear ex7 h4
        refine lv_lstore_n (lv' := [(3, .long x7), (0, .ref (X.2.1 0)), (5, .int x2)]) hx hb dX11_digestWeights_33 rfl hl (by decide) rfl (fun ls hl => ?_)
        refine lv_iinc (v := x2 + (1 : Int32)) (lv' := [(5, .int (x2 + (1 : Int32))), (3, .long x7), (0, .ref (X.2.1 0))]) hx hb dX11_digestWeights_34 hl (k := 2) rfl (by rfl) (by decide) rfl (fun ls hl => ?_)
        refine lv_goto (tgt := 5) hx hb dX11_digestWeights_37 (by decide) ?_
        exact ih4 x7 (x2 + (1 : Int32)) _ _ _ Z (lv_sub hl [2, 1, 0] rfl) h5
  exact lL5 FU a1 (0 : Int32) _ _ _ Z (lv_sub hl [2, 1, 0] rfl) h0
theorem dX11_digestSolution_0 : decode cX11_digestSolution 0 = .ok (.lload_n 1, 1) := by decide +kernel
theorem dX11_digestSolution_1 : decode cX11_digestSolution 1 = .ok (.lstore_n 3, 1) := by decide +kernel
theorem dX11_digestSolution_2 : decode cX11_digestSolution 2 = .ok (.iconst 0, 1) := by decide +kernel
theorem dX11_digestSolution_3 : decode cX11_digestSolution 3 = .ok (.istore 5, 2) := by decide +kernel
theorem dX11_digestSolution_5 : decode cX11_digestSolution 5 = .ok (.iload 5, 2) := by decide +kernel
theorem dX11_digestSolution_7 : decode cX11_digestSolution 7 = .ok (.iconst 3, 1) := by decide +kernel
theorem dX11_digestSolution_8 : decode cX11_digestSolution 8 = .ok (.if_icmp .ge 43, 3) := by decide +kernel
theorem dX11_digestSolution_11 : decode cX11_digestSolution 11 = .ok (.ldc2_w 237, 3) := by decide +kernel
theorem dX11_digestSolution_14 : decode cX11_digestSolution 14 = .ok (.lload_n 3, 1) := by decide +kernel
theorem dX11_digestSolution_15 : decode cX11_digestSolution 15 = .ok (.lmul, 1) := by decide +kernel
theorem dX11_digestSolution_16 : decode cX11_digestSolution 16 = .ok (.aload_n 0, 1) := by decide +kernel
theorem dX11_digestSolution_17 : decode cX11_digestSolution 17 = .ok (.getfield 21, 3) := by decide +kernel
theorem dX11_digestSolution_20 : decode cX11_digestSolution 20 = .ok (.getfield 157, 3) := by decide +kernel
theorem dX11_digestSolution_23 : decode cX11_digestSolution 23 = .ok (.iload 5, 2) := by decide +kernel
theorem dX11_digestSolution_25 : decode cX11_digestSolution 25 = .ok (.laload, 1) := by decide +kernel
theorem dX11_digestSolution_26 : decode cX11_digestSolution 26 = .ok (.ladd, 1) := by decide +kernel
theorem dX11_digestSolution_27 : decode cX11_digestSolution 27 = .ok (.lstore_n 3, 1) := by decide +kernel
theorem dX11_digestSolution_28 : decode cX11_digestSolution 28 = .ok (.ldc2_w 237, 3) := by decide +kernel
theorem dX11_digestSolution_31 : decode cX11_digestSolution 31 = .ok (.lload_n 3, 1) := by decide +kernel
theorem dX11_digestSolution_32 : decode cX11_digestSolution 32 = .ok (.lmul, 1) := by decide +kernel
theorem dX11_digestSolution_33 : decode cX11_digestSolution 33 = .ok (.aload_n 0, 1) := by decide +kernel
theorem dX11_digestSolution_34 : decode cX11_digestSolution 34 = .ok (.getfield 21, 3) := by decide +kernel
theorem dX11_digestSolution_37 : decode cX11_digestSolution 37 = .ok (.getfield 161, 3) := by decide +kernel
theorem dX11_digestSolution_40 : decode cX11_digestSolution 40 = .ok (.iload 5, 2) := by decide +kernel
theorem dX11_digestSolution_42 : decode cX11_digestSolution 42 = .ok (.laload, 1) := by decide +kernel
theorem dX11_digestSolution_43 : decode cX11_digestSolution 43 = .ok (.ladd, 1) := by decide +kernel
theorem dX11_digestSolution_44 : decode cX11_digestSolution 44 = .ok (.lstore_n 3, 1) := by decide +kernel
theorem dX11_digestSolution_45 : decode cX11_digestSolution 45 = .ok (.iinc 5 1, 3) := by decide +kernel
theorem dX11_digestSolution_48 : decode cX11_digestSolution 48 = .ok (.goto (-43), 3) := by decide +kernel
theorem dX11_digestSolution_51 : decode cX11_digestSolution 51 = .ok (.lload_n 3, 1) := by decide +kernel
theorem dX11_digestSolution_52 : decode cX11_digestSolution 52 = .ok (.lreturn, 1) := by decide +kernel
def rm_fRM_digestSolution : Room := { frames := 1, cells := 0, slots := 0, locals := 60 }
set_option maxHeartbeats 4000000 in
set_option maxRecDepth 100000 in
theorem c_fRM_digestSolution (l : Launch) (X : eX) (sz : Nat) (a1 : Int64) (σ : sT) (rz : Int64) (h0 : fRM_digestSolution a1 σ = some rz) : ctL l yX11_digestSolution cX11_digestSolution 6 (some .long) rm_fRM_digestSolution [.ref (X.2.1 0), .long a1] (wC X) (tC X) (aC X) X sz σ rz σ := by
  refine ct_of (by decide +kernel) (Nat.le_of_ble_eq_true rfl) ?_
  intro p e s m args below meth c ls hz B hl Z
  have B : Bd p s m args meth c RX11 cX11_digestSolution 6 (some .long) := B
  have hl : lv_has ls 6 [(0, .ref (X.2.1 0)), (1, .long a1)] := hl
  have hx := B.1
  have hb := B.2.1
  unfold fRM_digestSolution at h0
  refine lv_lload_n hx hb dX11_digestSolution_0 rfl (lv_at hl 1 rfl) ?_
  refine lv_lstore_n (lv' := [(3, .long a1), (0, .ref (X.2.1 0)), (1, .long a1)]) hx hb dX11_digestSolution_1 rfl hl (by decide) rfl (fun ls hl => ?_)
  refine lv_iconst (v := (0 : Int32)) hx hb dX11_digestSolution_2 (by decide) ?_
  refine lv_istore (lv' := [(5, .int (0 : Int32)), (3, .long a1), (0, .ref (X.2.1 0)), (1, .long a1)]) hx hb dX11_digestSolution_3 hl (by decide) rfl (fun ls hl => ?_)
  have lL5 : ∀ (n : Nat), ∀ (x1 : Int64) (x2 : Int32) (H : Heap) (locs : List Loc) (ls : Array Slot), Wd (wC X) (tC X) (aC X) X s σ H locs → lv_has ls 6 [(0, .ref (X.2.1 0)), (3, .long x1), (5, .int x2)] → fRM_digestSolution_L5 σ n x1 x2 = some rz → W p l e rm_fRM_digestSolution s m args below meth c H locs 0 0 (MQ below (va_Ql (fun a u => a = rz ∧ u = σ) (poW (wC X) (tC X) (aC X) X sz) (aA (aC X) sz)) args s 0 0 (aA (aC X) sz)) (F0 m 5 ls []) := by
    intro n
    induction n with
    | zero =>
      intro x1 x2 H locs ls Z hl h
      exact nomatch (show (none : Option (Int64)) = some _ from h)
    | succ n3 ih4 =>
      intro x1 x2 H locs ls Z hl h1
      unfold fRM_digestSolution_L5 at h1
      refine lv_iload hx hb dX11_digestSolution_5 (lv_at hl 2 rfl) ?_
      refine lv_iconst (v := (3 : Int32)) hx hb dX11_digestSolution_7 (by decide) ?_
      refine lv_icmp_ge (tgt := 51) hx hb dX11_digestSolution_8 (by decide) (fun c4 => ?_) (fun c4 => ?_)
      · have h2 := dit h1 c4
        clear h1
        refine lv_lload_n hx hb dX11_digestSolution_51 rfl (lv_at hl 1 rfl) ?_
        exact reL B Z hz (congrArg (Option.map (fun q => (q, σ))) h2) dX11_digestSolution_52
      · have h3 := dif h1 c4
        clear h1
        refine lv_ldc2 hx hb B.2.2.2.1 (B.2.2.2.2.1 _ kc_RX11_237) dX11_digestSolution_11 ?_
        refine lv_lload_n hx hb dX11_digestSolution_14 rfl (lv_at hl 1 rfl) ?_
        refine lv_lmul hx hb dX11_digestSolution_15 ?_
        refine lv_aload_n hx hb dX11_digestSolution_16 rfl (lv_at hl 0 rfl) ?_
        refine g_0_1 B Z kf_RX11_21 dX11_digestSolution_17 ?_
        refine gn_5_7 B Z kx_RX11_157 dX11_digestSolution_20 ?_
        refine lv_iload hx hb dX11_digestSolution_23 (lv_at hl 2 rfl) ?_
        obtain ⟨z5, h4⟩ := dck_s h3
        clear h3
        refine ld_18 B Z z5 dX11_digestSolution_25 ?_
        refine lv_ladd hx hb dX11_digestSolution_26 ?_
        refine lv_topl (fun x6 ex6 => ?_)
        have h5 := dlt_e ex6 h4
        clear ex6 h4
        refine lv_lstore_n (lv' := [(3, .long x6), (0, .ref (X.2.1 0)), (5, .int x2)]) hx hb dX11_digestSolution_27 rfl hl (by decide) rfl (fun ls hl => ?_)
        refine lv_ldc2 hx hb B.2.2.2.1 (B.2.2.2.2.1 _ kc_RX11_237) dX11_digestSolution_28 ?_
        refine lv_lload_n hx hb dX11_digestSolution_31 rfl (lv_at hl 0 rfl) ?_
        refine lv_lmul hx hb dX11_digestSolution_32 ?_
        refine lv_aload_n hx hb dX11_digestSolution_33 rfl (lv_at hl 1 rfl) ?_
        refine g_0_1 B Z kf_RX11_21 dX11_digestSolution_34 ?_
        refine gn_5_8 B Z kx_RX11_161 dX11_digestSolution_37 ?_
        refine lv_iload hx hb dX11_digestSolution_40 (lv_at hl 2 rfl) ?_
        obtain ⟨z7, h6⟩ := dck_s h5
        clear h5
        refine ld_19 B Z z7 dX11_digestSolution_42 ?_
        refine lv_ladd hx hb dX11_digestSolution_43 ?_
        refine lv_topl (fun x8 ex8 => ?_)
        have h7 := dlt_e ex8 h6
        clear ex8 h6
        refine lv_lstore_n (lv' := [(3, .long x8), (0, .ref (X.2.1 0)), (5, .int x2)]) hx hb dX11_digestSolution_44 rfl hl (by decide) rfl (fun ls hl => ?_)
        refine lv_iinc (v := x2 + (1 : Int32)) (lv' := [(5, .int (x2 + (1 : Int32))), (3, .long x8), (0, .ref (X.2.1 0))]) hx hb dX11_digestSolution_45 hl (k := 2) rfl (by rfl) (by decide) rfl (fun ls hl => ?_)
        refine lv_goto (tgt := 5) hx hb dX11_digestSolution_48 (by decide) ?_
        exact ih4 x8 (x2 + (1 : Int32)) _ _ _ Z (lv_sub hl [2, 1, 0] rfl) h7
  exact lL5 FU a1 (0 : Int32) _ _ _ Z (lv_sub hl [2, 1, 0] rfl) h0
