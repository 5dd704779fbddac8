theorem dX12_takesBound_0 : decode cX12_takesBound 0 = .ok (.aload_n 0, 1) := by decide +kernel
theorem dX12_takesBound_1 : decode cX12_takesBound 1 = .ok (.invokevirtual 323, 3) := by decide +kernel
theorem dX12_takesBound_4 : decode cX12_takesBound 4 = .ok (.bipush 45, 2) := by decide +kernel
theorem dX12_takesBound_6 : decode cX12_takesBound 6 = .ok (.if_icmp .ne 7, 3) := by decide +kernel
theorem dX12_takesBound_9 : decode cX12_takesBound 9 = .ok (.iconst 1, 1) := by decide +kernel
theorem dX12_takesBound_10 : decode cX12_takesBound 10 = .ok (.goto 4, 3) := by decide +kernel
theorem dX12_takesBound_13 : decode cX12_takesBound 13 = .ok (.iconst 0, 1) := by decide +kernel
theorem dX12_takesBound_14 : decode cX12_takesBound 14 = .ok (.istore_n 1, 1) := by decide +kernel
theorem dX12_takesBound_15 : decode cX12_takesBound 15 = .ok (.aload_n 0, 1) := by decide +kernel
theorem dX12_takesBound_16 : decode cX12_takesBound 16 = .ok (.dup, 1) := by decide +kernel
theorem dX12_takesBound_17 : decode cX12_takesBound 17 = .ok (.getfield 290, 3) := by decide +kernel
theorem dX12_takesBound_20 : decode cX12_takesBound 20 = .ok (.iload_n 1, 1) := by decide +kernel
theorem dX12_takesBound_21 : decode cX12_takesBound 21 = .ok (.ifCond .eq 7, 3) := by decide +kernel
theorem dX12_takesBound_24 : decode cX12_takesBound 24 = .ok (.iconst 1, 1) := by decide +kernel
theorem dX12_takesBound_25 : decode cX12_takesBound 25 = .ok (.goto 4, 3) := by decide +kernel
theorem dX12_takesBound_28 : decode cX12_takesBound 28 = .ok (.iconst 0, 1) := by decide +kernel
theorem dX12_takesBound_29 : decode cX12_takesBound 29 = .ok (.iadd, 1) := by decide +kernel
theorem dX12_takesBound_30 : decode cX12_takesBound 30 = .ok (.putfield 290, 3) := by decide +kernel
theorem dX12_takesBound_33 : decode cX12_takesBound 33 = .ok (.aload_n 0, 1) := by decide +kernel
theorem dX12_takesBound_34 : decode cX12_takesBound 34 = .ok (.invokevirtual 323, 3) := by decide +kernel
theorem dX12_takesBound_37 : decode cX12_takesBound 37 = .ok (.istore_n 2, 1) := by decide +kernel
theorem dX12_takesBound_38 : decode cX12_takesBound 38 = .ok (.aload_n 0, 1) := by decide +kernel
theorem dX12_takesBound_39 : decode cX12_takesBound 39 = .ok (.getfield 290, 3) := by decide +kernel
theorem dX12_takesBound_42 : decode cX12_takesBound 42 = .ok (.istore_n 3, 1) := by decide +kernel
theorem dX12_takesBound_43 : decode cX12_takesBound 43 = .ok (.aload_n 0, 1) := by decide +kernel
theorem dX12_takesBound_44 : decode cX12_takesBound 44 = .ok (.invokevirtual 320, 3) := by decide +kernel
theorem dX12_takesBound_47 : decode cX12_takesBound 47 = .ok (.ifCond .ne 5, 3) := by decide +kernel
theorem dX12_takesBound_50 : decode cX12_takesBound 50 = .ok (.iconst 0, 1) := by decide +kernel
theorem dX12_takesBound_51 : decode cX12_takesBound 51 = .ok (.ireturn, 1) := by decide +kernel
theorem dX12_takesBound_52 : decode cX12_takesBound 52 = .ok (.aload_n 0, 1) := by decide +kernel
theorem dX12_takesBound_53 : decode cX12_takesBound 53 = .ok (.aload_n 0, 1) := by decide +kernel
theorem dX12_takesBound_54 : decode cX12_takesBound 54 = .ok (.getfield 315, 3) := by decide +kernel
theorem dX12_takesBound_57 : decode cX12_takesBound 57 = .ok (.bipush 50, 2) := by decide +kernel
theorem dX12_takesBound_59 : decode cX12_takesBound 59 = .ok (.if_icmp .le 7, 3) := by decide +kernel
theorem dX12_takesBound_62 : decode cX12_takesBound 62 = .ok (.iload_n 3, 1) := by decide +kernel
theorem dX12_takesBound_63 : decode cX12_takesBound 63 = .ok (.goto 7, 3) := by decide +kernel
theorem dX12_takesBound_66 : decode cX12_takesBound 66 = .ok (.aload_n 0, 1) := by decide +kernel
theorem dX12_takesBound_67 : decode cX12_takesBound 67 = .ok (.getfield 290, 3) := by decide +kernel
theorem dX12_takesBound_70 : decode cX12_takesBound 70 = .ok (.putfield 290, 3) := by decide +kernel
theorem dX12_takesBound_73 : decode cX12_takesBound 73 = .ok (.aload_n 0, 1) := by decide +kernel
theorem dX12_takesBound_74 : decode cX12_takesBound 74 = .ok (.getfield 57, 3) := by decide +kernel
theorem dX12_takesBound_77 : decode cX12_takesBound 77 = .ok (.iconst 4, 1) := by decide +kernel
theorem dX12_takesBound_78 : decode cX12_takesBound 78 = .ok (.iload_n 1, 1) := by decide +kernel
theorem dX12_takesBound_79 : decode cX12_takesBound 79 = .ok (.ifCond .eq 11, 3) := by decide +kernel
theorem dX12_takesBound_82 : decode cX12_takesBound 82 = .ok (.aload_n 0, 1) := by decide +kernel
theorem dX12_takesBound_83 : decode cX12_takesBound 83 = .ok (.getfield 315, 3) := by decide +kernel
theorem dX12_takesBound_86 : decode cX12_takesBound 86 = .ok (.ineg, 1) := by decide +kernel
theorem dX12_takesBound_87 : decode cX12_takesBound 87 = .ok (.goto 7, 3) := by decide +kernel
theorem dX12_takesBound_90 : decode cX12_takesBound 90 = .ok (.aload_n 0, 1) := by decide +kernel
theorem dX12_takesBound_91 : decode cX12_takesBound 91 = .ok (.getfield 315, 3) := by decide +kernel
theorem dX12_takesBound_94 : decode cX12_takesBound 94 = .ok (.iastore, 1) := by decide +kernel
theorem dX12_takesBound_95 : decode cX12_takesBound 95 = .ok (.aload_n 0, 1) := by decide +kernel
theorem dX12_takesBound_96 : decode cX12_takesBound 96 = .ok (.getfield 315, 3) := by decide +kernel
theorem dX12_takesBound_99 : decode cX12_takesBound 99 = .ok (.bipush 50, 2) := by decide +kernel
theorem dX12_takesBound_101 : decode cX12_takesBound 101 = .ok (.if_icmp .gt 7, 3) := by decide +kernel
theorem dX12_takesBound_104 : decode cX12_takesBound 104 = .ok (.iconst 1, 1) := by decide +kernel
theorem dX12_takesBound_105 : decode cX12_takesBound 105 = .ok (.goto 4, 3) := by decide +kernel
theorem dX12_takesBound_108 : decode cX12_takesBound 108 = .ok (.iconst 0, 1) := by decide +kernel
theorem dX12_takesBound_109 : decode cX12_takesBound 109 = .ok (.ireturn, 1) := by decide +kernel
def rm_fMM_takesBound : Room := { frames := 4, cells := 0, slots := 0, locals := 127 }
set_option maxHeartbeats 4000000 in
set_option maxRecDepth 100000 in
theorem c_fMM_takesBound (l : Launch) (X : eX) (sz : Nat)  (σ : sT) (rz : Int32) (σz : sT) (h0 : fMM_takesBound σ = some (rz, σz)) : ctI l yX12_takesBound cX12_takesBound 4 (some .boolean) rm_fMM_takesBound [.ref (X.2.1 33)] (wM X) (tM X) (aM X) X sz σ rz σz := by
  refine ct_of (by decide +kernel) (Nat.le_of_ble_eq_true rfl) ?_
  intro p e s m args below meth c ls hz B hl Z
  have B : Bd p s m args meth c RX12 cX12_takesBound 4 (some .boolean) := B
  have hl : lv_has ls 4 [(0, .ref (X.2.1 33))] := hl
  have hx := B.1
  have hb := B.2.1
  unfold fMM_takesBound at h0
  refine lv_aload_n hx hb dX12_takesBound_0 rfl (lv_at hl 0 rfl) ?_
  obtain ⟨r2, σ3, hc0, h1⟩ := db2_s h0
  clear h0
  refine cV_I [] [] B mx_yX12_here (c_fMM_here l X _ σ r2 σ3 hc0) kl_RX12_323 mi_yX12_here (rv_33 _ _) hcl_12 Z hl rfl rfl ⟨Nat.le_of_ble_eq_true rfl, Nat.le_of_ble_eq_true rfl⟩ rfl rfl (Nat.le_of_ble_eq_true rfl) dX12_takesBound_1 (fun H locs Z => ?_)
  clear hc0
  refine lv_bipush (v := (45 : Int32)) hx hb dX12_takesBound_4 (by decide) ?_
  obtain ⟨J5, eJ5, h26⟩ := dlt_s h1
  clear h1
  have kJ5 : ∀ (x4 : Int32) (H : Heap) (locs : List Loc) (ls : Array Slot), Wd (wM X) (tM X) (aM X) X s σ3 H locs → lv_has ls 4 [(0, .ref (X.2.1 33))] → J5 x4 = some (rz, σz) → W p l e rm_fMM_takesBound s m args below meth c H locs 0 0 (MQ below (va_Qi (fun a u => a = rz ∧ u = σz) (poW (wM X) (tM X) (aM X) X sz) (aA (aM X) sz)) args s 0 0 (aA (aM X) sz)) (F0 m 14 ls [.int x4]) := by
    intro x4 H locs ls Z hl h2
    rw [eJ5] at h2
    refine lv_istore_n (lv' := [(1, .int x4), (0, .ref (X.2.1 33))]) hx hb dX12_takesBound_14 rfl hl (by decide) rfl (fun ls hl => ?_)
    refine lv_aload_n hx hb dX12_takesBound_15 rfl (lv_at hl 1 rfl) ?_
    refine lv_dup hx hb dX12_takesBound_16 rfl ?_
    refine g_33_27 B Z kf_RX12_290 dX12_takesBound_17 ?_
    refine lv_iload_n hx hb dX12_takesBound_20 rfl (lv_at hl 0 rfl) ?_
    obtain ⟨J8, eJ8, h23⟩ := dlt_s h2
    clear h2
    have kJ8 : ∀ (x6 : Int32) (x7 : Int32) (H : Heap) (locs : List Loc) (ls : Array Slot), Wd (wM X) (tM X) (aM X) X s σ3 H locs → lv_has ls 4 [(0, .ref (X.2.1 33)), (1, .int x4)] → J8 x6 x7 = some (rz, σz) → W p l e rm_fMM_takesBound s m args below meth c H locs 0 0 (MQ below (va_Qi (fun a u => a = rz ∧ u = σz) (poW (wM X) (tM X) (aM X) X sz) (aA (aM X) sz)) args s 0 0 (aA (aM X) sz)) (F0 m 29 ls [.int x7, .int x6, .ref (X.2.1 33)]) := by
      intro x6 x7 H locs ls Z hl h3
      rw [eJ8] at h3
      refine lv_iadd hx hb dX12_takesBound_29 ?_
      refine s_33_27 B Z kf_RX12_290 dX12_takesBound_30 (fun H locs Z => ?_)
      obtain ⟨σ9, eσ9, h4⟩ := dlt_s h3
      clear h3
      replace Z := Wd.eq eσ9 Z
      clear eσ9
      refine lv_aload_n hx hb dX12_takesBound_33 rfl (lv_at hl 0 rfl) ?_
      obtain ⟨r11, σ12, hc9, h5⟩ := db2_s h4
      clear h4
      refine cV_I [] [] B mx_yX12_here (c_fMM_here l X _ σ9 r11 σ12 hc9) kl_RX12_323 mi_yX12_here (rv_33 _ _) hcl_12 Z hl rfl rfl ⟨Nat.le_of_ble_eq_true rfl, Nat.le_of_ble_eq_true rfl⟩ rfl rfl (Nat.le_of_ble_eq_true rfl) dX12_takesBound_34 (fun H locs Z => ?_)
      clear hc9
      refine lv_istore_n (lv' := [(2, .int r11), (0, .ref (X.2.1 33)), (1, .int x4)]) hx hb dX12_takesBound_37 rfl hl (by decide) rfl (fun ls hl => ?_)
      refine lv_aload_n hx hb dX12_takesBound_38 rfl (lv_at hl 1 rfl) ?_
      refine g_33_27 B Z kf_RX12_290 dX12_takesBound_39 ?_
      refine lv_topi (fun x13 ex13 => ?_)
      have h6 := dlt_e ex13 h5
      clear ex13 h5
      refine lv_istore_n (lv' := [(3, .int x13), (2, .int r11), (0, .ref (X.2.1 33)), (1, .int x4)]) hx hb dX12_takesBound_42 rfl hl (by decide) rfl (fun ls hl => ?_)
      refine lv_aload_n hx hb dX12_takesBound_43 rfl (lv_at hl 2 rfl) ?_
      obtain ⟨r15, σ16, hc13, h7⟩ := db2_s h6
      clear h6
      refine cV_I [] [] B mx_yX12_takesNumber (c_fMM_takesNumber l X _ σ12 r15 σ16 hc13) kl_RX12_320 mi_yX12_takesNumber (rv_33 _ _) hcl_12 Z hl rfl rfl ⟨Nat.le_of_ble_eq_true rfl, Nat.le_of_ble_eq_true rfl⟩ rfl rfl (Nat.le_of_ble_eq_true rfl) dX12_takesBound_44 (fun H locs Z => ?_)
      clear hc13
      refine lv_if_ne (tgt := 52) hx hb dX12_takesBound_47 (by decide) (fun c17 => ?_) (fun c17 => ?_)
      · have h8 := dif h7 c17
        clear h7
        refine lv_aload_n hx hb dX12_takesBound_52 rfl (lv_at hl 2 rfl) ?_
        refine lv_aload_n hx hb dX12_takesBound_53 rfl (lv_at hl 2 rfl) ?_
        refine g_33_32 B Z kf_RX12_315 dX12_takesBound_54 ?_
        refine lv_bipush (v := (50 : Int32)) hx hb dX12_takesBound_57 (by decide) ?_
        obtain ⟨J19, eJ19, h19⟩ := dlt_s h8
        clear h8
        have kJ19 : ∀ (x18 : Int32) (H : Heap) (locs : List Loc) (ls : Array Slot), Wd (wM X) (tM X) (aM X) X s σ16 H locs → lv_has ls 4 [(0, .ref (X.2.1 33)), (1, .int x4)] → J19 x18 = some (rz, σz) → W p l e rm_fMM_takesBound s m args below meth c H locs 0 0 (MQ below (va_Qi (fun a u => a = rz ∧ u = σz) (poW (wM X) (tM X) (aM X) X sz) (aA (aM X) sz)) args s 0 0 (aA (aM X) sz)) (F0 m 70 ls [.int x18, .ref (X.2.1 33)]) := by
          intro x18 H locs ls Z hl h9
          rw [eJ19] at h9
          refine s_33_27 B Z kf_RX12_290 dX12_takesBound_70 (fun H locs Z => ?_)
          obtain ⟨σ20, eσ20, h10⟩ := dlt_s h9
          clear h9
          replace Z := Wd.eq eσ20 Z
          clear eσ20
          refine lv_aload_n hx hb dX12_takesBound_73 rfl (lv_at hl 0 rfl) ?_
          refine g_33_36 B Z kf_RX12_57 dX12_takesBound_74 ?_
          refine lv_iconst (v := (4 : Int32)) hx hb dX12_takesBound_77 (by decide) ?_
          refine lv_iload_n hx hb dX12_takesBound_78 rfl (lv_at hl 1 rfl) ?_
          obtain ⟨J23, eJ23, h16⟩ := dlt_s h10
          clear h10
          have kJ23 : ∀ (x21 : Int32) (x22 : Int32) (H : Heap) (locs : List Loc) (ls : Array Slot), Wd (wM X) (tM X) (aM X) X s σ20 H locs → lv_has ls 4 [(0, .ref (X.2.1 33))] → J23 x21 x22 = some (rz, σz) → W p l e rm_fMM_takesBound s m args below meth c H locs 0 0 (MQ below (va_Qi (fun a u => a = rz ∧ u = σz) (poW (wM X) (tM X) (aM X) X sz) (aA (aM X) sz)) args s 0 0 (aA (aM X) sz)) (F0 m 94 ls [.int x22, .int x21, .ref (X.2.1 49)]) := by
            intro x21 x22 H locs ls Z hl h11
            rw [eJ23] at h11
            obtain ⟨z24, h12⟩ := dck_s h11
            clear h11
            refine st_49 B Z z24 dX12_takesBound_94 (fun H locs Z => ?_)
            obtain ⟨σ25, eσ25, h13⟩ := dlt_s h12
            clear h12
            replace Z := Wd.eq eσ25 Z
            clear eσ25
            refine lv_aload_n hx hb dX12_takesBound_95 rfl (lv_at hl 0 rfl) ?_
            refine g_33_32 B Z kf_RX12_315 dX12_takesBound_96 ?_
            refine lv_bipush (v := (50 : Int32)) hx hb dX12_takesBound_99 (by decide) ?_
            refine lv_icmp_gt (tgt := 108) hx hb dX12_takesBound_101 (by decide) (fun c26 => ?_) (fun c26 => ?_)
            · have h14 := dit h13 c26
              clear h13
              refine lv_iconst (v := (0 : Int32)) hx hb dX12_takesBound_108 (by decide) ?_
              exact reI B Z rfl hz h14 dX12_takesBound_109
            · have h15 := dif h13 c26
              clear h13
              refine lv_iconst (v := (1 : Int32)) hx hb dX12_takesBound_104 (by decide) ?_
              refine lv_goto (tgt := 109) hx hb dX12_takesBound_105 (by decide) ?_
              exact reI B Z rfl hz h15 dX12_takesBound_109
          clear eJ23
          refine lv_if_eq (tgt := 90) hx hb dX12_takesBound_79 (by decide) (fun c27 => ?_) (fun c27 => ?_)
          · have h17 := dit h16 c27
            clear h16
            refine lv_aload_n hx hb dX12_takesBound_90 rfl (lv_at hl 0 rfl) ?_
            refine g_33_32 B Z kf_RX12_315 dX12_takesBound_91 ?_
            exact kJ23 (4 : Int32) (σ20.1 33 32) _ _ _ Z (lv_sub hl [0] rfl) h17
          · have h18 := dif h16 c27
            clear h16
            refine lv_aload_n hx hb dX12_takesBound_82 rfl (lv_at hl 0 rfl) ?_
            refine g_33_32 B Z kf_RX12_315 dX12_takesBound_83 ?_
            refine lv_ineg hx hb dX12_takesBound_86 ?_
            refine lv_goto (tgt := 94) hx hb dX12_takesBound_87 (by decide) ?_
            exact kJ23 (4 : Int32) (-(σ20.1 33 32)) _ _ _ Z (lv_sub hl [0] rfl) h18
        clear eJ19
        refine lv_icmp_le (tgt := 66) hx hb dX12_takesBound_59 (by decide) (fun c28 => ?_) (fun c28 => ?_)
        · have h20 := dit h19 c28
          clear h19
          refine lv_aload_n hx hb dX12_takesBound_66 rfl (lv_at hl 2 rfl) ?_
          refine g_33_27 B Z kf_RX12_290 dX12_takesBound_67 ?_
          exact kJ19 (σ16.1 33 27) _ _ _ Z (lv_sub hl [2, 3] rfl) h20
        · have h21 := dif h19 c28
          clear h19
          refine lv_iload_n hx hb dX12_takesBound_62 rfl (lv_at hl 0 rfl) ?_
          refine lv_goto (tgt := 70) hx hb dX12_takesBound_63 (by decide) ?_
          exact kJ19 x13 _ _ _ Z (lv_sub hl [2, 3] rfl) h21
      · have h22 := dit h7 c17
        clear h7
        refine lv_iconst (v := (0 : Int32)) hx hb dX12_takesBound_50 (by decide) ?_
        exact reI B Z rfl hz h22 dX12_takesBound_51
    clear eJ8
    refine lv_if_eq (tgt := 28) hx hb dX12_takesBound_21 (by decide) (fun c29 => ?_) (fun c29 => ?_)
    · have h24 := dit h23 c29
      clear h23
      refine lv_iconst (v := (0 : Int32)) hx hb dX12_takesBound_28 (by decide) ?_
      exact kJ8 (σ3.1 33 27) (0 : Int32) _ _ _ Z (lv_sub hl [1, 0] rfl) h24
    · have h25 := dif h23 c29
      clear h23
      refine lv_iconst (v := (1 : Int32)) hx hb dX12_takesBound_24 (by decide) ?_
      refine lv_goto (tgt := 29) hx hb dX12_takesBound_25 (by decide) ?_
      exact kJ8 (σ3.1 33 27) (1 : Int32) _ _ _ Z (lv_sub hl [1, 0] rfl) h25
  clear eJ5
  refine lv_icmp_ne (tgt := 13) hx hb dX12_takesBound_6 (by decide) (fun c30 => ?_) (fun c30 => ?_)
  · have h27 := dif h26 c30
    clear h26
    refine lv_iconst (v := (0 : Int32)) hx hb dX12_takesBound_13 (by decide) ?_
    exact kJ5 (0 : Int32) _ _ _ Z (lv_sub hl [0] rfl) h27
  · have h28 := dit h26 c30
    clear h26
    refine lv_iconst (v := (1 : Int32)) hx hb dX12_takesBound_9 (by decide) ?_
    refine lv_goto (tgt := 14) hx hb dX12_takesBound_10 (by decide) ?_
    exact kJ5 (1 : Int32) _ _ _ Z (lv_sub hl [0] rfl) h28
theorem dX12_readsOrder_0 : decode cX12_readsOrder 0 = .ok (.iconst 0, 1) := by decide +kernel
theorem dX12_readsOrder_1 : decode cX12_readsOrder 1 = .ok (.istore_n 1, 1) := by decide +kernel
theorem dX12_readsOrder_2 : decode cX12_readsOrder 2 = .ok (.iload_n 1, 1) := by decide +kernel
theorem dX12_readsOrder_3 : decode cX12_readsOrder 3 = .ok (.iconst 5, 1) := by decide +kernel
theorem dX12_readsOrder_4 : decode cX12_readsOrder 4 = .ok (.if_icmp .ge 16, 3) := by decide +kernel
theorem dX12_readsOrder_7 : decode cX12_readsOrder 7 = .ok (.aload_n 0, 1) := by decide +kernel
theorem dX12_readsOrder_8 : decode cX12_readsOrder 8 = .ok (.getfield 57, 3) := by decide +kernel
theorem dX12_readsOrder_11 : decode cX12_readsOrder 11 = .ok (.iload_n 1, 1) := by decide +kernel
theorem dX12_readsOrder_12 : decode cX12_readsOrder 12 = .ok (.iconst 0, 1) := by decide +kernel
theorem dX12_readsOrder_13 : decode cX12_readsOrder 13 = .ok (.iastore, 1) := by decide +kernel
theorem dX12_readsOrder_14 : decode cX12_readsOrder 14 = .ok (.iinc 1 1, 3) := by decide +kernel
theorem dX12_readsOrder_17 : decode cX12_readsOrder 17 = .ok (.goto (-15), 3) := by decide +kernel
theorem dX12_readsOrder_20 : decode cX12_readsOrder 20 = .ok (.aload_n 0, 1) := by decide +kernel
theorem dX12_readsOrder_21 : decode cX12_readsOrder 21 = .ok (.invokevirtual 372, 3) := by decide +kernel
theorem dX12_readsOrder_24 : decode cX12_readsOrder 24 = .ok (.ifCond .eq 26, 3) := by decide +kernel
theorem dX12_readsOrder_27 : decode cX12_readsOrder 27 = .ok (.aload_n 0, 1) := by decide +kernel
theorem dX12_readsOrder_28 : decode cX12_readsOrder 28 = .ok (.invokevirtual 375, 3) := by decide +kernel
theorem dX12_readsOrder_31 : decode cX12_readsOrder 31 = .ok (.ifCond .eq 19, 3) := by decide +kernel
theorem dX12_readsOrder_34 : decode cX12_readsOrder 34 = .ok (.aload_n 0, 1) := by decide +kernel
theorem dX12_readsOrder_35 : decode cX12_readsOrder 35 = .ok (.invokevirtual 378, 3) := by decide +kernel
theorem dX12_readsOrder_38 : decode cX12_readsOrder 38 = .ok (.ifCond .eq 12, 3) := by decide +kernel
theorem dX12_readsOrder_41 : decode cX12_readsOrder 41 = .ok (.aload_n 0, 1) := by decide +kernel
theorem dX12_readsOrder_42 : decode cX12_readsOrder 42 = .ok (.invokevirtual 323, 3) := by decide +kernel
theorem dX12_readsOrder_45 : decode cX12_readsOrder 45 = .ok (.bipush 59, 2) := by decide +kernel
theorem dX12_readsOrder_47 : decode cX12_readsOrder 47 = .ok (.if_icmp .eq 5, 3) := by decide +kernel
theorem dX12_readsOrder_50 : decode cX12_readsOrder 50 = .ok (.iconst 0, 1) := by decide +kernel
theorem dX12_readsOrder_51 : decode cX12_readsOrder 51 = .ok (.ireturn, 1) := by decide +kernel
theorem dX12_readsOrder_52 : decode cX12_readsOrder 52 = .ok (.aload_n 0, 1) := by decide +kernel
theorem dX12_readsOrder_53 : decode cX12_readsOrder 53 = .ok (.dup, 1) := by decide +kernel
theorem dX12_readsOrder_54 : decode cX12_readsOrder 54 = .ok (.getfield 290, 3) := by decide +kernel
theorem dX12_readsOrder_57 : decode cX12_readsOrder 57 = .ok (.iconst 1, 1) := by decide +kernel
theorem dX12_readsOrder_58 : decode cX12_readsOrder 58 = .ok (.iadd, 1) := by decide +kernel
theorem dX12_readsOrder_59 : decode cX12_readsOrder 59 = .ok (.putfield 290, 3) := by decide +kernel
theorem dX12_readsOrder_62 : decode cX12_readsOrder 62 = .ok (.iconst 1, 1) := by decide +kernel
theorem dX12_readsOrder_63 : decode cX12_readsOrder 63 = .ok (.ireturn, 1) := by decide +kernel
def rm_fMM_readsOrder : Room := { frames := 5, cells := 0, slots := 0, locals := 150 }
set_option maxHeartbeats 4000000 in
set_option maxRecDepth 100000 in
theorem c_fMM_readsOrder (l : Launch) (X : eX) (sz : Nat)  (σ : sT) (rz : Int32) (σz : sT) (h0 : fMM_readsOrder σ = some (rz, σz)) : ctI l yX12_readsOrder cX12_readsOrder 2 (some .boolean) rm_fMM_readsOrder [.ref (X.2.1 33)] (wM X) (tM X) (aM X) X sz σ rz σz := by
  refine ct_of (by decide +kernel) (Nat.le_of_ble_eq_true rfl) ?_
  intro p e s m args below meth c ls hz B hl Z
  have B : Bd p s m args meth c RX12 cX12_readsOrder 2 (some .boolean) := B
  have hl : lv_has ls 2 [(0, .ref (X.2.1 33))] := hl
  have hx := B.1
  have hb := B.2.1
  unfold fMM_readsOrder at h0
  refine lv_iconst (v := (0 : Int32)) hx hb dX12_readsOrder_0 (by decide) ?_
  refine lv_istore_n (lv' := [(1, .int (0 : Int32)), (0, .ref (X.2.1 33))]) hx hb dX12_readsOrder_1 rfl hl (by decide) rfl (fun ls hl => ?_)
  obtain ⟨K4, eK4, h15⟩ := dlt_s h0
  clear h0
  have kK4 : ∀ (σ3 : sT) (H : Heap) (locs : List Loc) (ls : Array Slot), Wd (wM X) (tM X) (aM X) X s σ3 H locs → lv_has ls 2 [(0, .ref (X.2.1 33))] → K4 σ3 = some (rz, σz) → W p l e rm_fMM_readsOrder s m args below meth c H locs 0 0 (MQ below (va_Qi (fun a u => a = rz ∧ u = σz) (poW (wM X) (tM X) (aM X) X sz) (aA (aM X) sz)) args s 0 0 (aA (aM X) sz)) (F0 m 20 ls []) := by
    intro σ3 H locs ls Z hl h1
    rw [eK4] at h1
    refine lv_aload_n hx hb dX12_readsOrder_20 rfl (lv_at hl 0 rfl) ?_
    obtain ⟨r6, σ7, hc4, h2⟩ := db2_s h1
    clear h1
    refine cV_I [] [] B mx_yX12_takesTerms (c_fMM_takesTerms l X _ σ3 r6 σ7 hc4) kl_RX12_372 mi_yX12_takesTerms (rv_33 _ _) hcl_12 Z hl rfl rfl ⟨Nat.le_of_ble_eq_true rfl, Nat.le_of_ble_eq_true rfl⟩ rfl rfl (Nat.le_of_ble_eq_true rfl) dX12_readsOrder_21 (fun H locs Z => ?_)
    clear hc4
    refine lv_if_eq (tgt := 50) hx hb dX12_readsOrder_24 (by decide) (fun c8 => ?_) (fun c8 => ?_)
    · have h3 := dit h2 c8
      clear h2
      refine lv_iconst (v := (0 : Int32)) hx hb dX12_readsOrder_50 (by decide) ?_
      exact reI B Z rfl hz h3 dX12_readsOrder_51
    · have h4 := dif h2 c8
      clear h2
      refine lv_aload_n hx hb dX12_readsOrder_27 rfl (lv_at hl 0 rfl) ?_
      obtain ⟨r10, σ11, hc8, h5⟩ := db2_s h4
      clear h4
      refine cV_I [] [] B mx_yX12_takesKind (c_fMM_takesKind l X _ σ7 r10 σ11 hc8) kl_RX12_375 mi_yX12_takesKind (rv_33 _ _) hcl_12 Z hl rfl rfl ⟨Nat.le_of_ble_eq_true rfl, Nat.le_of_ble_eq_true rfl⟩ rfl rfl (Nat.le_of_ble_eq_true rfl) dX12_readsOrder_28 (fun H locs Z => ?_)
      clear hc8
      refine lv_if_eq (tgt := 50) hx hb dX12_readsOrder_31 (by decide) (fun c12 => ?_) (fun c12 => ?_)
      · have h6 := dit h5 c12
        clear h5
        refine lv_iconst (v := (0 : Int32)) hx hb dX12_readsOrder_50 (by decide) ?_
        exact reI B Z rfl hz h6 dX12_readsOrder_51
      · have h7 := dif h5 c12
        clear h5
        refine lv_aload_n hx hb dX12_readsOrder_34 rfl (lv_at hl 0 rfl) ?_
        obtain ⟨r14, σ15, hc12, h8⟩ := db2_s h7
        clear h7
        refine cV_I [] [] B mx_yX12_takesBound (c_fMM_takesBound l X _ σ11 r14 σ15 hc12) kl_RX12_378 mi_yX12_takesBound (rv_33 _ _) hcl_12 Z hl rfl rfl ⟨Nat.le_of_ble_eq_true rfl, Nat.le_of_ble_eq_true rfl⟩ rfl rfl (Nat.le_of_ble_eq_true rfl) dX12_readsOrder_35 (fun H locs Z => ?_)
        clear hc12
        refine lv_if_eq (tgt := 50) hx hb dX12_readsOrder_38 (by decide) (fun c16 => ?_) (fun c16 => ?_)
        · have h9 := dit h8 c16
          clear h8
          refine lv_iconst (v := (0 : Int32)) hx hb dX12_readsOrder_50 (by decide) ?_
          exact reI B Z rfl hz h9 dX12_readsOrder_51
        · have h10 := dif h8 c16
          clear h8
          refine lv_aload_n hx hb dX12_readsOrder_41 rfl (lv_at hl 0 rfl) ?_
          obtain ⟨r18, σ19, hc16, h11⟩ := db2_s h10
          clear h10
          refine cV_I [] [] B mx_yX12_here (c_fMM_here l X _ σ15 r18 σ19 hc16) kl_RX12_323 mi_yX12_here (rv_33 _ _) hcl_12 Z hl rfl rfl ⟨Nat.le_of_ble_eq_true rfl, Nat.le_of_ble_eq_true rfl⟩ rfl rfl (Nat.le_of_ble_eq_true rfl) dX12_readsOrder_42 (fun H locs Z => ?_)
          clear hc16
          refine lv_bipush (v := (59 : Int32)) hx hb dX12_readsOrder_45 (by decide) ?_
          refine lv_icmp_eq (tgt := 52) hx hb dX12_readsOrder_47 (by decide) (fun c20 => ?_) (fun c20 => ?_)
          · have h12 := dit h11 c20
            clear h11
            refine lv_aload_n hx hb dX12_readsOrder_52 rfl (lv_at hl 0 rfl) ?_
            refine lv_dup hx hb dX12_readsOrder_53 rfl ?_
            refine g_33_27 B Z kf_RX12_290 dX12_readsOrder_54 ?_
            refine lv_iconst (v := (1 : Int32)) hx hb dX12_readsOrder_57 (by decide) ?_
            refine lv_iadd hx hb dX12_readsOrder_58 ?_
            refine s_33_27 B Z kf_RX12_290 dX12_readsOrder_59 (fun H locs Z => ?_)
            obtain ⟨σ21, eσ21, h13⟩ := dlt_s h12
            clear h12
            replace Z := Wd.eq eσ21 Z
            clear eσ21
            refine lv_iconst (v := (1 : Int32)) hx hb dX12_readsOrder_62 (by decide) ?_
            exact reI B Z rfl hz h13 dX12_readsOrder_63
          · have h14 := dif h11 c20
            clear h11
            refine lv_iconst (v := (0 : Int32)) hx hb dX12_readsOrder_50 (by decide) ?_
            exact reI B Z rfl hz h14 dX12_readsOrder_51
  clear eK4
  have lL2 : ∀ (n : Nat), ∀ (x1 : Int32) (σ2 : sT) (H : Heap) (locs : List Loc) (ls : Array Slot), Wd (wM X) (tM X) (aM X) X s σ2 H locs → lv_has ls 2 [(0, .ref (X.2.1 33)), (1, .int x1)] → fMM_readsOrder_L2 K4 n x1 σ2 = some (rz, σz) → W p l e rm_fMM_readsOrder s m args below meth c H locs 0 0 (MQ below (va_Qi (fun a u => a = rz ∧ u = σz) (poW (wM X) (tM X) (aM X) X sz) (aA (aM X) sz)) args s 0 0 (aA (aM X) sz)) (F0 m 2 ls []) := by
    intro n
    induction n with
    | zero =>
      intro x1 σ2 H locs ls Z hl h
      exact nomatch (show (none : Option (Int32 × sT)) = some _ from h)
    | succ n22 ih2 =>
      intro x1 σ2 H locs ls Z hl h16
      unfold fMM_readsOrder_L2 at h16
      refine lv_iload_n hx hb dX12_readsOrder_2 rfl (lv_at hl 1 rfl) ?_
      refine lv_iconst (v := (5 : Int32)) hx hb dX12_readsOrder_3 (by decide) ?_
      refine lv_icmp_ge (tgt := 20) hx hb dX12_readsOrder_4 (by decide) (fun c23 => ?_) (fun c23 => ?_)
      · have h17 := dit h16 c23
        clear h16
        exact kK4 σ2 _ _ _ Z (lv_sub hl [0] rfl) h17
      · have h18 := dif h16 c23
        clear h16
        refine lv_aload_n hx hb dX12_readsOrder_7 rfl (lv_at hl 0 rfl) ?_
        refine g_33_36 B Z kf_RX12_57 dX12_readsOrder_8 ?_
        refine lv_iload_n hx hb dX12_readsOrder_11 rfl (lv_at hl 1 rfl) ?_
        refine lv_iconst (v := (0 : Int32)) hx hb dX12_readsOrder_12 (by decide) ?_
        obtain ⟨z24, h19⟩ := dck_s h18
        clear h18
        refine st_49 B Z z24 dX12_readsOrder_13 (fun H locs Z => ?_)
        obtain ⟨σ25, eσ25, h20⟩ := dlt_s h19
        clear h19
        replace Z := Wd.eq eσ25 Z
        clear eσ25
        refine lv_iinc (v := x1 + (1 : Int32)) (lv' := [(1, .int (x1 + (1 : Int32))), (0, .ref (X.2.1 33))]) hx hb dX12_readsOrder_14 hl (k := 1) rfl (by rfl) (by decide) rfl (fun ls hl => ?_)
        refine lv_goto (tgt := 2) hx hb dX12_readsOrder_17 (by decide) ?_
        exact ih2 (x1 + (1 : Int32)) σ25 _ _ _ Z (lv_sub hl [1, 0] rfl) h20
  exact lL2 FU (0 : Int32) σ _ _ _ Z (lv_sub hl [1, 0] rfl) h15
theorem dX12_reads_0 : decode cX12_reads 0 = .ok (.aload_n 0, 1) := by decide +kernel
theorem dX12_reads_1 : decode cX12_reads 1 = .ok (.iconst 0, 1) := by decide +kernel
theorem dX12_reads_2 : decode cX12_reads 2 = .ok (.putfield 290, 3) := by decide +kernel
theorem dX12_reads_5 : decode cX12_reads 5 = .ok (.iconst 1, 1) := by decide +kernel
theorem dX12_reads_6 : decode cX12_reads 6 = .ok (.istore_n 1, 1) := by decide +kernel
theorem dX12_reads_7 : decode cX12_reads 7 = .ok (.aload_n 0, 1) := by decide +kernel
theorem dX12_reads_8 : decode cX12_reads 8 = .ok (.invokevirtual 381, 3) := by decide +kernel
theorem dX12_reads_11 : decode cX12_reads 11 = .ok (.istore_n 2, 1) := by decide +kernel
theorem dX12_reads_12 : decode cX12_reads 12 = .ok (.iload_n 2, 1) := by decide +kernel
theorem dX12_reads_13 : decode cX12_reads 13 = .ok (.ifCond .eq 22, 3) := by decide +kernel
theorem dX12_reads_16 : decode cX12_reads 16 = .ok (.aload_n 0, 1) := by decide +kernel
theorem dX12_reads_17 : decode cX12_reads 17 = .ok (.invokevirtual 323, 3) := by decide +kernel
theorem dX12_reads_20 : decode cX12_reads 20 = .ok (.iconst (-1), 1) := by decide +kernel
theorem dX12_reads_21 : decode cX12_reads 21 = .ok (.if_icmp .eq 14, 3) := by decide +kernel
theorem dX12_reads_24 : decode cX12_reads 24 = .ok (.aload_n 0, 1) := by decide +kernel
theorem dX12_reads_25 : decode cX12_reads 25 = .ok (.invokevirtual 381, 3) := by decide +kernel
theorem dX12_reads_28 : decode cX12_reads 28 = .ok (.istore_n 2, 1) := by decide +kernel
theorem dX12_reads_29 : decode cX12_reads 29 = .ok (.iinc 1 1, 3) := by decide +kernel
theorem dX12_reads_32 : decode cX12_reads 32 = .ok (.goto (-20), 3) := by decide +kernel
theorem dX12_reads_35 : decode cX12_reads 35 = .ok (.iload_n 2, 1) := by decide +kernel
theorem dX12_reads_36 : decode cX12_reads 36 = .ok (.ifCond .ne 11, 3) := by decide +kernel
theorem dX12_reads_39 : decode cX12_reads 39 = .ok (.bipush (-10), 2) := by decide +kernel
theorem dX12_reads_41 : decode cX12_reads 41 = .ok (.aload_n 0, 1) := by decide +kernel
theorem dX12_reads_42 : decode cX12_reads 42 = .ok (.getfield 290, 3) := by decide +kernel
theorem dX12_reads_45 : decode cX12_reads 45 = .ok (.isub, 1) := by decide +kernel
theorem dX12_reads_46 : decode cX12_reads 46 = .ok (.ireturn, 1) := by decide +kernel
theorem dX12_reads_47 : decode cX12_reads 47 = .ok (.aload_n 0, 1) := by decide +kernel
theorem dX12_reads_48 : decode cX12_reads 48 = .ok (.getfield 7, 3) := by decide +kernel
theorem dX12_reads_51 : decode cX12_reads 51 = .ok (.iconst 0, 1) := by decide +kernel
theorem dX12_reads_52 : decode cX12_reads 52 = .ok (.iaload, 1) := by decide +kernel
theorem dX12_reads_53 : decode cX12_reads 53 = .ok (.iload_n 1, 1) := by decide +kernel
theorem dX12_reads_54 : decode cX12_reads 54 = .ok (.iadd, 1) := by decide +kernel
theorem dX12_reads_55 : decode cX12_reads 55 = .ok (.bipush 12, 2) := by decide +kernel
theorem dX12_reads_57 : decode cX12_reads 57 = .ok (.if_icmp .le 10, 3) := by decide +kernel
theorem dX12_reads_60 : decode cX12_reads 60 = .ok (.aload_n 0, 1) := by decide +kernel
theorem dX12_reads_61 : decode cX12_reads 61 = .ok (.ldc 172, 2) := by decide +kernel
theorem dX12_reads_63 : decode cX12_reads 63 = .ok (.invokevirtual 168, 3) := by decide +kernel
theorem dX12_reads_66 : decode cX12_reads 66 = .ok (.ireturn, 1) := by decide +kernel
theorem dX12_reads_67 : decode cX12_reads 67 = .ok (.aload_n 0, 1) := by decide +kernel
theorem dX12_reads_68 : decode cX12_reads 68 = .ok (.invokevirtual 173, 3) := by decide +kernel
theorem dX12_reads_71 : decode cX12_reads 71 = .ok (.aload_n 0, 1) := by decide +kernel
theorem dX12_reads_72 : decode cX12_reads 72 = .ok (.iconst 0, 1) := by decide +kernel
theorem dX12_reads_73 : decode cX12_reads 73 = .ok (.putfield 290, 3) := by decide +kernel
theorem dX12_reads_76 : decode cX12_reads 76 = .ok (.iconst 0, 1) := by decide +kernel
theorem dX12_reads_77 : decode cX12_reads 77 = .ok (.istore_n 3, 1) := by decide +kernel
theorem dX12_reads_78 : decode cX12_reads 78 = .ok (.iload_n 3, 1) := by decide +kernel
theorem dX12_reads_79 : decode cX12_reads 79 = .ok (.iload_n 1, 1) := by decide +kernel
theorem dX12_reads_80 : decode cX12_reads 80 = .ok (.if_icmp .ge 51, 3) := by decide +kernel
theorem dX12_reads_83 : decode cX12_reads 83 = .ok (.aload_n 0, 1) := by decide +kernel
theorem dX12_reads_84 : decode cX12_reads 84 = .ok (.invokevirtual 381, 3) := by decide +kernel
theorem dX12_reads_87 : decode cX12_reads 87 = .ok (.istore_n 2, 1) := by decide +kernel
theorem dX12_reads_88 : decode cX12_reads 88 = .ok (.aload_n 0, 1) := by decide +kernel
theorem dX12_reads_89 : decode cX12_reads 89 = .ok (.aload_n 0, 1) := by decide +kernel
theorem dX12_reads_90 : decode cX12_reads 90 = .ok (.getfield 57, 3) := by decide +kernel
theorem dX12_reads_93 : decode cX12_reads 93 = .ok (.iconst 0, 1) := by decide +kernel
theorem dX12_reads_94 : decode cX12_reads 94 = .ok (.iaload, 1) := by decide +kernel
theorem dX12_reads_95 : decode cX12_reads 95 = .ok (.aload_n 0, 1) := by decide +kernel
theorem dX12_reads_96 : decode cX12_reads 96 = .ok (.getfield 57, 3) := by decide +kernel
theorem dX12_reads_99 : decode cX12_reads 99 = .ok (.iconst 1, 1) := by decide +kernel
theorem dX12_reads_100 : decode cX12_reads 100 = .ok (.iaload, 1) := by decide +kernel
theorem dX12_reads_101 : decode cX12_reads 101 = .ok (.aload_n 0, 1) := by decide +kernel
theorem dX12_reads_102 : decode cX12_reads 102 = .ok (.getfield 57, 3) := by decide +kernel
theorem dX12_reads_105 : decode cX12_reads 105 = .ok (.iconst 2, 1) := by decide +kernel
theorem dX12_reads_106 : decode cX12_reads 106 = .ok (.iaload, 1) := by decide +kernel
theorem dX12_reads_107 : decode cX12_reads 107 = .ok (.aload_n 0, 1) := by decide +kernel
theorem dX12_reads_108 : decode cX12_reads 108 = .ok (.getfield 57, 3) := by decide +kernel
theorem dX12_reads_111 : decode cX12_reads 111 = .ok (.iconst 3, 1) := by decide +kernel
theorem dX12_reads_112 : decode cX12_reads 112 = .ok (.iaload, 1) := by decide +kernel
theorem dX12_reads_113 : decode cX12_reads 113 = .ok (.aload_n 0, 1) := by decide +kernel
theorem dX12_reads_114 : decode cX12_reads 114 = .ok (.getfield 57, 3) := by decide +kernel
theorem dX12_reads_117 : decode cX12_reads 117 = .ok (.iconst 4, 1) := by decide +kernel
theorem dX12_reads_118 : decode cX12_reads 118 = .ok (.iaload, 1) := by decide +kernel
theorem dX12_reads_119 : decode cX12_reads 119 = .ok (.iconst 0, 1) := by decide +kernel
theorem dX12_reads_120 : decode cX12_reads 120 = .ok (.invokevirtual 176, 3) := by decide +kernel
theorem dX12_reads_123 : decode cX12_reads 123 = .ok (.istore 4, 2) := by decide +kernel
theorem dX12_reads_125 : decode cX12_reads 125 = .ok (.iinc 3 1, 3) := by decide +kernel
theorem dX12_reads_128 : decode cX12_reads 128 = .ok (.goto (-50), 3) := by decide +kernel
theorem dX12_reads_131 : decode cX12_reads 131 = .ok (.iload_n 1, 1) := by decide +kernel
theorem dX12_reads_132 : decode cX12_reads 132 = .ok (.ireturn, 1) := by decide +kernel
def rm_fMM_reads : Room := { frames := 6, cells := 0, slots := 0, locals := 171 }
set_option maxHeartbeats 4000000 in
set_option maxRecDepth 100000 in
theorem c_fMM_reads (l : Launch) (X : eX) (sz : Nat)  (σ : sT) (rz : Int32) (σz : sT) (h0 : fMM_reads σ = some (rz, σz)) : ctI l yX12_reads cX12_reads 5 (some .int) rm_fMM_reads [.ref (X.2.1 33)] (wM X) (tM X) (aM X) X sz σ rz σz := by
  refine ct_of (by decide +kernel) (Nat.le_of_ble_eq_true rfl) ?_
  intro p e s m args below meth c ls hz B hl Z
  have B : Bd p s m args meth c RX12 cX12_reads 5 (some .int) := B
  have hl : lv_has ls 5 [(0, .ref (X.2.1 33))] := hl
  have hx := B.1
  have hb := B.2.1
  unfold fMM_reads at h0
  refine lv_aload_n hx hb dX12_reads_0 rfl (lv_at hl 0 rfl) ?_
  refine lv_iconst (v := (0 : Int32)) hx hb dX12_reads_1 (by decide) ?_
  refine s_33_27 B Z kf_RX12_290 dX12_reads_2 (fun H locs Z => ?_)
  obtain ⟨σ1, eσ1, h1⟩ := dlt_s h0
  clear h0
  replace Z := Wd.eq eσ1 Z
  clear eσ1
  refine lv_iconst (v := (1 : Int32)) hx hb dX12_reads_5 (by decide) ?_
  refine lv_istore_n (lv' := [(1, .int (1 : Int32)), (0, .ref (X.2.1 33))]) hx hb dX12_reads_6 rfl hl (by decide) rfl (fun ls hl => ?_)
  refine lv_aload_n hx hb dX12_reads_7 rfl (lv_at hl 1 rfl) ?_
  obtain ⟨r3, σ4, hc1, h2⟩ := db2_s h1
  clear h1
  refine cV_I [] [] B mx_yX12_readsOrder (c_fMM_readsOrder l X _ σ1 r3 σ4 hc1) kl_RX12_381 mi_yX12_readsOrder (rv_33 _ _) hcl_12 Z hl rfl rfl ⟨Nat.le_of_ble_eq_true rfl, Nat.le_of_ble_eq_true rfl⟩ rfl rfl (Nat.le_of_ble_eq_true rfl) dX12_reads_8 (fun H locs Z => ?_)
  clear hc1
  refine lv_istore_n (lv' := [(2, .int r3), (1, .int (1 : Int32)), (0, .ref (X.2.1 33))]) hx hb dX12_reads_11 rfl hl (by decide) rfl (fun ls hl => ?_)
  obtain ⟨K11, eK11, h22⟩ := dlt_s h2
  clear h2
  have kK11 : ∀ (x8 : Int32) (x9 : Int32) (σ10 : sT) (H : Heap) (locs : List Loc) (ls : Array Slot), Wd (wM X) (tM X) (aM X) X s σ10 H locs → lv_has ls 5 [(0, .ref (X.2.1 33)), (1, .int x8), (2, .int x9)] → K11 x8 x9 σ10 = some (rz, σz) → W p l e rm_fMM_reads s m args below meth c H locs 0 0 (MQ below (va_Qi (fun a u => a = rz ∧ u = σz) (poW (wM X) (tM X) (aM X) X sz) (aA (aM X) sz)) args s 0 0 (aA (aM X) sz)) (F0 m 35 ls []) := by
    intro x8 x9 σ10 H locs ls Z hl h3
    rw [eK11] at h3
    refine lv_iload_n hx hb dX12_reads_35 rfl (lv_at hl 2 rfl) ?_
    refine lv_if_ne (tgt := 47) hx hb dX12_reads_36 (by decide) (fun c12 => ?_) (fun c12 => ?_)
    · have h4 := dif h3 c12
      clear h3
      refine lv_aload_n hx hb dX12_reads_47 rfl (lv_at hl 0 rfl) ?_
      refine g_33_0 B Z kf_RX12_7 dX12_reads_48 ?_
      refine lv_iconst (v := (0 : Int32)) hx hb dX12_reads_51 (by decide) ?_
      obtain ⟨z13, h5⟩ := dck_s h4
      clear h4
      refine ld_34 B Z z13 dX12_reads_52 ?_
      refine lv_iload_n hx hb dX12_reads_53 rfl (lv_at hl 1 rfl) ?_
      refine lv_iadd hx hb dX12_reads_54 ?_
      refine lv_bipush (v := (12 : Int32)) hx hb dX12_reads_55 (by decide) ?_
      refine lv_icmp_le (tgt := 67) hx hb dX12_reads_57 (by decide) (fun c14 => ?_) (fun c14 => ?_)
      · have h6 := dit h5 c14
        clear h5
        refine lv_aload_n hx hb dX12_reads_67 rfl (lv_at hl 0 rfl) ?_
        obtain ⟨σ16, hc14, h7⟩ := db1_s h6
        clear h6
        refine cV_V [] [] B mx_yX12_keep (c_fMM_keep l X _ σ10 σ16 hc14) kl_RX12_173 mi_yX12_keep (rv_33 _ _) hcl_12 Z hl rfl rfl ⟨Nat.le_of_ble_eq_true rfl, Nat.le_of_ble_eq_true rfl⟩ rfl rfl (Nat.le_of_ble_eq_true rfl) dX12_reads_68 (fun H locs Z => ?_)
        clear hc14
        refine lv_aload_n hx hb dX12_reads_71 rfl (lv_at hl 0 rfl) ?_
        refine lv_iconst (v := (0 : Int32)) hx hb dX12_reads_72 (by decide) ?_
        refine s_33_27 B Z kf_RX12_290 dX12_reads_73 (fun H locs Z => ?_)
        obtain ⟨σ17, eσ17, h8⟩ := dlt_s h7
        clear h7
        replace Z := Wd.eq eσ17 Z
        clear eσ17
        refine lv_iconst (v := (0 : Int32)) hx hb dX12_reads_76 (by decide) ?_
        refine lv_istore_n (lv' := [(3, .int (0 : Int32)), (0, .ref (X.2.1 33)), (1, .int x8), (2, .int x9)]) hx hb dX12_reads_77 rfl hl (by decide) rfl (fun ls hl => ?_)
        have lL78 : ∀ (n : Nat), ∀ (x18 : Int32) (σ19 : sT) (H : Heap) (locs : List Loc) (ls : Array Slot), Wd (wM X) (tM X) (aM X) X s σ19 H locs → lv_has ls 5 [(0, .ref (X.2.1 33)), (1, .int x8), (3, .int x18)] → fMM_reads_L78 x8 n x18 σ19 = some (rz, σz) → W p l e rm_fMM_reads s m args below meth c H locs 0 0 (MQ below (va_Qi (fun a u => a = rz ∧ u = σz) (poW (wM X) (tM X) (aM X) X sz) (aA (aM X) sz)) args s 0 0 (aA (aM X) sz)) (F0 m 78 ls []) := by
          intro n
          induction n with
          | zero =>
            intro x18 σ19 H locs ls Z hl h
            exact nomatch (show (none : Option (Int32 × sT)) = some _ from h)
          | succ n20 ih45 =>
            intro x18 σ19 H locs ls Z hl h9
            unfold fMM_reads_L78 at h9
            refine lv_iload_n hx hb dX12_reads_78 rfl (lv_at hl 2 rfl) ?_
            refine lv_iload_n hx hb dX12_reads_79 rfl (lv_at hl 1 rfl) ?_
            refine lv_icmp_ge (tgt := 131) hx hb dX12_reads_80 (by decide) (fun c21 => ?_) (fun c21 => ?_)
            · have h10 := dit h9 c21
              clear h9
              refine lv_iload_n hx hb dX12_reads_131 rfl (lv_at hl 1 rfl) ?_
              exact reI B Z rfl hz h10 dX12_reads_132
            · have h11 := dif h9 c21
              clear h9
              refine lv_aload_n hx hb dX12_reads_83 rfl (lv_at hl 0 rfl) ?_
              obtain ⟨r23, σ24, hc21, h12⟩ := db2_s h11
              clear h11
              refine cV_I [] [] B mx_yX12_readsOrder (c_fMM_readsOrder l X _ σ19 r23 σ24 hc21) kl_RX12_381 mi_yX12_readsOrder (rv_33 _ _) hcl_12 Z hl rfl rfl ⟨Nat.le_of_ble_eq_true rfl, Nat.le_of_ble_eq_true rfl⟩ rfl rfl (Nat.le_of_ble_eq_true rfl) dX12_reads_84 (fun H locs Z => ?_)
              clear hc21
              refine lv_istore_n (lv' := [(2, .int r23), (0, .ref (X.2.1 33)), (1, .int x8), (3, .int x18)]) hx hb dX12_reads_87 rfl hl (by decide) rfl (fun ls hl => ?_)
              refine lv_aload_n hx hb dX12_reads_88 rfl (lv_at hl 1 rfl) ?_
              refine lv_aload_n hx hb dX12_reads_89 rfl (lv_at hl 1 rfl) ?_
              refine g_33_36 B Z kf_RX12_57 dX12_reads_90 ?_
              refine lv_iconst (v := (0 : Int32)) hx hb dX12_reads_93 (by decide) ?_
              obtain ⟨z25, h13⟩ := dck_s h12
              clear h12
              refine ld_49 B Z z25 dX12_reads_94 ?_
              refine lv_aload_n hx hb dX12_reads_95 rfl (lv_at hl 1 rfl) ?_
              refine g_33_36 B Z kf_RX12_57 dX12_reads_96 ?_
              refine lv_iconst (v := (1 : Int32)) hx hb dX12_reads_99 (by decide) ?_
              obtain ⟨z26, h14⟩ := dck_s h13
              clear h13
              refine ld_49 B Z z26 dX12_reads_100 ?_
              refine lv_aload_n hx hb dX12_reads_101 rfl (lv_at hl 1 rfl) ?_
              refine g_33_36 B Z kf_RX12_57 dX12_reads_102 ?_
              refine lv_iconst (v := (2 : Int32)) hx hb dX12_reads_105 (by decide) ?_
              obtain ⟨z27, h15⟩ := dck_s h14
              clear h14
              refine ld_49 B Z z27 dX12_reads_106 ?_
              refine lv_aload_n hx hb dX12_reads_107 rfl (lv_at hl 1 rfl) ?_
              refine g_33_36 B Z kf_RX12_57 dX12_reads_108 ?_
              refine lv_iconst (v := (3 : Int32)) hx hb dX12_reads_111 (by decide) ?_
              obtain ⟨z28, h16⟩ := dck_s h15
              clear h15
              refine ld_49 B Z z28 dX12_reads_112 ?_
              refine lv_aload_n hx hb dX12_reads_113 rfl (lv_at hl 1 rfl) ?_
              refine g_33_36 B Z kf_RX12_57 dX12_reads_114 ?_
              refine lv_iconst (v := (4 : Int32)) hx hb dX12_reads_117 (by decide) ?_
              obtain ⟨z29, h17⟩ := dck_s h16
              clear h16
              refine ld_49 B Z z29 dX12_reads_118 ?_
              refine lv_iconst (v := (0 : Int32)) hx hb dX12_reads_119 (by decide) ?_
              obtain ⟨r31, σ32, hc29, h18⟩ := db2_s h17
              clear h17
              refine cV_I [.int (σ24.1 49 (0 : Int32).toNatClampNeg), .int (σ24.1 49 (1 : Int32).toNatClampNeg), .int (σ24.1 49 (2 : Int32).toNatClampNeg), .int (σ24.1 49 (3 : Int32).toNatClampNeg), .int (σ24.1 49 (4 : Int32).toNatClampNeg), .int (0 : Int32)] [] B mx_yX12_rowNow (c_fMM_rowNow l X _ (σ24.1 49 (0 : Int32).toNatClampNeg) (σ24.1 49 (1 : Int32).toNatClampNeg) (σ24.1 49 (2 : Int32).toNatClampNeg) (σ24.1 49 (3 : Int32).toNatClampNeg) (σ24.1 49 (4 : Int32).toNatClampNeg) (0 : Int32) σ24 r31 σ32 hc29) kl_RX12_176 mi_yX12_rowNow (rv_33 _ _) hcl_12 Z hl rfl rfl ⟨Nat.le_of_ble_eq_true rfl, Nat.le_of_ble_eq_true rfl⟩ rfl rfl (Nat.le_of_ble_eq_true rfl) dX12_reads_120 (fun H locs Z => ?_)
              clear hc29
              refine lv_istore (lv' := [(4, .int r31), (2, .int r23), (0, .ref (X.2.1 33)), (1, .int x8), (3, .int x18)]) hx hb dX12_reads_123 hl (by decide) rfl (fun ls hl => ?_)
              refine lv_iinc (v := x18 + (1 : Int32)) (lv' := [(3, .int (x18 + (1 : Int32))), (4, .int r31), (2, .int r23), (0, .ref (X.2.1 33)), (1, .int x8)]) hx hb dX12_reads_125 hl (k := 4) rfl (by rfl) (by decide) rfl (fun ls hl => ?_)
              refine lv_goto (tgt := 78) hx hb dX12_reads_128 (by decide) ?_
              exact ih45 (x18 + (1 : Int32)) σ32 _ _ _ Z (lv_sub hl [3, 4, 0] rfl) h18
        exact lL78 FU (0 : Int32) σ17 _ _ _ Z (lv_sub hl [1, 2, 0] rfl) h8
      · have h19 := dif h5 c14
        clear h5
        refine lv_aload_n hx hb dX12_reads_60 rfl (lv_at hl 0 rfl) ?_
        refine lv_ldc hx hb B.2.2.2.1 (B.2.2.2.2.1 _ kc_RX12_172) dX12_reads_61 ?_
        obtain ⟨r34, σ35, hc32, h20⟩ := db2_s h19
        clear h19
        refine cV_I [.int (-1000004 : Int32)] [] B mx_yX12_refuses (c_fMM_refuses l X _ (-1000004 : Int32) σ10 r34 σ35 hc32) kl_RX12_168 mi_yX12_refuses (rv_33 _ _) hcl_12 Z hl rfl rfl ⟨Nat.le_of_ble_eq_true rfl, Nat.le_of_ble_eq_true rfl⟩ rfl rfl (Nat.le_of_ble_eq_true rfl) dX12_reads_63 (fun H locs Z => ?_)
        clear hc32
        exact reI B Z rfl hz h20 dX12_reads_66
    · have h21 := dit h3 c12
      clear h3
      refine lv_bipush (v := (-10 : Int32)) hx hb dX12_reads_39 (by decide) ?_
      refine lv_aload_n hx hb dX12_reads_41 rfl (lv_at hl 0 rfl) ?_
      refine g_33_27 B Z kf_RX12_290 dX12_reads_42 ?_
      refine lv_isub hx hb dX12_reads_45 ?_
      exact reI B Z rfl hz h21 dX12_reads_46
  clear eK11
  have lL12 : ∀ (n : Nat), ∀ (x5 : Int32) (x6 : Int32) (σ7 : sT) (H : Heap) (locs : List Loc) (ls : Array Slot), Wd (wM X) (tM X) (aM X) X s σ7 H locs → lv_has ls 5 [(0, .ref (X.2.1 33)), (1, .int x5), (2, .int x6)] → fMM_reads_L12 K11 n x5 x6 σ7 = some (rz, σz) → W p l e rm_fMM_reads s m args below meth c H locs 0 0 (MQ below (va_Qi (fun a u => a = rz ∧ u = σz) (poW (wM X) (tM X) (aM X) X sz) (aA (aM X) sz)) args s 0 0 (aA (aM X) sz)) (F0 m 12 ls []) := by
    intro n
    induction n with
    | zero =>
      intro x5 x6 σ7 H locs ls Z hl h
      exact nomatch (show (none : Option (Int32 × sT)) = some _ from h)
    | succ n36 ih8 =>
      intro x5 x6 σ7 H locs ls Z hl h23
      unfold fMM_reads_L12 at h23
      refine lv_iload_n hx hb dX12_reads_12 rfl (lv_at hl 2 rfl) ?_
      refine lv_if_eq (tgt := 35) hx hb dX12_reads_13 (by decide) (fun c37 => ?_) (fun c37 => ?_)
      · have h24 := dit h23 c37
        clear h23
        exact kK11 x5 x6 σ7 _ _ _ Z (lv_sub hl [0, 1, 2] rfl) h24
      · have h25 := dif h23 c37
        clear h23
        refine lv_aload_n hx hb dX12_reads_16 rfl (lv_at hl 0 rfl) ?_
        obtain ⟨r39, σ40, hc37, h26⟩ := db2_s h25
        clear h25
        refine cV_I [] [] B mx_yX12_here (c_fMM_here l X _ σ7 r39 σ40 hc37) kl_RX12_323 mi_yX12_here (rv_33 _ _) hcl_12 Z hl rfl rfl ⟨Nat.le_of_ble_eq_true rfl, Nat.le_of_ble_eq_true rfl⟩ rfl rfl (Nat.le_of_ble_eq_true rfl) dX12_reads_17 (fun H locs Z => ?_)
        clear hc37
        refine lv_iconst (v := (-1 : Int32)) hx hb dX12_reads_20 (by decide) ?_
        refine lv_icmp_eq (tgt := 35) hx hb dX12_reads_21 (by decide) (fun c41 => ?_) (fun c41 => ?_)
        · have h27 := dit h26 c41
          clear h26
          exact kK11 x5 x6 σ40 _ _ _ Z (lv_sub hl [0, 1, 2] rfl) h27
        · have h28 := dif h26 c41
          clear h26
          refine lv_aload_n hx hb dX12_reads_24 rfl (lv_at hl 0 rfl) ?_
          obtain ⟨r43, σ44, hc41, h29⟩ := db2_s h28
          clear h28
          refine cV_I [] [] B mx_yX12_readsOrder (c_fMM_readsOrder l X _ σ40 r43 σ44 hc41) kl_RX12_381 mi_yX12_readsOrder (rv_33 _ _) hcl_12 Z hl rfl rfl ⟨Nat.le_of_ble_eq_true rfl, Nat.le_of_ble_eq_true rfl⟩ rfl rfl (Nat.le_of_ble_eq_true rfl) dX12_reads_25 (fun H locs Z => ?_)
          clear hc41
          refine lv_istore_n (lv' := [(2, .int r43), (0, .ref (X.2.1 33)), (1, .int x5)]) hx hb dX12_reads_28 rfl hl (by decide) rfl (fun ls hl => ?_)
          refine lv_iinc (v := x5 + (1 : Int32)) (lv' := [(1, .int (x5 + (1 : Int32))), (2, .int r43), (0, .ref (X.2.1 33))]) hx hb dX12_reads_29 hl (k := 2) rfl (by rfl) (by decide) rfl (fun ls hl => ?_)
          refine lv_goto (tgt := 12) hx hb dX12_reads_32 (by decide) ?_
          exact ih8 (x5 + (1 : Int32)) r43 σ44 _ _ _ Z (lv_sub hl [2, 0, 1] rfl) h29
  exact lL12 FU (1 : Int32) r3 σ4 _ _ _ Z (lv_sub hl [2, 1, 0] rfl) h22
theorem dX12_writes_0 : decode cX12_writes 0 = .ok (.aload_n 0, 1) := by decide +kernel
theorem dX12_writes_1 : decode cX12_writes 1 = .ok (.getfield 60, 3) := by decide +kernel
theorem dX12_writes_4 : decode cX12_writes 4 = .ok (.aload_n 0, 1) := by decide +kernel
theorem dX12_writes_5 : decode cX12_writes 5 = .ok (.getfield 384, 3) := by decide +kernel
theorem dX12_writes_8 : decode cX12_writes 8 = .ok (.iload_n 1, 1) := by decide +kernel
theorem dX12_writes_9 : decode cX12_writes 9 = .ok (.iastore, 1) := by decide +kernel
theorem dX12_writes_10 : decode cX12_writes 10 = .ok (.aload_n 0, 1) := by decide +kernel
theorem dX12_writes_11 : decode cX12_writes 11 = .ok (.dup, 1) := by decide +kernel
theorem dX12_writes_12 : decode cX12_writes 12 = .ok (.getfield 384, 3) := by decide +kernel
theorem dX12_writes_15 : decode cX12_writes 15 = .ok (.iconst 1, 1) := by decide +kernel
theorem dX12_writes_16 : decode cX12_writes 16 = .ok (.iadd, 1) := by decide +kernel
theorem dX12_writes_17 : decode cX12_writes 17 = .ok (.putfield 384, 3) := by decide +kernel
theorem dX12_writes_20 : decode cX12_writes 20 = .ok (.return_, 1) := by decide +kernel
def rm_fMM_writes : Room := { frames := 1, cells := 0, slots := 0, locals := 60 }
set_option maxHeartbeats 4000000 in
set_option maxRecDepth 100000 in
theorem c_fMM_writes (l : Launch) (X : eX) (sz : Nat) (a1 : Int32) (σ : sT) (σz : sT) (h0 : fMM_writes a1 σ = some σz) : ctV l yX12_writes cX12_writes 2 none rm_fMM_writes [.ref (X.2.1 33), .int a1] (wM X) (tM X) (aM X) X sz σ σz := by
  refine ct_of (by decide +kernel) (Nat.le_of_ble_eq_true rfl) ?_
  intro p e s m args below meth c ls hz B hl Z
  have B : Bd p s m args meth c RX12 cX12_writes 2 none := B
  have hl : lv_has ls 2 [(0, .ref (X.2.1 33)), (1, .int a1)] := hl
  have hx := B.1
  have hb := B.2.1
  unfold fMM_writes at h0
  refine lv_aload_n hx hb dX12_writes_0 rfl (lv_at hl 0 rfl) ?_
  refine g_33_37 B Z kf_RX12_60 dX12_writes_1 ?_
  refine lv_aload_n hx hb dX12_writes_4 rfl (lv_at hl 0 rfl) ?_
  refine g_33_38 B Z kf_RX12_384 dX12_writes_5 ?_
  refine lv_iload_n hx hb dX12_writes_8 rfl (lv_at hl 1 rfl) ?_
  obtain ⟨z1, h1⟩ := dck_s h0
  clear h0
  refine st_50 B Z z1 dX12_writes_9 (fun H locs Z => ?_)
  obtain ⟨σ2, eσ2, h2⟩ := dlt_s h1
  clear h1
  replace Z := Wd.eq eσ2 Z
  clear eσ2
  refine lv_aload_n hx hb dX12_writes_10 rfl (lv_at hl 0 rfl) ?_
  refine lv_dup hx hb dX12_writes_11 rfl ?_
  refine g_33_38 B Z kf_RX12_384 dX12_writes_12 ?_
  refine lv_iconst (v := (1 : Int32)) hx hb dX12_writes_15 (by decide) ?_
  refine lv_iadd hx hb dX12_writes_16 ?_
  refine s_33_38 B Z kf_RX12_384 dX12_writes_17 (fun H locs Z => ?_)
  obtain ⟨σ3, eσ3, h3⟩ := dlt_s h2
  clear h2
  replace Z := Wd.eq eσ3 Z
  clear eσ3
  exact reV B Z hz h3 dX12_writes_20
theorem dX12_writesNumber_0 : decode cX12_writesNumber 0 = .ok (.iload_n 1, 1) := by decide +kernel
theorem dX12_writesNumber_1 : decode cX12_writesNumber 1 = .ok (.bipush 9, 2) := by decide +kernel
theorem dX12_writesNumber_3 : decode cX12_writesNumber 3 = .ok (.if_icmp .le 14, 3) := by decide +kernel
theorem dX12_writesNumber_6 : decode cX12_writesNumber 6 = .ok (.aload_n 0, 1) := by decide +kernel
theorem dX12_writesNumber_7 : decode cX12_writesNumber 7 = .ok (.bipush 48, 2) := by decide +kernel
theorem dX12_writesNumber_9 : decode cX12_writesNumber 9 = .ok (.iload_n 1, 1) := by decide +kernel
theorem dX12_writesNumber_10 : decode cX12_writesNumber 10 = .ok (.bipush 10, 2) := by decide +kernel
theorem dX12_writesNumber_12 : decode cX12_writesNumber 12 = .ok (.idiv, 1) := by decide +kernel
theorem dX12_writesNumber_13 : decode cX12_writesNumber 13 = .ok (.iadd, 1) := by decide +kernel
theorem dX12_writesNumber_14 : decode cX12_writesNumber 14 = .ok (.invokevirtual 387, 3) := by decide +kernel
theorem dX12_writesNumber_17 : decode cX12_writesNumber 17 = .ok (.aload_n 0, 1) := by decide +kernel
theorem dX12_writesNumber_18 : decode cX12_writesNumber 18 = .ok (.bipush 48, 2) := by decide +kernel
theorem dX12_writesNumber_20 : decode cX12_writesNumber 20 = .ok (.iload_n 1, 1) := by decide +kernel
theorem dX12_writesNumber_21 : decode cX12_writesNumber 21 = .ok (.bipush 10, 2) := by decide +kernel
theorem dX12_writesNumber_23 : decode cX12_writesNumber 23 = .ok (.irem, 1) := by decide +kernel
theorem dX12_writesNumber_24 : decode cX12_writesNumber 24 = .ok (.iadd, 1) := by decide +kernel
theorem dX12_writesNumber_25 : decode cX12_writesNumber 25 = .ok (.invokevirtual 387, 3) := by decide +kernel
theorem dX12_writesNumber_28 : decode cX12_writesNumber 28 = .ok (.return_, 1) := by decide +kernel
def rm_fMM_writesNumber : Room := { frames := 2, cells := 0, slots := 0, locals := 81 }
set_option maxHeartbeats 4000000 in
set_option maxRecDepth 100000 in
theorem c_fMM_writesNumber (l : Launch) (X : eX) (sz : Nat) (a1 : Int32) (σ : sT) (σz : sT) (h0 : fMM_writesNumber a1 σ = some σz) : ctV l yX12_writesNumber cX12_writesNumber 2 none rm_fMM_writesNumber [.ref (X.2.1 33), .int a1] (wM X) (tM X) (aM X) X sz σ σz := by
  refine ct_of (by decide +kernel) (Nat.le_of_ble_eq_true rfl) ?_
  intro p e s m args below meth c ls hz B hl Z
  have B : Bd p s m args meth c RX12 cX12_writesNumber 2 none := B
  have hl : lv_has ls 2 [(0, .ref (X.2.1 33)), (1, .int a1)] := hl
  have hx := B.1
  have hb := B.2.1
  unfold fMM_writesNumber at h0
  refine lv_iload_n hx hb dX12_writesNumber_0 rfl (lv_at hl 1 rfl) ?_
  refine lv_bipush (v := (9 : Int32)) hx hb dX12_writesNumber_1 (by decide) ?_
  obtain ⟨J2, eJ2, h3⟩ := dlt_s h0
  clear h0
  have kJ2 : ∀ (σ1 : sT) (H : Heap) (locs : List Loc) (ls : Array Slot), Wd (wM X) (tM X) (aM X) X s σ1 H locs → lv_has ls 2 [(0, .ref (X.2.1 33)), (1, .int a1)] → J2 σ1 = some σz → W p l e rm_fMM_writesNumber s m args below meth c H locs 0 0 (MQ below (va_Qv (fun u => u = σz) (poW (wM X) (tM X) (aM X) X sz) (aA (aM X) sz)) args s 0 0 (aA (aM X) sz)) (F0 m 17 ls []) := by
    intro σ1 H locs ls Z hl h1
    rw [eJ2] at h1
    refine lv_aload_n hx hb dX12_writesNumber_17 rfl (lv_at hl 0 rfl) ?_
    refine lv_bipush (v := (48 : Int32)) hx hb dX12_writesNumber_18 (by decide) ?_
    refine lv_iload_n hx hb dX12_writesNumber_20 rfl (lv_at hl 1 rfl) ?_
    refine lv_bipush (v := (10 : Int32)) hx hb dX12_writesNumber_21 (by decide) ?_
    refine lv_irem hx hb dX12_writesNumber_23 (by decide) ?_
    refine lv_iadd hx hb dX12_writesNumber_24 ?_
    obtain ⟨σ4, hc2, h2⟩ := db1_s h1
    clear h1
    refine cV_V [.int ((48 : Int32) + (a1 - a1 / (10 : Int32) * (10 : Int32)))] [] B mx_yX12_writes (c_fMM_writes l X _ ((48 : Int32) + (a1 - a1 / (10 : Int32) * (10 : Int32))) σ1 σ4 hc2) kl_RX12_387 mi_yX12_writes (rv_33 _ _) hcl_12 Z hl rfl rfl ⟨Nat.le_of_ble_eq_true rfl, Nat.le_of_ble_eq_true rfl⟩ rfl rfl (Nat.le_of_ble_eq_true rfl) dX12_writesNumber_25 (fun H locs Z => ?_)
    clear hc2
    exact reV B Z hz h2 dX12_writesNumber_28
  clear eJ2
  refine lv_icmp_le (tgt := 17) hx hb dX12_writesNumber_3 (by decide) (fun c5 => ?_) (fun c5 => ?_)
  · have h4 := dit h3 c5
    clear h3
    exact kJ2 σ _ _ _ Z (lv_sub hl [0, 1] rfl) h4
  · have h5 := dif h3 c5
    clear h3
    refine lv_aload_n hx hb dX12_writesNumber_6 rfl (lv_at hl 0 rfl) ?_
    refine lv_bipush (v := (48 : Int32)) hx hb dX12_writesNumber_7 (by decide) ?_
    refine lv_iload_n hx hb dX12_writesNumber_9 rfl (lv_at hl 1 rfl) ?_
    refine lv_bipush (v := (10 : Int32)) hx hb dX12_writesNumber_10 (by decide) ?_
    refine lv_idiv hx hb dX12_writesNumber_12 (by decide) ?_
    refine lv_iadd hx hb dX12_writesNumber_13 ?_
    obtain ⟨σ7, hc5, h6⟩ := db1_s h5
    clear h5
    refine cV_V [.int ((48 : Int32) + (a1 / (10 : Int32)))] [] B mx_yX12_writes (c_fMM_writes l X _ ((48 : Int32) + (a1 / (10 : Int32))) σ σ7 hc5) kl_RX12_387 mi_yX12_writes (rv_33 _ _) hcl_12 Z hl rfl rfl ⟨Nat.le_of_ble_eq_true rfl, Nat.le_of_ble_eq_true rfl⟩ rfl rfl (Nat.le_of_ble_eq_true rfl) dX12_writesNumber_14 (fun H locs Z => ?_)
    clear hc5
    exact kJ2 σ7 _ _ _ Z (lv_sub hl [0, 1] rfl) h6
theorem dX12_writesRow_0 : decode cX12_writesRow 0 = .ok (.aload_n 0, 1) := by decide +kernel
theorem dX12_writesRow_1 : decode cX12_writesRow 1 = .ok (.iconst 0, 1) := by decide +kernel
theorem dX12_writesRow_2 : decode cX12_writesRow 2 = .ok (.putfield 384, 3) := by decide +kernel
theorem dX12_writesRow_5 : decode cX12_writesRow 5 = .ok (.iconst 0, 1) := by decide +kernel
theorem dX12_writesRow_6 : decode cX12_writesRow 6 = .ok (.istore_n 2, 1) := by decide +kernel
theorem dX12_writesRow_7 : decode cX12_writesRow 7 = .ok (.iload_n 2, 1) := by decide +kernel
theorem dX12_writesRow_8 : decode cX12_writesRow 8 = .ok (.iconst 3, 1) := by decide +kernel
theorem dX12_writesRow_9 : decode cX12_writesRow 9 = .ok (.if_icmp .ge 78, 3) := by decide +kernel
theorem dX12_writesRow_12 : decode cX12_writesRow 12 = .ok (.aload_n 0, 1) := by decide +kernel
theorem dX12_writesRow_13 : decode cX12_writesRow 13 = .ok (.iload_n 1, 1) := by decide +kernel
theorem dX12_writesRow_14 : decode cX12_writesRow 14 = .ok (.iload_n 2, 1) := by decide +kernel
theorem dX12_writesRow_15 : decode cX12_writesRow 15 = .ok (.invokevirtual 87, 3) := by decide +kernel
theorem dX12_writesRow_18 : decode cX12_writesRow 18 = .ok (.istore_n 3, 1) := by decide +kernel
theorem dX12_writesRow_19 : decode cX12_writesRow 19 = .ok (.iload_n 3, 1) := by decide +kernel
theorem dX12_writesRow_20 : decode cX12_writesRow 20 = .ok (.ifCond .eq 61, 3) := by decide +kernel
theorem dX12_writesRow_23 : decode cX12_writesRow 23 = .ok (.iload_n 3, 1) := by decide +kernel
theorem dX12_writesRow_24 : decode cX12_writesRow 24 = .ok (.ifCond .ge 12, 3) := by decide +kernel
theorem dX12_writesRow_27 : decode cX12_writesRow 27 = .ok (.aload_n 0, 1) := by decide +kernel
theorem dX12_writesRow_28 : decode cX12_writesRow 28 = .ok (.bipush 45, 2) := by decide +kernel
theorem dX12_writesRow_30 : decode cX12_writesRow 30 = .ok (.invokevirtual 387, 3) := by decide +kernel
theorem dX12_writesRow_33 : decode cX12_writesRow 33 = .ok (.goto 16, 3) := by decide +kernel
theorem dX12_writesRow_36 : decode cX12_writesRow 36 = .ok (.aload_n 0, 1) := by decide +kernel
theorem dX12_writesRow_37 : decode cX12_writesRow 37 = .ok (.getfield 384, 3) := by decide +kernel
theorem dX12_writesRow_40 : decode cX12_writesRow 40 = .ok (.ifCond .le 9, 3) := by decide +kernel
theorem dX12_writesRow_43 : decode cX12_writesRow 43 = .ok (.aload_n 0, 1) := by decide +kernel
theorem dX12_writesRow_44 : decode cX12_writesRow 44 = .ok (.bipush 43, 2) := by decide +kernel
theorem dX12_writesRow_46 : decode cX12_writesRow 46 = .ok (.invokevirtual 387, 3) := by decide +kernel
theorem dX12_writesRow_49 : decode cX12_writesRow 49 = .ok (.iload_n 3, 1) := by decide +kernel
theorem dX12_writesRow_50 : decode cX12_writesRow 50 = .ok (.iconst 1, 1) := by decide +kernel
theorem dX12_writesRow_51 : decode cX12_writesRow 51 = .ok (.if_icmp .gt 8, 3) := by decide +kernel
theorem dX12_writesRow_54 : decode cX12_writesRow 54 = .ok (.iload_n 3, 1) := by decide +kernel
theorem dX12_writesRow_55 : decode cX12_writesRow 55 = .ok (.iconst (-1), 1) := by decide +kernel
theorem dX12_writesRow_56 : decode cX12_writesRow 56 = .ok (.if_icmp .ge 17, 3) := by decide +kernel
theorem dX12_writesRow_59 : decode cX12_writesRow 59 = .ok (.aload_n 0, 1) := by decide +kernel
theorem dX12_writesRow_60 : decode cX12_writesRow 60 = .ok (.iload_n 3, 1) := by decide +kernel
theorem dX12_writesRow_61 : decode cX12_writesRow 61 = .ok (.ifCond .ge 8, 3) := by decide +kernel
theorem dX12_writesRow_64 : decode cX12_writesRow 64 = .ok (.iload_n 3, 1) := by decide +kernel
theorem dX12_writesRow_65 : decode cX12_writesRow 65 = .ok (.ineg, 1) := by decide +kernel
theorem dX12_writesRow_66 : decode cX12_writesRow 66 = .ok (.goto 4, 3) := by decide +kernel
theorem dX12_writesRow_69 : decode cX12_writesRow 69 = .ok (.iload_n 3, 1) := by decide +kernel
theorem dX12_writesRow_70 : decode cX12_writesRow 70 = .ok (.invokevirtual 390, 3) := by decide +kernel
theorem dX12_writesRow_73 : decode cX12_writesRow 73 = .ok (.aload_n 0, 1) := by decide +kernel
theorem dX12_writesRow_74 : decode cX12_writesRow 74 = .ok (.bipush 120, 2) := by decide +kernel
theorem dX12_writesRow_76 : decode cX12_writesRow 76 = .ok (.iload_n 2, 1) := by decide +kernel
theorem dX12_writesRow_77 : decode cX12_writesRow 77 = .ok (.iadd, 1) := by decide +kernel
theorem dX12_writesRow_78 : decode cX12_writesRow 78 = .ok (.invokevirtual 387, 3) := by decide +kernel
theorem dX12_writesRow_81 : decode cX12_writesRow 81 = .ok (.iinc 2 1, 3) := by decide +kernel
theorem dX12_writesRow_84 : decode cX12_writesRow 84 = .ok (.goto (-77), 3) := by decide +kernel
theorem dX12_writesRow_87 : decode cX12_writesRow 87 = .ok (.aload_n 0, 1) := by decide +kernel
theorem dX12_writesRow_88 : decode cX12_writesRow 88 = .ok (.getfield 384, 3) := by decide +kernel
theorem dX12_writesRow_91 : decode cX12_writesRow 91 = .ok (.ifCond .ne 9, 3) := by decide +kernel
theorem dX12_writesRow_94 : decode cX12_writesRow 94 = .ok (.aload_n 0, 1) := by decide +kernel
theorem dX12_writesRow_95 : decode cX12_writesRow 95 = .ok (.bipush 48, 2) := by decide +kernel
theorem dX12_writesRow_97 : decode cX12_writesRow 97 = .ok (.invokevirtual 387, 3) := by decide +kernel
theorem dX12_writesRow_100 : decode cX12_writesRow 100 = .ok (.aload_n 0, 1) := by decide +kernel
theorem dX12_writesRow_101 : decode cX12_writesRow 101 = .ok (.aload_n 0, 1) := by decide +kernel
theorem dX12_writesRow_102 : decode cX12_writesRow 102 = .ok (.iload_n 1, 1) := by decide +kernel
theorem dX12_writesRow_103 : decode cX12_writesRow 103 = .ok (.iconst 3, 1) := by decide +kernel
theorem dX12_writesRow_104 : decode cX12_writesRow 104 = .ok (.invokevirtual 87, 3) := by decide +kernel
theorem dX12_writesRow_107 : decode cX12_writesRow 107 = .ok (.iconst 2, 1) := by decide +kernel
theorem dX12_writesRow_108 : decode cX12_writesRow 108 = .ok (.if_icmp .ne 8, 3) := by decide +kernel
theorem dX12_writesRow_111 : decode cX12_writesRow 111 = .ok (.bipush 61, 2) := by decide +kernel
theorem dX12_writesRow_113 : decode cX12_writesRow 113 = .ok (.goto 5, 3) := by decide +kernel
theorem dX12_writesRow_116 : decode cX12_writesRow 116 = .ok (.bipush 60, 2) := by decide +kernel
theorem dX12_writesRow_118 : decode cX12_writesRow 118 = .ok (.invokevirtual 387, 3) := by decide +kernel
theorem dX12_writesRow_121 : decode cX12_writesRow 121 = .ok (.aload_n 0, 1) := by decide +kernel
theorem dX12_writesRow_122 : decode cX12_writesRow 122 = .ok (.iload_n 1, 1) := by decide +kernel
theorem dX12_writesRow_123 : decode cX12_writesRow 123 = .ok (.iconst 3, 1) := by decide +kernel
theorem dX12_writesRow_124 : decode cX12_writesRow 124 = .ok (.invokevirtual 87, 3) := by decide +kernel
theorem dX12_writesRow_127 : decode cX12_writesRow 127 = .ok (.iconst 1, 1) := by decide +kernel
theorem dX12_writesRow_128 : decode cX12_writesRow 128 = .ok (.if_icmp .ne 9, 3) := by decide +kernel
theorem dX12_writesRow_131 : decode cX12_writesRow 131 = .ok (.aload_n 0, 1) := by decide +kernel
theorem dX12_writesRow_132 : decode cX12_writesRow 132 = .ok (.bipush 61, 2) := by decide +kernel
theorem dX12_writesRow_134 : decode cX12_writesRow 134 = .ok (.invokevirtual 387, 3) := by decide +kernel
theorem dX12_writesRow_137 : decode cX12_writesRow 137 = .ok (.aload_n 0, 1) := by decide +kernel
theorem dX12_writesRow_138 : decode cX12_writesRow 138 = .ok (.iload_n 1, 1) := by decide +kernel
theorem dX12_writesRow_139 : decode cX12_writesRow 139 = .ok (.iconst 4, 1) := by decide +kernel
theorem dX12_writesRow_140 : decode cX12_writesRow 140 = .ok (.invokevirtual 87, 3) := by decide +kernel
theorem dX12_writesRow_143 : decode cX12_writesRow 143 = .ok (.ifCond .ge 9, 3) := by decide +kernel
theorem dX12_writesRow_146 : decode cX12_writesRow 146 = .ok (.aload_n 0, 1) := by decide +kernel
theorem dX12_writesRow_147 : decode cX12_writesRow 147 = .ok (.bipush 45, 2) := by decide +kernel
theorem dX12_writesRow_149 : decode cX12_writesRow 149 = .ok (.invokevirtual 387, 3) := by decide +kernel
theorem dX12_writesRow_152 : decode cX12_writesRow 152 = .ok (.aload_n 0, 1) := by decide +kernel
theorem dX12_writesRow_153 : decode cX12_writesRow 153 = .ok (.aload_n 0, 1) := by decide +kernel
theorem dX12_writesRow_154 : decode cX12_writesRow 154 = .ok (.iload_n 1, 1) := by decide +kernel
theorem dX12_writesRow_155 : decode cX12_writesRow 155 = .ok (.iconst 4, 1) := by decide +kernel
theorem dX12_writesRow_156 : decode cX12_writesRow 156 = .ok (.invokevirtual 87, 3) := by decide +kernel
theorem dX12_writesRow_159 : decode cX12_writesRow 159 = .ok (.ifCond .ge 13, 3) := by decide +kernel
theorem dX12_writesRow_162 : decode cX12_writesRow 162 = .ok (.aload_n 0, 1) := by decide +kernel
theorem dX12_writesRow_163 : decode cX12_writesRow 163 = .ok (.iload_n 1, 1) := by decide +kernel
theorem dX12_writesRow_164 : decode cX12_writesRow 164 = .ok (.iconst 4, 1) := by decide +kernel
theorem dX12_writesRow_165 : decode cX12_writesRow 165 = .ok (.invokevirtual 87, 3) := by decide +kernel
theorem dX12_writesRow_168 : decode cX12_writesRow 168 = .ok (.ineg, 1) := by decide +kernel
theorem dX12_writesRow_169 : decode cX12_writesRow 169 = .ok (.goto 9, 3) := by decide +kernel
theorem dX12_writesRow_172 : decode cX12_writesRow 172 = .ok (.aload_n 0, 1) := by decide +kernel
theorem dX12_writesRow_173 : decode cX12_writesRow 173 = .ok (.iload_n 1, 1) := by decide +kernel
theorem dX12_writesRow_174 : decode cX12_writesRow 174 = .ok (.iconst 4, 1) := by decide +kernel
theorem dX12_writesRow_175 : decode cX12_writesRow 175 = .ok (.invokevirtual 87, 3) := by decide +kernel
theorem dX12_writesRow_178 : decode cX12_writesRow 178 = .ok (.invokevirtual 390, 3) := by decide +kernel
theorem dX12_writesRow_181 : decode cX12_writesRow 181 = .ok (.return_, 1) := by decide +kernel
def rm_fMM_writesRow : Room := { frames := 3, cells := 0, slots := 0, locals := 102 }
set_option maxHeartbeats 4000000 in
set_option maxRecDepth 100000 in
theorem c_fMM_writesRow (l : Launch) (X : eX) (sz : Nat) (a1 : Int32) (σ : sT) (σz : sT) (h0 : fMM_writesRow a1 σ = some σz) : ctV l yX12_writesRow cX12_writesRow 4 none rm_fMM_writesRow [.ref (X.2.1 33), .int a1] (wM X) (tM X) (aM X) X sz σ σz := by
  refine ct_of (by decide +kernel) (Nat.le_of_ble_eq_true rfl) ?_
  intro p e s m args below meth c ls hz B hl Z
  have B : Bd p s m args meth c RX12 cX12_writesRow 4 none := B
  have hl : lv_has ls 4 [(0, .ref (X.2.1 33)), (1, .int a1)] := hl
  have hx := B.1
  have hb := B.2.1
  unfold fMM_writesRow at h0
  refine lv_aload_n hx hb dX12_writesRow_0 rfl (lv_at hl 0 rfl) ?_
  refine lv_iconst (v := (0 : Int32)) hx hb dX12_writesRow_1 (by decide) ?_
  refine s_33_38 B Z kf_RX12_384 dX12_writesRow_2 (fun H locs Z => ?_)
  obtain ⟨σ1, eσ1, h1⟩ := dlt_s h0
  clear h0
  replace Z := Wd.eq eσ1 Z
  clear eσ1
  refine lv_iconst (v := (0 : Int32)) hx hb dX12_writesRow_5 (by decide) ?_
  refine lv_istore_n (lv' := [(2, .int (0 : Int32)), (0, .ref (X.2.1 33)), (1, .int a1)]) hx hb dX12_writesRow_6 rfl hl (by decide) rfl (fun ls hl => ?_)
  obtain ⟨K5, eK5, h34⟩ := dlt_s h1
  clear h1
  have kK5 : ∀ (σ4 : sT) (H : Heap) (locs : List Loc) (ls : Array Slot), Wd (wM X) (tM X) (aM X) X s σ4 H locs → lv_has ls 4 [(0, .ref (X.2.1 33)), (1, .int a1)] → K5 σ4 = some σz → W p l e rm_fMM_writesRow s m args below meth c H locs 0 0 (MQ below (va_Qv (fun u => u = σz) (poW (wM X) (tM X) (aM X) X sz) (aA (aM X) sz)) args s 0 0 (aA (aM X) sz)) (F0 m 87 ls []) := by
    intro σ4 H locs ls Z hl h2
    rw [eK5] at h2
    refine lv_aload_n hx hb dX12_writesRow_87 rfl (lv_at hl 0 rfl) ?_
    refine g_33_38 B Z kf_RX12_384 dX12_writesRow_88 ?_
    obtain ⟨J7, eJ7, h30⟩ := dlt_s h2
    clear h2
    have kJ7 : ∀ (σ6 : sT) (H : Heap) (locs : List Loc) (ls : Array Slot), Wd (wM X) (tM X) (aM X) X s σ6 H locs → lv_has ls 4 [(0, .ref (X.2.1 33)), (1, .int a1)] → J7 σ6 = some σz → W p l e rm_fMM_writesRow s m args below meth c H locs 0 0 (MQ below (va_Qv (fun u => u = σz) (poW (wM X) (tM X) (aM X) X sz) (aA (aM X) sz)) args s 0 0 (aA (aM X) sz)) (F0 m 100 ls []) := by
      intro σ6 H locs ls Z hl h3
      rw [eJ7] at h3
      refine lv_aload_n hx hb dX12_writesRow_100 rfl (lv_at hl 0 rfl) ?_
      refine lv_aload_n hx hb dX12_writesRow_101 rfl (lv_at hl 0 rfl) ?_
      refine lv_iload_n hx hb dX12_writesRow_102 rfl (lv_at hl 1 rfl) ?_
      refine lv_iconst (v := (3 : Int32)) hx hb dX12_writesRow_103 (by decide) ?_
      obtain ⟨r9, hc7, h4⟩ := db1_s h3
      clear h3
      refine cV_I [.int a1, .int (3 : Int32)] [.ref (X.2.1 33)] B mx_yX12_at (c_fMM_at l X _ a1 (3 : Int32) σ6 r9 hc7) kl_RX12_87 mi_yX12_at (rv_33 _ _) hcl_12 Z hl rfl rfl ⟨Nat.le_of_ble_eq_true rfl, Nat.le_of_ble_eq_true rfl⟩ rfl rfl (Nat.le_of_ble_eq_true rfl) dX12_writesRow_104 (fun H locs Z => ?_)
      clear hc7
      refine lv_iconst (v := (2 : Int32)) hx hb dX12_writesRow_107 (by decide) ?_
      obtain ⟨J11, eJ11, h27⟩ := dlt_s h4
      clear h4
      have kJ11 : ∀ (x10 : Int32) (H : Heap) (locs : List Loc) (ls : Array Slot), Wd (wM X) (tM X) (aM X) X s σ6 H locs → lv_has ls 4 [(0, .ref (X.2.1 33)), (1, .int a1)] → J11 x10 = some σz → W p l e rm_fMM_writesRow s m args below meth c H locs 0 0 (MQ below (va_Qv (fun u => u = σz) (poW (wM X) (tM X) (aM X) X sz) (aA (aM X) sz)) args s 0 0 (aA (aM X) sz)) (F0 m 118 ls [.int x10, .ref (X.2.1 33)]) := by
        intro x10 H locs ls Z hl h5
        rw [eJ11] at h5
        obtain ⟨σ13, hc11, h6⟩ := db1_s h5
        clear h5
        refine cV_V [.int x10] [] B mx_yX12_writes (c_fMM_writes l X _ x10 σ6 σ13 hc11) kl_RX12_387 mi_yX12_writes (rv_33 _ _) hcl_12 Z hl rfl rfl ⟨Nat.le_of_ble_eq_true rfl, Nat.le_of_ble_eq_true rfl⟩ rfl rfl (Nat.le_of_ble_eq_true rfl) dX12_writesRow_118 (fun H locs Z => ?_)
        clear hc11
        refine lv_aload_n hx hb dX12_writesRow_121 rfl (lv_at hl 0 rfl) ?_
        refine lv_iload_n hx hb dX12_writesRow_122 rfl (lv_at hl 1 rfl) ?_
        refine lv_iconst (v := (3 : Int32)) hx hb dX12_writesRow_123 (by decide) ?_
        obtain ⟨r15, hc13, h7⟩ := db1_s h6
        clear h6
        refine cV_I [.int a1, .int (3 : Int32)] [] B mx_yX12_at (c_fMM_at l X _ a1 (3 : Int32) σ13 r15 hc13) kl_RX12_87 mi_yX12_at (rv_33 _ _) hcl_12 Z hl rfl rfl ⟨Nat.le_of_ble_eq_true rfl, Nat.le_of_ble_eq_true rfl⟩ rfl rfl (Nat.le_of_ble_eq_true rfl) dX12_writesRow_124 (fun H locs Z => ?_)
        clear hc13
        refine lv_iconst (v := (1 : Int32)) hx hb dX12_writesRow_127 (by decide) ?_
        obtain ⟨J17, eJ17, h23⟩ := dlt_s h7
        clear h7
        have kJ17 : ∀ (σ16 : sT) (H : Heap) (locs : List Loc) (ls : Array Slot), Wd (wM X) (tM X) (aM X) X s σ16 H locs → lv_has ls 4 [(0, .ref (X.2.1 33)), (1, .int a1)] → J17 σ16 = some σz → W p l e rm_fMM_writesRow s m args below meth c H locs 0 0 (MQ below (va_Qv (fun u => u = σz) (poW (wM X) (tM X) (aM X) X sz) (aA (aM X) sz)) args s 0 0 (aA (aM X) sz)) (F0 m 137 ls []) := by
          intro σ16 H locs ls Z hl h8
          rw [eJ17] at h8
          refine lv_aload_n hx hb dX12_writesRow_137 rfl (lv_at hl 0 rfl) ?_
          refine lv_iload_n hx hb dX12_writesRow_138 rfl (lv_at hl 1 rfl) ?_
          refine lv_iconst (v := (4 : Int32)) hx hb dX12_writesRow_139 (by decide) ?_
          obtain ⟨r19, hc17, h9⟩ := db1_s h8
          clear h8
          refine cV_I [.int a1, .int (4 : Int32)] [] B mx_yX12_at (c_fMM_at l X _ a1 (4 : Int32) σ16 r19 hc17) kl_RX12_87 mi_yX12_at (rv_33 _ _) hcl_12 Z hl rfl rfl ⟨Nat.le_of_ble_eq_true rfl, Nat.le_of_ble_eq_true rfl⟩ rfl rfl (Nat.le_of_ble_eq_true rfl) dX12_writesRow_140 (fun H locs Z => ?_)
          clear hc17
          obtain ⟨J21, eJ21, h19⟩ := dlt_s h9
          clear h9
          have kJ21 : ∀ (σ20 : sT) (H : Heap) (locs : List Loc) (ls : Array Slot), Wd (wM X) (tM X) (aM X) X s σ20 H locs → lv_has ls 4 [(0, .ref (X.2.1 33)), (1, .int a1)] → J21 σ20 = some σz → W p l e rm_fMM_writesRow s m args below meth c H locs 0 0 (MQ below (va_Qv (fun u => u = σz) (poW (wM X) (tM X) (aM X) X sz) (aA (aM X) sz)) args s 0 0 (aA (aM X) sz)) (F0 m 152 ls []) := by
            intro σ20 H locs ls Z hl h10
            rw [eJ21] at h10
            refine lv_aload_n hx hb dX12_writesRow_152 rfl (lv_at hl 0 rfl) ?_
            refine lv_aload_n hx hb dX12_writesRow_153 rfl (lv_at hl 0 rfl) ?_
            refine lv_iload_n hx hb dX12_writesRow_154 rfl (lv_at hl 1 rfl) ?_
            refine lv_iconst (v := (4 : Int32)) hx hb dX12_writesRow_155 (by decide) ?_
            obtain ⟨r23, hc21, h11⟩ := db1_s h10
            clear h10
            refine cV_I [.int a1, .int (4 : Int32)] [.ref (X.2.1 33)] B mx_yX12_at (c_fMM_at l X _ a1 (4 : Int32) σ20 r23 hc21) kl_RX12_87 mi_yX12_at (rv_33 _ _) hcl_12 Z hl rfl rfl ⟨Nat.le_of_ble_eq_true rfl, Nat.le_of_ble_eq_true rfl⟩ rfl rfl (Nat.le_of_ble_eq_true rfl) dX12_writesRow_156 (fun H locs Z => ?_)
            clear hc21
            obtain ⟨J25, eJ25, h14⟩ := dlt_s h11
            clear h11
            have kJ25 : ∀ (x24 : Int32) (H : Heap) (locs : List Loc) (ls : Array Slot), Wd (wM X) (tM X) (aM X) X s σ20 H locs → lv_has ls 4 [] → J25 x24 = some σz → W p l e rm_fMM_writesRow s m args below meth c H locs 0 0 (MQ below (va_Qv (fun u => u = σz) (poW (wM X) (tM X) (aM X) X sz) (aA (aM X) sz)) args s 0 0 (aA (aM X) sz)) (F0 m 178 ls [.int x24, .ref (X.2.1 33)]) := by
              intro x24 H locs ls Z hl h12
              rw [eJ25] at h12
              obtain ⟨σ27, hc25, h13⟩ := db1_s h12
              clear h12
              refine cV_V [.int x24] [] B mx_yX12_writesNumber (c_fMM_writesNumber l X _ x24 σ20 σ27 hc25) kl_RX12_390 mi_yX12_writesNumber (rv_33 _ _) hcl_12 Z hl rfl rfl ⟨Nat.le_of_ble_eq_true rfl, Nat.le_of_ble_eq_true rfl⟩ rfl rfl (Nat.le_of_ble_eq_true rfl) dX12_writesRow_178 (fun H locs Z => ?_)
              clear hc25
              exact reV B Z hz h13 dX12_writesRow_181
            clear eJ25
            refine lv_if_ge (tgt := 172) hx hb dX12_writesRow_159 (by decide) (fun c28 => ?_) (fun c28 => ?_)
            · have h15 := dit h14 c28
              clear h14
              refine lv_aload_n hx hb dX12_writesRow_172 rfl (lv_at hl 0 rfl) ?_
              refine lv_iload_n hx hb dX12_writesRow_173 rfl (lv_at hl 1 rfl) ?_
              refine lv_iconst (v := (4 : Int32)) hx hb dX12_writesRow_174 (by decide) ?_
              obtain ⟨r30, hc28, h16⟩ := db1_s h15
              clear h15
              refine cV_I [.int a1, .int (4 : Int32)] [.ref (X.2.1 33)] B mx_yX12_at (c_fMM_at l X _ a1 (4 : Int32) σ20 r30 hc28) kl_RX12_87 mi_yX12_at (rv_33 _ _) hcl_12 Z hl rfl rfl ⟨Nat.le_of_ble_eq_true rfl, Nat.le_of_ble_eq_true rfl⟩ rfl rfl (Nat.le_of_ble_eq_true rfl) dX12_writesRow_175 (fun H locs Z => ?_)
              clear hc28
              exact kJ25 r30 _ _ _ Z (lv_sub hl [] rfl) h16
            · have h17 := dif h14 c28
              clear h14
              refine lv_aload_n hx hb dX12_writesRow_162 rfl (lv_at hl 0 rfl) ?_
              refine lv_iload_n hx hb dX12_writesRow_163 rfl (lv_at hl 1 rfl) ?_
              refine lv_iconst (v := (4 : Int32)) hx hb dX12_writesRow_164 (by decide) ?_
              obtain ⟨r32, hc30, h18⟩ := db1_s h17
              clear h17
              refine cV_I [.int a1, .int (4 : Int32)] [.ref (X.2.1 33)] B mx_yX12_at (c_fMM_at l X _ a1 (4 : Int32) σ20 r32 hc30) kl_RX12_87 mi_yX12_at (rv_33 _ _) hcl_12 Z hl rfl rfl ⟨Nat.le_of_ble_eq_true rfl, Nat.le_of_ble_eq_true rfl⟩ rfl rfl (Nat.le_of_ble_eq_true rfl) dX12_writesRow_165 (fun H locs Z => ?_)
              clear hc30
              refine lv_ineg hx hb dX12_writesRow_168 ?_
              refine lv_goto (tgt := 178) hx hb dX12_writesRow_169 (by decide) ?_
              exact kJ25 (-r32) _ _ _ Z (lv_sub hl [] rfl) h18
          clear eJ21
          refine lv_if_ge (tgt := 152) hx hb dX12_writesRow_143 (by decide) (fun c33 => ?_) (fun c33 => ?_)
          · have h20 := dit h19 c33
            clear h19
            exact kJ21 σ16 _ _ _ Z (lv_sub hl [0, 1] rfl) h20
          · have h21 := dif h19 c33
            clear h19
            refine lv_aload_n hx hb dX12_writesRow_146 rfl (lv_at hl 0 rfl) ?_
            refine lv_bipush (v := (45 : Int32)) hx hb dX12_writesRow_147 (by decide) ?_
            obtain ⟨σ35, hc33, h22⟩ := db1_s h21
            clear h21
            refine cV_V [.int (45 : Int32)] [] B mx_yX12_writes (c_fMM_writes l X _ (45 : Int32) σ16 σ35 hc33) kl_RX12_387 mi_yX12_writes (rv_33 _ _) hcl_12 Z hl rfl rfl ⟨Nat.le_of_ble_eq_true rfl, Nat.le_of_ble_eq_true rfl⟩ rfl rfl (Nat.le_of_ble_eq_true rfl) dX12_writesRow_149 (fun H locs Z => ?_)
            clear hc33
            exact kJ21 σ35 _ _ _ Z (lv_sub hl [0, 1] rfl) h22
        clear eJ17
        refine lv_icmp_ne (tgt := 137) hx hb dX12_writesRow_128 (by decide) (fun c36 => ?_) (fun c36 => ?_)
        · have h24 := dif h23 c36
          clear h23
          exact kJ17 σ13 _ _ _ Z (lv_sub hl [0, 1] rfl) h24
        · have h25 := dit h23 c36
          clear h23
          refine lv_aload_n hx hb dX12_writesRow_131 rfl (lv_at hl 0 rfl) ?_
          refine lv_bipush (v := (61 : Int32)) hx hb dX12_writesRow_132 (by decide) ?_
          obtain ⟨σ38, hc36, h26⟩ := db1_s h25
          clear h25
          refine cV_V [.int (61 : Int32)] [] B mx_yX12_writes (c_fMM_writes l X _ (61 : Int32) σ13 σ38 hc36) kl_RX12_387 mi_yX12_writes (rv_33 _ _) hcl_12 Z hl rfl rfl ⟨Nat.le_of_ble_eq_true rfl, Nat.le_of_ble_eq_true rfl⟩ rfl rfl (Nat.le_of_ble_eq_true rfl) dX12_writesRow_134 (fun H locs Z => ?_)
          clear hc36
          exact kJ17 σ38 _ _ _ Z (lv_sub hl [0, 1] rfl) h26
      clear eJ11
      refine lv_icmp_ne (tgt := 116) hx hb dX12_writesRow_108 (by decide) (fun c39 => ?_) (fun c39 => ?_)
      · have h28 := dif h27 c39
        clear h27
        refine lv_bipush (v := (60 : Int32)) hx hb dX12_writesRow_116 (by decide) ?_
        exact kJ11 (60 : Int32) _ _ _ Z (lv_sub hl [0, 1] rfl) h28
      · have h29 := dit h27 c39
        clear h27
        refine lv_bipush (v := (61 : Int32)) hx hb dX12_writesRow_111 (by decide) ?_
        refine lv_goto (tgt := 118) hx hb dX12_writesRow_113 (by decide) ?_
        exact kJ11 (61 : Int32) _ _ _ Z (lv_sub hl [0, 1] rfl) h29
    clear eJ7
    refine lv_if_ne (tgt := 100) hx hb dX12_writesRow_91 (by decide) (fun c40 => ?_) (fun c40 => ?_)
    · have h31 := dif h30 c40
      clear h30
      exact kJ7 σ4 _ _ _ Z (lv_sub hl [0, 1] rfl) h31
    · have h32 := dit h30 c40
      clear h30
      refine lv_aload_n hx hb dX12_writesRow_94 rfl (lv_at hl 0 rfl) ?_
      refine lv_bipush (v := (48 : Int32)) hx hb dX12_writesRow_95 (by decide) ?_
      obtain ⟨σ42, hc40, h33⟩ := db1_s h32
      clear h32
      refine cV_V [.int (48 : Int32)] [] B mx_yX12_writes (c_fMM_writes l X _ (48 : Int32) σ4 σ42 hc40) kl_RX12_387 mi_yX12_writes (rv_33 _ _) hcl_12 Z hl rfl rfl ⟨Nat.le_of_ble_eq_true rfl, Nat.le_of_ble_eq_true rfl⟩ rfl rfl (Nat.le_of_ble_eq_true rfl) dX12_writesRow_97 (fun H locs Z => ?_)
      clear hc40
      exact kJ7 σ42 _ _ _ Z (lv_sub hl [0, 1] rfl) h33
  clear eK5
  have lL7 : ∀ (n : Nat), ∀ (x2 : Int32) (σ3 : sT) (H : Heap) (locs : List Loc) (ls : Array Slot), Wd (wM X) (tM X) (aM X) X s σ3 H locs → lv_has ls 4 [(0, .ref (X.2.1 33)), (1, .int a1), (2, .int x2)] → fMM_writesRow_L7 a1 K5 n x2 σ3 = some σz → W p l e rm_fMM_writesRow s m args below meth c H locs 0 0 (MQ below (va_Qv (fun u => u = σz) (poW (wM X) (tM X) (aM X) X sz) (aA (aM X) sz)) args s 0 0 (aA (aM X) sz)) (F0 m 7 ls []) := by
    intro n
    induction n with
    | zero =>
      intro x2 σ3 H locs ls Z hl h
      exact nomatch (show (none : Option (sT)) = some _ from h)
    | succ n43 ih5 =>
      intro x2 σ3 H locs ls Z hl h35
      unfold fMM_writesRow_L7 at h35
      refine lv_iload_n hx hb dX12_writesRow_7 rfl (lv_at hl 2 rfl) ?_
      refine lv_iconst (v := (3 : Int32)) hx hb dX12_writesRow_8 (by decide) ?_
      refine lv_icmp_ge (tgt := 87) hx hb dX12_writesRow_9 (by decide) (fun c44 => ?_) (fun c44 => ?_)
      · have h36 := dit h35 c44
        clear h35
        exact kK5 σ3 _ _ _ Z (lv_sub hl [0, 1] rfl) h36
      · have h37 := dif h35 c44
        clear h35
        refine lv_aload_n hx hb dX12_writesRow_12 rfl (lv_at hl 0 rfl) ?_
        refine lv_iload_n hx hb dX12_writesRow_13 rfl (lv_at hl 1 rfl) ?_
        refine lv_iload_n hx hb dX12_writesRow_14 rfl (lv_at hl 2 rfl) ?_
        obtain ⟨r46, hc44, h38⟩ := db1_s h37
        clear h37
        refine cV_I [.int a1, .int x2] [] B mx_yX12_at (c_fMM_at l X _ a1 x2 σ3 r46 hc44) kl_RX12_87 mi_yX12_at (rv_33 _ _) hcl_12 Z hl rfl rfl ⟨Nat.le_of_ble_eq_true rfl, Nat.le_of_ble_eq_true rfl⟩ rfl rfl (Nat.le_of_ble_eq_true rfl) dX12_writesRow_15 (fun H locs Z => ?_)
        clear hc44
        refine lv_istore_n (lv' := [(3, .int r46), (0, .ref (X.2.1 33)), (1, .int a1), (2, .int x2)]) hx hb dX12_writesRow_18 rfl hl (by decide) rfl (fun ls hl => ?_)
        refine lv_iload_n hx hb dX12_writesRow_19 rfl (lv_at hl 0 rfl) ?_
        refine lv_if_eq (tgt := 81) hx hb dX12_writesRow_20 (by decide) (fun c47 => ?_) (fun c47 => ?_)
        · have h39 := dit h38 c47
          clear h38
          refine lv_iinc (v := x2 + (1 : Int32)) (lv' := [(2, .int (x2 + (1 : Int32))), (3, .int r46), (0, .ref (X.2.1 33)), (1, .int a1)]) hx hb dX12_writesRow_81 hl (k := 3) rfl (by rfl) (by decide) rfl (fun ls hl => ?_)
          refine lv_goto (tgt := 7) hx hb dX12_writesRow_84 (by decide) ?_
          exact ih5 (x2 + (1 : Int32)) σ3 _ _ _ Z (lv_sub hl [2, 3, 0] rfl) h39
        · have h40 := dif h38 c47
          clear h38
          refine lv_iload_n hx hb dX12_writesRow_23 rfl (lv_at hl 0 rfl) ?_
          obtain ⟨J49, eJ49, h56⟩ := dlt_s h40
          clear h40
          have kJ49 : ∀ (σ48 : sT) (H : Heap) (locs : List Loc) (ls : Array Slot), Wd (wM X) (tM X) (aM X) X s σ48 H locs → lv_has ls 4 [(0, .ref (X.2.1 33)), (1, .int a1), (2, .int x2), (3, .int r46)] → J49 σ48 = some σz → W p l e rm_fMM_writesRow s m args below meth c H locs 0 0 (MQ below (va_Qv (fun u => u = σz) (poW (wM X) (tM X) (aM X) X sz) (aA (aM X) sz)) args s 0 0 (aA (aM X) sz)) (F0 m 49 ls []) := by
            intro σ48 H locs ls Z hl h41
            rw [eJ49] at h41
            refine lv_iload_n hx hb dX12_writesRow_49 rfl (lv_at hl 3 rfl) ?_
            refine lv_iconst (v := (1 : Int32)) hx hb dX12_writesRow_50 (by decide) ?_
            obtain ⟨J51, eJ51, h44⟩ := dlt_s h41
            clear h41
            have kJ51 : ∀ (σ50 : sT) (H : Heap) (locs : List Loc) (ls : Array Slot), Wd (wM X) (tM X) (aM X) X s σ50 H locs → lv_has ls 4 [(0, .ref (X.2.1 33)), (1, .int a1), (2, .int x2)] → J51 σ50 = some σz → W p l e rm_fMM_writesRow s m args below meth c H locs 0 0 (MQ below (va_Qv (fun u => u = σz) (poW (wM X) (tM X) (aM X) X sz) (aA (aM X) sz)) args s 0 0 (aA (aM X) sz)) (F0 m 73 ls []) := by
              intro σ50 H locs ls Z hl h42
              rw [eJ51] at h42
              refine lv_aload_n hx hb dX12_writesRow_73 rfl (lv_at hl 0 rfl) ?_
              refine lv_bipush (v := (120 : Int32)) hx hb dX12_writesRow_74 (by decide) ?_
              refine lv_iload_n hx hb dX12_writesRow_76 rfl (lv_at hl 2 rfl) ?_
              refine lv_iadd hx hb dX12_writesRow_77 ?_
              obtain ⟨σ53, hc51, h43⟩ := db1_s h42
              clear h42
              refine cV_V [.int ((120 : Int32) + x2)] [] B mx_yX12_writes (c_fMM_writes l X _ ((120 : Int32) + x2) σ50 σ53 hc51) kl_RX12_387 mi_yX12_writes (rv_33 _ _) hcl_12 Z hl rfl rfl ⟨Nat.le_of_ble_eq_true rfl, Nat.le_of_ble_eq_true rfl⟩ rfl rfl (Nat.le_of_ble_eq_true rfl) dX12_writesRow_78 (fun H locs Z => ?_)
              clear hc51
              refine lv_iinc (v := x2 + (1 : Int32)) (lv' := [(2, .int (x2 + (1 : Int32))), (0, .ref (X.2.1 33)), (1, .int a1)]) hx hb dX12_writesRow_81 hl (k := 2) rfl (by rfl) (by decide) rfl (fun ls hl => ?_)
              refine lv_goto (tgt := 7) hx hb dX12_writesRow_84 (by decide) ?_
              exact ih5 (x2 + (1 : Int32)) σ53 _ _ _ Z (lv_sub hl [1, 2, 0] rfl) h43
            clear eJ51
            obtain ⟨J54, eJ54, h51⟩ := dlt_s h44
            clear h44
            have kJ54 : ∀ (H : Heap) (locs : List Loc) (ls : Array Slot), Wd (wM X) (tM X) (aM X) X s σ48 H locs → lv_has ls 4 [(0, .ref (X.2.1 33)), (1, .int a1), (2, .int x2), (3, .int r46)] → J54 () = some σz → W p l e rm_fMM_writesRow s m args below meth c H locs 0 0 (MQ below (va_Qv (fun u => u = σz) (poW (wM X) (tM X) (aM X) X sz) (aA (aM X) sz)) args s 0 0 (aA (aM X) sz)) (F0 m 59 ls []) := by
              intro  H locs ls Z hl h45
              rw [eJ54] at h45
              refine lv_aload_n hx hb dX12_writesRow_59 rfl (lv_at hl 0 rfl) ?_
              refine lv_iload_n hx hb dX12_writesRow_60 rfl (lv_at hl 3 rfl) ?_
              obtain ⟨J56, eJ56, h48⟩ := dlt_s h45
              clear h45
              have kJ56 : ∀ (x55 : Int32) (H : Heap) (locs : List Loc) (ls : Array Slot), Wd (wM X) (tM X) (aM X) X s σ48 H locs → lv_has ls 4 [(0, .ref (X.2.1 33)), (1, .int a1), (2, .int x2)] → J56 x55 = some σz → W p l e rm_fMM_writesRow s m args below meth c H locs 0 0 (MQ below (va_Qv (fun u => u = σz) (poW (wM X) (tM X) (aM X) X sz) (aA (aM X) sz)) args s 0 0 (aA (aM X) sz)) (F0 m 70 ls [.int x55, .ref (X.2.1 33)]) := by
                intro x55 H locs ls Z hl h46
                rw [eJ56] at h46
                obtain ⟨σ58, hc56, h47⟩ := db1_s h46
                clear h46
                refine cV_V [.int x55] [] B mx_yX12_writesNumber (c_fMM_writesNumber l X _ x55 σ48 σ58 hc56) kl_RX12_390 mi_yX12_writesNumber (rv_33 _ _) hcl_12 Z hl rfl rfl ⟨Nat.le_of_ble_eq_true rfl, Nat.le_of_ble_eq_true rfl⟩ rfl rfl (Nat.le_of_ble_eq_true rfl) dX12_writesRow_70 (fun H locs Z => ?_)
                clear hc56
                exact kJ51 σ58 _ _ _ Z (lv_sub hl [0, 1, 2] rfl) h47
              clear eJ56
              refine lv_if_ge (tgt := 69) hx hb dX12_writesRow_61 (by decide) (fun c59 => ?_) (fun c59 => ?_)
              · have h49 := dit h48 c59
                clear h48
                refine lv_iload_n hx hb dX12_writesRow_69 rfl (lv_at hl 3 rfl) ?_
                exact kJ56 r46 _ _ _ Z (lv_sub hl [0, 1, 2] rfl) h49
              · have h50 := dif h48 c59
                clear h48
                refine lv_iload_n hx hb dX12_writesRow_64 rfl (lv_at hl 3 rfl) ?_
                refine lv_ineg hx hb dX12_writesRow_65 ?_
                refine lv_goto (tgt := 70) hx hb dX12_writesRow_66 (by decide) ?_
                exact kJ56 (-r46) _ _ _ Z (lv_sub hl [0, 1, 2] rfl) h50
            clear eJ54
            refine lv_icmp_gt (tgt := 59) hx hb dX12_writesRow_51 (by decide) (fun c60 => ?_) (fun c60 => ?_)
            · have h52 := dit h51 c60
              clear h51
              exact kJ54  _ _ _ Z (lv_sub hl [0, 1, 2, 3] rfl) h52
            · have h53 := dif h51 c60
              clear h51
              refine lv_iload_n hx hb dX12_writesRow_54 rfl (lv_at hl 3 rfl) ?_
              refine lv_iconst (v := (-1 : Int32)) hx hb dX12_writesRow_55 (by decide) ?_
              refine lv_icmp_ge (tgt := 73) hx hb dX12_writesRow_56 (by decide) (fun c61 => ?_) (fun c61 => ?_)
              · have h54 := dit h53 c61
                clear h53
                exact kJ51 σ48 _ _ _ Z (lv_sub hl [0, 1, 2] rfl) h54
              · have h55 := dif h53 c61
                clear h53
                exact kJ54  _ _ _ Z (lv_sub hl [0, 1, 2, 3] rfl) h55
          clear eJ49
          refine lv_if_ge (tgt := 36) hx hb dX12_writesRow_24 (by decide) (fun c62 => ?_) (fun c62 => ?_)
          · have h57 := dit h56 c62
            clear h56
            refine lv_aload_n hx hb dX12_writesRow_36 rfl (lv_at hl 1 rfl) ?_
            refine g_33_38 B Z kf_RX12_384 dX12_writesRow_37 ?_
            refine lv_if_le (tgt := 49) hx hb dX12_writesRow_40 (by decide) (fun c63 => ?_) (fun c63 => ?_)
            · have h58 := dit h57 c63
              clear h57
              exact kJ49 σ3 _ _ _ Z (lv_sub hl [1, 2, 3, 0] rfl) h58
            · have h59 := dif h57 c63
              clear h57
              refine lv_aload_n hx hb dX12_writesRow_43 rfl (lv_at hl 1 rfl) ?_
              refine lv_bipush (v := (43 : Int32)) hx hb dX12_writesRow_44 (by decide) ?_
              obtain ⟨σ65, hc63, h60⟩ := db1_s h59
              clear h59
              refine cV_V [.int (43 : Int32)] [] B mx_yX12_writes (c_fMM_writes l X _ (43 : Int32) σ3 σ65 hc63) kl_RX12_387 mi_yX12_writes (rv_33 _ _) hcl_12 Z hl rfl rfl ⟨Nat.le_of_ble_eq_true rfl, Nat.le_of_ble_eq_true rfl⟩ rfl rfl (Nat.le_of_ble_eq_true rfl) dX12_writesRow_46 (fun H locs Z => ?_)
              clear hc63
              exact kJ49 σ65 _ _ _ Z (lv_sub hl [1, 2, 3, 0] rfl) h60
          · have h61 := dif h56 c62
            clear h56
            refine lv_aload_n hx hb dX12_writesRow_27 rfl (lv_at hl 1 rfl) ?_
            refine lv_bipush (v := (45 : Int32)) hx hb dX12_writesRow_28 (by decide) ?_
            obtain ⟨σ67, hc65, h62⟩ := db1_s h61
            clear h61
            refine cV_V [.int (45 : Int32)] [] B mx_yX12_writes (c_fMM_writes l X _ (45 : Int32) σ3 σ67 hc65) kl_RX12_387 mi_yX12_writes (rv_33 _ _) hcl_12 Z hl rfl rfl ⟨Nat.le_of_ble_eq_true rfl, Nat.le_of_ble_eq_true rfl⟩ rfl rfl (Nat.le_of_ble_eq_true rfl) dX12_writesRow_30 (fun H locs Z => ?_)
            clear hc65
            refine lv_goto (tgt := 49) hx hb dX12_writesRow_33 (by decide) ?_
            exact kJ49 σ67 _ _ _ Z (lv_sub hl [1, 2, 3, 0] rfl) h62
  exact lL7 FU (0 : Int32) σ1 _ _ _ Z (lv_sub hl [1, 2, 0] rfl) h34
theorem dX12_shownOf_0 : decode cX12_shownOf 0 = .ok (.aload_n 0, 1) := by decide +kernel
theorem dX12_shownOf_1 : decode cX12_shownOf 1 = .ok (.iload_n 1, 1) := by decide +kernel
theorem dX12_shownOf_2 : decode cX12_shownOf 2 = .ok (.invokevirtual 393, 3) := by decide +kernel
theorem dX12_shownOf_5 : decode cX12_shownOf 5 = .ok (.iload_n 2, 1) := by decide +kernel
theorem dX12_shownOf_6 : decode cX12_shownOf 6 = .ok (.aload_n 0, 1) := by decide +kernel
theorem dX12_shownOf_7 : decode cX12_shownOf 7 = .ok (.getfield 384, 3) := by decide +kernel
theorem dX12_shownOf_10 : decode cX12_shownOf 10 = .ok (.if_icmp .ge 12, 3) := by decide +kernel
theorem dX12_shownOf_13 : decode cX12_shownOf 13 = .ok (.aload_n 0, 1) := by decide +kernel
theorem dX12_shownOf_14 : decode cX12_shownOf 14 = .ok (.getfield 60, 3) := by decide +kernel
theorem dX12_shownOf_17 : decode cX12_shownOf 17 = .ok (.iload_n 2, 1) := by decide +kernel
theorem dX12_shownOf_18 : decode cX12_shownOf 18 = .ok (.iaload, 1) := by decide +kernel
theorem dX12_shownOf_19 : decode cX12_shownOf 19 = .ok (.goto 6, 3) := by decide +kernel
theorem dX12_shownOf_22 : decode cX12_shownOf 22 = .ok (.ldc_w 396, 3) := by decide +kernel
theorem dX12_shownOf_25 : decode cX12_shownOf 25 = .ok (.ireturn, 1) := by decide +kernel
def rm_fMM_shownOf : Room := { frames := 4, cells := 0, slots := 0, locals := 125 }
set_option maxHeartbeats 4000000 in
set_option maxRecDepth 100000 in
theorem c_fMM_shownOf (l : Launch) (X : eX) (sz : Nat) (a1 : Int32) (a2 : Int32) (σ : sT) (rz : Int32) (σz : sT) (h0 : fMM_shownOf a1 a2 σ = some (rz, σz)) : ctI l yX12_shownOf cX12_shownOf 3 (some .int) rm_fMM_shownOf [.ref (X.2.1 33), .int a1, .int a2] (wM X) (tM X) (aM X) X sz σ rz σz := by
  refine ct_of (by decide +kernel) (Nat.le_of_ble_eq_true rfl) ?_
  intro p e s m args below meth c ls hz B hl Z
  have B : Bd p s m args meth c RX12 cX12_shownOf 3 (some .int) := B
  have hl : lv_has ls 3 [(0, .ref (X.2.1 33)), (1, .int a1), (2, .int a2)] := hl
  have hx := B.1
  have hb := B.2.1
  unfold fMM_shownOf at h0
  refine lv_aload_n hx hb dX12_shownOf_0 rfl (lv_at hl 0 rfl) ?_
  refine lv_iload_n hx hb dX12_shownOf_1 rfl (lv_at hl 1 rfl) ?_
  obtain ⟨σ2, hc0, h1⟩ := db1_s h0
  clear h0
  refine cV_V [.int a1] [] B mx_yX12_writesRow (c_fMM_writesRow l X _ a1 σ σ2 hc0) kl_RX12_393 mi_yX12_writesRow (rv_33 _ _) hcl_12 Z hl rfl rfl ⟨Nat.le_of_ble_eq_true rfl, Nat.le_of_ble_eq_true rfl⟩ rfl rfl (Nat.le_of_ble_eq_true rfl) dX12_shownOf_2 (fun H locs Z => ?_)
  clear hc0
  refine lv_iload_n hx hb dX12_shownOf_5 rfl (lv_at hl 2 rfl) ?_
  refine lv_aload_n hx hb dX12_shownOf_6 rfl (lv_at hl 0 rfl) ?_
  refine g_33_38 B Z kf_RX12_384 dX12_shownOf_7 ?_
  refine lv_icmp_ge (tgt := 22) hx hb dX12_shownOf_10 (by decide) (fun c3 => ?_) (fun c3 => ?_)
  · have h2 := dit h1 c3
    clear h1
    refine lv_ldcw hx hb B.2.2.2.1 (B.2.2.2.2.1 _ kc_RX12_396) dX12_shownOf_22 ?_
    exact reI B Z rfl hz h2 dX12_shownOf_25
  · have h3 := dif h1 c3
    clear h1
    refine lv_aload_n hx hb dX12_shownOf_13 rfl (lv_at hl 0 rfl) ?_
    refine g_33_37 B Z kf_RX12_60 dX12_shownOf_14 ?_
    refine lv_iload_n hx hb dX12_shownOf_17 rfl (lv_at hl 2 rfl) ?_
    obtain ⟨z4, h4⟩ := dck_s h3
    clear h3
    refine ld_50 B Z z4 dX12_shownOf_18 ?_
    refine lv_goto (tgt := 25) hx hb dX12_shownOf_19 (by decide) ?_
    exact reI B Z rfl hz h4 dX12_shownOf_25
theorem dX12_shown_0 : decode cX12_shown 0 = .ok (.aload_n 0, 1) := by decide +kernel
theorem dX12_shown_1 : decode cX12_shown 1 = .ok (.iload_n 1, 1) := by decide +kernel
theorem dX12_shown_2 : decode cX12_shown 2 = .ok (.invokevirtual 180, 3) := by decide +kernel
theorem dX12_shown_5 : decode cX12_shown 5 = .ok (.ifCond .eq 16, 3) := by decide +kernel
theorem dX12_shown_8 : decode cX12_shown 8 = .ok (.iload_n 2, 1) := by decide +kernel
theorem dX12_shown_9 : decode cX12_shown 9 = .ok (.ifCond .lt 12, 3) := by decide +kernel
theorem dX12_shown_12 : decode cX12_shown 12 = .ok (.aload_n 0, 1) := by decide +kernel
theorem dX12_shown_13 : decode cX12_shown 13 = .ok (.iload_n 1, 1) := by decide +kernel
theorem dX12_shown_14 : decode cX12_shown 14 = .ok (.iload_n 2, 1) := by decide +kernel
theorem dX12_shown_15 : decode cX12_shown 15 = .ok (.invokevirtual 397, 3) := by decide +kernel
theorem dX12_shown_18 : decode cX12_shown 18 = .ok (.goto 9, 3) := by decide +kernel
theorem dX12_shown_21 : decode cX12_shown 21 = .ok (.aload_n 0, 1) := by decide +kernel
theorem dX12_shown_22 : decode cX12_shown 22 = .ok (.ldc 63, 2) := by decide +kernel
theorem dX12_shown_24 : decode cX12_shown 24 = .ok (.invokevirtual 168, 3) := by decide +kernel
theorem dX12_shown_27 : decode cX12_shown 27 = .ok (.ireturn, 1) := by decide +kernel
def rm_fMM_shown : Room := { frames := 5, cells := 0, slots := 0, locals := 147 }
set_option maxHeartbeats 4000000 in
set_option maxRecDepth 100000 in
theorem c_fMM_shown (l : Launch) (X : eX) (sz : Nat) (a1 : Int32) (a2 : Int32) (σ : sT) (rz : Int32) (σz : sT) (h0 : fMM_shown a1 a2 σ = some (rz, σz)) : ctI l yX12_shown cX12_shown 3 (some .int) rm_fMM_shown [.ref (X.2.1 33), .int a1, .int a2] (wM X) (tM X) (aM X) X sz σ rz σz := by
  refine ct_of (by decide +kernel) (Nat.le_of_ble_eq_true rfl) ?_
  intro p e s m args below meth c ls hz B hl Z
  have B : Bd p s m args meth c RX12 cX12_shown 3 (some .int) := B
  have hl : lv_has ls 3 [(0, .ref (X.2.1 33)), (1, .int a1), (2, .int a2)] := hl
  have hx := B.1
  have hb := B.2.1
  unfold fMM_shown at h0
  refine lv_aload_n hx hb dX12_shown_0 rfl (lv_at hl 0 rfl) ?_
  refine lv_iload_n hx hb dX12_shown_1 rfl (lv_at hl 1 rfl) ?_
  obtain ⟨r2, hc0, h1⟩ := db1_s h0
  clear h0
  refine cV_I [.int a1] [] B mx_yX12_isRow (c_fMM_isRow l X _ a1 σ r2 hc0) kl_RX12_180 mi_yX12_isRow (rv_33 _ _) hcl_12 Z hl rfl rfl ⟨Nat.le_of_ble_eq_true rfl, Nat.le_of_ble_eq_true rfl⟩ rfl rfl (Nat.le_of_ble_eq_true rfl) dX12_shown_2 (fun H locs Z => ?_)
  clear hc0
  obtain ⟨J3, eJ3, h4⟩ := dlt_s h1
  clear h1
  have kJ3 : ∀ (H : Heap) (locs : List Loc) (ls : Array Slot), Wd (wM X) (tM X) (aM X) X s σ H locs → lv_has ls 3 [(0, .ref (X.2.1 33))] → J3 () = some (rz, σz) → W p l e rm_fMM_shown s m args below meth c H locs 0 0 (MQ below (va_Qi (fun a u => a = rz ∧ u = σz) (poW (wM X) (tM X) (aM X) X sz) (aA (aM X) sz)) args s 0 0 (aA (aM X) sz)) (F0 m 21 ls []) := by
    intro  H locs ls Z hl h2
    rw [eJ3] at h2
    refine lv_aload_n hx hb dX12_shown_21 rfl (lv_at hl 0 rfl) ?_
    refine lv_ldc hx hb B.2.2.2.1 (B.2.2.2.2.1 _ kc_RX12_63) dX12_shown_22 ?_
    obtain ⟨r5, σ6, hc3, h3⟩ := db2_s h2
    clear h2
    refine cV_I [.int (-1000002 : Int32)] [] B mx_yX12_refuses (c_fMM_refuses l X _ (-1000002 : Int32) σ r5 σ6 hc3) kl_RX12_168 mi_yX12_refuses (rv_33 _ _) hcl_12 Z hl rfl rfl ⟨Nat.le_of_ble_eq_true rfl, Nat.le_of_ble_eq_true rfl⟩ rfl rfl (Nat.le_of_ble_eq_true rfl) dX12_shown_24 (fun H locs Z => ?_)
    clear hc3
    exact reI B Z rfl hz h3 dX12_shown_27
  clear eJ3
  refine lv_if_eq (tgt := 21) hx hb dX12_shown_5 (by decide) (fun c7 => ?_) (fun c7 => ?_)
  · have h5 := dit h4 c7
    clear h4
    exact kJ3  _ _ _ Z (lv_sub hl [0] rfl) h5
  · have h6 := dif h4 c7
    clear h4
    refine lv_iload_n hx hb dX12_shown_8 rfl (lv_at hl 2 rfl) ?_
    refine lv_if_lt (tgt := 21) hx hb dX12_shown_9 (by decide) (fun c8 => ?_) (fun c8 => ?_)
    · have h7 := dit h6 c8
      clear h6
      exact kJ3  _ _ _ Z (lv_sub hl [0] rfl) h7
    · have h8 := dif h6 c8
      clear h6
      refine lv_aload_n hx hb dX12_shown_12 rfl (lv_at hl 0 rfl) ?_
      refine lv_iload_n hx hb dX12_shown_13 rfl (lv_at hl 1 rfl) ?_
      refine lv_iload_n hx hb dX12_shown_14 rfl (lv_at hl 2 rfl) ?_
      obtain ⟨r10, σ11, hc8, h9⟩ := db2_s h8
      clear h8
      refine cV_I [.int a1, .int a2] [] B mx_yX12_shownOf (c_fMM_shownOf l X _ a1 a2 σ r10 σ11 hc8) kl_RX12_397 mi_yX12_shownOf (rv_33 _ _) hcl_12 Z hl rfl rfl ⟨Nat.le_of_ble_eq_true rfl, Nat.le_of_ble_eq_true rfl⟩ rfl rfl (Nat.le_of_ble_eq_true rfl) dX12_shown_15 (fun H locs Z => ?_)
      clear hc8
      refine lv_goto (tgt := 27) hx hb dX12_shown_18 (by decide) ?_
      exact reI B Z rfl hz h9 dX12_shown_27
theorem dX12_back_0 : decode cX12_back 0 = .ok (.aload_n 0, 1) := by decide +kernel
theorem dX12_back_1 : decode cX12_back 1 = .ok (.getfield 64, 3) := by decide +kernel
theorem dX12_back_4 : decode cX12_back 4 = .ok (.ifCond .ne 10, 3) := by decide +kernel
theorem dX12_back_7 : decode cX12_back 7 = .ok (.aload_n 0, 1) := by decide +kernel
theorem dX12_back_8 : decode cX12_back 8 = .ok (.ldc 201, 2) := by decide +kernel
theorem dX12_back_10 : decode cX12_back 10 = .ok (.invokevirtual 168, 3) := by decide +kernel
theorem dX12_back_13 : decode cX12_back 13 = .ok (.ireturn, 1) := by decide +kernel
theorem dX12_back_14 : decode cX12_back 14 = .ok (.aload_n 0, 1) := by decide +kernel
theorem dX12_back_15 : decode cX12_back 15 = .ok (.dup, 1) := by decide +kernel
theorem dX12_back_16 : decode cX12_back 16 = .ok (.getfield 64, 3) := by decide +kernel
theorem dX12_back_19 : decode cX12_back 19 = .ok (.iconst 1, 1) := by decide +kernel
theorem dX12_back_20 : decode cX12_back 20 = .ok (.isub, 1) := by decide +kernel
theorem dX12_back_21 : decode cX12_back 21 = .ok (.putfield 64, 3) := by decide +kernel
theorem dX12_back_24 : decode cX12_back 24 = .ok (.iconst 0, 1) := by decide +kernel
theorem dX12_back_25 : decode cX12_back 25 = .ok (.istore_n 1, 1) := by decide +kernel
theorem dX12_back_26 : decode cX12_back 26 = .ok (.iload_n 1, 1) := by decide +kernel
theorem dX12_back_27 : decode cX12_back 27 = .ok (.bipush 73, 2) := by decide +kernel
theorem dX12_back_29 : decode cX12_back 29 = .ok (.if_icmp .ge 29, 3) := by decide +kernel
theorem dX12_back_32 : decode cX12_back 32 = .ok (.aload_n 0, 1) := by decide +kernel
theorem dX12_back_33 : decode cX12_back 33 = .ok (.getfield 7, 3) := by decide +kernel
theorem dX12_back_36 : decode cX12_back 36 = .ok (.iload_n 1, 1) := by decide +kernel
theorem dX12_back_37 : decode cX12_back 37 = .ok (.aload_n 0, 1) := by decide +kernel
theorem dX12_back_38 : decode cX12_back 38 = .ok (.getfield 13, 3) := by decide +kernel
theorem dX12_back_41 : decode cX12_back 41 = .ok (.bipush 73, 2) := by decide +kernel
theorem dX12_back_43 : decode cX12_back 43 = .ok (.aload_n 0, 1) := by decide +kernel
theorem dX12_back_44 : decode cX12_back 44 = .ok (.getfield 64, 3) := by decide +kernel
theorem dX12_back_47 : decode cX12_back 47 = .ok (.imul, 1) := by decide +kernel
theorem dX12_back_48 : decode cX12_back 48 = .ok (.iload_n 1, 1) := by decide +kernel
theorem dX12_back_49 : decode cX12_back 49 = .ok (.iadd, 1) := by decide +kernel
theorem dX12_back_50 : decode cX12_back 50 = .ok (.iaload, 1) := by decide +kernel
theorem dX12_back_51 : decode cX12_back 51 = .ok (.iastore, 1) := by decide +kernel
theorem dX12_back_52 : decode cX12_back 52 = .ok (.iinc 1 1, 3) := by decide +kernel
theorem dX12_back_55 : decode cX12_back 55 = .ok (.goto (-29), 3) := by decide +kernel
theorem dX12_back_58 : decode cX12_back 58 = .ok (.aload_n 0, 1) := by decide +kernel
theorem dX12_back_59 : decode cX12_back 59 = .ok (.getfield 64, 3) := by decide +kernel
theorem dX12_back_62 : decode cX12_back 62 = .ok (.ireturn, 1) := by decide +kernel
def rm_fMM_back : Room := { frames := 2, cells := 0, slots := 0, locals := 81 }
set_option maxHeartbeats 4000000 in
set_option maxRecDepth 100000 in
theorem c_fMM_back (l : Launch) (X : eX) (sz : Nat)  (σ : sT) (rz : Int32) (σz : sT) (h0 : fMM_back σ = some (rz, σz)) : ctI l yX12_back cX12_back 2 (some .int) rm_fMM_back [.ref (X.2.1 33)] (wM X) (tM X) (aM X) X sz σ rz σz := by
  refine ct_of (by decide +kernel) (Nat.le_of_ble_eq_true rfl) ?_
  intro p e s m args below meth c ls hz B hl Z
  have B : Bd p s m args meth c RX12 cX12_back 2 (some .int) := B
  have hl : lv_has ls 2 [(0, .ref (X.2.1 33))] := hl
  have hx := B.1
  have hb := B.2.1
  unfold fMM_back at h0
  refine lv_aload_n hx hb dX12_back_0 rfl (lv_at hl 0 rfl) ?_
  refine g_33_2 B Z kf_RX12_64 dX12_back_1 ?_
  refine lv_if_ne (tgt := 14) hx hb dX12_back_4 (by decide) (fun c1 => ?_) (fun c1 => ?_)
  · have h1 := dif h0 c1
    clear h0
    refine lv_aload_n hx hb dX12_back_14 rfl (lv_at hl 0 rfl) ?_
    refine lv_dup hx hb dX12_back_15 rfl ?_
    refine g_33_2 B Z kf_RX12_64 dX12_back_16 ?_
    refine lv_iconst (v := (1 : Int32)) hx hb dX12_back_19 (by decide) ?_
    refine lv_isub hx hb dX12_back_20 ?_
    refine s_33_2 B Z kf_RX12_64 dX12_back_21 (fun H locs Z => ?_)
    obtain ⟨σ2, eσ2, h2⟩ := dlt_s h1
    clear h1
    replace Z := Wd.eq eσ2 Z
    clear eσ2
    refine lv_iconst (v := (0 : Int32)) hx hb dX12_back_24 (by decide) ?_
    refine lv_istore_n (lv' := [(1, .int (0 : Int32)), (0, .ref (X.2.1 33))]) hx hb dX12_back_25 rfl hl (by decide) rfl (fun ls hl => ?_)
    have lL26 : ∀ (n : Nat), ∀ (x3 : Int32) (σ4 : sT) (H : Heap) (locs : List Loc) (ls : Array Slot), Wd (wM X) (tM X) (aM X) X s σ4 H locs → lv_has ls 2 [(0, .ref (X.2.1 33)), (1, .int x3)] → fMM_back_L26 n x3 σ4 = some (rz, σz) → W p l e rm_fMM_back s m args below meth c H locs 0 0 (MQ below (va_Qi (fun a u => a = rz ∧ u = σz) (poW (wM X) (tM X) (aM X) X sz) (aA (aM X) sz)) args s 0 0 (aA (aM X) sz)) (F0 m 26 ls []) := by
      intro n
      induction n with
      | zero =>
        intro x3 σ4 H locs ls Z hl h
        exact nomatch (show (none : Option (Int32 × sT)) = some _ from h)
      | succ n5 ih15 =>
        intro x3 σ4 H locs ls Z hl h3
        unfold fMM_back_L26 at h3
        refine lv_iload_n hx hb dX12_back_26 rfl (lv_at hl 1 rfl) ?_
        refine lv_bipush (v := (73 : Int32)) hx hb dX12_back_27 (by decide) ?_
        refine lv_icmp_ge (tgt := 58) hx hb dX12_back_29 (by decide) (fun c6 => ?_) (fun c6 => ?_)
        · have h4 := dit h3 c6
          clear h3
          refine lv_aload_n hx hb dX12_back_58 rfl (lv_at hl 0 rfl) ?_
          refine g_33_2 B Z kf_RX12_64 dX12_back_59 ?_
          exact reI B Z rfl hz h4 dX12_back_62
        · have h5 := dif h3 c6
          clear h3
          refine lv_aload_n hx hb dX12_back_32 rfl (lv_at hl 0 rfl) ?_
          refine g_33_0 B Z kf_RX12_7 dX12_back_33 ?_
          refine lv_iload_n hx hb dX12_back_36 rfl (lv_at hl 1 rfl) ?_
          refine lv_aload_n hx hb dX12_back_37 rfl (lv_at hl 0 rfl) ?_
          refine g_33_1 B Z kf_RX12_13 dX12_back_38 ?_
          refine lv_bipush (v := (73 : Int32)) hx hb dX12_back_41 (by decide) ?_
          refine lv_aload_n hx hb dX12_back_43 rfl (lv_at hl 0 rfl) ?_
          refine g_33_2 B Z kf_RX12_64 dX12_back_44 ?_
          refine lv_imul hx hb dX12_back_47 ?_
          refine lv_iload_n hx hb dX12_back_48 rfl (lv_at hl 1 rfl) ?_
          refine lv_iadd hx hb dX12_back_49 ?_
          obtain ⟨z7, h6⟩ := dck_s h5
          clear h5
          refine ld_35 B Z z7 dX12_back_50 ?_
          obtain ⟨z8, h7⟩ := dck_s h6
          clear h6
          refine st_34 B Z z8 dX12_back_51 (fun H locs Z => ?_)
          obtain ⟨σ9, eσ9, h8⟩ := dlt_s h7
          clear h7
          replace Z := Wd.eq eσ9 Z
          clear eσ9
          refine lv_iinc (v := x3 + (1 : Int32)) (lv' := [(1, .int (x3 + (1 : Int32))), (0, .ref (X.2.1 33))]) hx hb dX12_back_52 hl (k := 1) rfl (by rfl) (by decide) rfl (fun ls hl => ?_)
          refine lv_goto (tgt := 26) hx hb dX12_back_55 (by decide) ?_
          exact ih15 (x3 + (1 : Int32)) σ9 _ _ _ Z (lv_sub hl [1, 0] rfl) h8
    exact lL26 FU (0 : Int32) σ2 _ _ _ Z (lv_sub hl [1, 0] rfl) h2
  · have h9 := dit h0 c1
    clear h0
    refine lv_aload_n hx hb dX12_back_7 rfl (lv_at hl 0 rfl) ?_
    refine lv_ldc hx hb B.2.2.2.1 (B.2.2.2.2.1 _ kc_RX12_201) dX12_back_8 ?_
    obtain ⟨r11, σ12, hc9, h10⟩ := db2_s h9
    clear h9
    refine cV_I [.int (-1000003 : Int32)] [] B mx_yX12_refuses (c_fMM_refuses l X _ (-1000003 : Int32) σ r11 σ12 hc9) kl_RX12_168 mi_yX12_refuses (rv_33 _ _) hcl_12 Z hl rfl rfl ⟨Nat.le_of_ble_eq_true rfl, Nat.le_of_ble_eq_true rfl⟩ rfl rfl (Nat.le_of_ble_eq_true rfl) dX12_back_10 (fun H locs Z => ?_)
    clear hc9
    exact reI B Z rfl hz h10 dX12_back_13
theorem dX12_toldOf_0 : decode cX12_toldOf 0 = .ok (.iload_n 1, 1) := by decide +kernel
theorem dX12_toldOf_1 : decode cX12_toldOf 1 = .ok (.iconst 3, 1) := by decide +kernel
theorem dX12_toldOf_2 : decode cX12_toldOf 2 = .ok (.if_icmp .ge 12, 3) := by decide +kernel
theorem dX12_toldOf_5 : decode cX12_toldOf 5 = .ok (.aload_n 0, 1) := by decide +kernel
theorem dX12_toldOf_6 : decode cX12_toldOf 6 = .ok (.getfield 16, 3) := by decide +kernel
theorem dX12_toldOf_9 : decode cX12_toldOf 9 = .ok (.iload_n 1, 1) := by decide +kernel
theorem dX12_toldOf_10 : decode cX12_toldOf 10 = .ok (.iaload, 1) := by decide +kernel
theorem dX12_toldOf_11 : decode cX12_toldOf 11 = .ok (.goto 33, 3) := by decide +kernel
theorem dX12_toldOf_14 : decode cX12_toldOf 14 = .ok (.iload_n 1, 1) := by decide +kernel
theorem dX12_toldOf_15 : decode cX12_toldOf 15 = .ok (.iconst 3, 1) := by decide +kernel
theorem dX12_toldOf_16 : decode cX12_toldOf 16 = .ok (.if_icmp .ne 10, 3) := by decide +kernel
theorem dX12_toldOf_19 : decode cX12_toldOf 19 = .ok (.aload_n 0, 1) := by decide +kernel
theorem dX12_toldOf_20 : decode cX12_toldOf 20 = .ok (.getfield 293, 3) := by decide +kernel
theorem dX12_toldOf_23 : decode cX12_toldOf 23 = .ok (.goto 21, 3) := by decide +kernel
theorem dX12_toldOf_26 : decode cX12_toldOf 26 = .ok (.iload_n 1, 1) := by decide +kernel
theorem dX12_toldOf_27 : decode cX12_toldOf 27 = .ok (.iconst 4, 1) := by decide +kernel
theorem dX12_toldOf_28 : decode cX12_toldOf 28 = .ok (.if_icmp .ne 12, 3) := by decide +kernel
theorem dX12_toldOf_31 : decode cX12_toldOf 31 = .ok (.aload_n 0, 1) := by decide +kernel
theorem dX12_toldOf_32 : decode cX12_toldOf 32 = .ok (.getfield 7, 3) := by decide +kernel
theorem dX12_toldOf_35 : decode cX12_toldOf 35 = .ok (.iconst 0, 1) := by decide +kernel
theorem dX12_toldOf_36 : decode cX12_toldOf 36 = .ok (.iaload, 1) := by decide +kernel
theorem dX12_toldOf_37 : decode cX12_toldOf 37 = .ok (.goto 7, 3) := by decide +kernel
theorem dX12_toldOf_40 : decode cX12_toldOf 40 = .ok (.aload_n 0, 1) := by decide +kernel
theorem dX12_toldOf_41 : decode cX12_toldOf 41 = .ok (.getfield 64, 3) := by decide +kernel
theorem dX12_toldOf_44 : decode cX12_toldOf 44 = .ok (.ireturn, 1) := by decide +kernel
def rm_fMM_toldOf : Room := { frames := 1, cells := 0, slots := 0, locals := 60 }
set_option maxHeartbeats 4000000 in
set_option maxRecDepth 100000 in
theorem c_fMM_toldOf (l : Launch) (X : eX) (sz : Nat) (a1 : Int32) (σ : sT) (rz : Int32) (h0 : fMM_toldOf a1 σ = some rz) : ctI l yX12_toldOf cX12_toldOf 2 (some .int) rm_fMM_toldOf [.ref (X.2.1 33), .int a1] (wM X) (tM X) (aM X) X sz σ rz σ := by
  refine ct_of (by decide +kernel) (Nat.le_of_ble_eq_true rfl) ?_
  intro p e s m args below meth c ls hz B hl Z
  have B : Bd p s m args meth c RX12 cX12_toldOf 2 (some .int) := B
  have hl : lv_has ls 2 [(0, .ref (X.2.1 33)), (1, .int a1)] := hl
  have hx := B.1
  have hb := B.2.1
  unfold fMM_toldOf at h0
  refine lv_iload_n hx hb dX12_toldOf_0 rfl (lv_at hl 1 rfl) ?_
  refine lv_iconst (v := (3 : Int32)) hx hb dX12_toldOf_1 (by decide) ?_
  refine lv_icmp_ge (tgt := 14) hx hb dX12_toldOf_2 (by decide) (fun c1 => ?_) (fun c1 => ?_)
  · have h1 := dit h0 c1
    clear h0
    refine lv_iload_n hx hb dX12_toldOf_14 rfl (lv_at hl 1 rfl) ?_
    refine lv_iconst (v := (3 : Int32)) hx hb dX12_toldOf_15 (by decide) ?_
    refine lv_icmp_ne (tgt := 26) hx hb dX12_toldOf_16 (by decide) (fun c2 => ?_) (fun c2 => ?_)
    · have h2 := dif h1 c2
      clear h1
      refine lv_iload_n hx hb dX12_toldOf_26 rfl (lv_at hl 1 rfl) ?_
      refine lv_iconst (v := (4 : Int32)) hx hb dX12_toldOf_27 (by decide) ?_
      refine lv_icmp_ne (tgt := 40) hx hb dX12_toldOf_28 (by decide) (fun c3 => ?_) (fun c3 => ?_)
      · have h3 := dif h2 c3
        clear h2
        refine lv_aload_n hx hb dX12_toldOf_40 rfl (lv_at hl 0 rfl) ?_
        refine g_33_2 B Z kf_RX12_64 dX12_toldOf_41 ?_
        exact reI B Z rfl hz (congrArg (Option.map (fun q => (q, σ))) h3) dX12_toldOf_44
      · have h4 := dit h2 c3
        clear h2
        refine lv_aload_n hx hb dX12_toldOf_31 rfl (lv_at hl 0 rfl) ?_
        refine g_33_0 B Z kf_RX12_7 dX12_toldOf_32 ?_
        refine lv_iconst (v := (0 : Int32)) hx hb dX12_toldOf_35 (by decide) ?_
        obtain ⟨z4, h5⟩ := dck_s h4
        clear h4
        refine ld_34 B Z z4 dX12_toldOf_36 ?_
        refine lv_goto (tgt := 44) hx hb dX12_toldOf_37 (by decide) ?_
        exact reI B Z rfl hz (congrArg (Option.map (fun q => (q, σ))) h5) dX12_toldOf_44
    · have h6 := dit h1 c2
      clear h1
      refine lv_aload_n hx hb dX12_toldOf_19 rfl (lv_at hl 0 rfl) ?_
      refine g_33_26 B Z kf_RX12_293 dX12_toldOf_20 ?_
      refine lv_goto (tgt := 44) hx hb dX12_toldOf_23 (by decide) ?_
      exact reI B Z rfl hz (congrArg (Option.map (fun q => (q, σ))) h6) dX12_toldOf_44
  · have h7 := dif h0 c1
    clear h0
    refine lv_aload_n hx hb dX12_toldOf_5 rfl (lv_at hl 0 rfl) ?_
    refine g_33_3 B Z kf_RX12_16 dX12_toldOf_6 ?_
    refine lv_iload_n hx hb dX12_toldOf_9 rfl (lv_at hl 1 rfl) ?_
    obtain ⟨z5, h8⟩ := dck_s h7
    clear h7
    refine ld_36 B Z z5 dX12_toldOf_10 ?_
    refine lv_goto (tgt := 44) hx hb dX12_toldOf_11 (by decide) ?_
    exact reI B Z rfl hz (congrArg (Option.map (fun q => (q, σ))) h8) dX12_toldOf_44
