theorem dX8_take_0 : decode cX8_take 0 = .ok (.lload_n 1, 1) := by decide +kernel
theorem dX8_take_1 : decode cX8_take 1 = .ok (.lconst 0, 1) := by decide +kernel
theorem dX8_take_2 : decode cX8_take 2 = .ok (.lcmp, 1) := by decide +kernel
theorem dX8_take_3 : decode cX8_take 3 = .ok (.ifCond .le 7, 3) := by decide +kernel
theorem dX8_take_6 : decode cX8_take 6 = .ok (.lload_n 3, 1) := by decide +kernel
theorem dX8_take_7 : decode cX8_take 7 = .ok (.goto 5, 3) := by decide +kernel
theorem dX8_take_10 : decode cX8_take 10 = .ok (.lload_n 3, 1) := by decide +kernel
theorem dX8_take_11 : decode cX8_take 11 = .ok (.lneg, 1) := by decide +kernel
theorem dX8_take_12 : decode cX8_take 12 = .ok (.lstore 6, 2) := by decide +kernel
theorem dX8_take_14 : decode cX8_take 14 = .ok (.lload_n 1, 1) := by decide +kernel
theorem dX8_take_15 : decode cX8_take 15 = .ok (.invokestatic 18, 3) := by decide +kernel
theorem dX8_take_18 : decode cX8_take 18 = .ok (.lstore 8, 2) := by decide +kernel
theorem dX8_take_20 : decode cX8_take 20 = .ok (.lload 8, 2) := by decide +kernel
theorem dX8_take_22 : decode cX8_take 22 = .ok (.lconst 0, 1) := by decide +kernel
theorem dX8_take_23 : decode cX8_take 23 = .ok (.lcmp, 1) := by decide +kernel
theorem dX8_take_24 : decode cX8_take 24 = .ok (.ifCond .eq 33, 3) := by decide +kernel
theorem dX8_take_27 : decode cX8_take 27 = .ok (.iload 5, 2) := by decide +kernel
theorem dX8_take_29 : decode cX8_take 29 = .ok (.iconst 2, 1) := by decide +kernel
theorem dX8_take_30 : decode cX8_take 30 = .ok (.if_icmp .eq 9, 3) := by decide +kernel
theorem dX8_take_33 : decode cX8_take 33 = .ok (.lload_n 1, 1) := by decide +kernel
theorem dX8_take_34 : decode cX8_take 34 = .ok (.lconst 0, 1) := by decide +kernel
theorem dX8_take_35 : decode cX8_take 35 = .ok (.lcmp, 1) := by decide +kernel
theorem dX8_take_36 : decode cX8_take 36 = .ok (.ifCond .le 21, 3) := by decide +kernel
theorem dX8_take_39 : decode cX8_take 39 = .ok (.aload_n 0, 1) := by decide +kernel
theorem dX8_take_40 : decode cX8_take 40 = .ok (.lload 6, 2) := by decide +kernel
theorem dX8_take_42 : decode cX8_take 42 = .ok (.lload 8, 2) := by decide +kernel
theorem dX8_take_44 : decode cX8_take 44 = .ok (.iload 5, 2) := by decide +kernel
theorem dX8_take_46 : decode cX8_take 46 = .ok (.ifCond .ne 7, 3) := by decide +kernel
theorem dX8_take_49 : decode cX8_take 49 = .ok (.iconst 1, 1) := by decide +kernel
theorem dX8_take_50 : decode cX8_take 50 = .ok (.goto 4, 3) := by decide +kernel
theorem dX8_take_53 : decode cX8_take 53 = .ok (.iconst 0, 1) := by decide +kernel
theorem dX8_take_54 : decode cX8_take 54 = .ok (.invokevirtual 24, 3) := by decide +kernel
theorem dX8_take_57 : decode cX8_take 57 = .ok (.lload 8, 2) := by decide +kernel
theorem dX8_take_59 : decode cX8_take 59 = .ok (.lconst 0, 1) := by decide +kernel
theorem dX8_take_60 : decode cX8_take 60 = .ok (.lcmp, 1) := by decide +kernel
theorem dX8_take_61 : decode cX8_take 61 = .ok (.ifCond .eq 33, 3) := by decide +kernel
theorem dX8_take_64 : decode cX8_take 64 = .ok (.iload 5, 2) := by decide +kernel
theorem dX8_take_66 : decode cX8_take 66 = .ok (.iconst 2, 1) := by decide +kernel
theorem dX8_take_67 : decode cX8_take 67 = .ok (.if_icmp .eq 9, 3) := by decide +kernel
theorem dX8_take_70 : decode cX8_take 70 = .ok (.lload_n 1, 1) := by decide +kernel
theorem dX8_take_71 : decode cX8_take 71 = .ok (.lconst 0, 1) := by decide +kernel
theorem dX8_take_72 : decode cX8_take 72 = .ok (.lcmp, 1) := by decide +kernel
theorem dX8_take_73 : decode cX8_take 73 = .ok (.ifCond .ge 21, 3) := by decide +kernel
theorem dX8_take_76 : decode cX8_take 76 = .ok (.aload_n 0, 1) := by decide +kernel
theorem dX8_take_77 : decode cX8_take 77 = .ok (.lload 6, 2) := by decide +kernel
theorem dX8_take_79 : decode cX8_take 79 = .ok (.lload 8, 2) := by decide +kernel
theorem dX8_take_81 : decode cX8_take 81 = .ok (.iload 5, 2) := by decide +kernel
theorem dX8_take_83 : decode cX8_take 83 = .ok (.ifCond .ne 7, 3) := by decide +kernel
theorem dX8_take_86 : decode cX8_take 86 = .ok (.iconst 1, 1) := by decide +kernel
theorem dX8_take_87 : decode cX8_take 87 = .ok (.goto 4, 3) := by decide +kernel
theorem dX8_take_90 : decode cX8_take 90 = .ok (.iconst 0, 1) := by decide +kernel
theorem dX8_take_91 : decode cX8_take 91 = .ok (.invokevirtual 28, 3) := by decide +kernel
theorem dX8_take_94 : decode cX8_take 94 = .ok (.return_, 1) := by decide +kernel
def rm_fSp_take : Room := { frames := 4, cells := 0, slots := 0, locals := 155 }
set_option maxHeartbeats 4000000 in
set_option maxRecDepth 100000 in
theorem c_fSp_take (l : Launch) (X : eX) (sz : Nat) (a1 : Int64) (a2 : Int64) (a3 : Int32) (σ : sT) (σz : sT) (h0 : fSp_take a1 a2 a3 σ = some σz) : ctV l yX8_take cX8_take 10 none rm_fSp_take [.ref (X.2.1 15), .long a1, .long a2, .int a3] (wC X) (tC X) (aC X) X sz σ σz := by
  refine ct_of (by decide +kernel) (Nat.le_of_ble_eq_true rfl) ?_
  intro p e s m args below meth c ls hz B hl Z
  have B : Bd p s m args meth c RX8 cX8_take 10 none := B
  have hl : lv_has ls 10 [(0, .ref (X.2.1 15)), (1, .long a1), (3, .long a2), (5, .int a3)] := hl
  have hx := B.1
  have hb := B.2.1
  unfold fSp_take at h0
  refine lv_lload_n hx hb dX8_take_0 rfl (lv_at hl 1 rfl) ?_
  refine lv_lconst (v := (0 : Int64)) hx hb dX8_take_1 (by decide) ?_
  refine W.lcmp hx hb dX8_take_2 ?_
  obtain ⟨J2, eJ2, h31⟩ := dlt_s h0
  clear h0
  have kJ2 : ∀ (x1 : Int64) (H : Heap) (locs : List Loc) (ls : Array Slot), Wd (wC X) (tC X) (aC X) X s σ H locs → lv_has ls 10 [(0, .ref (X.2.1 15)), (1, .long a1), (5, .int a3)] → J2 x1 = some σz → W p l e rm_fSp_take s m args below meth c H locs 0 0 (MQ below (va_Qv (fun u => u = σz) (poW (wC X) (tC X) (aC X) X sz) (aA (aC X) sz)) args s 0 0 (aA (aC X) sz)) (F0 m 12 ls [.long x1]) := by
    intro x1 H locs ls Z hl h1
    rw [eJ2] at h1
    refine lv_lstore (lv' := [(6, .long x1), (0, .ref (X.2.1 15)), (1, .long a1), (5, .int a3)]) hx hb dX8_take_12 hl (by decide) rfl (fun ls hl => ?_)
    refine lv_lload_n hx hb dX8_take_14 rfl (lv_at hl 2 rfl) ?_
    refine va_mabs_long hx hb (B.2.2.1.trans hl.1.symm) B.2.2.2.1 (B.2.2.2.2.1 _ kl_RX8_18) (B.2.2.2.2.1 _ ks_JabsJ) (B.2.2.2.2.1 _ kz_RJ9) (B.2.2.2.2.1 _ kd_JabsJ) (Nat.le_of_ble_eq_true rfl) (Nat.le_of_ble_eq_true rfl) (Nat.zero_le _) (Nat.zero_le _) dX8_take_15 ?_
    refine lv_topl (fun x3 ex3 => ?_)
    have h2 := dlt_e ex3 h1
    clear ex3 h1
    refine lv_lstore (lv' := [(8, .long x3), (6, .long x1), (0, .ref (X.2.1 15)), (1, .long a1), (5, .int a3)]) hx hb dX8_take_18 hl (by decide) rfl (fun ls hl => ?_)
    refine lv_lload hx hb dX8_take_20 (lv_at hl 0 rfl) ?_
    refine lv_lconst (v := (0 : Int64)) hx hb dX8_take_22 (by decide) ?_
    refine W.lcmp hx hb dX8_take_23 ?_
    obtain ⟨J5, eJ5, h17⟩ := dlt_s h2
    clear h2
    have kJ5 : ∀ (σ4 : sT) (H : Heap) (locs : List Loc) (ls : Array Slot), Wd (wC X) (tC X) (aC X) X s σ4 H locs → lv_has ls 10 [(0, .ref (X.2.1 15)), (1, .long a1), (5, .int a3), (6, .long x1), (8, .long x3)] → J5 σ4 = some σz → W p l e rm_fSp_take s m args below meth c H locs 0 0 (MQ below (va_Qv (fun u => u = σz) (poW (wC X) (tC X) (aC X) X sz) (aA (aC X) sz)) args s 0 0 (aA (aC X) sz)) (F0 m 57 ls []) := by
      intro σ4 H locs ls Z hl h3
      rw [eJ5] at h3
      refine lv_lload hx hb dX8_take_57 (lv_at hl 4 rfl) ?_
      refine lv_lconst (v := (0 : Int64)) hx hb dX8_take_59 (by decide) ?_
      refine W.lcmp hx hb dX8_take_60 ?_
      refine lv_if_eq (tgt := 94) hx hb dX8_take_61 (by decide) (fun c6 => ?_) (fun c6 => ?_)
      · have h4 := dit h3 c6
        clear h3
        exact reV B Z hz h4 dX8_take_94
      · have h5 := dif h3 c6
        clear h3
        refine lv_iload hx hb dX8_take_64 (lv_at hl 2 rfl) ?_
        refine lv_iconst (v := (2 : Int32)) hx hb dX8_take_66 (by decide) ?_
        obtain ⟨J7, eJ7, h12⟩ := dlt_s h5
        clear h5
        have kJ7 : ∀ (H : Heap) (locs : List Loc) (ls : Array Slot), Wd (wC X) (tC X) (aC X) X s σ4 H locs → lv_has ls 10 [(0, .ref (X.2.1 15)), (5, .int a3), (6, .long x1), (8, .long x3)] → J7 () = some σz → W p l e rm_fSp_take s m args below meth c H locs 0 0 (MQ below (va_Qv (fun u => u = σz) (poW (wC X) (tC X) (aC X) X sz) (aA (aC X) sz)) args s 0 0 (aA (aC X) sz)) (F0 m 76 ls []) := by
          intro  H locs ls Z hl h6
          rw [eJ7] at h6
          refine lv_aload_n hx hb dX8_take_76 rfl (lv_at hl 0 rfl) ?_
          refine lv_lload hx hb dX8_take_77 (lv_at hl 2 rfl) ?_
          refine lv_lload hx hb dX8_take_79 (lv_at hl 3 rfl) ?_
          refine lv_iload hx hb dX8_take_81 (lv_at hl 1 rfl) ?_
          obtain ⟨J11, eJ11, h9⟩ := dlt_s h6
          clear h6
          have kJ11 : ∀ (x8 : Int64) (x9 : Int64) (x10 : Int32) (H : Heap) (locs : List Loc) (ls : Array Slot), Wd (wC X) (tC X) (aC X) X s σ4 H locs → lv_has ls 10 [] → J11 x8 x9 x10 = some σz → W p l e rm_fSp_take s m args below meth c H locs 0 0 (MQ below (va_Qv (fun u => u = σz) (poW (wC X) (tC X) (aC X) X sz) (aA (aC X) sz)) args s 0 0 (aA (aC X) sz)) (F0 m 91 ls [.int x10, .long x9, .long x8, .ref (X.2.1 15)]) := by
            intro x8 x9 x10 H locs ls Z hl h7
            rw [eJ11] at h7
            obtain ⟨σ13, hc11, h8⟩ := db1_s h7
            clear h7
            refine cV_V [.long x8, .long x9, .int x10] [] B mx_yX8_raiseLow (c_fSp_raiseLow l X _ x8 x9 x10 σ4 σ13 hc11) kl_RX8_28 mi_yX8_raiseLow (rv_15 _ _) hcl_8 Z hl rfl rfl ⟨Nat.le_of_ble_eq_true rfl, Nat.le_of_ble_eq_true rfl⟩ rfl rfl (Nat.le_of_ble_eq_true rfl) dX8_take_91 (fun H locs Z => ?_)
            clear hc11
            exact reV B Z hz h8 dX8_take_94
          clear eJ11
          refine lv_if_ne (tgt := 90) hx hb dX8_take_83 (by decide) (fun c14 => ?_) (fun c14 => ?_)
          · have h10 := dif h9 c14
            clear h9
            refine lv_iconst (v := (0 : Int32)) hx hb dX8_take_90 (by decide) ?_
            exact kJ11 x1 x3 (0 : Int32) _ _ _ Z (lv_sub hl [] rfl) h10
          · have h11 := dit h9 c14
            clear h9
            refine lv_iconst (v := (1 : Int32)) hx hb dX8_take_86 (by decide) ?_
            refine lv_goto (tgt := 91) hx hb dX8_take_87 (by decide) ?_
            exact kJ11 x1 x3 (1 : Int32) _ _ _ Z (lv_sub hl [] rfl) h11
        clear eJ7
        refine lv_icmp_eq (tgt := 76) hx hb dX8_take_67 (by decide) (fun c15 => ?_) (fun c15 => ?_)
        · have h13 := dit h12 c15
          clear h12
          exact kJ7  _ _ _ Z (lv_sub hl [0, 2, 3, 4] rfl) h13
        · have h14 := dif h12 c15
          clear h12
          refine lv_lload_n hx hb dX8_take_70 rfl (lv_at hl 1 rfl) ?_
          refine lv_lconst (v := (0 : Int64)) hx hb dX8_take_71 (by decide) ?_
          refine W.lcmp hx hb dX8_take_72 ?_
          refine lv_if_ge (tgt := 94) hx hb dX8_take_73 (by decide) (fun c16 => ?_) (fun c16 => ?_)
          · have h15 := dit h14 c16
            clear h14
            exact reV B Z hz h15 dX8_take_94
          · have h16 := dif h14 c16
            clear h14
            exact kJ7  _ _ _ Z (lv_sub hl [0, 2, 3, 4] rfl) h16
    clear eJ5
    refine lv_if_eq (tgt := 57) hx hb dX8_take_24 (by decide) (fun c17 => ?_) (fun c17 => ?_)
    · have h18 := dit h17 c17
      clear h17
      exact kJ5 σ _ _ _ Z (lv_sub hl [2, 3, 4, 1, 0] rfl) h18
    · have h19 := dif h17 c17
      clear h17
      refine lv_iload hx hb dX8_take_27 (lv_at hl 4 rfl) ?_
      refine lv_iconst (v := (2 : Int32)) hx hb dX8_take_29 (by decide) ?_
      obtain ⟨J18, eJ18, h26⟩ := dlt_s h19
      clear h19
      have kJ18 : ∀ (H : Heap) (locs : List Loc) (ls : Array Slot), Wd (wC X) (tC X) (aC X) X s σ H locs → lv_has ls 10 [(0, .ref (X.2.1 15)), (1, .long a1), (5, .int a3), (6, .long x1), (8, .long x3)] → J18 () = some σz → W p l e rm_fSp_take s m args below meth c H locs 0 0 (MQ below (va_Qv (fun u => u = σz) (poW (wC X) (tC X) (aC X) X sz) (aA (aC X) sz)) args s 0 0 (aA (aC X) sz)) (F0 m 39 ls []) := by
        intro  H locs ls Z hl h20
        rw [eJ18] at h20
        refine lv_aload_n hx hb dX8_take_39 rfl (lv_at hl 0 rfl) ?_
        refine lv_lload hx hb dX8_take_40 (lv_at hl 3 rfl) ?_
        refine lv_lload hx hb dX8_take_42 (lv_at hl 4 rfl) ?_
        refine lv_iload hx hb dX8_take_44 (lv_at hl 2 rfl) ?_
        obtain ⟨J22, eJ22, h23⟩ := dlt_s h20
        clear h20
        have kJ22 : ∀ (x19 : Int64) (x20 : Int64) (x21 : Int32) (H : Heap) (locs : List Loc) (ls : Array Slot), Wd (wC X) (tC X) (aC X) X s σ H locs → lv_has ls 10 [(0, .ref (X.2.1 15)), (1, .long a1), (5, .int a3), (6, .long x1), (8, .long x3)] → J22 x19 x20 x21 = some σz → W p l e rm_fSp_take s m args below meth c H locs 0 0 (MQ below (va_Qv (fun u => u = σz) (poW (wC X) (tC X) (aC X) X sz) (aA (aC X) sz)) args s 0 0 (aA (aC X) sz)) (F0 m 54 ls [.int x21, .long x20, .long x19, .ref (X.2.1 15)]) := by
          intro x19 x20 x21 H locs ls Z hl h21
          rw [eJ22] at h21
          obtain ⟨σ24, hc22, h22⟩ := db1_s h21
          clear h21
          refine cV_V [.long x19, .long x20, .int x21] [] B mx_yX8_lowerHigh (c_fSp_lowerHigh l X _ x19 x20 x21 σ σ24 hc22) kl_RX8_24 mi_yX8_lowerHigh (rv_15 _ _) hcl_8 Z hl rfl rfl ⟨Nat.le_of_ble_eq_true rfl, Nat.le_of_ble_eq_true rfl⟩ rfl rfl (Nat.le_of_ble_eq_true rfl) dX8_take_54 (fun H locs Z => ?_)
          clear hc22
          exact kJ5 σ24 _ _ _ Z (lv_sub hl [0, 1, 2, 3, 4] rfl) h22
        clear eJ22
        refine lv_if_ne (tgt := 53) hx hb dX8_take_46 (by decide) (fun c25 => ?_) (fun c25 => ?_)
        · have h24 := dif h23 c25
          clear h23
          refine lv_iconst (v := (0 : Int32)) hx hb dX8_take_53 (by decide) ?_
          exact kJ22 x1 x3 (0 : Int32) _ _ _ Z (lv_sub hl [0, 1, 2, 3, 4] rfl) h24
        · have h25 := dit h23 c25
          clear h23
          refine lv_iconst (v := (1 : Int32)) hx hb dX8_take_49 (by decide) ?_
          refine lv_goto (tgt := 54) hx hb dX8_take_50 (by decide) ?_
          exact kJ22 x1 x3 (1 : Int32) _ _ _ Z (lv_sub hl [0, 1, 2, 3, 4] rfl) h25
      clear eJ18
      refine lv_icmp_eq (tgt := 39) hx hb dX8_take_30 (by decide) (fun c26 => ?_) (fun c26 => ?_)
      · have h27 := dit h26 c26
        clear h26
        exact kJ18  _ _ _ Z (lv_sub hl [2, 3, 4, 1, 0] rfl) h27
      · have h28 := dif h26 c26
        clear h26
        refine lv_lload_n hx hb dX8_take_33 rfl (lv_at hl 3 rfl) ?_
        refine lv_lconst (v := (0 : Int64)) hx hb dX8_take_34 (by decide) ?_
        refine W.lcmp hx hb dX8_take_35 ?_
        refine lv_if_le (tgt := 57) hx hb dX8_take_36 (by decide) (fun c27 => ?_) (fun c27 => ?_)
        · have h29 := dit h28 c27
          clear h28
          exact kJ5 σ _ _ _ Z (lv_sub hl [2, 3, 4, 1, 0] rfl) h29
        · have h30 := dif h28 c27
          clear h28
          exact kJ18  _ _ _ Z (lv_sub hl [2, 3, 4, 1, 0] rfl) h30
  clear eJ2
  refine lv_if_le (tgt := 10) hx hb dX8_take_3 (by decide) (fun c28 => ?_) (fun c28 => ?_)
  · have h32 := dit h31 c28
    clear h31
    refine lv_lload_n hx hb dX8_take_10 rfl (lv_at hl 2 rfl) ?_
    refine lv_lneg hx hb dX8_take_11 ?_
    exact kJ2 (-a2) _ _ _ Z (lv_sub hl [0, 1, 3] rfl) h32
  · have h33 := dif h31 c28
    clear h31
    refine lv_lload_n hx hb dX8_take_6 rfl (lv_at hl 2 rfl) ?_
    refine lv_goto (tgt := 12) hx hb dX8_take_7 (by decide) ?_
    exact kJ2 a2 _ _ _ Z (lv_sub hl [0, 1, 3] rfl) h33
theorem dX7_narrow_0 : decode cX7_narrow 0 = .ok (.aload_n 0, 1) := by decide +kernel
theorem dX7_narrow_1 : decode cX7_narrow 1 = .ok (.getfield 29, 3) := by decide +kernel
theorem dX7_narrow_4 : decode cX7_narrow 4 = .ok (.invokevirtual 90, 3) := by decide +kernel
theorem dX7_narrow_7 : decode cX7_narrow 7 = .ok (.aload_n 0, 1) := by decide +kernel
theorem dX7_narrow_8 : decode cX7_narrow 8 = .ok (.getfield 16, 3) := by decide +kernel
theorem dX7_narrow_11 : decode cX7_narrow 11 = .ok (.iload_n 1, 1) := by decide +kernel
theorem dX7_narrow_12 : decode cX7_narrow 12 = .ok (.iconst 2, 1) := by decide +kernel
theorem dX7_narrow_13 : decode cX7_narrow 13 = .ok (.if_icmp .ne 7, 3) := by decide +kernel
theorem dX7_narrow_16 : decode cX7_narrow 16 = .ok (.iconst 1, 1) := by decide +kernel
theorem dX7_narrow_17 : decode cX7_narrow 17 = .ok (.goto 4, 3) := by decide +kernel
theorem dX7_narrow_20 : decode cX7_narrow 20 = .ok (.iconst 2, 1) := by decide +kernel
theorem dX7_narrow_21 : decode cX7_narrow 21 = .ok (.aload_n 0, 1) := by decide +kernel
theorem dX7_narrow_22 : decode cX7_narrow 22 = .ok (.getfield 20, 3) := by decide +kernel
theorem dX7_narrow_25 : decode cX7_narrow 25 = .ok (.invokevirtual 93, 3) := by decide +kernel
theorem dX7_narrow_28 : decode cX7_narrow 28 = .ok (.aload_n 0, 1) := by decide +kernel
theorem dX7_narrow_29 : decode cX7_narrow 29 = .ok (.getfield 20, 3) := by decide +kernel
theorem dX7_narrow_32 : decode cX7_narrow 32 = .ok (.getfield 70, 3) := by decide +kernel
theorem dX7_narrow_35 : decode cX7_narrow 35 = .ok (.ifCond .eq 5, 3) := by decide +kernel
theorem dX7_narrow_38 : decode cX7_narrow 38 = .ok (.iconst 0, 1) := by decide +kernel
theorem dX7_narrow_39 : decode cX7_narrow 39 = .ok (.ireturn, 1) := by decide +kernel
theorem dX7_narrow_40 : decode cX7_narrow 40 = .ok (.aload_n 0, 1) := by decide +kernel
theorem dX7_narrow_41 : decode cX7_narrow 41 = .ok (.getfield 20, 3) := by decide +kernel
theorem dX7_narrow_44 : decode cX7_narrow 44 = .ok (.iload_n 1, 1) := by decide +kernel
theorem dX7_narrow_45 : decode cX7_narrow 45 = .ok (.ifCond .ne 7, 3) := by decide +kernel
theorem dX7_narrow_48 : decode cX7_narrow 48 = .ok (.iconst 1, 1) := by decide +kernel
theorem dX7_narrow_49 : decode cX7_narrow 49 = .ok (.goto 4, 3) := by decide +kernel
theorem dX7_narrow_52 : decode cX7_narrow 52 = .ok (.iconst 0, 1) := by decide +kernel
theorem dX7_narrow_53 : decode cX7_narrow 53 = .ok (.aload_n 0, 1) := by decide +kernel
theorem dX7_narrow_54 : decode cX7_narrow 54 = .ok (.getfield 23, 3) := by decide +kernel
theorem dX7_narrow_57 : decode cX7_narrow 57 = .ok (.invokevirtual 93, 3) := by decide +kernel
theorem dX7_narrow_60 : decode cX7_narrow 60 = .ok (.aload_n 0, 1) := by decide +kernel
theorem dX7_narrow_61 : decode cX7_narrow 61 = .ok (.getfield 23, 3) := by decide +kernel
theorem dX7_narrow_64 : decode cX7_narrow 64 = .ok (.getfield 70, 3) := by decide +kernel
theorem dX7_narrow_67 : decode cX7_narrow 67 = .ok (.ifCond .eq 5, 3) := by decide +kernel
theorem dX7_narrow_70 : decode cX7_narrow 70 = .ok (.iconst 0, 1) := by decide +kernel
theorem dX7_narrow_71 : decode cX7_narrow 71 = .ok (.ireturn, 1) := by decide +kernel
theorem dX7_narrow_72 : decode cX7_narrow 72 = .ok (.iconst 0, 1) := by decide +kernel
theorem dX7_narrow_73 : decode cX7_narrow 73 = .ok (.istore_n 2, 1) := by decide +kernel
theorem dX7_narrow_74 : decode cX7_narrow 74 = .ok (.iload_n 2, 1) := by decide +kernel
theorem dX7_narrow_75 : decode cX7_narrow 75 = .ok (.aload_n 0, 1) := by decide +kernel
theorem dX7_narrow_76 : decode cX7_narrow 76 = .ok (.getfield 23, 3) := by decide +kernel
theorem dX7_narrow_79 : decode cX7_narrow 79 = .ok (.getfield 57, 3) := by decide +kernel
theorem dX7_narrow_82 : decode cX7_narrow 82 = .ok (.if_icmp .ge 51, 3) := by decide +kernel
theorem dX7_narrow_85 : decode cX7_narrow 85 = .ok (.iload_n 2, 1) := by decide +kernel
theorem dX7_narrow_86 : decode cX7_narrow 86 = .ok (.iconst 4, 1) := by decide +kernel
theorem dX7_narrow_87 : decode cX7_narrow 87 = .ok (.imul, 1) := by decide +kernel
theorem dX7_narrow_88 : decode cX7_narrow 88 = .ok (.istore_n 3, 1) := by decide +kernel
theorem dX7_narrow_89 : decode cX7_narrow 89 = .ok (.aload_n 0, 1) := by decide +kernel
theorem dX7_narrow_90 : decode cX7_narrow 90 = .ok (.getfield 29, 3) := by decide +kernel
theorem dX7_narrow_93 : decode cX7_narrow 93 = .ok (.aload_n 0, 1) := by decide +kernel
theorem dX7_narrow_94 : decode cX7_narrow 94 = .ok (.getfield 23, 3) := by decide +kernel
theorem dX7_narrow_97 : decode cX7_narrow 97 = .ok (.getfield 97, 3) := by decide +kernel
theorem dX7_narrow_100 : decode cX7_narrow 100 = .ok (.iload_n 3, 1) := by decide +kernel
theorem dX7_narrow_101 : decode cX7_narrow 101 = .ok (.iload_n 1, 1) := by decide +kernel
theorem dX7_narrow_102 : decode cX7_narrow 102 = .ok (.iadd, 1) := by decide +kernel
theorem dX7_narrow_103 : decode cX7_narrow 103 = .ok (.laload, 1) := by decide +kernel
theorem dX7_narrow_104 : decode cX7_narrow 104 = .ok (.aload_n 0, 1) := by decide +kernel
theorem dX7_narrow_105 : decode cX7_narrow 105 = .ok (.getfield 23, 3) := by decide +kernel
theorem dX7_narrow_108 : decode cX7_narrow 108 = .ok (.getfield 97, 3) := by decide +kernel
theorem dX7_narrow_111 : decode cX7_narrow 111 = .ok (.iload_n 3, 1) := by decide +kernel
theorem dX7_narrow_112 : decode cX7_narrow 112 = .ok (.iconst 3, 1) := by decide +kernel
theorem dX7_narrow_113 : decode cX7_narrow 113 = .ok (.iadd, 1) := by decide +kernel
theorem dX7_narrow_114 : decode cX7_narrow 114 = .ok (.laload, 1) := by decide +kernel
theorem dX7_narrow_115 : decode cX7_narrow 115 = .ok (.aload_n 0, 1) := by decide +kernel
theorem dX7_narrow_116 : decode cX7_narrow 116 = .ok (.getfield 23, 3) := by decide +kernel
theorem dX7_narrow_119 : decode cX7_narrow 119 = .ok (.getfield 100, 3) := by decide +kernel
theorem dX7_narrow_122 : decode cX7_narrow 122 = .ok (.iload_n 2, 1) := by decide +kernel
theorem dX7_narrow_123 : decode cX7_narrow 123 = .ok (.iaload, 1) := by decide +kernel
theorem dX7_narrow_124 : decode cX7_narrow 124 = .ok (.invokevirtual 104, 3) := by decide +kernel
theorem dX7_narrow_127 : decode cX7_narrow 127 = .ok (.iinc 2 1, 3) := by decide +kernel
theorem dX7_narrow_130 : decode cX7_narrow 130 = .ok (.goto (-56), 3) := by decide +kernel
theorem dX7_narrow_133 : decode cX7_narrow 133 = .ok (.aload_n 0, 1) := by decide +kernel
theorem dX7_narrow_134 : decode cX7_narrow 134 = .ok (.getfield 29, 3) := by decide +kernel
theorem dX7_narrow_137 : decode cX7_narrow 137 = .ok (.invokevirtual 108, 3) := by decide +kernel
theorem dX7_narrow_140 : decode cX7_narrow 140 = .ok (.ifCond .ne 7, 3) := by decide +kernel
theorem dX7_narrow_143 : decode cX7_narrow 143 = .ok (.iconst 1, 1) := by decide +kernel
theorem dX7_narrow_144 : decode cX7_narrow 144 = .ok (.goto 4, 3) := by decide +kernel
theorem dX7_narrow_147 : decode cX7_narrow 147 = .ok (.iconst 0, 1) := by decide +kernel
theorem dX7_narrow_148 : decode cX7_narrow 148 = .ok (.ireturn, 1) := by decide +kernel
def rm_fSo_narrow : Room := { frames := 5, cells := 0, slots := 0, locals := 184 }
set_option maxHeartbeats 4000000 in
set_option maxRecDepth 100000 in
theorem c_fSo_narrow (l : Launch) (X : eX) (sz : Nat) (a1 : Int32) (σ : sT) (rz : Int32) (σz : sT) (h0 : fSo_narrow a1 σ = some (rz, σz)) : ctI l yX7_narrow cX7_narrow 4 (some .boolean) rm_fSo_narrow [.ref (X.2.1 5), .int a1] (wC X) (tC X) (aC X) X sz σ rz σz := by
  refine ct_of (by decide +kernel) (Nat.le_of_ble_eq_true rfl) ?_
  intro p e s m args below meth c ls hz B hl Z
  have B : Bd p s m args meth c RX7 cX7_narrow 4 (some .boolean) := B
  have hl : lv_has ls 4 [(0, .ref (X.2.1 5)), (1, .int a1)] := hl
  have hx := B.1
  have hb := B.2.1
  unfold fSo_narrow at h0
  refine lv_aload_n hx hb dX7_narrow_0 rfl (lv_at hl 0 rfl) ?_
  refine g_5_4 B Z kf_RX7_29 dX7_narrow_1 ?_
  obtain ⟨σ2, hc0, h1⟩ := db1_s h0
  clear h0
  refine cV_V [] [] B mx_yX8_reset (c_fSp_reset l X _ σ σ2 hc0) kl_RX7_90 mi_yX8_reset (rv_15 _ _) hcl_8 Z hl rfl rfl ⟨Nat.le_of_ble_eq_true rfl, Nat.le_of_ble_eq_true rfl⟩ rfl rfl (Nat.le_of_ble_eq_true rfl) dX7_narrow_4 (fun H locs Z => ?_)
  clear hc0
  refine lv_aload_n hx hb dX7_narrow_7 rfl (lv_at hl 0 rfl) ?_
  refine g_5_1 B Z kf_RX7_16 dX7_narrow_8 ?_
  refine lv_iload_n hx hb dX7_narrow_11 rfl (lv_at hl 1 rfl) ?_
  refine lv_iconst (v := (2 : Int32)) hx hb dX7_narrow_12 (by decide) ?_
  obtain ⟨J4, eJ4, h26⟩ := dlt_s h1
  clear h1
  have kJ4 : ∀ (x3 : Int32) (H : Heap) (locs : List Loc) (ls : Array Slot), Wd (wC X) (tC X) (aC X) X s σ2 H locs → lv_has ls 4 [(0, .ref (X.2.1 5)), (1, .int a1)] → J4 x3 = some (rz, σz) → W p l e rm_fSo_narrow s m args below meth c H locs 0 0 (MQ below (va_Qi (fun a u => a = rz ∧ u = σz) (poW (wC X) (tC X) (aC X) X sz) (aA (aC X) sz)) args s 0 0 (aA (aC X) sz)) (F0 m 21 ls [.int x3, .ref (X.2.1 6)]) := by
    intro x3 H locs ls Z hl h2
    rw [eJ4] at h2
    refine lv_aload_n hx hb dX7_narrow_21 rfl (lv_at hl 0 rfl) ?_
    refine g_5_2 B Z kf_RX7_20 dX7_narrow_22 ?_
    obtain ⟨σ6, hc4, h3⟩ := db1_s h2
    clear h2
    refine cV_V [.int x3, .ref (X.2.1 9)] [] B mx_yX4_eliminate (c_fRw_eliminate_6_9 l X _ x3 σ2 σ6 hc4) kl_RX7_93 mi_yX4_eliminate (rv_6 _ _) hcl_4 Z hl rfl rfl ⟨Nat.le_of_ble_eq_true rfl, Nat.le_of_ble_eq_true rfl⟩ rfl rfl (Nat.le_of_ble_eq_true rfl) dX7_narrow_25 (fun H locs Z => ?_)
    clear hc4
    refine lv_aload_n hx hb dX7_narrow_28 rfl (lv_at hl 0 rfl) ?_
    refine g_5_2 B Z kf_RX7_20 dX7_narrow_29 ?_
    refine gn_9_3 B Z kx_RX7_70 dX7_narrow_32 ?_
    refine lv_if_eq (tgt := 40) hx hb dX7_narrow_35 (by decide) (fun c7 => ?_) (fun c7 => ?_)
    · have h4 := dit h3 c7
      clear h3
      refine lv_aload_n hx hb dX7_narrow_40 rfl (lv_at hl 0 rfl) ?_
      refine g_5_2 B Z kf_RX7_20 dX7_narrow_41 ?_
      refine lv_iload_n hx hb dX7_narrow_44 rfl (lv_at hl 1 rfl) ?_
      obtain ⟨J9, eJ9, h22⟩ := dlt_s h4
      clear h4
      have kJ9 : ∀ (x8 : Int32) (H : Heap) (locs : List Loc) (ls : Array Slot), Wd (wC X) (tC X) (aC X) X s σ6 H locs → lv_has ls 4 [(0, .ref (X.2.1 5)), (1, .int a1)] → J9 x8 = some (rz, σz) → W p l e rm_fSo_narrow s m args below meth c H locs 0 0 (MQ below (va_Qi (fun a u => a = rz ∧ u = σz) (poW (wC X) (tC X) (aC X) X sz) (aA (aC X) sz)) args s 0 0 (aA (aC X) sz)) (F0 m 53 ls [.int x8, .ref (X.2.1 9)]) := by
        intro x8 H locs ls Z hl h5
        rw [eJ9] at h5
        refine lv_aload_n hx hb dX7_narrow_53 rfl (lv_at hl 0 rfl) ?_
        refine g_5_3 B Z kf_RX7_23 dX7_narrow_54 ?_
        obtain ⟨σ11, hc9, h6⟩ := db1_s h5
        clear h5
        refine cV_V [.int x8, .ref (X.2.1 12)] [] B mx_yX4_eliminate (c_fRw_eliminate_9_12 l X _ x8 σ6 σ11 hc9) kl_RX7_93 mi_yX4_eliminate (rv_9 _ _) hcl_4 Z hl rfl rfl ⟨Nat.le_of_ble_eq_true rfl, Nat.le_of_ble_eq_true rfl⟩ rfl rfl (Nat.le_of_ble_eq_true rfl) dX7_narrow_57 (fun H locs Z => ?_)
        clear hc9
        refine lv_aload_n hx hb dX7_narrow_60 rfl (lv_at hl 0 rfl) ?_
        refine g_5_3 B Z kf_RX7_23 dX7_narrow_61 ?_
        refine gn_12_3 B Z kx_RX7_70 dX7_narrow_64 ?_
        refine lv_if_eq (tgt := 72) hx hb dX7_narrow_67 (by decide) (fun c12 => ?_) (fun c12 => ?_)
        · have h7 := dit h6 c12
          clear h6
          refine lv_iconst (v := (0 : Int32)) hx hb dX7_narrow_72 (by decide) ?_
          refine lv_istore_n (lv' := [(2, .int (0 : Int32)), (0, .ref (X.2.1 5)), (1, .int a1)]) hx hb dX7_narrow_73 rfl hl (by decide) rfl (fun ls hl => ?_)
          obtain ⟨K16, eK16, h12⟩ := dlt_s h7
          clear h7
          have kK16 : ∀ (σ15 : sT) (H : Heap) (locs : List Loc) (ls : Array Slot), Wd (wC X) (tC X) (aC X) X s σ15 H locs → lv_has ls 4 [(0, .ref (X.2.1 5))] → K16 σ15 = some (rz, σz) → W p l e rm_fSo_narrow s m args below meth c H locs 0 0 (MQ below (va_Qi (fun a u => a = rz ∧ u = σz) (poW (wC X) (tC X) (aC X) X sz) (aA (aC X) sz)) args s 0 0 (aA (aC X) sz)) (F0 m 133 ls []) := by
            intro σ15 H locs ls Z hl h8
            rw [eK16] at h8
            refine lv_aload_n hx hb dX7_narrow_133 rfl (lv_at hl 0 rfl) ?_
            refine g_5_4 B Z kf_RX7_29 dX7_narrow_134 ?_
            obtain ⟨r18, hc16, h9⟩ := db1_s h8
            clear h8
            refine cV_I [] [] B mx_yX8_isEmpty (c_fSp_isEmpty l X _ σ15 r18 hc16) kl_RX7_108 mi_yX8_isEmpty (rv_15 _ _) hcl_8 Z hl rfl rfl ⟨Nat.le_of_ble_eq_true rfl, Nat.le_of_ble_eq_true rfl⟩ rfl rfl (Nat.le_of_ble_eq_true rfl) dX7_narrow_137 (fun H locs Z => ?_)
            clear hc16
            refine lv_if_ne (tgt := 147) hx hb dX7_narrow_140 (by decide) (fun c19 => ?_) (fun c19 => ?_)
            · have h10 := dif h9 c19
              clear h9
              refine lv_iconst (v := (0 : Int32)) hx hb dX7_narrow_147 (by decide) ?_
              exact reI B Z rfl hz h10 dX7_narrow_148
            · have h11 := dit h9 c19
              clear h9
              refine lv_iconst (v := (1 : Int32)) hx hb dX7_narrow_143 (by decide) ?_
              refine lv_goto (tgt := 148) hx hb dX7_narrow_144 (by decide) ?_
              exact reI B Z rfl hz h11 dX7_narrow_148
          clear eK16
          have lL74 : ∀ (n : Nat), ∀ (x13 : Int32) (σ14 : sT) (H : Heap) (locs : List Loc) (ls : Array Slot), Wd (wC X) (tC X) (aC X) X s σ14 H locs → lv_has ls 4 [(0, .ref (X.2.1 5)), (1, .int a1), (2, .int x13)] → fSo_narrow_L74 a1 K16 n x13 σ14 = some (rz, σz) → W p l e rm_fSo_narrow s m args below meth c H locs 0 0 (MQ below (va_Qi (fun a u => a = rz ∧ u = σz) (poW (wC X) (tC X) (aC X) X sz) (aA (aC X) sz)) args s 0 0 (aA (aC X) sz)) (F0 m 74 ls []) := by
            intro n
            induction n with
            | zero =>
              intro x13 σ14 H locs ls Z hl h
              exact nomatch (show (none : Option (Int32 × sT)) = some _ from h)
            | succ n20 ih38 =>
              intro x13 σ14 H locs ls Z hl h13
              unfold fSo_narrow_L74 at h13
              refine lv_iload_n hx hb dX7_narrow_74 rfl (lv_at hl 2 rfl) ?_
              refine lv_aload_n hx hb dX7_narrow_75 rfl (lv_at hl 0 rfl) ?_
              refine g_5_3 B Z kf_RX7_23 dX7_narrow_76 ?_
              refine gn_12_2 B Z kx_RX7_57 dX7_narrow_79 ?_
              refine lv_icmp_ge (tgt := 133) hx hb dX7_narrow_82 (by decide) (fun c21 => ?_) (fun c21 => ?_)
              · have h14 := dit h13 c21
                clear h13
                exact kK16 σ14 _ _ _ Z (lv_sub hl [0] rfl) h14
              · have h15 := dif h13 c21
                clear h13
                refine lv_iload_n hx hb dX7_narrow_85 rfl (lv_at hl 2 rfl) ?_
                refine lv_iconst (v := (4 : Int32)) hx hb dX7_narrow_86 (by decide) ?_
                refine lv_imul hx hb dX7_narrow_87 ?_
                refine lv_topi (fun x22 ex22 => ?_)
                have h16 := dlt_e ex22 h15
                clear ex22 h15
                refine lv_istore_n (lv' := [(3, .int x22), (0, .ref (X.2.1 5)), (1, .int a1), (2, .int x13)]) hx hb dX7_narrow_88 rfl hl (by decide) rfl (fun ls hl => ?_)
                refine lv_aload_n hx hb dX7_narrow_89 rfl (lv_at hl 1 rfl) ?_
                refine g_5_4 B Z kf_RX7_29 dX7_narrow_90 ?_
                refine lv_aload_n hx hb dX7_narrow_93 rfl (lv_at hl 1 rfl) ?_
                refine g_5_3 B Z kf_RX7_23 dX7_narrow_94 ?_
                refine gn_12_0 B Z kx_RX7_97 dX7_narrow_97 ?_
                refine lv_iload_n hx hb dX7_narrow_100 rfl (lv_at hl 0 rfl) ?_
                refine lv_iload_n hx hb dX7_narrow_101 rfl (lv_at hl 2 rfl) ?_
                refine lv_iadd hx hb dX7_narrow_102 ?_
                obtain ⟨z23, h17⟩ := dck_s h16
                clear h16
                refine ld_13 B Z z23 dX7_narrow_103 ?_
                refine lv_aload_n hx hb dX7_narrow_104 rfl (lv_at hl 1 rfl) ?_
                refine g_5_3 B Z kf_RX7_23 dX7_narrow_105 ?_
                refine gn_12_0 B Z kx_RX7_97 dX7_narrow_108 ?_
                refine lv_iload_n hx hb dX7_narrow_111 rfl (lv_at hl 0 rfl) ?_
                refine lv_iconst (v := (3 : Int32)) hx hb dX7_narrow_112 (by decide) ?_
                refine lv_iadd hx hb dX7_narrow_113 ?_
                obtain ⟨z24, h18⟩ := dck_s h17
                clear h17
                refine ld_13 B Z z24 dX7_narrow_114 ?_
                refine lv_aload_n hx hb dX7_narrow_115 rfl (lv_at hl 1 rfl) ?_
                refine g_5_3 B Z kf_RX7_23 dX7_narrow_116 ?_
                refine gn_12_1 B Z kx_RX7_100 dX7_narrow_119 ?_
                refine lv_iload_n hx hb dX7_narrow_122 rfl (lv_at hl 3 rfl) ?_
                obtain ⟨z25, h19⟩ := dck_s h18
                clear h18
                refine ld_14 B Z z25 dX7_narrow_123 ?_
                obtain ⟨σ27, hc25, h20⟩ := db1_s h19
                clear h19
                refine cV_V [.long (σ14.2 13 (x22 + a1).toNatClampNeg), .long (σ14.2 13 (x22 + (3 : Int32)).toNatClampNeg), .int (σ14.1 14 x13.toNatClampNeg)] [] B mx_yX8_take (c_fSp_take l X _ (σ14.2 13 (x22 + a1).toNatClampNeg) (σ14.2 13 (x22 + (3 : Int32)).toNatClampNeg) (σ14.1 14 x13.toNatClampNeg) σ14 σ27 hc25) kl_RX7_104 mi_yX8_take (rv_15 _ _) hcl_8 Z hl rfl rfl ⟨Nat.le_of_ble_eq_true rfl, Nat.le_of_ble_eq_true rfl⟩ rfl rfl (Nat.le_of_ble_eq_true rfl) dX7_narrow_124 (fun H locs Z => ?_)
                clear hc25
                refine lv_iinc (v := x13 + (1 : Int32)) (lv' := [(2, .int (x13 + (1 : Int32))), (3, .int x22), (0, .ref (X.2.1 5)), (1, .int a1)]) hx hb dX7_narrow_127 hl (k := 3) rfl (by rfl) (by decide) rfl (fun ls hl => ?_)
                refine lv_goto (tgt := 74) hx hb dX7_narrow_130 (by decide) ?_
                exact ih38 (x13 + (1 : Int32)) σ27 _ _ _ Z (lv_sub hl [2, 3, 0] rfl) h20
          exact lL74 FU (0 : Int32) σ11 _ _ _ Z (lv_sub hl [1, 2, 0] rfl) h12
        · have h21 := dif h6 c12
          clear h6
          refine lv_iconst (v := (0 : Int32)) hx hb dX7_narrow_70 (by decide) ?_
          exact reI B Z rfl hz h21 dX7_narrow_71
      clear eJ9
      refine lv_if_ne (tgt := 52) hx hb dX7_narrow_45 (by decide) (fun c28 => ?_) (fun c28 => ?_)
      · have h23 := dif h22 c28
        clear h22
        refine lv_iconst (v := (0 : Int32)) hx hb dX7_narrow_52 (by decide) ?_
        exact kJ9 (0 : Int32) _ _ _ Z (lv_sub hl [0, 1] rfl) h23
      · have h24 := dit h22 c28
        clear h22
        refine lv_iconst (v := (1 : Int32)) hx hb dX7_narrow_48 (by decide) ?_
        refine lv_goto (tgt := 53) hx hb dX7_narrow_49 (by decide) ?_
        exact kJ9 (1 : Int32) _ _ _ Z (lv_sub hl [0, 1] rfl) h24
    · have h25 := dif h3 c7
      clear h3
      refine lv_iconst (v := (0 : Int32)) hx hb dX7_narrow_38 (by decide) ?_
      exact reI B Z rfl hz h25 dX7_narrow_39
  clear eJ4
  refine lv_icmp_ne (tgt := 20) hx hb dX7_narrow_13 (by decide) (fun c29 => ?_) (fun c29 => ?_)
  · have h27 := dif h26 c29
    clear h26
    refine lv_iconst (v := (2 : Int32)) hx hb dX7_narrow_20 (by decide) ?_
    exact kJ4 (2 : Int32) _ _ _ Z (lv_sub hl [0, 1] rfl) h27
  · have h28 := dit h26 c29
    clear h26
    refine lv_iconst (v := (1 : Int32)) hx hb dX7_narrow_16 (by decide) ?_
    refine lv_goto (tgt := 21) hx hb dX7_narrow_17 (by decide) ?_
    exact kJ4 (1 : Int32) _ _ _ Z (lv_sub hl [0, 1] rfl) h28
theorem dX7_measure_0 : decode cX7_measure 0 = .ok (.aload_n 0, 1) := by decide +kernel
theorem dX7_measure_1 : decode cX7_measure 1 = .ok (.iload_n 1, 1) := by decide +kernel
theorem dX7_measure_2 : decode cX7_measure 2 = .ok (.invokevirtual 112, 3) := by decide +kernel
theorem dX7_measure_5 : decode cX7_measure 5 = .ok (.aload_n 0, 1) := by decide +kernel
theorem dX7_measure_6 : decode cX7_measure 6 = .ok (.iload_n 2, 1) := by decide +kernel
theorem dX7_measure_7 : decode cX7_measure 7 = .ok (.invokevirtual 115, 3) := by decide +kernel
theorem dX7_measure_10 : decode cX7_measure 10 = .ok (.ireturn, 1) := by decide +kernel
def rm_fSo_measure : Room := { frames := 6, cells := 0, slots := 0, locals := 207 }
set_option maxHeartbeats 4000000 in
set_option maxRecDepth 100000 in
theorem c_fSo_measure (l : Launch) (X : eX) (sz : Nat) (a1 : Int32) (a2 : Int32) (σ : sT) (rz : Int32) (σz : sT) (h0 : fSo_measure a1 a2 σ = some (rz, σz)) : ctI l yX7_measure cX7_measure 3 (some .boolean) rm_fSo_measure [.ref (X.2.1 5), .int a1, .int a2] (wC X) (tC X) (aC X) X sz σ rz σz := by
  refine ct_of (by decide +kernel) (Nat.le_of_ble_eq_true rfl) ?_
  intro p e s m args below meth c ls hz B hl Z
  have B : Bd p s m args meth c RX7 cX7_measure 3 (some .boolean) := B
  have hl : lv_has ls 3 [(0, .ref (X.2.1 5)), (1, .int a1), (2, .int a2)] := hl
  have hx := B.1
  have hb := B.2.1
  unfold fSo_measure at h0
  refine lv_aload_n hx hb dX7_measure_0 rfl (lv_at hl 0 rfl) ?_
  refine lv_iload_n hx hb dX7_measure_1 rfl (lv_at hl 1 rfl) ?_
  obtain ⟨σ2, hc0, h1⟩ := db1_s h0
  clear h0
  refine cV_V [.int a1] [] B mx_yX7_load (c_fSo_load l X _ a1 σ σ2 hc0) kl_RX7_112 mi_yX7_load (rv_5 _ _) hcl_7 Z hl rfl rfl ⟨Nat.le_of_ble_eq_true rfl, Nat.le_of_ble_eq_true rfl⟩ rfl rfl (Nat.le_of_ble_eq_true rfl) dX7_measure_2 (fun H locs Z => ?_)
  clear hc0
  refine lv_aload_n hx hb dX7_measure_5 rfl (lv_at hl 0 rfl) ?_
  refine lv_iload_n hx hb dX7_measure_6 rfl (lv_at hl 2 rfl) ?_
  obtain ⟨r4, σ5, hc2, h2⟩ := db2_s h1
  clear h1
  refine cV_I [.int a2] [] B mx_yX7_narrow (c_fSo_narrow l X _ a2 σ2 r4 σ5 hc2) kl_RX7_115 mi_yX7_narrow (rv_5 _ _) hcl_7 Z hl rfl rfl ⟨Nat.le_of_ble_eq_true rfl, Nat.le_of_ble_eq_true rfl⟩ rfl rfl (Nat.le_of_ble_eq_true rfl) dX7_measure_7 (fun H locs Z => ?_)
  clear hc2
  obtain ⟨z6, h3⟩ := dck_s h2
  clear h2
  exact reI B Z (okZ_n z6) hz h3 dX7_measure_10
theorem dX7_isSatisfiable_0 : decode cX7_isSatisfiable 0 = .ok (.aload_n 0, 1) := by decide +kernel
theorem dX7_isSatisfiable_1 : decode cX7_isSatisfiable 1 = .ok (.iload_n 1, 1) := by decide +kernel
theorem dX7_isSatisfiable_2 : decode cX7_isSatisfiable 2 = .ok (.iconst 0, 1) := by decide +kernel
theorem dX7_isSatisfiable_3 : decode cX7_isSatisfiable 3 = .ok (.invokevirtual 119, 3) := by decide +kernel
theorem dX7_isSatisfiable_6 : decode cX7_isSatisfiable 6 = .ok (.ireturn, 1) := by decide +kernel
def rm_fSo_isSatisfiable : Room := { frames := 7, cells := 0, slots := 0, locals := 229 }
set_option maxHeartbeats 4000000 in
set_option maxRecDepth 100000 in
theorem c_fSo_isSatisfiable (l : Launch) (X : eX) (sz : Nat) (a1 : Int32) (σ : sT) (rz : Int32) (σz : sT) (h0 : fSo_isSatisfiable a1 σ = some (rz, σz)) : ctI l yX7_isSatisfiable cX7_isSatisfiable 2 (some .boolean) rm_fSo_isSatisfiable [.ref (X.2.1 5), .int a1] (wC X) (tC X) (aC X) X sz σ rz σz := by
  refine ct_of (by decide +kernel) (Nat.le_of_ble_eq_true rfl) ?_
  intro p e s m args below meth c ls hz B hl Z
  have B : Bd p s m args meth c RX7 cX7_isSatisfiable 2 (some .boolean) := B
  have hl : lv_has ls 2 [(0, .ref (X.2.1 5)), (1, .int a1)] := hl
  have hx := B.1
  have hb := B.2.1
  unfold fSo_isSatisfiable at h0
  refine lv_aload_n hx hb dX7_isSatisfiable_0 rfl (lv_at hl 0 rfl) ?_
  refine lv_iload_n hx hb dX7_isSatisfiable_1 rfl (lv_at hl 1 rfl) ?_
  refine lv_iconst (v := (0 : Int32)) hx hb dX7_isSatisfiable_2 (by decide) ?_
  obtain ⟨r2, σ3, hc0, h1⟩ := db2_s h0
  clear h0
  refine cV_I [.int a1, .int (0 : Int32)] [] B mx_yX7_measure (c_fSo_measure l X _ a1 (0 : Int32) σ r2 σ3 hc0) kl_RX7_119 mi_yX7_measure (rv_5 _ _) hcl_7 Z hl rfl rfl ⟨Nat.le_of_ble_eq_true rfl, Nat.le_of_ble_eq_true rfl⟩ rfl rfl (Nat.le_of_ble_eq_true rfl) dX7_isSatisfiable_3 (fun H locs Z => ?_)
  clear hc0
  obtain ⟨z4, h2⟩ := dck_s h1
  clear h1
  exact reI B Z (okZ_n z4) hz h2 dX7_isSatisfiable_6
theorem dX11_can_0 : decode cX11_can 0 = .ok (.aload_n 0, 1) := by decide +kernel
theorem dX11_can_1 : decode cX11_can 1 = .ok (.getfield 10, 3) := by decide +kernel
theorem dX11_can_4 : decode cX11_can 4 = .ok (.iload_n 1, 1) := by decide +kernel
theorem dX11_can_5 : decode cX11_can 5 = .ok (.invokevirtual 118, 3) := by decide +kernel
theorem dX11_can_8 : decode cX11_can 8 = .ok (.ifCond .ne 8, 3) := by decide +kernel
theorem dX11_can_11 : decode cX11_can 11 = .ok (.aload_n 0, 1) := by decide +kernel
theorem dX11_can_12 : decode cX11_can 12 = .ok (.invokevirtual 77, 3) := by decide +kernel
theorem dX11_can_15 : decode cX11_can 15 = .ok (.ireturn, 1) := by decide +kernel
theorem dX11_can_16 : decode cX11_can 16 = .ok (.aload_n 0, 1) := by decide +kernel
theorem dX11_can_17 : decode cX11_can 17 = .ok (.getfield 21, 3) := by decide +kernel
theorem dX11_can_20 : decode cX11_can 20 = .ok (.iload_n 1, 1) := by decide +kernel
theorem dX11_can_21 : decode cX11_can 21 = .ok (.invokevirtual 121, 3) := by decide +kernel
theorem dX11_can_24 : decode cX11_can 24 = .ok (.ifCond .eq 7, 3) := by decide +kernel
theorem dX11_can_27 : decode cX11_can 27 = .ok (.iconst 1, 1) := by decide +kernel
theorem dX11_can_28 : decode cX11_can 28 = .ok (.goto 4, 3) := by decide +kernel
theorem dX11_can_31 : decode cX11_can 31 = .ok (.iconst 0, 1) := by decide +kernel
theorem dX11_can_32 : decode cX11_can 32 = .ok (.ireturn, 1) := by decide +kernel
def rm_fRM_can : Room := { frames := 8, cells := 0, slots := 0, locals := 250 }
set_option maxHeartbeats 4000000 in
set_option maxRecDepth 100000 in
theorem c_fRM_can (l : Launch) (X : eX) (sz : Nat) (a1 : Int32) (σ : sT) (rz : Int32) (σz : sT) (h0 : fRM_can a1 σ = some (rz, σz)) : ctI l yX11_can cX11_can 2 (some .int) rm_fRM_can [.ref (X.2.1 0), .int a1] (wC X) (tC X) (aC X) X sz σ rz σz := by
  refine ct_of (by decide +kernel) (Nat.le_of_ble_eq_true rfl) ?_
  intro p e s m args below meth c ls hz B hl Z
  have B : Bd p s m args meth c RX11 cX11_can 2 (some .int) := B
  have hl : lv_has ls 2 [(0, .ref (X.2.1 0)), (1, .int a1)] := hl
  have hx := B.1
  have hb := B.2.1
  unfold fRM_can at h0
  refine lv_aload_n hx hb dX11_can_0 rfl (lv_at hl 0 rfl) ?_
  refine g_0_0 B Z kf_RX11_10 dX11_can_1 ?_
  refine lv_iload_n hx hb dX11_can_4 rfl (lv_at hl 1 rfl) ?_
  obtain ⟨r2, hc0, h1⟩ := db1_s h0
  clear h0
  refine cV_I [.int a1] [] B mx_yX0_covers (c_fBk_covers l X _ a1 σ r2 hc0) kl_RX11_118 mi_yX0_covers (rv_1 _ _) hcl_0 Z hl rfl rfl ⟨Nat.le_of_ble_eq_true rfl, Nat.le_of_ble_eq_true rfl⟩ rfl rfl (Nat.le_of_ble_eq_true rfl) dX11_can_5 (fun H locs Z => ?_)
  clear hc0
  refine lv_if_ne (tgt := 16) hx hb dX11_can_8 (by decide) (fun c3 => ?_) (fun c3 => ?_)
  · have h2 := dif h1 c3
    clear h1
    refine lv_aload_n hx hb dX11_can_16 rfl (lv_at hl 0 rfl) ?_
    refine g_0_1 B Z kf_RX11_21 dX11_can_17 ?_
    refine lv_iload_n hx hb dX11_can_20 rfl (lv_at hl 1 rfl) ?_
    obtain ⟨r5, σ6, hc3, h3⟩ := db2_s h2
    clear h2
    refine cV_I [.int a1] [] B mx_yX7_isSatisfiable (c_fSo_isSatisfiable l X _ a1 σ r5 σ6 hc3) kl_RX11_121 mi_yX7_isSatisfiable (rv_5 _ _) hcl_7 Z hl rfl rfl ⟨Nat.le_of_ble_eq_true rfl, Nat.le_of_ble_eq_true rfl⟩ rfl rfl (Nat.le_of_ble_eq_true rfl) dX11_can_21 (fun H locs Z => ?_)
    clear hc3
    refine lv_if_eq (tgt := 31) hx hb dX11_can_24 (by decide) (fun c7 => ?_) (fun c7 => ?_)
    · have h4 := dit h3 c7
      clear h3
      refine lv_iconst (v := (0 : Int32)) hx hb dX11_can_31 (by decide) ?_
      exact reI B Z rfl hz h4 dX11_can_32
    · have h5 := dif h3 c7
      clear h3
      refine lv_iconst (v := (1 : Int32)) hx hb dX11_can_27 (by decide) ?_
      refine lv_goto (tgt := 32) hx hb dX11_can_28 (by decide) ?_
      exact reI B Z rfl hz h5 dX11_can_32
  · have h6 := dit h1 c3
    clear h1
    refine lv_aload_n hx hb dX11_can_11 rfl (lv_at hl 0 rfl) ?_
    obtain ⟨r9, σ10, hc7, h7⟩ := db2_s h6
    clear h6
    refine cV_I [] [] B mx_yX11_bad (c_fRM_bad l X _ σ r9 σ10 hc7) kl_RX11_77 mi_yX11_bad (rv_0 _ _) hcl_11 Z hl rfl rfl ⟨Nat.le_of_ble_eq_true rfl, Nat.le_of_ble_eq_true rfl⟩ rfl rfl (Nat.le_of_ble_eq_true rfl) dX11_can_12 (fun H locs Z => ?_)
    clear hc7
    exact reI B Z rfl hz h7 dX11_can_15
theorem dX3_hold_0 : decode cX3_hold 0 = .ok (.aload_n 0, 1) := by decide +kernel
theorem dX3_hold_1 : decode cX3_hold 1 = .ok (.lload_n 1, 1) := by decide +kernel
theorem dX3_hold_2 : decode cX3_hold 2 = .ok (.putfield 24, 3) := by decide +kernel
theorem dX3_hold_5 : decode cX3_hold 5 = .ok (.aload_n 0, 1) := by decide +kernel
theorem dX3_hold_6 : decode cX3_hold 6 = .ok (.lload_n 3, 1) := by decide +kernel
theorem dX3_hold_7 : decode cX3_hold 7 = .ok (.putfield 17, 3) := by decide +kernel
theorem dX3_hold_10 : decode cX3_hold 10 = .ok (.aload_n 0, 1) := by decide +kernel
theorem dX3_hold_11 : decode cX3_hold 11 = .ok (.lload 5, 2) := by decide +kernel
theorem dX3_hold_13 : decode cX3_hold 13 = .ok (.putfield 21, 3) := by decide +kernel
theorem dX3_hold_16 : decode cX3_hold 16 = .ok (.aload_n 0, 1) := by decide +kernel
theorem dX3_hold_17 : decode cX3_hold 17 = .ok (.dup, 1) := by decide +kernel
theorem dX3_hold_18 : decode cX3_hold 18 = .ok (.getfield 7, 3) := by decide +kernel
theorem dX3_hold_21 : decode cX3_hold 21 = .ok (.iconst 1, 1) := by decide +kernel
theorem dX3_hold_22 : decode cX3_hold 22 = .ok (.iadd, 1) := by decide +kernel
theorem dX3_hold_23 : decode cX3_hold 23 = .ok (.putfield 7, 3) := by decide +kernel
theorem dX3_hold_26 : decode cX3_hold 26 = .ok (.return_, 1) := by decide +kernel
def rm_fRk_hold : Room := { frames := 1, cells := 0, slots := 0, locals := 60 }
set_option maxHeartbeats 4000000 in
set_option maxRecDepth 100000 in
theorem c_fRk_hold (l : Launch) (X : eX) (sz : Nat) (a1 : Int64) (a2 : Int64) (a3 : Int64) (σ : sT) (σz : sT) (h0 : fRk_hold a1 a2 a3 σ = some σz) : ctV l yX3_hold cX3_hold 7 none rm_fRk_hold [.ref (X.2.1 16), .long a1, .long a2, .long a3] (wC X) (tC X) (aC X) X sz σ σz := by
  refine ct_of (by decide +kernel) (Nat.le_of_ble_eq_true rfl) ?_
  intro p e s m args below meth c ls hz B hl Z
  have B : Bd p s m args meth c RX3 cX3_hold 7 none := B
  have hl : lv_has ls 7 [(0, .ref (X.2.1 16)), (1, .long a1), (3, .long a2), (5, .long a3)] := hl
  have hx := B.1
  have hb := B.2.1
  unfold fRk_hold at h0
  refine lv_aload_n hx hb dX3_hold_0 rfl (lv_at hl 0 rfl) ?_
  refine lv_lload_n hx hb dX3_hold_1 rfl (lv_at hl 1 rfl) ?_
  refine s_16_0 B Z kf_RX3_24 dX3_hold_2 (fun H locs Z => ?_)
  obtain ⟨σ1, eσ1, h1⟩ := dlt_s h0
  clear h0
  replace Z := Wd.eq eσ1 Z
  clear eσ1
  refine lv_aload_n hx hb dX3_hold_5 rfl (lv_at hl 0 rfl) ?_
  refine lv_lload_n hx hb dX3_hold_6 rfl (lv_at hl 2 rfl) ?_
  refine s_16_1 B Z kf_RX3_17 dX3_hold_7 (fun H locs Z => ?_)
  obtain ⟨σ2, eσ2, h2⟩ := dlt_s h1
  clear h1
  replace Z := Wd.eq eσ2 Z
  clear eσ2
  refine lv_aload_n hx hb dX3_hold_10 rfl (lv_at hl 0 rfl) ?_
  refine lv_lload hx hb dX3_hold_11 (lv_at hl 3 rfl) ?_
  refine s_16_2 B Z kf_RX3_21 dX3_hold_13 (fun H locs Z => ?_)
  obtain ⟨σ3, eσ3, h3⟩ := dlt_s h2
  clear h2
  replace Z := Wd.eq eσ3 Z
  clear eσ3
  refine lv_aload_n hx hb dX3_hold_16 rfl (lv_at hl 0 rfl) ?_
  refine lv_dup hx hb dX3_hold_17 rfl ?_
  refine g_16_3 B Z kf_RX3_7 dX3_hold_18 ?_
  refine lv_iconst (v := (1 : Int32)) hx hb dX3_hold_21 (by decide) ?_
  refine lv_iadd hx hb dX3_hold_22 ?_
  refine s_16_3 B Z kf_RX3_7 dX3_hold_23 (fun H locs Z => ?_)
  obtain ⟨σ4, eσ4, h4⟩ := dlt_s h3
  clear h3
  replace Z := Wd.eq eσ4 Z
  clear eσ4
  exact reV B Z hz h4 dX3_hold_26
theorem dX3_add_0 : decode cX3_add 0 = .ok (.aload_n 0, 1) := by decide +kernel
theorem dX3_add_1 : decode cX3_add 1 = .ok (.getfield 7, 3) := by decide +kernel
theorem dX3_add_4 : decode cX3_add 4 = .ok (.ifCond .ne 33, 3) := by decide +kernel
theorem dX3_add_7 : decode cX3_add 7 = .ok (.lload_n 1, 1) := by decide +kernel
theorem dX3_add_8 : decode cX3_add 8 = .ok (.lconst 0, 1) := by decide +kernel
theorem dX3_add_9 : decode cX3_add 9 = .ok (.lcmp, 1) := by decide +kernel
theorem dX3_add_10 : decode cX3_add 10 = .ok (.ifCond .ne 16, 3) := by decide +kernel
theorem dX3_add_13 : decode cX3_add 13 = .ok (.lload_n 3, 1) := by decide +kernel
theorem dX3_add_14 : decode cX3_add 14 = .ok (.lconst 0, 1) := by decide +kernel
theorem dX3_add_15 : decode cX3_add 15 = .ok (.lcmp, 1) := by decide +kernel
theorem dX3_add_16 : decode cX3_add 16 = .ok (.ifCond .ne 10, 3) := by decide +kernel
theorem dX3_add_19 : decode cX3_add 19 = .ok (.lload 5, 2) := by decide +kernel
theorem dX3_add_21 : decode cX3_add 21 = .ok (.lconst 0, 1) := by decide +kernel
theorem dX3_add_22 : decode cX3_add 22 = .ok (.lcmp, 1) := by decide +kernel
theorem dX3_add_23 : decode cX3_add 23 = .ok (.ifCond .eq 14, 3) := by decide +kernel
theorem dX3_add_26 : decode cX3_add 26 = .ok (.aload_n 0, 1) := by decide +kernel
theorem dX3_add_27 : decode cX3_add 27 = .ok (.lload_n 1, 1) := by decide +kernel
theorem dX3_add_28 : decode cX3_add 28 = .ok (.lload_n 3, 1) := by decide +kernel
theorem dX3_add_29 : decode cX3_add 29 = .ok (.lload 5, 2) := by decide +kernel
theorem dX3_add_31 : decode cX3_add 31 = .ok (.invokevirtual 13, 3) := by decide +kernel
theorem dX3_add_34 : decode cX3_add 34 = .ok (.goto 131, 3) := by decide +kernel
theorem dX3_add_37 : decode cX3_add 37 = .ok (.aload_n 0, 1) := by decide +kernel
theorem dX3_add_38 : decode cX3_add 38 = .ok (.getfield 7, 3) := by decide +kernel
theorem dX3_add_41 : decode cX3_add 41 = .ok (.iconst 1, 1) := by decide +kernel
theorem dX3_add_42 : decode cX3_add 42 = .ok (.if_icmp .ne 84, 3) := by decide +kernel
theorem dX3_add_45 : decode cX3_add 45 = .ok (.aload_n 0, 1) := by decide +kernel
theorem dX3_add_46 : decode cX3_add 46 = .ok (.getfield 17, 3) := by decide +kernel
theorem dX3_add_49 : decode cX3_add 49 = .ok (.lload 5, 2) := by decide +kernel
theorem dX3_add_51 : decode cX3_add 51 = .ok (.lmul, 1) := by decide +kernel
theorem dX3_add_52 : decode cX3_add 52 = .ok (.aload_n 0, 1) := by decide +kernel
theorem dX3_add_53 : decode cX3_add 53 = .ok (.getfield 21, 3) := by decide +kernel
theorem dX3_add_56 : decode cX3_add 56 = .ok (.lload_n 3, 1) := by decide +kernel
theorem dX3_add_57 : decode cX3_add 57 = .ok (.lmul, 1) := by decide +kernel
theorem dX3_add_58 : decode cX3_add 58 = .ok (.lsub, 1) := by decide +kernel
theorem dX3_add_59 : decode cX3_add 59 = .ok (.lstore 7, 2) := by decide +kernel
theorem dX3_add_61 : decode cX3_add 61 = .ok (.aload_n 0, 1) := by decide +kernel
theorem dX3_add_62 : decode cX3_add 62 = .ok (.getfield 21, 3) := by decide +kernel
theorem dX3_add_65 : decode cX3_add 65 = .ok (.lload_n 1, 1) := by decide +kernel
theorem dX3_add_66 : decode cX3_add 66 = .ok (.lmul, 1) := by decide +kernel
theorem dX3_add_67 : decode cX3_add 67 = .ok (.aload_n 0, 1) := by decide +kernel
theorem dX3_add_68 : decode cX3_add 68 = .ok (.getfield 24, 3) := by decide +kernel
theorem dX3_add_71 : decode cX3_add 71 = .ok (.lload 5, 2) := by decide +kernel
theorem dX3_add_73 : decode cX3_add 73 = .ok (.lmul, 1) := by decide +kernel
theorem dX3_add_74 : decode cX3_add 74 = .ok (.lsub, 1) := by decide +kernel
theorem dX3_add_75 : decode cX3_add 75 = .ok (.lstore 9, 2) := by decide +kernel
theorem dX3_add_77 : decode cX3_add 77 = .ok (.aload_n 0, 1) := by decide +kernel
theorem dX3_add_78 : decode cX3_add 78 = .ok (.getfield 24, 3) := by decide +kernel
theorem dX3_add_81 : decode cX3_add 81 = .ok (.lload_n 3, 1) := by decide +kernel
theorem dX3_add_82 : decode cX3_add 82 = .ok (.lmul, 1) := by decide +kernel
theorem dX3_add_83 : decode cX3_add 83 = .ok (.aload_n 0, 1) := by decide +kernel
theorem dX3_add_84 : decode cX3_add 84 = .ok (.getfield 17, 3) := by decide +kernel
theorem dX3_add_87 : decode cX3_add 87 = .ok (.lload_n 1, 1) := by decide +kernel
theorem dX3_add_88 : decode cX3_add 88 = .ok (.lmul, 1) := by decide +kernel
theorem dX3_add_89 : decode cX3_add 89 = .ok (.lsub, 1) := by decide +kernel
theorem dX3_add_90 : decode cX3_add 90 = .ok (.lstore 11, 2) := by decide +kernel
theorem dX3_add_92 : decode cX3_add 92 = .ok (.lload 7, 2) := by decide +kernel
theorem dX3_add_94 : decode cX3_add 94 = .ok (.lconst 0, 1) := by decide +kernel
theorem dX3_add_95 : decode cX3_add 95 = .ok (.lcmp, 1) := by decide +kernel
theorem dX3_add_96 : decode cX3_add 96 = .ok (.ifCond .ne 17, 3) := by decide +kernel
theorem dX3_add_99 : decode cX3_add 99 = .ok (.lload 9, 2) := by decide +kernel
theorem dX3_add_101 : decode cX3_add 101 = .ok (.lconst 0, 1) := by decide +kernel
theorem dX3_add_102 : decode cX3_add 102 = .ok (.lcmp, 1) := by decide +kernel
theorem dX3_add_103 : decode cX3_add 103 = .ok (.ifCond .ne 10, 3) := by decide +kernel
theorem dX3_add_106 : decode cX3_add 106 = .ok (.lload 11, 2) := by decide +kernel
theorem dX3_add_108 : decode cX3_add 108 = .ok (.lconst 0, 1) := by decide +kernel
theorem dX3_add_109 : decode cX3_add 109 = .ok (.lcmp, 1) := by decide +kernel
theorem dX3_add_110 : decode cX3_add 110 = .ok (.ifCond .eq 13, 3) := by decide +kernel
theorem dX3_add_113 : decode cX3_add 113 = .ok (.aload_n 0, 1) := by decide +kernel
theorem dX3_add_114 : decode cX3_add 114 = .ok (.lload 7, 2) := by decide +kernel
theorem dX3_add_116 : decode cX3_add 116 = .ok (.lload 9, 2) := by decide +kernel
theorem dX3_add_118 : decode cX3_add 118 = .ok (.lload 11, 2) := by decide +kernel
theorem dX3_add_120 : decode cX3_add 120 = .ok (.invokevirtual 13, 3) := by decide +kernel
theorem dX3_add_123 : decode cX3_add 123 = .ok (.goto 42, 3) := by decide +kernel
theorem dX3_add_126 : decode cX3_add 126 = .ok (.aload_n 0, 1) := by decide +kernel
theorem dX3_add_127 : decode cX3_add 127 = .ok (.getfield 7, 3) := by decide +kernel
theorem dX3_add_130 : decode cX3_add 130 = .ok (.iconst 2, 1) := by decide +kernel
theorem dX3_add_131 : decode cX3_add 131 = .ok (.if_icmp .ne 34, 3) := by decide +kernel
theorem dX3_add_134 : decode cX3_add 134 = .ok (.aload_n 0, 1) := by decide +kernel
theorem dX3_add_135 : decode cX3_add 135 = .ok (.getfield 24, 3) := by decide +kernel
theorem dX3_add_138 : decode cX3_add 138 = .ok (.lload_n 1, 1) := by decide +kernel
theorem dX3_add_139 : decode cX3_add 139 = .ok (.lmul, 1) := by decide +kernel
theorem dX3_add_140 : decode cX3_add 140 = .ok (.aload_n 0, 1) := by decide +kernel
theorem dX3_add_141 : decode cX3_add 141 = .ok (.getfield 17, 3) := by decide +kernel
theorem dX3_add_144 : decode cX3_add 144 = .ok (.lload_n 3, 1) := by decide +kernel
theorem dX3_add_145 : decode cX3_add 145 = .ok (.lmul, 1) := by decide +kernel
theorem dX3_add_146 : decode cX3_add 146 = .ok (.ladd, 1) := by decide +kernel
theorem dX3_add_147 : decode cX3_add 147 = .ok (.aload_n 0, 1) := by decide +kernel
theorem dX3_add_148 : decode cX3_add 148 = .ok (.getfield 21, 3) := by decide +kernel
theorem dX3_add_151 : decode cX3_add 151 = .ok (.lload 5, 2) := by decide +kernel
theorem dX3_add_153 : decode cX3_add 153 = .ok (.lmul, 1) := by decide +kernel
theorem dX3_add_154 : decode cX3_add 154 = .ok (.ladd, 1) := by decide +kernel
theorem dX3_add_155 : decode cX3_add 155 = .ok (.lconst 0, 1) := by decide +kernel
theorem dX3_add_156 : decode cX3_add 156 = .ok (.lcmp, 1) := by decide +kernel
theorem dX3_add_157 : decode cX3_add 157 = .ok (.ifCond .eq 8, 3) := by decide +kernel
theorem dX3_add_160 : decode cX3_add 160 = .ok (.aload_n 0, 1) := by decide +kernel
theorem dX3_add_161 : decode cX3_add 161 = .ok (.iconst 3, 1) := by decide +kernel
theorem dX3_add_162 : decode cX3_add 162 = .ok (.putfield 7, 3) := by decide +kernel
theorem dX3_add_165 : decode cX3_add 165 = .ok (.return_, 1) := by decide +kernel
def rm_fRk_add : Room := { frames := 2, cells := 0, slots := 0, locals := 86 }
set_option maxHeartbeats 4000000 in
set_option maxRecDepth 100000 in
theorem c_fRk_add (l : Launch) (X : eX) (sz : Nat) (a1 : Int64) (a2 : Int64) (a3 : Int64) (σ : sT) (σz : sT) (h0 : fRk_add a1 a2 a3 σ = some σz) : ctV l yX3_add cX3_add 13 none rm_fRk_add [.ref (X.2.1 16), .long a1, .long a2, .long a3] (wC X) (tC X) (aC X) X sz σ σz := by
  refine ct_of (by decide +kernel) (Nat.le_of_ble_eq_true rfl) ?_
  intro p e s m args below meth c ls hz B hl Z
  have B : Bd p s m args meth c RX3 cX3_add 13 none := B
  have hl : lv_has ls 13 [(0, .ref (X.2.1 16)), (1, .long a1), (3, .long a2), (5, .long a3)] := hl
  have hx := B.1
  have hb := B.2.1
  unfold fRk_add at h0
  refine lv_aload_n hx hb dX3_add_0 rfl (lv_at hl 0 rfl) ?_
  refine g_16_3 B Z kf_RX3_7 dX3_add_1 ?_
  obtain ⟨J1, eJ1, h21⟩ := dlt_s h0
  clear h0
  have kJ1 : ∀ (H : Heap) (locs : List Loc) (ls : Array Slot), Wd (wC X) (tC X) (aC X) X s σ H locs → lv_has ls 13 [(0, .ref (X.2.1 16)), (1, .long a1), (3, .long a2), (5, .long a3)] → J1 () = some σz → W p l e rm_fRk_add s m args below meth c H locs 0 0 (MQ below (va_Qv (fun u => u = σz) (poW (wC X) (tC X) (aC X) X sz) (aA (aC X) sz)) args s 0 0 (aA (aC X) sz)) (F0 m 37 ls []) := by
    intro  H locs ls Z hl h1
    rw [eJ1] at h1
    refine lv_aload_n hx hb dX3_add_37 rfl (lv_at hl 0 rfl) ?_
    refine g_16_3 B Z kf_RX3_7 dX3_add_38 ?_
    refine lv_iconst (v := (1 : Int32)) hx hb dX3_add_41 (by decide) ?_
    refine lv_icmp_ne (tgt := 126) hx hb dX3_add_42 (by decide) (fun c2 => ?_) (fun c2 => ?_)
    · have h2 := dif h1 c2
      clear h1
      refine lv_aload_n hx hb dX3_add_126 rfl (lv_at hl 0 rfl) ?_
      refine g_16_3 B Z kf_RX3_7 dX3_add_127 ?_
      refine lv_iconst (v := (2 : Int32)) hx hb dX3_add_130 (by decide) ?_
      refine lv_icmp_ne (tgt := 165) hx hb dX3_add_131 (by decide) (fun c3 => ?_) (fun c3 => ?_)
      · have h3 := dif h2 c3
        clear h2
        exact reV B Z hz h3 dX3_add_165
      · have h4 := dit h2 c3
        clear h2
        refine lv_aload_n hx hb dX3_add_134 rfl (lv_at hl 0 rfl) ?_
        refine g_16_0 B Z kf_RX3_24 dX3_add_135 ?_
        refine lv_lload_n hx hb dX3_add_138 rfl (lv_at hl 1 rfl) ?_
        refine lv_lmul hx hb dX3_add_139 ?_
        refine lv_aload_n hx hb dX3_add_140 rfl (lv_at hl 0 rfl) ?_
        refine g_16_1 B Z kf_RX3_17 dX3_add_141 ?_
        refine lv_lload_n hx hb dX3_add_144 rfl (lv_at hl 2 rfl) ?_
        refine lv_lmul hx hb dX3_add_145 ?_
        refine lv_ladd hx hb dX3_add_146 ?_
        refine lv_aload_n hx hb dX3_add_147 rfl (lv_at hl 0 rfl) ?_
        refine g_16_2 B Z kf_RX3_21 dX3_add_148 ?_
        refine lv_lload hx hb dX3_add_151 (lv_at hl 3 rfl) ?_
        refine lv_lmul hx hb dX3_add_153 ?_
        refine lv_ladd hx hb dX3_add_154 ?_
        refine lv_lconst (v := (0 : Int64)) hx hb dX3_add_155 (by decide) ?_
        refine W.lcmp hx hb dX3_add_156 ?_
        refine lv_if_eq (tgt := 165) hx hb dX3_add_157 (by decide) (fun c4 => ?_) (fun c4 => ?_)
        · have h5 := dit h4 c4
          clear h4
          exact reV B Z hz h5 dX3_add_165
        · have h6 := dif h4 c4
          clear h4
          refine lv_aload_n hx hb dX3_add_160 rfl (lv_at hl 0 rfl) ?_
          refine lv_iconst (v := (3 : Int32)) hx hb dX3_add_161 (by decide) ?_
          refine s_16_3 B Z kf_RX3_7 dX3_add_162 (fun H locs Z => ?_)
          obtain ⟨σ5, eσ5, h7⟩ := dlt_s h6
          clear h6
          replace Z := Wd.eq eσ5 Z
          clear eσ5
          exact reV B Z hz h7 dX3_add_165
    · have h8 := dit h1 c2
      clear h1
      refine lv_aload_n hx hb dX3_add_45 rfl (lv_at hl 0 rfl) ?_
      refine g_16_1 B Z kf_RX3_17 dX3_add_46 ?_
      refine lv_lload hx hb dX3_add_49 (lv_at hl 3 rfl) ?_
      refine lv_lmul hx hb dX3_add_51 ?_
      refine lv_aload_n hx hb dX3_add_52 rfl (lv_at hl 0 rfl) ?_
      refine g_16_2 B Z kf_RX3_21 dX3_add_53 ?_
      refine lv_lload_n hx hb dX3_add_56 rfl (lv_at hl 2 rfl) ?_
      refine lv_lmul hx hb dX3_add_57 ?_
      refine lv_lsub hx hb dX3_add_58 ?_
      refine lv_topl (fun x6 ex6 => ?_)
      have h9 := dlt_e ex6 h8
      clear ex6 h8
      refine lv_lstore (lv' := [(7, .long x6), (0, .ref (X.2.1 16)), (1, .long a1), (3, .long a2), (5, .long a3)]) hx hb dX3_add_59 hl (by decide) rfl (fun ls hl => ?_)
      refine lv_aload_n hx hb dX3_add_61 rfl (lv_at hl 1 rfl) ?_
      refine g_16_2 B Z kf_RX3_21 dX3_add_62 ?_
      refine lv_lload_n hx hb dX3_add_65 rfl (lv_at hl 2 rfl) ?_
      refine lv_lmul hx hb dX3_add_66 ?_
      refine lv_aload_n hx hb dX3_add_67 rfl (lv_at hl 1 rfl) ?_
      refine g_16_0 B Z kf_RX3_24 dX3_add_68 ?_
      refine lv_lload hx hb dX3_add_71 (lv_at hl 4 rfl) ?_
      refine lv_lmul hx hb dX3_add_73 ?_
      refine lv_lsub hx hb dX3_add_74 ?_
      refine lv_topl (fun x7 ex7 => ?_)
      have h10 := dlt_e ex7 h9
      clear ex7 h9
      refine lv_lstore (lv' := [(9, .long x7), (7, .long x6), (0, .ref (X.2.1 16)), (1, .long a1), (3, .long a2), (5, .long a3)]) hx hb dX3_add_75 hl (by decide) rfl (fun ls hl => ?_)
      refine lv_aload_n hx hb dX3_add_77 rfl (lv_at hl 2 rfl) ?_
      refine g_16_0 B Z kf_RX3_24 dX3_add_78 ?_
      refine lv_lload_n hx hb dX3_add_81 rfl (lv_at hl 4 rfl) ?_
      refine lv_lmul hx hb dX3_add_82 ?_
      refine lv_aload_n hx hb dX3_add_83 rfl (lv_at hl 2 rfl) ?_
      refine g_16_1 B Z kf_RX3_17 dX3_add_84 ?_
      refine lv_lload_n hx hb dX3_add_87 rfl (lv_at hl 3 rfl) ?_
      refine lv_lmul hx hb dX3_add_88 ?_
      refine lv_lsub hx hb dX3_add_89 ?_
      refine lv_topl (fun x8 ex8 => ?_)
      have h11 := dlt_e ex8 h10
      clear ex8 h10
      refine lv_lstore (lv' := [(11, .long x8), (9, .long x7), (7, .long x6), (0, .ref (X.2.1 16)), (1, .long a1), (3, .long a2), (5, .long a3)]) hx hb dX3_add_90 hl (by decide) rfl (fun ls hl => ?_)
      refine lv_lload hx hb dX3_add_92 (lv_at hl 2 rfl) ?_
      refine lv_lconst (v := (0 : Int64)) hx hb dX3_add_94 (by decide) ?_
      refine W.lcmp hx hb dX3_add_95 ?_
      obtain ⟨J9, eJ9, h14⟩ := dlt_s h11
      clear h11
      have kJ9 : ∀ (H : Heap) (locs : List Loc) (ls : Array Slot), Wd (wC X) (tC X) (aC X) X s σ H locs → lv_has ls 13 [(0, .ref (X.2.1 16)), (7, .long x6), (9, .long x7), (11, .long x8)] → J9 () = some σz → W p l e rm_fRk_add s m args below meth c H locs 0 0 (MQ below (va_Qv (fun u => u = σz) (poW (wC X) (tC X) (aC X) X sz) (aA (aC X) sz)) args s 0 0 (aA (aC X) sz)) (F0 m 113 ls []) := by
        intro  H locs ls Z hl h12
        rw [eJ9] at h12
        refine lv_aload_n hx hb dX3_add_113 rfl (lv_at hl 0 rfl) ?_
        refine lv_lload hx hb dX3_add_114 (lv_at hl 1 rfl) ?_
        refine lv_lload hx hb dX3_add_116 (lv_at hl 2 rfl) ?_
        refine lv_lload hx hb dX3_add_118 (lv_at hl 3 rfl) ?_
        obtain ⟨σ11, hc9, h13⟩ := db1_s h12
        clear h12
        refine cV_V [.long x6, .long x7, .long x8] [] B mx_yX3_hold (c_fRk_hold l X _ x6 x7 x8 σ σ11 hc9) kl_RX3_13 mi_yX3_hold (rv_16 _ _) hcl_3 Z hl rfl rfl ⟨Nat.le_of_ble_eq_true rfl, Nat.le_of_ble_eq_true rfl⟩ rfl rfl (Nat.le_of_ble_eq_true rfl) dX3_add_120 (fun H locs Z => ?_)
        clear hc9
        refine lv_goto (tgt := 165) hx hb dX3_add_123 (by decide) ?_
        exact reV B Z hz h13 dX3_add_165
      clear eJ9
      refine lv_if_ne (tgt := 113) hx hb dX3_add_96 (by decide) (fun c12 => ?_) (fun c12 => ?_)
      · have h15 := dif h14 c12
        clear h14
        exact kJ9  _ _ _ Z (lv_sub hl [3, 2, 1, 0] rfl) h15
      · have h16 := dit h14 c12
        clear h14
        refine lv_lload hx hb dX3_add_99 (lv_at hl 1 rfl) ?_
        refine lv_lconst (v := (0 : Int64)) hx hb dX3_add_101 (by decide) ?_
        refine W.lcmp hx hb dX3_add_102 ?_
        refine lv_if_ne (tgt := 113) hx hb dX3_add_103 (by decide) (fun c13 => ?_) (fun c13 => ?_)
        · have h17 := dif h16 c13
          clear h16
          exact kJ9  _ _ _ Z (lv_sub hl [3, 2, 1, 0] rfl) h17
        · have h18 := dit h16 c13
          clear h16
          refine lv_lload hx hb dX3_add_106 (lv_at hl 0 rfl) ?_
          refine lv_lconst (v := (0 : Int64)) hx hb dX3_add_108 (by decide) ?_
          refine W.lcmp hx hb dX3_add_109 ?_
          refine lv_if_eq (tgt := 123) hx hb dX3_add_110 (by decide) (fun c14 => ?_) (fun c14 => ?_)
          · have h19 := dit h18 c14
            clear h18
            refine lv_goto (tgt := 165) hx hb dX3_add_123 (by decide) ?_
            exact reV B Z hz h19 dX3_add_165
          · have h20 := dif h18 c14
            clear h18
            exact kJ9  _ _ _ Z (lv_sub hl [3, 2, 1, 0] rfl) h20
  clear eJ1
  refine lv_if_ne (tgt := 37) hx hb dX3_add_4 (by decide) (fun c15 => ?_) (fun c15 => ?_)
  · have h22 := dif h21 c15
    clear h21
    exact kJ1  _ _ _ Z (lv_sub hl [0, 1, 2, 3] rfl) h22
  · have h23 := dit h21 c15
    clear h21
    refine lv_lload_n hx hb dX3_add_7 rfl (lv_at hl 1 rfl) ?_
    refine lv_lconst (v := (0 : Int64)) hx hb dX3_add_8 (by decide) ?_
    refine W.lcmp hx hb dX3_add_9 ?_
    obtain ⟨J16, eJ16, h26⟩ := dlt_s h23
    clear h23
    have kJ16 : ∀ (H : Heap) (locs : List Loc) (ls : Array Slot), Wd (wC X) (tC X) (aC X) X s σ H locs → lv_has ls 13 [(0, .ref (X.2.1 16)), (1, .long a1), (3, .long a2), (5, .long a3)] → J16 () = some σz → W p l e rm_fRk_add s m args below meth c H locs 0 0 (MQ below (va_Qv (fun u => u = σz) (poW (wC X) (tC X) (aC X) X sz) (aA (aC X) sz)) args s 0 0 (aA (aC X) sz)) (F0 m 26 ls []) := by
      intro  H locs ls Z hl h24
      rw [eJ16] at h24
      refine lv_aload_n hx hb dX3_add_26 rfl (lv_at hl 0 rfl) ?_
      refine lv_lload_n hx hb dX3_add_27 rfl (lv_at hl 1 rfl) ?_
      refine lv_lload_n hx hb dX3_add_28 rfl (lv_at hl 2 rfl) ?_
      refine lv_lload hx hb dX3_add_29 (lv_at hl 3 rfl) ?_
      obtain ⟨σ18, hc16, h25⟩ := db1_s h24
      clear h24
      refine cV_V [.long a1, .long a2, .long a3] [] B mx_yX3_hold (c_fRk_hold l X _ a1 a2 a3 σ σ18 hc16) kl_RX3_13 mi_yX3_hold (rv_16 _ _) hcl_3 Z hl rfl rfl ⟨Nat.le_of_ble_eq_true rfl, Nat.le_of_ble_eq_true rfl⟩ rfl rfl (Nat.le_of_ble_eq_true rfl) dX3_add_31 (fun H locs Z => ?_)
      clear hc16
      refine lv_goto (tgt := 165) hx hb dX3_add_34 (by decide) ?_
      exact reV B Z hz h25 dX3_add_165
    clear eJ16
    refine lv_if_ne (tgt := 26) hx hb dX3_add_10 (by decide) (fun c19 => ?_) (fun c19 => ?_)
    · have h27 := dif h26 c19
      clear h26
      exact kJ16  _ _ _ Z (lv_sub hl [0, 1, 2, 3] rfl) h27
    · have h28 := dit h26 c19
      clear h26
      refine lv_lload_n hx hb dX3_add_13 rfl (lv_at hl 2 rfl) ?_
      refine lv_lconst (v := (0 : Int64)) hx hb dX3_add_14 (by decide) ?_
      refine W.lcmp hx hb dX3_add_15 ?_
      refine lv_if_ne (tgt := 26) hx hb dX3_add_16 (by decide) (fun c20 => ?_) (fun c20 => ?_)
      · have h29 := dif h28 c20
        clear h28
        exact kJ16  _ _ _ Z (lv_sub hl [0, 1, 2, 3] rfl) h29
      · have h30 := dit h28 c20
        clear h28
        refine lv_lload hx hb dX3_add_19 (lv_at hl 3 rfl) ?_
        refine lv_lconst (v := (0 : Int64)) hx hb dX3_add_21 (by decide) ?_
        refine W.lcmp hx hb dX3_add_22 ?_
        refine lv_if_eq (tgt := 37) hx hb dX3_add_23 (by decide) (fun c21 => ?_) (fun c21 => ?_)
        · have h31 := dit h30 c21
          clear h30
          exact kJ1  _ _ _ Z (lv_sub hl [0, 1, 2, 3] rfl) h31
        · have h32 := dif h30 c21
          clear h30
          exact kJ16  _ _ _ Z (lv_sub hl [0, 1, 2, 3] rfl) h32
theorem dX7_meets_0 : decode cX7_meets 0 = .ok (.aload_n 0, 1) := by decide +kernel
theorem dX7_meets_1 : decode cX7_meets 1 = .ok (.iload_n 1, 1) := by decide +kernel
theorem dX7_meets_2 : decode cX7_meets 2 = .ok (.invokevirtual 112, 3) := by decide +kernel
theorem dX7_meets_5 : decode cX7_meets 5 = .ok (.aload_n 0, 1) := by decide +kernel
theorem dX7_meets_6 : decode cX7_meets 6 = .ok (.iload_n 2, 1) := by decide +kernel
theorem dX7_meets_7 : decode cX7_meets 7 = .ok (.iload_n 3, 1) := by decide +kernel
theorem dX7_meets_8 : decode cX7_meets 8 = .ok (.iload 4, 2) := by decide +kernel
theorem dX7_meets_10 : decode cX7_meets 10 = .ok (.invokevirtual 83, 3) := by decide +kernel
theorem dX7_meets_13 : decode cX7_meets 13 = .ok (.aload_n 0, 1) := by decide +kernel
theorem dX7_meets_14 : decode cX7_meets 14 = .ok (.iconst 0, 1) := by decide +kernel
theorem dX7_meets_15 : decode cX7_meets 15 = .ok (.invokevirtual 115, 3) := by decide +kernel
theorem dX7_meets_18 : decode cX7_meets 18 = .ok (.ireturn, 1) := by decide +kernel
def rm_fSo_meets : Room := { frames := 6, cells := 0, slots := 0, locals := 207 }
set_option maxHeartbeats 4000000 in
set_option maxRecDepth 100000 in
theorem c_fSo_meets (l : Launch) (X : eX) (sz : Nat) (a1 : Int32) (a2 : Int32) (a3 : Int32) (a4 : Int32) (σ : sT) (rz : Int32) (σz : sT) (h0 : fSo_meets a1 a2 a3 a4 σ = some (rz, σz)) : ctI l yX7_meets cX7_meets 5 (some .boolean) rm_fSo_meets [.ref (X.2.1 5), .int a1, .int a2, .int a3, .int a4] (wC X) (tC X) (aC X) X sz σ rz σz := by
  refine ct_of (by decide +kernel) (Nat.le_of_ble_eq_true rfl) ?_
  intro p e s m args below meth c ls hz B hl Z
  have B : Bd p s m args meth c RX7 cX7_meets 5 (some .boolean) := B
  have hl : lv_has ls 5 [(0, .ref (X.2.1 5)), (1, .int a1), (2, .int a2), (3, .int a3), (4, .int a4)] := hl
  have hx := B.1
  have hb := B.2.1
  unfold fSo_meets at h0
  refine lv_aload_n hx hb dX7_meets_0 rfl (lv_at hl 0 rfl) ?_
  refine lv_iload_n hx hb dX7_meets_1 rfl (lv_at hl 1 rfl) ?_
  obtain ⟨σ2, hc0, h1⟩ := db1_s h0
  clear h0
  refine cV_V [.int a1] [] B mx_yX7_load (c_fSo_load l X _ a1 σ σ2 hc0) kl_RX7_112 mi_yX7_load (rv_5 _ _) hcl_7 Z hl rfl rfl ⟨Nat.le_of_ble_eq_true rfl, Nat.le_of_ble_eq_true rfl⟩ rfl rfl (Nat.le_of_ble_eq_true rfl) dX7_meets_2 (fun H locs Z => ?_)
  clear hc0
  refine lv_aload_n hx hb dX7_meets_5 rfl (lv_at hl 0 rfl) ?_
  refine lv_iload_n hx hb dX7_meets_6 rfl (lv_at hl 2 rfl) ?_
  refine lv_iload_n hx hb dX7_meets_7 rfl (lv_at hl 3 rfl) ?_
  refine lv_iload hx hb dX7_meets_8 (lv_at hl 4 rfl) ?_
  obtain ⟨σ4, hc2, h2⟩ := db1_s h1
  clear h1
  refine cV_V [.int a2, .int a3, .int a4] [] B mx_yX7_keep (c_fSo_keep l X _ a2 a3 a4 σ2 σ4 hc2) kl_RX7_83 mi_yX7_keep (rv_5 _ _) hcl_7 Z hl rfl rfl ⟨Nat.le_of_ble_eq_true rfl, Nat.le_of_ble_eq_true rfl⟩ rfl rfl (Nat.le_of_ble_eq_true rfl) dX7_meets_10 (fun H locs Z => ?_)
  clear hc2
  refine lv_aload_n hx hb dX7_meets_13 rfl (lv_at hl 0 rfl) ?_
  refine lv_iconst (v := (0 : Int32)) hx hb dX7_meets_14 (by decide) ?_
  obtain ⟨r6, σ7, hc4, h3⟩ := db2_s h2
  clear h2
  refine cV_I [.int (0 : Int32)] [] B mx_yX7_narrow (c_fSo_narrow l X _ (0 : Int32) σ4 r6 σ7 hc4) kl_RX7_115 mi_yX7_narrow (rv_5 _ _) hcl_7 Z hl rfl rfl ⟨Nat.le_of_ble_eq_true rfl, Nat.le_of_ble_eq_true rfl⟩ rfl rfl (Nat.le_of_ble_eq_true rfl) dX7_meets_15 (fun H locs Z => ?_)
  clear hc4
  obtain ⟨z8, h4⟩ := dck_s h3
  clear h3
  exact reI B Z (okZ_n z8) hz h4 dX7_meets_18
theorem dX7_dimensionOf_0 : decode cX7_dimensionOf 0 = .ok (.aload_n 0, 1) := by decide +kernel
theorem dX7_dimensionOf_1 : decode cX7_dimensionOf 1 = .ok (.getfield 36, 3) := by decide +kernel
theorem dX7_dimensionOf_4 : decode cX7_dimensionOf 4 = .ok (.iconst 0, 1) := by decide +kernel
theorem dX7_dimensionOf_5 : decode cX7_dimensionOf 5 = .ok (.putfield 126, 3) := by decide +kernel
theorem dX7_dimensionOf_8 : decode cX7_dimensionOf 8 = .ok (.iconst 0, 1) := by decide +kernel
theorem dX7_dimensionOf_9 : decode cX7_dimensionOf 9 = .ok (.istore_n 2, 1) := by decide +kernel
theorem dX7_dimensionOf_10 : decode cX7_dimensionOf 10 = .ok (.iload_n 2, 1) := by decide +kernel
theorem dX7_dimensionOf_11 : decode cX7_dimensionOf 11 = .ok (.bipush 12, 2) := by decide +kernel
theorem dX7_dimensionOf_13 : decode cX7_dimensionOf 13 = .ok (.if_icmp .ge 85, 3) := by decide +kernel
theorem dX7_dimensionOf_16 : decode cX7_dimensionOf 16 = .ok (.aload_n 0, 1) := by decide +kernel
theorem dX7_dimensionOf_17 : decode cX7_dimensionOf 17 = .ok (.getfield 50, 3) := by decide +kernel
theorem dX7_dimensionOf_20 : decode cX7_dimensionOf 20 = .ok (.iload_n 2, 1) := by decide +kernel
theorem dX7_dimensionOf_21 : decode cX7_dimensionOf 21 = .ok (.iconst 3, 1) := by decide +kernel
theorem dX7_dimensionOf_22 : decode cX7_dimensionOf 22 = .ok (.invokevirtual 78, 3) := by decide +kernel
theorem dX7_dimensionOf_25 : decode cX7_dimensionOf 25 = .ok (.istore_n 3, 1) := by decide +kernel
theorem dX7_dimensionOf_26 : decode cX7_dimensionOf 26 = .ok (.iload_n 1, 1) := by decide +kernel
theorem dX7_dimensionOf_27 : decode cX7_dimensionOf 27 = .ok (.iload_n 2, 1) := by decide +kernel
theorem dX7_dimensionOf_28 : decode cX7_dimensionOf 28 = .ok (.invokestatic 74, 3) := by decide +kernel
theorem dX7_dimensionOf_31 : decode cX7_dimensionOf 31 = .ok (.ifCond .eq 61, 3) := by decide +kernel
theorem dX7_dimensionOf_34 : decode cX7_dimensionOf 34 = .ok (.iload_n 3, 1) := by decide +kernel
theorem dX7_dimensionOf_35 : decode cX7_dimensionOf 35 = .ok (.iconst 2, 1) := by decide +kernel
theorem dX7_dimensionOf_36 : decode cX7_dimensionOf 36 = .ok (.if_icmp .eq 19, 3) := by decide +kernel
theorem dX7_dimensionOf_39 : decode cX7_dimensionOf 39 = .ok (.iload_n 3, 1) := by decide +kernel
theorem dX7_dimensionOf_40 : decode cX7_dimensionOf 40 = .ok (.iconst 1, 1) := by decide +kernel
theorem dX7_dimensionOf_41 : decode cX7_dimensionOf 41 = .ok (.if_icmp .ne 51, 3) := by decide +kernel
theorem dX7_dimensionOf_44 : decode cX7_dimensionOf 44 = .ok (.aload_n 0, 1) := by decide +kernel
theorem dX7_dimensionOf_45 : decode cX7_dimensionOf 45 = .ok (.iload_n 1, 1) := by decide +kernel
theorem dX7_dimensionOf_46 : decode cX7_dimensionOf 46 = .ok (.iload_n 2, 1) := by decide +kernel
theorem dX7_dimensionOf_47 : decode cX7_dimensionOf 47 = .ok (.iconst 1, 1) := by decide +kernel
theorem dX7_dimensionOf_48 : decode cX7_dimensionOf 48 = .ok (.iconst 0, 1) := by decide +kernel
theorem dX7_dimensionOf_49 : decode cX7_dimensionOf 49 = .ok (.invokevirtual 122, 3) := by decide +kernel
theorem dX7_dimensionOf_52 : decode cX7_dimensionOf 52 = .ok (.ifCond .ne 40, 3) := by decide +kernel
theorem dX7_dimensionOf_55 : decode cX7_dimensionOf 55 = .ok (.aload_n 0, 1) := by decide +kernel
theorem dX7_dimensionOf_56 : decode cX7_dimensionOf 56 = .ok (.getfield 36, 3) := by decide +kernel
theorem dX7_dimensionOf_59 : decode cX7_dimensionOf 59 = .ok (.aload_n 0, 1) := by decide +kernel
theorem dX7_dimensionOf_60 : decode cX7_dimensionOf 60 = .ok (.getfield 50, 3) := by decide +kernel
theorem dX7_dimensionOf_63 : decode cX7_dimensionOf 63 = .ok (.iload_n 2, 1) := by decide +kernel
theorem dX7_dimensionOf_64 : decode cX7_dimensionOf 64 = .ok (.iconst 0, 1) := by decide +kernel
theorem dX7_dimensionOf_65 : decode cX7_dimensionOf 65 = .ok (.invokevirtual 78, 3) := by decide +kernel
theorem dX7_dimensionOf_68 : decode cX7_dimensionOf 68 = .ok (.i2l, 1) := by decide +kernel
theorem dX7_dimensionOf_69 : decode cX7_dimensionOf 69 = .ok (.aload_n 0, 1) := by decide +kernel
theorem dX7_dimensionOf_70 : decode cX7_dimensionOf 70 = .ok (.getfield 50, 3) := by decide +kernel
theorem dX7_dimensionOf_73 : decode cX7_dimensionOf 73 = .ok (.iload_n 2, 1) := by decide +kernel
theorem dX7_dimensionOf_74 : decode cX7_dimensionOf 74 = .ok (.iconst 1, 1) := by decide +kernel
theorem dX7_dimensionOf_75 : decode cX7_dimensionOf 75 = .ok (.invokevirtual 78, 3) := by decide +kernel
theorem dX7_dimensionOf_78 : decode cX7_dimensionOf 78 = .ok (.i2l, 1) := by decide +kernel
theorem dX7_dimensionOf_79 : decode cX7_dimensionOf 79 = .ok (.aload_n 0, 1) := by decide +kernel
theorem dX7_dimensionOf_80 : decode cX7_dimensionOf 80 = .ok (.getfield 50, 3) := by decide +kernel
theorem dX7_dimensionOf_83 : decode cX7_dimensionOf 83 = .ok (.iload_n 2, 1) := by decide +kernel
theorem dX7_dimensionOf_84 : decode cX7_dimensionOf 84 = .ok (.iconst 2, 1) := by decide +kernel
theorem dX7_dimensionOf_85 : decode cX7_dimensionOf 85 = .ok (.invokevirtual 78, 3) := by decide +kernel
theorem dX7_dimensionOf_88 : decode cX7_dimensionOf 88 = .ok (.i2l, 1) := by decide +kernel
theorem dX7_dimensionOf_89 : decode cX7_dimensionOf 89 = .ok (.invokevirtual 128, 3) := by decide +kernel
theorem dX7_dimensionOf_92 : decode cX7_dimensionOf 92 = .ok (.iinc 2 1, 3) := by decide +kernel
theorem dX7_dimensionOf_95 : decode cX7_dimensionOf 95 = .ok (.goto (-85), 3) := by decide +kernel
theorem dX7_dimensionOf_98 : decode cX7_dimensionOf 98 = .ok (.iconst 3, 1) := by decide +kernel
theorem dX7_dimensionOf_99 : decode cX7_dimensionOf 99 = .ok (.aload_n 0, 1) := by decide +kernel
theorem dX7_dimensionOf_100 : decode cX7_dimensionOf 100 = .ok (.getfield 36, 3) := by decide +kernel
theorem dX7_dimensionOf_103 : decode cX7_dimensionOf 103 = .ok (.getfield 126, 3) := by decide +kernel
theorem dX7_dimensionOf_106 : decode cX7_dimensionOf 106 = .ok (.isub, 1) := by decide +kernel
theorem dX7_dimensionOf_107 : decode cX7_dimensionOf 107 = .ok (.ireturn, 1) := by decide +kernel
def rm_fSo_dimensionOf : Room := { frames := 7, cells := 0, slots := 0, locals := 231 }
set_option maxHeartbeats 4000000 in
set_option maxRecDepth 100000 in
theorem c_fSo_dimensionOf (l : Launch) (X : eX) (sz : Nat) (a1 : Int32) (σ : sT) (rz : Int32) (σz : sT) (h0 : fSo_dimensionOf a1 σ = some (rz, σz)) : ctI l yX7_dimensionOf cX7_dimensionOf 4 (some .int) rm_fSo_dimensionOf [.ref (X.2.1 5), .int a1] (wC X) (tC X) (aC X) X sz σ rz σz := by
  refine ct_of (by decide +kernel) (Nat.le_of_ble_eq_true rfl) ?_
  intro p e s m args below meth c ls hz B hl Z
  have B : Bd p s m args meth c RX7 cX7_dimensionOf 4 (some .int) := B
  have hl : lv_has ls 4 [(0, .ref (X.2.1 5)), (1, .int a1)] := hl
  have hx := B.1
  have hb := B.2.1
  unfold fSo_dimensionOf at h0
  refine lv_aload_n hx hb dX7_dimensionOf_0 rfl (lv_at hl 0 rfl) ?_
  refine g_5_5 B Z kf_RX7_36 dX7_dimensionOf_1 ?_
  refine lv_iconst (v := (0 : Int32)) hx hb dX7_dimensionOf_4 (by decide) ?_
  refine sn_16_3 B Z kx_RX7_126 dX7_dimensionOf_5 (fun H locs Z => ?_)
  obtain ⟨σ1, eσ1, h1⟩ := dlt_s h0
  clear h0
  replace Z := Wd.eq eσ1 Z
  clear eσ1
  refine lv_iconst (v := (0 : Int32)) hx hb dX7_dimensionOf_8 (by decide) ?_
  refine lv_istore_n (lv' := [(2, .int (0 : Int32)), (0, .ref (X.2.1 5)), (1, .int a1)]) hx hb dX7_dimensionOf_9 rfl hl (by decide) rfl (fun ls hl => ?_)
  have lL10 : ∀ (n : Nat), ∀ (x2 : Int32) (σ3 : sT) (H : Heap) (locs : List Loc) (ls : Array Slot), Wd (wC X) (tC X) (aC X) X s σ3 H locs → lv_has ls 4 [(0, .ref (X.2.1 5)), (1, .int a1), (2, .int x2)] → fSo_dimensionOf_L10 a1 n x2 σ3 = some (rz, σz) → W p l e rm_fSo_dimensionOf s m args below meth c H locs 0 0 (MQ below (va_Qi (fun a u => a = rz ∧ u = σz) (poW (wC X) (tC X) (aC X) X sz) (aA (aC X) sz)) args s 0 0 (aA (aC X) sz)) (F0 m 10 ls []) := by
    intro n
    induction n with
    | zero =>
      intro x2 σ3 H locs ls Z hl h
      exact nomatch (show (none : Option (Int32 × sT)) = some _ from h)
    | succ n4 ih6 =>
      intro x2 σ3 H locs ls Z hl h2
      unfold fSo_dimensionOf_L10 at h2
      refine lv_iload_n hx hb dX7_dimensionOf_10 rfl (lv_at hl 2 rfl) ?_
      refine lv_bipush (v := (12 : Int32)) hx hb dX7_dimensionOf_11 (by decide) ?_
      refine lv_icmp_ge (tgt := 98) hx hb dX7_dimensionOf_13 (by decide) (fun c5 => ?_) (fun c5 => ?_)
      · have h3 := dit h2 c5
        clear h2
        refine lv_iconst (v := (3 : Int32)) hx hb dX7_dimensionOf_98 (by decide) ?_
        refine lv_aload_n hx hb dX7_dimensionOf_99 rfl (lv_at hl 0 rfl) ?_
        refine g_5_5 B Z kf_RX7_36 dX7_dimensionOf_100 ?_
        refine gn_16_3 B Z kx_RX7_126 dX7_dimensionOf_103 ?_
        refine lv_isub hx hb dX7_dimensionOf_106 ?_
        exact reI B Z rfl hz h3 dX7_dimensionOf_107
      · have h4 := dif h2 c5
        clear h2
        refine lv_aload_n hx hb dX7_dimensionOf_16 rfl (lv_at hl 0 rfl) ?_
        refine g_5_0 B Z kf_RX7_50 dX7_dimensionOf_17 ?_
        refine lv_iload_n hx hb dX7_dimensionOf_20 rfl (lv_at hl 2 rfl) ?_
        refine lv_iconst (v := (3 : Int32)) hx hb dX7_dimensionOf_21 (by decide) ?_
        obtain ⟨r7, hc5, h5⟩ := db1_s h4
        clear h4
        refine cV_I [.int x2, .int (3 : Int32)] [] B mx_yX0_get (c_fBk_get l X _ x2 (3 : Int32) σ3 r7 hc5) kl_RX7_78 mi_yX0_get (rv_1 _ _) hcl_0 Z hl rfl rfl ⟨Nat.le_of_ble_eq_true rfl, Nat.le_of_ble_eq_true rfl⟩ rfl rfl (Nat.le_of_ble_eq_true rfl) dX7_dimensionOf_22 (fun H locs Z => ?_)
        clear hc5
        refine lv_istore_n (lv' := [(3, .int r7), (0, .ref (X.2.1 5)), (1, .int a1), (2, .int x2)]) hx hb dX7_dimensionOf_25 rfl hl (by decide) rfl (fun ls hl => ?_)
        refine lv_iload_n hx hb dX7_dimensionOf_26 rfl (lv_at hl 2 rfl) ?_
        refine lv_iload_n hx hb dX7_dimensionOf_27 rfl (lv_at hl 3 rfl) ?_
        obtain ⟨r9, hc7, h6⟩ := db1_s h5
        clear h5
        refine cSN_I [.int a1, .int x2] [] B mx_yX11_isIn (c_fRM_isIn l X _ a1 x2 σ3 r9 hc7) kx_RX7_74 ks_yX11_isIn Z hl rfl rfl ⟨Nat.le_of_ble_eq_true rfl, Nat.le_of_ble_eq_true rfl⟩ rfl rfl (Nat.le_of_ble_eq_true rfl) dX7_dimensionOf_28 (fun H locs Z => ?_)
        clear hc7
        refine lv_if_eq (tgt := 92) hx hb dX7_dimensionOf_31 (by decide) (fun c10 => ?_) (fun c10 => ?_)
        · have h7 := dit h6 c10
          clear h6
          refine lv_iinc (v := x2 + (1 : Int32)) (lv' := [(2, .int (x2 + (1 : Int32))), (3, .int r7), (0, .ref (X.2.1 5)), (1, .int a1)]) hx hb dX7_dimensionOf_92 hl (k := 3) rfl (by rfl) (by decide) rfl (fun ls hl => ?_)
          refine lv_goto (tgt := 10) hx hb dX7_dimensionOf_95 (by decide) ?_
          exact ih6 (x2 + (1 : Int32)) σ3 _ _ _ Z (lv_sub hl [2, 3, 0] rfl) h7
        · have h8 := dif h6 c10
          clear h6
          refine lv_iload_n hx hb dX7_dimensionOf_34 rfl (lv_at hl 0 rfl) ?_
          refine lv_iconst (v := (2 : Int32)) hx hb dX7_dimensionOf_35 (by decide) ?_
          obtain ⟨J12, eJ12, h14⟩ := dlt_s h8
          clear h8
          have kJ12 : ∀ (σ11 : sT) (H : Heap) (locs : List Loc) (ls : Array Slot), Wd (wC X) (tC X) (aC X) X s σ11 H locs → lv_has ls 4 [(0, .ref (X.2.1 5)), (1, .int a1), (2, .int x2)] → J12 σ11 = some (rz, σz) → W p l e rm_fSo_dimensionOf s m args below meth c H locs 0 0 (MQ below (va_Qi (fun a u => a = rz ∧ u = σz) (poW (wC X) (tC X) (aC X) X sz) (aA (aC X) sz)) args s 0 0 (aA (aC X) sz)) (F0 m 55 ls []) := by
            intro σ11 H locs ls Z hl h9
            rw [eJ12] at h9
            refine lv_aload_n hx hb dX7_dimensionOf_55 rfl (lv_at hl 0 rfl) ?_
            refine g_5_5 B Z kf_RX7_36 dX7_dimensionOf_56 ?_
            refine lv_aload_n hx hb dX7_dimensionOf_59 rfl (lv_at hl 0 rfl) ?_
            refine g_5_0 B Z kf_RX7_50 dX7_dimensionOf_60 ?_
            refine lv_iload_n hx hb dX7_dimensionOf_63 rfl (lv_at hl 2 rfl) ?_
            refine lv_iconst (v := (0 : Int32)) hx hb dX7_dimensionOf_64 (by decide) ?_
            obtain ⟨r14, hc12, h10⟩ := db1_s h9
            clear h9
            refine cV_I [.int x2, .int (0 : Int32)] [.ref (X.2.1 16)] B mx_yX0_get (c_fBk_get l X _ x2 (0 : Int32) σ11 r14 hc12) kl_RX7_78 mi_yX0_get (rv_1 _ _) hcl_0 Z hl rfl rfl ⟨Nat.le_of_ble_eq_true rfl, Nat.le_of_ble_eq_true rfl⟩ rfl rfl (Nat.le_of_ble_eq_true rfl) dX7_dimensionOf_65 (fun H locs Z => ?_)
            clear hc12
            refine lv_i2l hx hb dX7_dimensionOf_68 rfl ?_
            refine lv_aload_n hx hb dX7_dimensionOf_69 rfl (lv_at hl 0 rfl) ?_
            refine g_5_0 B Z kf_RX7_50 dX7_dimensionOf_70 ?_
            refine lv_iload_n hx hb dX7_dimensionOf_73 rfl (lv_at hl 2 rfl) ?_
            refine lv_iconst (v := (1 : Int32)) hx hb dX7_dimensionOf_74 (by decide) ?_
            obtain ⟨r16, hc14, h11⟩ := db1_s h10
            clear h10
            refine cV_I [.int x2, .int (1 : Int32)] [.long r14.toInt64, .ref (X.2.1 16)] B mx_yX0_get (c_fBk_get l X _ x2 (1 : Int32) σ11 r16 hc14) kl_RX7_78 mi_yX0_get (rv_1 _ _) hcl_0 Z hl rfl rfl ⟨Nat.le_of_ble_eq_true rfl, Nat.le_of_ble_eq_true rfl⟩ rfl rfl (Nat.le_of_ble_eq_true rfl) dX7_dimensionOf_75 (fun H locs Z => ?_)
            clear hc14
            refine lv_i2l hx hb dX7_dimensionOf_78 rfl ?_
            refine lv_aload_n hx hb dX7_dimensionOf_79 rfl (lv_at hl 0 rfl) ?_
            refine g_5_0 B Z kf_RX7_50 dX7_dimensionOf_80 ?_
            refine lv_iload_n hx hb dX7_dimensionOf_83 rfl (lv_at hl 2 rfl) ?_
            refine lv_iconst (v := (2 : Int32)) hx hb dX7_dimensionOf_84 (by decide) ?_
            obtain ⟨r18, hc16, h12⟩ := db1_s h11
            clear h11
            refine cV_I [.int x2, .int (2 : Int32)] [.long r16.toInt64, .long r14.toInt64, .ref (X.2.1 16)] B mx_yX0_get (c_fBk_get l X _ x2 (2 : Int32) σ11 r18 hc16) kl_RX7_78 mi_yX0_get (rv_1 _ _) hcl_0 Z hl rfl rfl ⟨Nat.le_of_ble_eq_true rfl, Nat.le_of_ble_eq_true rfl⟩ rfl rfl (Nat.le_of_ble_eq_true rfl) dX7_dimensionOf_85 (fun H locs Z => ?_)
            clear hc16
            refine lv_i2l hx hb dX7_dimensionOf_88 rfl ?_
            obtain ⟨σ20, hc18, h13⟩ := db1_s h12
            clear h12
            refine cV_V [.long r14.toInt64, .long r16.toInt64, .long r18.toInt64] [] B mx_yX3_add (c_fRk_add l X _ r14.toInt64 r16.toInt64 r18.toInt64 σ11 σ20 hc18) kl_RX7_128 mi_yX3_add (rv_16 _ _) hcl_3 Z hl rfl rfl ⟨Nat.le_of_ble_eq_true rfl, Nat.le_of_ble_eq_true rfl⟩ rfl rfl (Nat.le_of_ble_eq_true rfl) dX7_dimensionOf_89 (fun H locs Z => ?_)
            clear hc18
            refine lv_iinc (v := x2 + (1 : Int32)) (lv' := [(2, .int (x2 + (1 : Int32))), (0, .ref (X.2.1 5)), (1, .int a1)]) hx hb dX7_dimensionOf_92 hl (k := 2) rfl (by rfl) (by decide) rfl (fun ls hl => ?_)
            refine lv_goto (tgt := 10) hx hb dX7_dimensionOf_95 (by decide) ?_
            exact ih6 (x2 + (1 : Int32)) σ20 _ _ _ Z (lv_sub hl [1, 2, 0] rfl) h13
          clear eJ12
          refine lv_icmp_eq (tgt := 55) hx hb dX7_dimensionOf_36 (by decide) (fun c21 => ?_) (fun c21 => ?_)
          · have h15 := dit h14 c21
            clear h14
            exact kJ12 σ3 _ _ _ Z (lv_sub hl [1, 2, 3] rfl) h15
          · have h16 := dif h14 c21
            clear h14
            refine lv_iload_n hx hb dX7_dimensionOf_39 rfl (lv_at hl 0 rfl) ?_
            refine lv_iconst (v := (1 : Int32)) hx hb dX7_dimensionOf_40 (by decide) ?_
            refine lv_icmp_ne (tgt := 92) hx hb dX7_dimensionOf_41 (by decide) (fun c22 => ?_) (fun c22 => ?_)
            · have h17 := dif h16 c22
              clear h16
              refine lv_iinc (v := x2 + (1 : Int32)) (lv' := [(2, .int (x2 + (1 : Int32))), (3, .int r7), (0, .ref (X.2.1 5)), (1, .int a1)]) hx hb dX7_dimensionOf_92 hl (k := 3) rfl (by rfl) (by decide) rfl (fun ls hl => ?_)
              refine lv_goto (tgt := 10) hx hb dX7_dimensionOf_95 (by decide) ?_
              exact ih6 (x2 + (1 : Int32)) σ3 _ _ _ Z (lv_sub hl [2, 3, 0] rfl) h17
            · have h18 := dit h16 c22
              clear h16
              refine lv_aload_n hx hb dX7_dimensionOf_44 rfl (lv_at hl 1 rfl) ?_
              refine lv_iload_n hx hb dX7_dimensionOf_45 rfl (lv_at hl 2 rfl) ?_
              refine lv_iload_n hx hb dX7_dimensionOf_46 rfl (lv_at hl 3 rfl) ?_
              refine lv_iconst (v := (1 : Int32)) hx hb dX7_dimensionOf_47 (by decide) ?_
              refine lv_iconst (v := (0 : Int32)) hx hb dX7_dimensionOf_48 (by decide) ?_
              obtain ⟨r24, σ25, hc22, h19⟩ := db2_s h18
              clear h18
              refine cV_I [.int a1, .int x2, .int (1 : Int32), .int (0 : Int32)] [] B mx_yX7_meets (c_fSo_meets l X _ a1 x2 (1 : Int32) (0 : Int32) σ3 r24 σ25 hc22) kl_RX7_122 mi_yX7_meets (rv_5 _ _) hcl_7 Z hl rfl rfl ⟨Nat.le_of_ble_eq_true rfl, Nat.le_of_ble_eq_true rfl⟩ rfl rfl (Nat.le_of_ble_eq_true rfl) dX7_dimensionOf_49 (fun H locs Z => ?_)
              clear hc22
              refine lv_if_ne (tgt := 92) hx hb dX7_dimensionOf_52 (by decide) (fun c26 => ?_) (fun c26 => ?_)
              · have h20 := dif h19 c26
                clear h19
                refine lv_iinc (v := x2 + (1 : Int32)) (lv' := [(2, .int (x2 + (1 : Int32))), (3, .int r7), (0, .ref (X.2.1 5)), (1, .int a1)]) hx hb dX7_dimensionOf_92 hl (k := 3) rfl (by rfl) (by decide) rfl (fun ls hl => ?_)
                refine lv_goto (tgt := 10) hx hb dX7_dimensionOf_95 (by decide) ?_
                exact ih6 (x2 + (1 : Int32)) σ25 _ _ _ Z (lv_sub hl [2, 3, 0] rfl) h20
              · have h21 := dit h19 c26
                clear h19
                exact kJ12 σ25 _ _ _ Z (lv_sub hl [1, 2, 3] rfl) h21
  exact lL10 FU (0 : Int32) σ1 _ _ _ Z (lv_sub hl [1, 2, 0] rfl) h1
theorem dX11_no_0 : decode cX11_no 0 = .ok (.aload_n 0, 1) := by decide +kernel
theorem dX11_no_1 : decode cX11_no 1 = .ok (.dup, 1) := by decide +kernel
theorem dX11_no_2 : decode cX11_no 2 = .ok (.getfield 249, 3) := by decide +kernel
theorem dX11_no_5 : decode cX11_no 5 = .ok (.iconst 1, 1) := by decide +kernel
theorem dX11_no_6 : decode cX11_no 6 = .ok (.iadd, 1) := by decide +kernel
theorem dX11_no_7 : decode cX11_no 7 = .ok (.putfield 249, 3) := by decide +kernel
theorem dX11_no_10 : decode cX11_no 10 = .ok (.ldc_w 256, 3) := by decide +kernel
theorem dX11_no_13 : decode cX11_no 13 = .ok (.ireturn, 1) := by decide +kernel
def rm_fRM_no : Room := { frames := 1, cells := 0, slots := 0, locals := 60 }
set_option maxHeartbeats 4000000 in
set_option maxRecDepth 100000 in
theorem c_fRM_no (l : Launch) (X : eX) (sz : Nat)  (σ : sT) (rz : Int32) (σz : sT) (h0 : fRM_no σ = some (rz, σz)) : ctI l yX11_no cX11_no 1 (some .int) rm_fRM_no [.ref (X.2.1 0)] (wC X) (tC X) (aC X) X sz σ rz σz := by
  refine ct_of (by decide +kernel) (Nat.le_of_ble_eq_true rfl) ?_
  intro p e s m args below meth c ls hz B hl Z
  have B : Bd p s m args meth c RX11 cX11_no 1 (some .int) := B
  have hl : lv_has ls 1 [(0, .ref (X.2.1 0))] := hl
  have hx := B.1
  have hb := B.2.1
  unfold fRM_no at h0
  refine lv_aload_n hx hb dX11_no_0 rfl (lv_at hl 0 rfl) ?_
  refine lv_dup hx hb dX11_no_1 rfl ?_
  refine g_0_9 B Z kf_RX11_249 dX11_no_2 ?_
  refine lv_iconst (v := (1 : Int32)) hx hb dX11_no_5 (by decide) ?_
  refine lv_iadd hx hb dX11_no_6 ?_
  refine s_0_9 B Z kf_RX11_249 dX11_no_7 (fun H locs Z => ?_)
  obtain ⟨σ1, eσ1, h1⟩ := dlt_s h0
  clear h0
  replace Z := Wd.eq eσ1 Z
  clear eσ1
  refine lv_ldcw hx hb B.2.2.2.1 (B.2.2.2.2.1 _ kc_RX11_256) dX11_no_10 ?_
  exact reI B Z rfl hz h1 dX11_no_13
theorem dX11_dimension_0 : decode cX11_dimension 0 = .ok (.aload_n 0, 1) := by decide +kernel
theorem dX11_dimension_1 : decode cX11_dimension 1 = .ok (.getfield 10, 3) := by decide +kernel
theorem dX11_dimension_4 : decode cX11_dimension 4 = .ok (.iload_n 1, 1) := by decide +kernel
theorem dX11_dimension_5 : decode cX11_dimension 5 = .ok (.invokevirtual 118, 3) := by decide +kernel
theorem dX11_dimension_8 : decode cX11_dimension 8 = .ok (.ifCond .ne 8, 3) := by decide +kernel
theorem dX11_dimension_11 : decode cX11_dimension 11 = .ok (.aload_n 0, 1) := by decide +kernel
theorem dX11_dimension_12 : decode cX11_dimension 12 = .ok (.invokevirtual 77, 3) := by decide +kernel
theorem dX11_dimension_15 : decode cX11_dimension 15 = .ok (.ireturn, 1) := by decide +kernel
theorem dX11_dimension_16 : decode cX11_dimension 16 = .ok (.aload_n 0, 1) := by decide +kernel
theorem dX11_dimension_17 : decode cX11_dimension 17 = .ok (.getfield 21, 3) := by decide +kernel
theorem dX11_dimension_20 : decode cX11_dimension 20 = .ok (.iload_n 1, 1) := by decide +kernel
theorem dX11_dimension_21 : decode cX11_dimension 21 = .ok (.invokevirtual 121, 3) := by decide +kernel
theorem dX11_dimension_24 : decode cX11_dimension 24 = .ok (.ifCond .ne 8, 3) := by decide +kernel
theorem dX11_dimension_27 : decode cX11_dimension 27 = .ok (.aload_n 0, 1) := by decide +kernel
theorem dX11_dimension_28 : decode cX11_dimension 28 = .ok (.invokevirtual 124, 3) := by decide +kernel
theorem dX11_dimension_31 : decode cX11_dimension 31 = .ok (.ireturn, 1) := by decide +kernel
theorem dX11_dimension_32 : decode cX11_dimension 32 = .ok (.aload_n 0, 1) := by decide +kernel
theorem dX11_dimension_33 : decode cX11_dimension 33 = .ok (.getfield 21, 3) := by decide +kernel
theorem dX11_dimension_36 : decode cX11_dimension 36 = .ok (.iload_n 1, 1) := by decide +kernel
theorem dX11_dimension_37 : decode cX11_dimension 37 = .ok (.invokevirtual 127, 3) := by decide +kernel
theorem dX11_dimension_40 : decode cX11_dimension 40 = .ok (.ireturn, 1) := by decide +kernel
def rm_fRM_dimension : Room := { frames := 8, cells := 0, slots := 0, locals := 254 }
set_option maxHeartbeats 4000000 in
set_option maxRecDepth 100000 in
theorem c_fRM_dimension (l : Launch) (X : eX) (sz : Nat) (a1 : Int32) (σ : sT) (rz : Int32) (σz : sT) (h0 : fRM_dimension a1 σ = some (rz, σz)) : ctI l yX11_dimension cX11_dimension 2 (some .int) rm_fRM_dimension [.ref (X.2.1 0), .int a1] (wC X) (tC X) (aC X) X sz σ rz σz := by
  refine ct_of (by decide +kernel) (Nat.le_of_ble_eq_true rfl) ?_
  intro p e s m args below meth c ls hz B hl Z
  have B : Bd p s m args meth c RX11 cX11_dimension 2 (some .int) := B
  have hl : lv_has ls 2 [(0, .ref (X.2.1 0)), (1, .int a1)] := hl
  have hx := B.1
  have hb := B.2.1
  unfold fRM_dimension at h0
  refine lv_aload_n hx hb dX11_dimension_0 rfl (lv_at hl 0 rfl) ?_
  refine g_0_0 B Z kf_RX11_10 dX11_dimension_1 ?_
  refine lv_iload_n hx hb dX11_dimension_4 rfl (lv_at hl 1 rfl) ?_
  obtain ⟨r2, hc0, h1⟩ := db1_s h0
  clear h0
  refine cV_I [.int a1] [] B mx_yX0_covers (c_fBk_covers l X _ a1 σ r2 hc0) kl_RX11_118 mi_yX0_covers (rv_1 _ _) hcl_0 Z hl rfl rfl ⟨Nat.le_of_ble_eq_true rfl, Nat.le_of_ble_eq_true rfl⟩ rfl rfl (Nat.le_of_ble_eq_true rfl) dX11_dimension_5 (fun H locs Z => ?_)
  clear hc0
  refine lv_if_ne (tgt := 16) hx hb dX11_dimension_8 (by decide) (fun c3 => ?_) (fun c3 => ?_)
  · have h2 := dif h1 c3
    clear h1
    refine lv_aload_n hx hb dX11_dimension_16 rfl (lv_at hl 0 rfl) ?_
    refine g_0_1 B Z kf_RX11_21 dX11_dimension_17 ?_
    refine lv_iload_n hx hb dX11_dimension_20 rfl (lv_at hl 1 rfl) ?_
    obtain ⟨r5, σ6, hc3, h3⟩ := db2_s h2
    clear h2
    refine cV_I [.int a1] [] B mx_yX7_isSatisfiable (c_fSo_isSatisfiable l X _ a1 σ r5 σ6 hc3) kl_RX11_121 mi_yX7_isSatisfiable (rv_5 _ _) hcl_7 Z hl rfl rfl ⟨Nat.le_of_ble_eq_true rfl, Nat.le_of_ble_eq_true rfl⟩ rfl rfl (Nat.le_of_ble_eq_true rfl) dX11_dimension_21 (fun H locs Z => ?_)
    clear hc3
    refine lv_if_ne (tgt := 32) hx hb dX11_dimension_24 (by decide) (fun c7 => ?_) (fun c7 => ?_)
    · have h4 := dif h3 c7
      clear h3
      refine lv_aload_n hx hb dX11_dimension_32 rfl (lv_at hl 0 rfl) ?_
      refine g_0_1 B Z kf_RX11_21 dX11_dimension_33 ?_
      refine lv_iload_n hx hb dX11_dimension_36 rfl (lv_at hl 1 rfl) ?_
      obtain ⟨r9, σ10, hc7, h5⟩ := db2_s h4
      clear h4
      refine cV_I [.int a1] [] B mx_yX7_dimensionOf (c_fSo_dimensionOf l X _ a1 σ6 r9 σ10 hc7) kl_RX11_127 mi_yX7_dimensionOf (rv_5 _ _) hcl_7 Z hl rfl rfl ⟨Nat.le_of_ble_eq_true rfl, Nat.le_of_ble_eq_true rfl⟩ rfl rfl (Nat.le_of_ble_eq_true rfl) dX11_dimension_37 (fun H locs Z => ?_)
      clear hc7
      exact reI B Z rfl hz h5 dX11_dimension_40
    · have h6 := dit h3 c7
      clear h3
      refine lv_aload_n hx hb dX11_dimension_27 rfl (lv_at hl 0 rfl) ?_
      obtain ⟨r12, σ13, hc10, h7⟩ := db2_s h6
      clear h6
      refine cV_I [] [] B mx_yX11_no (c_fRM_no l X _ σ6 r12 σ13 hc10) kl_RX11_124 mi_yX11_no (rv_0 _ _) hcl_11 Z hl rfl rfl ⟨Nat.le_of_ble_eq_true rfl, Nat.le_of_ble_eq_true rfl⟩ rfl rfl (Nat.le_of_ble_eq_true rfl) dX11_dimension_28 (fun H locs Z => ?_)
      clear hc10
      exact reI B Z rfl hz h7 dX11_dimension_31
  · have h8 := dit h1 c3
    clear h1
    refine lv_aload_n hx hb dX11_dimension_11 rfl (lv_at hl 0 rfl) ?_
    obtain ⟨r15, σ16, hc13, h9⟩ := db2_s h8
    clear h8
    refine cV_I [] [] B mx_yX11_bad (c_fRM_bad l X _ σ r15 σ16 hc13) kl_RX11_77 mi_yX11_bad (rv_0 _ _) hcl_11 Z hl rfl rfl ⟨Nat.le_of_ble_eq_true rfl, Nat.le_of_ble_eq_true rfl⟩ rfl rfl (Nat.le_of_ble_eq_true rfl) dX11_dimension_12 (fun H locs Z => ?_)
    clear hc13
    exact reI B Z rfl hz h9 dX11_dimension_15
theorem dX11_gcd_0 : decode cX11_gcd 0 = .ok (.lload_n 0, 1) := by decide +kernel
theorem dX11_gcd_1 : decode cX11_gcd 1 = .ok (.invokestatic 258, 3) := by decide +kernel
theorem dX11_gcd_4 : decode cX11_gcd 4 = .ok (.lstore 4, 2) := by decide +kernel
theorem dX11_gcd_6 : decode cX11_gcd 6 = .ok (.lload_n 2, 1) := by decide +kernel
theorem dX11_gcd_7 : decode cX11_gcd 7 = .ok (.invokestatic 258, 3) := by decide +kernel
theorem dX11_gcd_10 : decode cX11_gcd 10 = .ok (.lstore 6, 2) := by decide +kernel
theorem dX11_gcd_12 : decode cX11_gcd 12 = .ok (.iconst 0, 1) := by decide +kernel
theorem dX11_gcd_13 : decode cX11_gcd 13 = .ok (.istore 8, 2) := by decide +kernel
theorem dX11_gcd_15 : decode cX11_gcd 15 = .ok (.iload 8, 2) := by decide +kernel
theorem dX11_gcd_17 : decode cX11_gcd 17 = .ok (.bipush 100, 2) := by decide +kernel
theorem dX11_gcd_19 : decode cX11_gcd 19 = .ok (.if_icmp .ge 31, 3) := by decide +kernel
theorem dX11_gcd_22 : decode cX11_gcd 22 = .ok (.lload 6, 2) := by decide +kernel
theorem dX11_gcd_24 : decode cX11_gcd 24 = .ok (.lconst 0, 1) := by decide +kernel
theorem dX11_gcd_25 : decode cX11_gcd 25 = .ok (.lcmp, 1) := by decide +kernel
theorem dX11_gcd_26 : decode cX11_gcd 26 = .ok (.ifCond .eq 24, 3) := by decide +kernel
theorem dX11_gcd_29 : decode cX11_gcd 29 = .ok (.lload 4, 2) := by decide +kernel
theorem dX11_gcd_31 : decode cX11_gcd 31 = .ok (.lload 6, 2) := by decide +kernel
theorem dX11_gcd_33 : decode cX11_gcd 33 = .ok (.lrem, 1) := by decide +kernel
theorem dX11_gcd_34 : decode cX11_gcd 34 = .ok (.lstore 9, 2) := by decide +kernel
theorem dX11_gcd_36 : decode cX11_gcd 36 = .ok (.lload 6, 2) := by decide +kernel
theorem dX11_gcd_38 : decode cX11_gcd 38 = .ok (.lstore 4, 2) := by decide +kernel
theorem dX11_gcd_40 : decode cX11_gcd 40 = .ok (.lload 9, 2) := by decide +kernel
theorem dX11_gcd_42 : decode cX11_gcd 42 = .ok (.lstore 6, 2) := by decide +kernel
theorem dX11_gcd_44 : decode cX11_gcd 44 = .ok (.iinc 8 1, 3) := by decide +kernel
theorem dX11_gcd_47 : decode cX11_gcd 47 = .ok (.goto (-32), 3) := by decide +kernel
theorem dX11_gcd_50 : decode cX11_gcd 50 = .ok (.lload 4, 2) := by decide +kernel
theorem dX11_gcd_52 : decode cX11_gcd 52 = .ok (.lreturn, 1) := by decide +kernel
def rm_fRM_gcd : Room := { frames := 1, cells := 0, slots := 0, locals := 60 }
set_option maxHeartbeats 4000000 in
set_option maxRecDepth 100000 in
theorem c_fRM_gcd (l : Launch) (X : eX) (sz : Nat) (a1 : Int64) (a2 : Int64) (σ : sT) (rz : Int64) (h0 : fRM_gcd a1 a2 = some rz) : ctL l yX11_gcd cX11_gcd 11 (some .long) rm_fRM_gcd [.long a1, .long a2] (wC X) (tC X) (aC X) X sz σ rz σ := by
  refine ct_of (by decide +kernel) (Nat.le_of_ble_eq_true rfl) ?_
  intro p e s m args below meth c ls hz B hl Z
  have B : Bd p s m args meth c RX11 cX11_gcd 11 (some .long) := B
  have hl : lv_has ls 11 [(0, .long a1), (2, .long a2)] := hl
  have hx := B.1
  have hb := B.2.1
  unfold fRM_gcd at h0
  refine lv_lload_n hx hb dX11_gcd_0 rfl (lv_at hl 0 rfl) ?_
  refine va_mabs_long hx hb (B.2.2.1.trans hl.1.symm) B.2.2.2.1 (B.2.2.2.2.1 _ kl_RX11_258) (B.2.2.2.2.1 _ ks_JabsJ) (B.2.2.2.2.1 _ kz_RJ9) (B.2.2.2.2.1 _ kd_JabsJ) (Nat.le_of_ble_eq_true rfl) (Nat.le_of_ble_eq_true rfl) (Nat.zero_le _) (Nat.zero_le _) dX11_gcd_1 ?_
  refine lv_topl (fun x1 ex1 => ?_)
  have h1 := dlt_e ex1 h0
  clear ex1 h0
  refine lv_lstore (lv' := [(4, .long x1), (0, .long a1), (2, .long a2)]) hx hb dX11_gcd_4 hl (by decide) rfl (fun ls hl => ?_)
  refine lv_lload_n hx hb dX11_gcd_6 rfl (lv_at hl 2 rfl) ?_
  refine va_mabs_long hx hb (B.2.2.1.trans hl.1.symm) B.2.2.2.1 (B.2.2.2.2.1 _ kl_RX11_258) (B.2.2.2.2.1 _ ks_JabsJ) (B.2.2.2.2.1 _ kz_RJ9) (B.2.2.2.2.1 _ kd_JabsJ) (Nat.le_of_ble_eq_true rfl) (Nat.le_of_ble_eq_true rfl) (Nat.zero_le _) (Nat.zero_le _) dX11_gcd_7 ?_
  refine lv_topl (fun x2 ex2 => ?_)
  have h2 := dlt_e ex2 h1
  clear ex2 h1
  refine lv_lstore (lv' := [(6, .long x2), (4, .long x1), (0, .long a1), (2, .long a2)]) hx hb dX11_gcd_10 hl (by decide) rfl (fun ls hl => ?_)
  refine lv_iconst (v := (0 : Int32)) hx hb dX11_gcd_12 (by decide) ?_
  refine lv_istore (lv' := [(8, .int (0 : Int32)), (6, .long x2), (4, .long x1), (0, .long a1), (2, .long a2)]) hx hb dX11_gcd_13 hl (by decide) rfl (fun ls hl => ?_)
  have lL15 : ∀ (n : Nat), ∀ (x3 : Int64) (x4 : Int64) (x5 : Int32) (H : Heap) (locs : List Loc) (ls : Array Slot), Wd (wC X) (tC X) (aC X) X s σ H locs → lv_has ls 11 [(4, .long x3), (6, .long x4), (8, .int x5)] → fRM_gcd_L15 n x3 x4 x5 = some rz → W p l e rm_fRM_gcd s m args below meth c H locs 0 0 (MQ below (va_Ql (fun a u => a = rz ∧ u = σ) (poW (wC X) (tC X) (aC X) X sz) (aA (aC X) sz)) args s 0 0 (aA (aC X) sz)) (F0 m 15 ls []) := by
    intro n
    induction n with
    | zero =>
      intro x3 x4 x5 H locs ls Z hl h
      exact nomatch (show (none : Option (Int64)) = some _ from h)
    | succ n6 ih8 =>
      intro x3 x4 x5 H locs ls Z hl h3
      unfold fRM_gcd_L15 at h3
      refine lv_iload hx hb dX11_gcd_15 (lv_at hl 2 rfl) ?_
      refine lv_bipush (v := (100 : Int32)) hx hb dX11_gcd_17 (by decide) ?_
      refine lv_icmp_ge (tgt := 50) hx hb dX11_gcd_19 (by decide) (fun c7 => ?_) (fun c7 => ?_)
      · have h4 := dit h3 c7
        clear h3
        refine lv_lload hx hb dX11_gcd_50 (lv_at hl 0 rfl) ?_
        exact reL B Z hz (congrArg (Option.map (fun q => (q, σ))) h4) dX11_gcd_52
      · have h5 := dif h3 c7
        clear h3
        refine lv_lload hx hb dX11_gcd_22 (lv_at hl 1 rfl) ?_
        refine lv_lconst (v := (0 : Int64)) hx hb dX11_gcd_24 (by decide) ?_
        refine W.lcmp hx hb dX11_gcd_25 ?_
        refine lv_if_eq (tgt := 50) hx hb dX11_gcd_26 (by decide) (fun c8 => ?_) (fun c8 => ?_)
        · have h6 := dit h5 c8
          clear h5
          refine lv_lload hx hb dX11_gcd_50 (lv_at hl 0 rfl) ?_
          exact reL B Z hz (congrArg (Option.map (fun q => (q, σ))) h6) dX11_gcd_52
        · have h7 := dif h5 c8
          clear h5
          refine lv_lload hx hb dX11_gcd_29 (lv_at hl 0 rfl) ?_
          refine lv_lload hx hb dX11_gcd_31 (lv_at hl 1 rfl) ?_
          obtain ⟨z9, h8⟩ := dck_s h7
          clear h7
          refine lv_lrem hx hb dX11_gcd_33 (okE_s z9) ?_
          refine lv_topl (fun x10 ex10 => ?_)
          have h9 := dlt_e ex10 h8
          clear ex10 h8
          refine lv_lstore (lv' := [(9, .long x10), (4, .long x3), (6, .long x4), (8, .int x5)]) hx hb dX11_gcd_34 hl (by decide) rfl (fun ls hl => ?_)
          refine lv_lload hx hb dX11_gcd_36 (lv_at hl 2 rfl) ?_
          refine lv_lstore (lv' := [(4, .long x4), (9, .long x10), (6, .long x4), (8, .int x5)]) hx hb dX11_gcd_38 hl (by decide) rfl (fun ls hl => ?_)
          refine lv_lload hx hb dX11_gcd_40 (lv_at hl 1 rfl) ?_
          refine lv_lstore (lv' := [(6, .long x10), (4, .long x4), (9, .long x10), (8, .int x5)]) hx hb dX11_gcd_42 hl (by decide) rfl (fun ls hl => ?_)
          refine lv_iinc (v := x5 + (1 : Int32)) (lv' := [(8, .int (x5 + (1 : Int32))), (6, .long x10), (4, .long x4), (9, .long x10)]) hx hb dX11_gcd_44 hl (k := 3) rfl (by rfl) (by decide) rfl (fun ls hl => ?_)
          refine lv_goto (tgt := 15) hx hb dX11_gcd_47 (by decide) ?_
          exact ih8 x4 x10 (x5 + (1 : Int32)) _ _ _ Z (lv_sub hl [2, 1, 0] rfl) h9
  exact lL15 FU x1 x2 (0 : Int32) _ _ _ Z (lv_sub hl [2, 1, 0] rfl) h2
theorem dX8_property_0 : decode cX8_property 0 = .ok (.lload_n 2, 1) := by decide +kernel
theorem dX8_property_1 : decode cX8_property 1 = .ok (.lconst 0, 1) := by decide +kernel
theorem dX8_property_2 : decode cX8_property 2 = .ok (.lcmp, 1) := by decide +kernel
theorem dX8_property_3 : decode cX8_property 3 = .ok (.ifCond .ne 7, 3) := by decide +kernel
theorem dX8_property_6 : decode cX8_property 6 = .ok (.ldc2_w 52, 3) := by decide +kernel
theorem dX8_property_9 : decode cX8_property 9 = .ok (.lreturn, 1) := by decide +kernel
theorem dX8_property_10 : decode cX8_property 10 = .ok (.iload 5, 2) := by decide +kernel
theorem dX8_property_12 : decode cX8_property 12 = .ok (.iconst 2, 1) := by decide +kernel
theorem dX8_property_13 : decode cX8_property 13 = .ok (.if_icmp .ne 14, 3) := by decide +kernel
theorem dX8_property_16 : decode cX8_property 16 = .ok (.iload 4, 2) := by decide +kernel
theorem dX8_property_18 : decode cX8_property 18 = .ok (.ifCond .eq 7, 3) := by decide +kernel
theorem dX8_property_21 : decode cX8_property 21 = .ok (.lconst 0, 1) := by decide +kernel
theorem dX8_property_22 : decode cX8_property 22 = .ok (.goto 4, 3) := by decide +kernel
theorem dX8_property_25 : decode cX8_property 25 = .ok (.lconst 1, 1) := by decide +kernel
theorem dX8_property_26 : decode cX8_property 26 = .ok (.lreturn, 1) := by decide +kernel
theorem dX8_property_27 : decode cX8_property 27 = .ok (.lload_n 0, 1) := by decide +kernel
theorem dX8_property_28 : decode cX8_property 28 = .ok (.lload_n 2, 1) := by decide +kernel
theorem dX8_property_29 : decode cX8_property 29 = .ok (.invokestatic 54, 3) := by decide +kernel
theorem dX8_property_32 : decode cX8_property 32 = .ok (.lstore 6, 2) := by decide +kernel
theorem dX8_property_34 : decode cX8_property 34 = .ok (.lload 6, 2) := by decide +kernel
theorem dX8_property_36 : decode cX8_property 36 = .ok (.lconst 0, 1) := by decide +kernel
theorem dX8_property_37 : decode cX8_property 37 = .ok (.lcmp, 1) := by decide +kernel
theorem dX8_property_38 : decode cX8_property 38 = .ok (.ifCond .ne 7, 3) := by decide +kernel
theorem dX8_property_41 : decode cX8_property 41 = .ok (.lconst 0, 1) := by decide +kernel
theorem dX8_property_42 : decode cX8_property 42 = .ok (.goto 16, 3) := by decide +kernel
theorem dX8_property_45 : decode cX8_property 45 = .ok (.iload 5, 2) := by decide +kernel
theorem dX8_property_47 : decode cX8_property 47 = .ok (.ifCond .ne 7, 3) := by decide +kernel
theorem dX8_property_50 : decode cX8_property 50 = .ok (.lload_n 0, 1) := by decide +kernel
theorem dX8_property_51 : decode cX8_property 51 = .ok (.goto 4, 3) := by decide +kernel
theorem dX8_property_54 : decode cX8_property 54 = .ok (.lload_n 2, 1) := by decide +kernel
theorem dX8_property_55 : decode cX8_property 55 = .ok (.lload 6, 2) := by decide +kernel
theorem dX8_property_57 : decode cX8_property 57 = .ok (.ldiv, 1) := by decide +kernel
theorem dX8_property_58 : decode cX8_property 58 = .ok (.lreturn, 1) := by decide +kernel
def rm_fSp_property : Room := { frames := 2, cells := 0, slots := 0, locals := 90 }
set_option maxHeartbeats 4000000 in
set_option maxRecDepth 100000 in
theorem c_fSp_property (l : Launch) (X : eX) (sz : Nat) (a1 : Int64) (a2 : Int64) (a3 : Int32) (a4 : Int32) (σ : sT) (rz : Int64) (h0 : fSp_property a1 a2 a3 a4 = some rz) : ctL l yX8_property cX8_property 8 (some .long) rm_fSp_property [.long a1, .long a2, .int a3, .int a4] (wC X) (tC X) (aC X) X sz σ rz σ := by
  refine ct_of (by decide +kernel) (Nat.le_of_ble_eq_true rfl) ?_
  intro p e s m args below meth c ls hz B hl Z
  have B : Bd p s m args meth c RX8 cX8_property 8 (some .long) := B
  have hl : lv_has ls 8 [(0, .long a1), (2, .long a2), (4, .int a3), (5, .int a4)] := hl
  have hx := B.1
  have hb := B.2.1
  unfold fSp_property at h0
  refine lv_lload_n hx hb dX8_property_0 rfl (lv_at hl 1 rfl) ?_
  refine lv_lconst (v := (0 : Int64)) hx hb dX8_property_1 (by decide) ?_
  refine W.lcmp hx hb dX8_property_2 ?_
  refine lv_if_ne (tgt := 10) hx hb dX8_property_3 (by decide) (fun c1 => ?_) (fun c1 => ?_)
  · have h1 := dif h0 c1
    clear h0
    refine lv_iload hx hb dX8_property_10 (lv_at hl 3 rfl) ?_
    refine lv_iconst (v := (2 : Int32)) hx hb dX8_property_12 (by decide) ?_
    refine lv_icmp_ne (tgt := 27) hx hb dX8_property_13 (by decide) (fun c2 => ?_) (fun c2 => ?_)
    · have h2 := dif h1 c2
      clear h1
      refine lv_lload_n hx hb dX8_property_27 rfl (lv_at hl 0 rfl) ?_
      refine lv_lload_n hx hb dX8_property_28 rfl (lv_at hl 1 rfl) ?_
      obtain ⟨r4, hc2, h3⟩ := db1_s h2
      clear h2
      refine cSN_L [.long a1, .long a2] [] B mx_yX11_gcd (c_fRM_gcd l X _ a1 a2 σ r4 hc2) kx_RX8_54 ks_yX11_gcd Z hl rfl rfl ⟨Nat.le_of_ble_eq_true rfl, Nat.le_of_ble_eq_true rfl⟩ rfl rfl (Nat.le_of_ble_eq_true rfl) dX8_property_29 (fun H locs Z => ?_)
      clear hc2
      refine lv_lstore (lv' := [(6, .long r4), (0, .long a1), (2, .long a2), (4, .int a3), (5, .int a4)]) hx hb dX8_property_32 hl (by decide) rfl (fun ls hl => ?_)
      refine lv_lload hx hb dX8_property_34 (lv_at hl 0 rfl) ?_
      refine lv_lconst (v := (0 : Int64)) hx hb dX8_property_36 (by decide) ?_
      refine W.lcmp hx hb dX8_property_37 ?_
      refine lv_if_ne (tgt := 45) hx hb dX8_property_38 (by decide) (fun c5 => ?_) (fun c5 => ?_)
      · have h4 := dif h3 c5
        clear h3
        refine lv_iload hx hb dX8_property_45 (lv_at hl 4 rfl) ?_
        obtain ⟨J7, eJ7, h7⟩ := dlt_s h4
        clear h4
        have kJ7 : ∀ (x6 : Int64) (H : Heap) (locs : List Loc) (ls : Array Slot), Wd (wC X) (tC X) (aC X) X s σ H locs → lv_has ls 8 [(6, .long r4)] → J7 x6 = some rz → W p l e rm_fSp_property s m args below meth c H locs 0 0 (MQ below (va_Ql (fun a u => a = rz ∧ u = σ) (poW (wC X) (tC X) (aC X) X sz) (aA (aC X) sz)) args s 0 0 (aA (aC X) sz)) (F0 m 55 ls [.long x6]) := by
          intro x6 H locs ls Z hl h5
          rw [eJ7] at h5
          refine lv_lload hx hb dX8_property_55 (lv_at hl 0 rfl) ?_
          obtain ⟨z8, h6⟩ := dck_s h5
          clear h5
          refine lv_ldiv hx hb dX8_property_57 (okE_s z8) ?_
          exact reL B Z hz (congrArg (Option.map (fun q => (q, σ))) h6) dX8_property_58
        clear eJ7
        refine lv_if_ne (tgt := 54) hx hb dX8_property_47 (by decide) (fun c9 => ?_) (fun c9 => ?_)
        · have h8 := dif h7 c9
          clear h7
          refine lv_lload_n hx hb dX8_property_54 rfl (lv_at hl 2 rfl) ?_
          exact kJ7 a2 _ _ _ Z (lv_sub hl [0] rfl) h8
        · have h9 := dit h7 c9
          clear h7
          refine lv_lload_n hx hb dX8_property_50 rfl (lv_at hl 1 rfl) ?_
          refine lv_goto (tgt := 55) hx hb dX8_property_51 (by decide) ?_
          exact kJ7 a1 _ _ _ Z (lv_sub hl [0] rfl) h9
      · have h10 := dit h3 c5
        clear h3
        refine lv_lconst (v := (0 : Int64)) hx hb dX8_property_41 (by decide) ?_
        refine lv_goto (tgt := 58) hx hb dX8_property_42 (by decide) ?_
        exact reL B Z hz (congrArg (Option.map (fun q => (q, σ))) h10) dX8_property_58
    · have h11 := dit h1 c2
      clear h1
      refine lv_iload hx hb dX8_property_16 (lv_at hl 2 rfl) ?_
      refine lv_if_eq (tgt := 25) hx hb dX8_property_18 (by decide) (fun c10 => ?_) (fun c10 => ?_)
      · have h12 := dit h11 c10
        clear h11
        refine lv_lconst (v := (1 : Int64)) hx hb dX8_property_25 (by decide) ?_
        exact reL B Z hz (congrArg (Option.map (fun q => (q, σ))) h12) dX8_property_26
      · have h13 := dif h11 c10
        clear h11
        refine lv_lconst (v := (0 : Int64)) hx hb dX8_property_21 (by decide) ?_
        refine lv_goto (tgt := 26) hx hb dX8_property_22 (by decide) ?_
        exact reL B Z hz (congrArg (Option.map (fun q => (q, σ))) h13) dX8_property_26
  · have h14 := dit h0 c1
    clear h0
    refine lv_ldc2 hx hb B.2.2.2.1 (B.2.2.2.2.1 _ kc_RX8_52) dX8_property_6 ?_
    exact reL B Z hz (congrArg (Option.map (fun q => (q, σ))) h14) dX8_property_9
