theorem dX12_refuses_0 : decode cX12_refuses 0 = .ok (.aload_n 0, 1) := by decide +kernel
theorem dX12_refuses_1 : decode cX12_refuses 1 = .ok (.getfield 16, 3) := by decide +kernel
theorem dX12_refuses_4 : decode cX12_refuses 4 = .ok (.ldc 63, 2) := by decide +kernel
theorem dX12_refuses_6 : decode cX12_refuses 6 = .ok (.iload_n 1, 1) := by decide +kernel
theorem dX12_refuses_7 : decode cX12_refuses 7 = .ok (.isub, 1) := by decide +kernel
theorem dX12_refuses_8 : decode cX12_refuses 8 = .ok (.dup2, 1) := by decide +kernel
theorem dX12_refuses_9 : decode cX12_refuses 9 = .ok (.iaload, 1) := by decide +kernel
theorem dX12_refuses_10 : decode cX12_refuses 10 = .ok (.iconst 1, 1) := by decide +kernel
theorem dX12_refuses_11 : decode cX12_refuses 11 = .ok (.iadd, 1) := by decide +kernel
theorem dX12_refuses_12 : decode cX12_refuses 12 = .ok (.iastore, 1) := by decide +kernel
theorem dX12_refuses_13 : decode cX12_refuses 13 = .ok (.iload_n 1, 1) := by decide +kernel
theorem dX12_refuses_14 : decode cX12_refuses 14 = .ok (.ireturn, 1) := by decide +kernel
def rm_fMM_refuses : Room := { frames := 1, cells := 0, slots := 0, locals := 60 }
set_option maxHeartbeats 4000000 in
set_option maxRecDepth 100000 in
theorem c_fMM_refuses (l : Launch) (X : eX) (sz : Nat) (a1 : Int32) (σ : sT) (rz : Int32) (σz : sT) (h0 : fMM_refuses a1 σ = some (rz, σz)) : ctI l yX12_refuses cX12_refuses 2 (some .int) rm_fMM_refuses [.ref (X.2.1 33), .int a1] (wM X) (tM X) (aM X) X sz σ rz σz := by
  refine ct_of (by decide +kernel) (Nat.le_of_ble_eq_true rfl) ?_
  intro p e s m args below meth c ls hz B hl Z
  have B : Bd p s m args meth c RX12 cX12_refuses 2 (some .int) := B
  have hl : lv_has ls 2 [(0, .ref (X.2.1 33)), (1, .int a1)] := hl
  have hx := B.1
  have hb := B.2.1
  unfold fMM_refuses at h0
  refine lv_aload_n hx hb dX12_refuses_0 rfl (lv_at hl 0 rfl) ?_
  refine g_33_3 B Z kf_RX12_16 dX12_refuses_1 ?_
  refine lv_ldc hx hb B.2.2.2.1 (B.2.2.2.2.1 _ kc_RX12_63) dX12_refuses_4 ?_
  refine lv_iload_n hx hb dX12_refuses_6 rfl (lv_at hl 1 rfl) ?_
  refine lv_isub hx hb dX12_refuses_7 ?_
  refine lv_dup2_11 hx hb dX12_refuses_8 rfl rfl ?_
  obtain ⟨z1, h1⟩ := dck_s h0
  clear h0
  refine ld_36 B Z z1 dX12_refuses_9 ?_
  refine lv_iconst (v := (1 : Int32)) hx hb dX12_refuses_10 (by decide) ?_
  refine lv_iadd hx hb dX12_refuses_11 ?_
  obtain ⟨z2, h2⟩ := dck_s h1
  clear h1
  refine st_36 B Z z2 dX12_refuses_12 (fun H locs Z => ?_)
  obtain ⟨σ3, eσ3, h3⟩ := dlt_s h2
  clear h2
  replace Z := Wd.eq eσ3 Z
  clear eσ3
  refine lv_iload_n hx hb dX12_refuses_13 rfl (lv_at hl 1 rfl) ?_
  exact reI B Z rfl hz h3 dX12_refuses_14
theorem dX12_keep_0 : decode cX12_keep 0 = .ok (.aload_n 0, 1) := by decide +kernel
theorem dX12_keep_1 : decode cX12_keep 1 = .ok (.getfield 64, 3) := by decide +kernel
theorem dX12_keep_4 : decode cX12_keep 4 = .ok (.bipush 6, 2) := by decide +kernel
theorem dX12_keep_6 : decode cX12_keep 6 = .ok (.if_icmp .ne 43, 3) := by decide +kernel
theorem dX12_keep_9 : decode cX12_keep 9 = .ok (.iconst 0, 1) := by decide +kernel
theorem dX12_keep_10 : decode cX12_keep 10 = .ok (.istore_n 1, 1) := by decide +kernel
theorem dX12_keep_11 : decode cX12_keep 11 = .ok (.iload_n 1, 1) := by decide +kernel
theorem dX12_keep_12 : decode cX12_keep 12 = .ok (.sipush 365, 3) := by decide +kernel
theorem dX12_keep_15 : decode cX12_keep 15 = .ok (.if_icmp .ge 24, 3) := by decide +kernel
theorem dX12_keep_18 : decode cX12_keep 18 = .ok (.aload_n 0, 1) := by decide +kernel
theorem dX12_keep_19 : decode cX12_keep 19 = .ok (.getfield 13, 3) := by decide +kernel
theorem dX12_keep_22 : decode cX12_keep 22 = .ok (.iload_n 1, 1) := by decide +kernel
theorem dX12_keep_23 : decode cX12_keep 23 = .ok (.aload_n 0, 1) := by decide +kernel
theorem dX12_keep_24 : decode cX12_keep 24 = .ok (.getfield 13, 3) := by decide +kernel
theorem dX12_keep_27 : decode cX12_keep 27 = .ok (.iload_n 1, 1) := by decide +kernel
theorem dX12_keep_28 : decode cX12_keep 28 = .ok (.bipush 73, 2) := by decide +kernel
theorem dX12_keep_30 : decode cX12_keep 30 = .ok (.iadd, 1) := by decide +kernel
theorem dX12_keep_31 : decode cX12_keep 31 = .ok (.iaload, 1) := by decide +kernel
theorem dX12_keep_32 : decode cX12_keep 32 = .ok (.iastore, 1) := by decide +kernel
theorem dX12_keep_33 : decode cX12_keep 33 = .ok (.iinc 1 1, 3) := by decide +kernel
theorem dX12_keep_36 : decode cX12_keep 36 = .ok (.goto (-25), 3) := by decide +kernel
theorem dX12_keep_39 : decode cX12_keep 39 = .ok (.aload_n 0, 1) := by decide +kernel
theorem dX12_keep_40 : decode cX12_keep 40 = .ok (.dup, 1) := by decide +kernel
theorem dX12_keep_41 : decode cX12_keep 41 = .ok (.getfield 64, 3) := by decide +kernel
theorem dX12_keep_44 : decode cX12_keep 44 = .ok (.iconst 1, 1) := by decide +kernel
theorem dX12_keep_45 : decode cX12_keep 45 = .ok (.isub, 1) := by decide +kernel
theorem dX12_keep_46 : decode cX12_keep 46 = .ok (.putfield 64, 3) := by decide +kernel
theorem dX12_keep_49 : decode cX12_keep 49 = .ok (.iconst 0, 1) := by decide +kernel
theorem dX12_keep_50 : decode cX12_keep 50 = .ok (.istore_n 1, 1) := by decide +kernel
theorem dX12_keep_51 : decode cX12_keep 51 = .ok (.iload_n 1, 1) := by decide +kernel
theorem dX12_keep_52 : decode cX12_keep 52 = .ok (.bipush 73, 2) := by decide +kernel
theorem dX12_keep_54 : decode cX12_keep 54 = .ok (.if_icmp .ge 29, 3) := by decide +kernel
theorem dX12_keep_57 : decode cX12_keep 57 = .ok (.aload_n 0, 1) := by decide +kernel
theorem dX12_keep_58 : decode cX12_keep 58 = .ok (.getfield 13, 3) := by decide +kernel
theorem dX12_keep_61 : decode cX12_keep 61 = .ok (.bipush 73, 2) := by decide +kernel
theorem dX12_keep_63 : decode cX12_keep 63 = .ok (.aload_n 0, 1) := by decide +kernel
theorem dX12_keep_64 : decode cX12_keep 64 = .ok (.getfield 64, 3) := by decide +kernel
theorem dX12_keep_67 : decode cX12_keep 67 = .ok (.imul, 1) := by decide +kernel
theorem dX12_keep_68 : decode cX12_keep 68 = .ok (.iload_n 1, 1) := by decide +kernel
theorem dX12_keep_69 : decode cX12_keep 69 = .ok (.iadd, 1) := by decide +kernel
theorem dX12_keep_70 : decode cX12_keep 70 = .ok (.aload_n 0, 1) := by decide +kernel
theorem dX12_keep_71 : decode cX12_keep 71 = .ok (.getfield 7, 3) := by decide +kernel
theorem dX12_keep_74 : decode cX12_keep 74 = .ok (.iload_n 1, 1) := by decide +kernel
theorem dX12_keep_75 : decode cX12_keep 75 = .ok (.iaload, 1) := by decide +kernel
theorem dX12_keep_76 : decode cX12_keep 76 = .ok (.iastore, 1) := by decide +kernel
theorem dX12_keep_77 : decode cX12_keep 77 = .ok (.iinc 1 1, 3) := by decide +kernel
theorem dX12_keep_80 : decode cX12_keep 80 = .ok (.goto (-29), 3) := by decide +kernel
theorem dX12_keep_83 : decode cX12_keep 83 = .ok (.aload_n 0, 1) := by decide +kernel
theorem dX12_keep_84 : decode cX12_keep 84 = .ok (.dup, 1) := by decide +kernel
theorem dX12_keep_85 : decode cX12_keep 85 = .ok (.getfield 64, 3) := by decide +kernel
theorem dX12_keep_88 : decode cX12_keep 88 = .ok (.iconst 1, 1) := by decide +kernel
theorem dX12_keep_89 : decode cX12_keep 89 = .ok (.iadd, 1) := by decide +kernel
theorem dX12_keep_90 : decode cX12_keep 90 = .ok (.putfield 64, 3) := by decide +kernel
theorem dX12_keep_93 : decode cX12_keep 93 = .ok (.return_, 1) := by decide +kernel
def rm_fMM_keep : Room := { frames := 1, cells := 0, slots := 0, locals := 60 }
set_option maxHeartbeats 4000000 in
set_option maxRecDepth 100000 in
theorem c_fMM_keep (l : Launch) (X : eX) (sz : Nat)  (σ : sT) (σz : sT) (h0 : fMM_keep σ = some σz) : ctV l yX12_keep cX12_keep 2 none rm_fMM_keep [.ref (X.2.1 33)] (wM X) (tM X) (aM X) X sz σ σz := by
  refine ct_of (by decide +kernel) (Nat.le_of_ble_eq_true rfl) ?_
  intro p e s m args below meth c ls hz B hl Z
  have B : Bd p s m args meth c RX12 cX12_keep 2 none := B
  have hl : lv_has ls 2 [(0, .ref (X.2.1 33))] := hl
  have hx := B.1
  have hb := B.2.1
  unfold fMM_keep at h0
  refine lv_aload_n hx hb dX12_keep_0 rfl (lv_at hl 0 rfl) ?_
  refine g_33_2 B Z kf_RX12_64 dX12_keep_1 ?_
  refine lv_bipush (v := (6 : Int32)) hx hb dX12_keep_4 (by decide) ?_
  obtain ⟨J2, eJ2, h11⟩ := dlt_s h0
  clear h0
  have kJ2 : ∀ (σ1 : sT) (H : Heap) (locs : List Loc) (ls : Array Slot), Wd (wM X) (tM X) (aM X) X s σ1 H locs → lv_has ls 2 [(0, .ref (X.2.1 33))] → J2 σ1 = some σz → W p l e rm_fMM_keep s m args below meth c H locs 0 0 (MQ below (va_Qv (fun u => u = σz) (poW (wM X) (tM X) (aM X) X sz) (aA (aM X) sz)) args s 0 0 (aA (aM X) sz)) (F0 m 49 ls []) := by
    intro σ1 H locs ls Z hl h1
    rw [eJ2] at h1
    refine lv_iconst (v := (0 : Int32)) hx hb dX12_keep_49 (by decide) ?_
    refine lv_istore_n (lv' := [(1, .int (0 : Int32)), (0, .ref (X.2.1 33))]) hx hb dX12_keep_50 rfl hl (by decide) rfl (fun ls hl => ?_)
    obtain ⟨K6, eK6, h4⟩ := dlt_s h1
    clear h1
    have kK6 : ∀ (σ5 : sT) (H : Heap) (locs : List Loc) (ls : Array Slot), Wd (wM X) (tM X) (aM X) X s σ5 H locs → lv_has ls 2 [(0, .ref (X.2.1 33))] → K6 σ5 = some σz → W p l e rm_fMM_keep s m args below meth c H locs 0 0 (MQ below (va_Qv (fun u => u = σz) (poW (wM X) (tM X) (aM X) X sz) (aA (aM X) sz)) args s 0 0 (aA (aM X) sz)) (F0 m 83 ls []) := by
      intro σ5 H locs ls Z hl h2
      rw [eK6] at h2
      refine lv_aload_n hx hb dX12_keep_83 rfl (lv_at hl 0 rfl) ?_
      refine lv_dup hx hb dX12_keep_84 rfl ?_
      refine g_33_2 B Z kf_RX12_64 dX12_keep_85 ?_
      refine lv_iconst (v := (1 : Int32)) hx hb dX12_keep_88 (by decide) ?_
      refine lv_iadd hx hb dX12_keep_89 ?_
      refine s_33_2 B Z kf_RX12_64 dX12_keep_90 (fun H locs Z => ?_)
      obtain ⟨σ7, eσ7, h3⟩ := dlt_s h2
      clear h2
      replace Z := Wd.eq eσ7 Z
      clear eσ7
      exact reV B Z hz h3 dX12_keep_93
    clear eK6
    have lL51 : ∀ (n : Nat), ∀ (x3 : Int32) (σ4 : sT) (H : Heap) (locs : List Loc) (ls : Array Slot), Wd (wM X) (tM X) (aM X) X s σ4 H locs → lv_has ls 2 [(0, .ref (X.2.1 33)), (1, .int x3)] → fMM_keep_L51 K6 n x3 σ4 = some σz → W p l e rm_fMM_keep s m args below meth c H locs 0 0 (MQ below (va_Qv (fun u => u = σz) (poW (wM X) (tM X) (aM X) X sz) (aA (aM X) sz)) args s 0 0 (aA (aM X) sz)) (F0 m 51 ls []) := by
      intro n
      induction n with
      | zero =>
        intro x3 σ4 H locs ls Z hl h
        exact nomatch (show (none : Option (sT)) = some _ from h)
      | succ n8 ih29 =>
        intro x3 σ4 H locs ls Z hl h5
        unfold fMM_keep_L51 at h5
        refine lv_iload_n hx hb dX12_keep_51 rfl (lv_at hl 1 rfl) ?_
        refine lv_bipush (v := (73 : Int32)) hx hb dX12_keep_52 (by decide) ?_
        refine lv_icmp_ge (tgt := 83) hx hb dX12_keep_54 (by decide) (fun c9 => ?_) (fun c9 => ?_)
        · have h6 := dit h5 c9
          clear h5
          exact kK6 σ4 _ _ _ Z (lv_sub hl [0] rfl) h6
        · have h7 := dif h5 c9
          clear h5
          refine lv_aload_n hx hb dX12_keep_57 rfl (lv_at hl 0 rfl) ?_
          refine g_33_1 B Z kf_RX12_13 dX12_keep_58 ?_
          refine lv_bipush (v := (73 : Int32)) hx hb dX12_keep_61 (by decide) ?_
          refine lv_aload_n hx hb dX12_keep_63 rfl (lv_at hl 0 rfl) ?_
          refine g_33_2 B Z kf_RX12_64 dX12_keep_64 ?_
          refine lv_imul hx hb dX12_keep_67 ?_
          refine lv_iload_n hx hb dX12_keep_68 rfl (lv_at hl 1 rfl) ?_
          refine lv_iadd hx hb dX12_keep_69 ?_
          refine lv_aload_n hx hb dX12_keep_70 rfl (lv_at hl 0 rfl) ?_
          refine g_33_0 B Z kf_RX12_7 dX12_keep_71 ?_
          refine lv_iload_n hx hb dX12_keep_74 rfl (lv_at hl 1 rfl) ?_
          obtain ⟨z10, h8⟩ := dck_s h7
          clear h7
          refine ld_34 B Z z10 dX12_keep_75 ?_
          obtain ⟨z11, h9⟩ := dck_s h8
          clear h8
          refine st_35 B Z z11 dX12_keep_76 (fun H locs Z => ?_)
          obtain ⟨σ12, eσ12, h10⟩ := dlt_s h9
          clear h9
          replace Z := Wd.eq eσ12 Z
          clear eσ12
          refine lv_iinc (v := x3 + (1 : Int32)) (lv' := [(1, .int (x3 + (1 : Int32))), (0, .ref (X.2.1 33))]) hx hb dX12_keep_77 hl (k := 1) rfl (by rfl) (by decide) rfl (fun ls hl => ?_)
          refine lv_goto (tgt := 51) hx hb dX12_keep_80 (by decide) ?_
          exact ih29 (x3 + (1 : Int32)) σ12 _ _ _ Z (lv_sub hl [1, 0] rfl) h10
    exact lL51 FU (0 : Int32) σ1 _ _ _ Z (lv_sub hl [1, 0] rfl) h4
  clear eJ2
  refine lv_icmp_ne (tgt := 49) hx hb dX12_keep_6 (by decide) (fun c13 => ?_) (fun c13 => ?_)
  · have h12 := dif h11 c13
    clear h11
    exact kJ2 σ _ _ _ Z (lv_sub hl [0] rfl) h12
  · have h13 := dit h11 c13
    clear h11
    refine lv_iconst (v := (0 : Int32)) hx hb dX12_keep_9 (by decide) ?_
    refine lv_istore_n (lv' := [(1, .int (0 : Int32)), (0, .ref (X.2.1 33))]) hx hb dX12_keep_10 rfl hl (by decide) rfl (fun ls hl => ?_)
    obtain ⟨K17, eK17, h16⟩ := dlt_s h13
    clear h13
    have kK17 : ∀ (σ16 : sT) (H : Heap) (locs : List Loc) (ls : Array Slot), Wd (wM X) (tM X) (aM X) X s σ16 H locs → lv_has ls 2 [(0, .ref (X.2.1 33))] → K17 σ16 = some σz → W p l e rm_fMM_keep s m args below meth c H locs 0 0 (MQ below (va_Qv (fun u => u = σz) (poW (wM X) (tM X) (aM X) X sz) (aA (aM X) sz)) args s 0 0 (aA (aM X) sz)) (F0 m 39 ls []) := by
      intro σ16 H locs ls Z hl h14
      rw [eK17] at h14
      refine lv_aload_n hx hb dX12_keep_39 rfl (lv_at hl 0 rfl) ?_
      refine lv_dup hx hb dX12_keep_40 rfl ?_
      refine g_33_2 B Z kf_RX12_64 dX12_keep_41 ?_
      refine lv_iconst (v := (1 : Int32)) hx hb dX12_keep_44 (by decide) ?_
      refine lv_isub hx hb dX12_keep_45 ?_
      refine s_33_2 B Z kf_RX12_64 dX12_keep_46 (fun H locs Z => ?_)
      obtain ⟨σ18, eσ18, h15⟩ := dlt_s h14
      clear h14
      replace Z := Wd.eq eσ18 Z
      clear eσ18
      exact kJ2 σ18 _ _ _ Z (lv_sub hl [0] rfl) h15
    clear eK17
    have lL11 : ∀ (n : Nat), ∀ (x14 : Int32) (σ15 : sT) (H : Heap) (locs : List Loc) (ls : Array Slot), Wd (wM X) (tM X) (aM X) X s σ15 H locs → lv_has ls 2 [(0, .ref (X.2.1 33)), (1, .int x14)] → fMM_keep_L11 K17 n x14 σ15 = some σz → W p l e rm_fMM_keep s m args below meth c H locs 0 0 (MQ below (va_Qv (fun u => u = σz) (poW (wM X) (tM X) (aM X) X sz) (aA (aM X) sz)) args s 0 0 (aA (aM X) sz)) (F0 m 11 ls []) := by
      intro n
      induction n with
      | zero =>
        intro x14 σ15 H locs ls Z hl h
        exact nomatch (show (none : Option (sT)) = some _ from h)
      | succ n19 ih6 =>
        intro x14 σ15 H locs ls Z hl h17
        unfold fMM_keep_L11 at h17
        refine lv_iload_n hx hb dX12_keep_11 rfl (lv_at hl 1 rfl) ?_
        refine lv_sipush (v := (365 : Int32)) hx hb dX12_keep_12 (by decide) ?_
        refine lv_icmp_ge (tgt := 39) hx hb dX12_keep_15 (by decide) (fun c20 => ?_) (fun c20 => ?_)
        · have h18 := dit h17 c20
          clear h17
          exact kK17 σ15 _ _ _ Z (lv_sub hl [0] rfl) h18
        · have h19 := dif h17 c20
          clear h17
          refine lv_aload_n hx hb dX12_keep_18 rfl (lv_at hl 0 rfl) ?_
          refine g_33_1 B Z kf_RX12_13 dX12_keep_19 ?_
          refine lv_iload_n hx hb dX12_keep_22 rfl (lv_at hl 1 rfl) ?_
          refine lv_aload_n hx hb dX12_keep_23 rfl (lv_at hl 0 rfl) ?_
          refine g_33_1 B Z kf_RX12_13 dX12_keep_24 ?_
          refine lv_iload_n hx hb dX12_keep_27 rfl (lv_at hl 1 rfl) ?_
          refine lv_bipush (v := (73 : Int32)) hx hb dX12_keep_28 (by decide) ?_
          refine lv_iadd hx hb dX12_keep_30 ?_
          obtain ⟨z21, h20⟩ := dck_s h19
          clear h19
          refine ld_35 B Z z21 dX12_keep_31 ?_
          obtain ⟨z22, h21⟩ := dck_s h20
          clear h20
          refine st_35 B Z z22 dX12_keep_32 (fun H locs Z => ?_)
          obtain ⟨σ23, eσ23, h22⟩ := dlt_s h21
          clear h21
          replace Z := Wd.eq eσ23 Z
          clear eσ23
          refine lv_iinc (v := x14 + (1 : Int32)) (lv' := [(1, .int (x14 + (1 : Int32))), (0, .ref (X.2.1 33))]) hx hb dX12_keep_33 hl (k := 1) rfl (by rfl) (by decide) rfl (fun ls hl => ?_)
          refine lv_goto (tgt := 11) hx hb dX12_keep_36 (by decide) ?_
          exact ih6 (x14 + (1 : Int32)) σ23 _ _ _ Z (lv_sub hl [1, 0] rfl) h22
    exact lL11 FU (0 : Int32) σ _ _ _ Z (lv_sub hl [1, 0] rfl) h16
theorem dX12_rowNow_0 : decode cX12_rowNow 0 = .ok (.iconst 1, 1) := by decide +kernel
theorem dX12_rowNow_1 : decode cX12_rowNow 1 = .ok (.bipush 6, 2) := by decide +kernel
theorem dX12_rowNow_3 : decode cX12_rowNow 3 = .ok (.aload_n 0, 1) := by decide +kernel
theorem dX12_rowNow_4 : decode cX12_rowNow 4 = .ok (.getfield 7, 3) := by decide +kernel
theorem dX12_rowNow_7 : decode cX12_rowNow 7 = .ok (.iconst 0, 1) := by decide +kernel
theorem dX12_rowNow_8 : decode cX12_rowNow 8 = .ok (.iaload, 1) := by decide +kernel
theorem dX12_rowNow_9 : decode cX12_rowNow 9 = .ok (.imul, 1) := by decide +kernel
theorem dX12_rowNow_10 : decode cX12_rowNow 10 = .ok (.iadd, 1) := by decide +kernel
theorem dX12_rowNow_11 : decode cX12_rowNow 11 = .ok (.istore 7, 2) := by decide +kernel
theorem dX12_rowNow_13 : decode cX12_rowNow 13 = .ok (.aload_n 0, 1) := by decide +kernel
theorem dX12_rowNow_14 : decode cX12_rowNow 14 = .ok (.getfield 7, 3) := by decide +kernel
theorem dX12_rowNow_17 : decode cX12_rowNow 17 = .ok (.iload 7, 2) := by decide +kernel
theorem dX12_rowNow_19 : decode cX12_rowNow 19 = .ok (.iload_n 1, 1) := by decide +kernel
theorem dX12_rowNow_20 : decode cX12_rowNow 20 = .ok (.iastore, 1) := by decide +kernel
theorem dX12_rowNow_21 : decode cX12_rowNow 21 = .ok (.aload_n 0, 1) := by decide +kernel
theorem dX12_rowNow_22 : decode cX12_rowNow 22 = .ok (.getfield 7, 3) := by decide +kernel
theorem dX12_rowNow_25 : decode cX12_rowNow 25 = .ok (.iload 7, 2) := by decide +kernel
theorem dX12_rowNow_27 : decode cX12_rowNow 27 = .ok (.iconst 1, 1) := by decide +kernel
theorem dX12_rowNow_28 : decode cX12_rowNow 28 = .ok (.iadd, 1) := by decide +kernel
theorem dX12_rowNow_29 : decode cX12_rowNow 29 = .ok (.iload_n 2, 1) := by decide +kernel
theorem dX12_rowNow_30 : decode cX12_rowNow 30 = .ok (.iastore, 1) := by decide +kernel
theorem dX12_rowNow_31 : decode cX12_rowNow 31 = .ok (.aload_n 0, 1) := by decide +kernel
theorem dX12_rowNow_32 : decode cX12_rowNow 32 = .ok (.getfield 7, 3) := by decide +kernel
theorem dX12_rowNow_35 : decode cX12_rowNow 35 = .ok (.iload 7, 2) := by decide +kernel
theorem dX12_rowNow_37 : decode cX12_rowNow 37 = .ok (.iconst 2, 1) := by decide +kernel
theorem dX12_rowNow_38 : decode cX12_rowNow 38 = .ok (.iadd, 1) := by decide +kernel
theorem dX12_rowNow_39 : decode cX12_rowNow 39 = .ok (.iload_n 3, 1) := by decide +kernel
theorem dX12_rowNow_40 : decode cX12_rowNow 40 = .ok (.iastore, 1) := by decide +kernel
theorem dX12_rowNow_41 : decode cX12_rowNow 41 = .ok (.aload_n 0, 1) := by decide +kernel
theorem dX12_rowNow_42 : decode cX12_rowNow 42 = .ok (.getfield 7, 3) := by decide +kernel
theorem dX12_rowNow_45 : decode cX12_rowNow 45 = .ok (.iload 7, 2) := by decide +kernel
theorem dX12_rowNow_47 : decode cX12_rowNow 47 = .ok (.iconst 3, 1) := by decide +kernel
theorem dX12_rowNow_48 : decode cX12_rowNow 48 = .ok (.iadd, 1) := by decide +kernel
theorem dX12_rowNow_49 : decode cX12_rowNow 49 = .ok (.iload 4, 2) := by decide +kernel
theorem dX12_rowNow_51 : decode cX12_rowNow 51 = .ok (.iastore, 1) := by decide +kernel
theorem dX12_rowNow_52 : decode cX12_rowNow 52 = .ok (.aload_n 0, 1) := by decide +kernel
theorem dX12_rowNow_53 : decode cX12_rowNow 53 = .ok (.getfield 7, 3) := by decide +kernel
theorem dX12_rowNow_56 : decode cX12_rowNow 56 = .ok (.iload 7, 2) := by decide +kernel
theorem dX12_rowNow_58 : decode cX12_rowNow 58 = .ok (.iconst 4, 1) := by decide +kernel
theorem dX12_rowNow_59 : decode cX12_rowNow 59 = .ok (.iadd, 1) := by decide +kernel
theorem dX12_rowNow_60 : decode cX12_rowNow 60 = .ok (.iload 5, 2) := by decide +kernel
theorem dX12_rowNow_62 : decode cX12_rowNow 62 = .ok (.iastore, 1) := by decide +kernel
theorem dX12_rowNow_63 : decode cX12_rowNow 63 = .ok (.aload_n 0, 1) := by decide +kernel
theorem dX12_rowNow_64 : decode cX12_rowNow 64 = .ok (.getfield 7, 3) := by decide +kernel
theorem dX12_rowNow_67 : decode cX12_rowNow 67 = .ok (.iload 7, 2) := by decide +kernel
theorem dX12_rowNow_69 : decode cX12_rowNow 69 = .ok (.iconst 5, 1) := by decide +kernel
theorem dX12_rowNow_70 : decode cX12_rowNow 70 = .ok (.iadd, 1) := by decide +kernel
theorem dX12_rowNow_71 : decode cX12_rowNow 71 = .ok (.iload 6, 2) := by decide +kernel
theorem dX12_rowNow_73 : decode cX12_rowNow 73 = .ok (.iastore, 1) := by decide +kernel
theorem dX12_rowNow_74 : decode cX12_rowNow 74 = .ok (.aload_n 0, 1) := by decide +kernel
theorem dX12_rowNow_75 : decode cX12_rowNow 75 = .ok (.getfield 7, 3) := by decide +kernel
theorem dX12_rowNow_78 : decode cX12_rowNow 78 = .ok (.iconst 0, 1) := by decide +kernel
theorem dX12_rowNow_79 : decode cX12_rowNow 79 = .ok (.dup2, 1) := by decide +kernel
theorem dX12_rowNow_80 : decode cX12_rowNow 80 = .ok (.iaload, 1) := by decide +kernel
theorem dX12_rowNow_81 : decode cX12_rowNow 81 = .ok (.iconst 1, 1) := by decide +kernel
theorem dX12_rowNow_82 : decode cX12_rowNow 82 = .ok (.iadd, 1) := by decide +kernel
theorem dX12_rowNow_83 : decode cX12_rowNow 83 = .ok (.iastore, 1) := by decide +kernel
theorem dX12_rowNow_84 : decode cX12_rowNow 84 = .ok (.aload_n 0, 1) := by decide +kernel
theorem dX12_rowNow_85 : decode cX12_rowNow 85 = .ok (.getfield 7, 3) := by decide +kernel
theorem dX12_rowNow_88 : decode cX12_rowNow 88 = .ok (.iconst 0, 1) := by decide +kernel
theorem dX12_rowNow_89 : decode cX12_rowNow 89 = .ok (.iaload, 1) := by decide +kernel
theorem dX12_rowNow_90 : decode cX12_rowNow 90 = .ok (.iconst 1, 1) := by decide +kernel
theorem dX12_rowNow_91 : decode cX12_rowNow 91 = .ok (.isub, 1) := by decide +kernel
theorem dX12_rowNow_92 : decode cX12_rowNow 92 = .ok (.ireturn, 1) := by decide +kernel
def rm_fMM_rowNow : Room := { frames := 1, cells := 0, slots := 0, locals := 60 }
set_option maxHeartbeats 4000000 in
set_option maxRecDepth 100000 in
theorem c_fMM_rowNow (l : Launch) (X : eX) (sz : Nat) (a1 : Int32) (a2 : Int32) (a3 : Int32) (a4 : Int32) (a5 : Int32) (a6 : Int32) (σ : sT) (rz : Int32) (σz : sT) (h0 : fMM_rowNow a1 a2 a3 a4 a5 a6 σ = some (rz, σz)) : ctI l yX12_rowNow cX12_rowNow 8 (some .int) rm_fMM_rowNow [.ref (X.2.1 33), .int a1, .int a2, .int a3, .int a4, .int a5, .int a6] (wM X) (tM X) (aM X) X sz σ rz σz := by
  refine ct_of (by decide +kernel) (Nat.le_of_ble_eq_true rfl) ?_
  intro p e s m args below meth c ls hz B hl Z
  have B : Bd p s m args meth c RX12 cX12_rowNow 8 (some .int) := B
  have hl : lv_has ls 8 [(0, .ref (X.2.1 33)), (1, .int a1), (2, .int a2), (3, .int a3), (4, .int a4), (5, .int a5), (6, .int a6)] := hl
  have hx := B.1
  have hb := B.2.1
  unfold fMM_rowNow at h0
  refine lv_iconst (v := (1 : Int32)) hx hb dX12_rowNow_0 (by decide) ?_
  refine lv_bipush (v := (6 : Int32)) hx hb dX12_rowNow_1 (by decide) ?_
  refine lv_aload_n hx hb dX12_rowNow_3 rfl (lv_at hl 0 rfl) ?_
  refine g_33_0 B Z kf_RX12_7 dX12_rowNow_4 ?_
  refine lv_iconst (v := (0 : Int32)) hx hb dX12_rowNow_7 (by decide) ?_
  obtain ⟨z1, h1⟩ := dck_s h0
  clear h0
  refine ld_34 B Z z1 dX12_rowNow_8 ?_
  refine lv_imul hx hb dX12_rowNow_9 ?_
  refine lv_iadd hx hb dX12_rowNow_10 ?_
  refine lv_topi (fun x2 ex2 => ?_)
  have h2 := dlt_e ex2 h1
  clear ex2 h1
  refine lv_istore (lv' := [(7, .int x2), (0, .ref (X.2.1 33)), (1, .int a1), (2, .int a2), (3, .int a3), (4, .int a4), (5, .int a5), (6, .int a6)]) hx hb dX12_rowNow_11 hl (by decide) rfl (fun ls hl => ?_)
  refine lv_aload_n hx hb dX12_rowNow_13 rfl (lv_at hl 1 rfl) ?_
  refine g_33_0 B Z kf_RX12_7 dX12_rowNow_14 ?_
  refine lv_iload hx hb dX12_rowNow_17 (lv_at hl 0 rfl) ?_
  refine lv_iload_n hx hb dX12_rowNow_19 rfl (lv_at hl 2 rfl) ?_
  obtain ⟨z3, h3⟩ := dck_s h2
  clear h2
  refine st_34 B Z z3 dX12_rowNow_20 (fun H locs Z => ?_)
  obtain ⟨σ4, eσ4, h4⟩ := dlt_s h3
  clear h3
  replace Z := Wd.eq eσ4 Z
  clear eσ4
  refine lv_aload_n hx hb dX12_rowNow_21 rfl (lv_at hl 1 rfl) ?_
  refine g_33_0 B Z kf_RX12_7 dX12_rowNow_22 ?_
  refine lv_iload hx hb dX12_rowNow_25 (lv_at hl 0 rfl) ?_
  refine lv_iconst (v := (1 : Int32)) hx hb dX12_rowNow_27 (by decide) ?_
  refine lv_iadd hx hb dX12_rowNow_28 ?_
  refine lv_iload_n hx hb dX12_rowNow_29 rfl (lv_at hl 3 rfl) ?_
  obtain ⟨z5, h5⟩ := dck_s h4
  clear h4
  refine st_34 B Z z5 dX12_rowNow_30 (fun H locs Z => ?_)
  obtain ⟨σ6, eσ6, h6⟩ := dlt_s h5
  clear h5
  replace Z := Wd.eq eσ6 Z
  clear eσ6
  refine lv_aload_n hx hb dX12_rowNow_31 rfl (lv_at hl 1 rfl) ?_
  refine g_33_0 B Z kf_RX12_7 dX12_rowNow_32 ?_
  refine lv_iload hx hb dX12_rowNow_35 (lv_at hl 0 rfl) ?_
  refine lv_iconst (v := (2 : Int32)) hx hb dX12_rowNow_37 (by decide) ?_
  refine lv_iadd hx hb dX12_rowNow_38 ?_
  refine lv_iload_n hx hb dX12_rowNow_39 rfl (lv_at hl 4 rfl) ?_
  obtain ⟨z7, h7⟩ := dck_s h6
  clear h6
  refine st_34 B Z z7 dX12_rowNow_40 (fun H locs Z => ?_)
  obtain ⟨σ8, eσ8, h8⟩ := dlt_s h7
  clear h7
  replace Z := Wd.eq eσ8 Z
  clear eσ8
  refine lv_aload_n hx hb dX12_rowNow_41 rfl (lv_at hl 1 rfl) ?_
  refine g_33_0 B Z kf_RX12_7 dX12_rowNow_42 ?_
  refine lv_iload hx hb dX12_rowNow_45 (lv_at hl 0 rfl) ?_
  refine lv_iconst (v := (3 : Int32)) hx hb dX12_rowNow_47 (by decide) ?_
  refine lv_iadd hx hb dX12_rowNow_48 ?_
  refine lv_iload hx hb dX12_rowNow_49 (lv_at hl 5 rfl) ?_
  obtain ⟨z9, h9⟩ := dck_s h8
  clear h8
  refine st_34 B Z z9 dX12_rowNow_51 (fun H locs Z => ?_)
  obtain ⟨σ10, eσ10, h10⟩ := dlt_s h9
  clear h9
  replace Z := Wd.eq eσ10 Z
  clear eσ10
  refine lv_aload_n hx hb dX12_rowNow_52 rfl (lv_at hl 1 rfl) ?_
  refine g_33_0 B Z kf_RX12_7 dX12_rowNow_53 ?_
  refine lv_iload hx hb dX12_rowNow_56 (lv_at hl 0 rfl) ?_
  refine lv_iconst (v := (4 : Int32)) hx hb dX12_rowNow_58 (by decide) ?_
  refine lv_iadd hx hb dX12_rowNow_59 ?_
  refine lv_iload hx hb dX12_rowNow_60 (lv_at hl 6 rfl) ?_
  obtain ⟨z11, h11⟩ := dck_s h10
  clear h10
  refine st_34 B Z z11 dX12_rowNow_62 (fun H locs Z => ?_)
  obtain ⟨σ12, eσ12, h12⟩ := dlt_s h11
  clear h11
  replace Z := Wd.eq eσ12 Z
  clear eσ12
  refine lv_aload_n hx hb dX12_rowNow_63 rfl (lv_at hl 1 rfl) ?_
  refine g_33_0 B Z kf_RX12_7 dX12_rowNow_64 ?_
  refine lv_iload hx hb dX12_rowNow_67 (lv_at hl 0 rfl) ?_
  refine lv_iconst (v := (5 : Int32)) hx hb dX12_rowNow_69 (by decide) ?_
  refine lv_iadd hx hb dX12_rowNow_70 ?_
  refine lv_iload hx hb dX12_rowNow_71 (lv_at hl 7 rfl) ?_
  obtain ⟨z13, h13⟩ := dck_s h12
  clear h12
  refine st_34 B Z z13 dX12_rowNow_73 (fun H locs Z => ?_)
  obtain ⟨σ14, eσ14, h14⟩ := dlt_s h13
  clear h13
  replace Z := Wd.eq eσ14 Z
  clear eσ14
  refine lv_aload_n hx hb dX12_rowNow_74 rfl (lv_at hl 1 rfl) ?_
  refine g_33_0 B Z kf_RX12_7 dX12_rowNow_75 ?_
  refine lv_iconst (v := (0 : Int32)) hx hb dX12_rowNow_78 (by decide) ?_
  refine lv_dup2_11 hx hb dX12_rowNow_79 rfl rfl ?_
  obtain ⟨z15, h15⟩ := dck_s h14
  clear h14
  refine ld_34 B Z z15 dX12_rowNow_80 ?_
  refine lv_iconst (v := (1 : Int32)) hx hb dX12_rowNow_81 (by decide) ?_
  refine lv_iadd hx hb dX12_rowNow_82 ?_
  obtain ⟨z16, h16⟩ := dck_s h15
  clear h15
  refine st_34 B Z z16 dX12_rowNow_83 (fun H locs Z => ?_)
  obtain ⟨σ17, eσ17, h17⟩ := dlt_s h16
  clear h16
  replace Z := Wd.eq eσ17 Z
  clear eσ17
  refine lv_aload_n hx hb dX12_rowNow_84 rfl (lv_at hl 1 rfl) ?_
  refine g_33_0 B Z kf_RX12_7 dX12_rowNow_85 ?_
  refine lv_iconst (v := (0 : Int32)) hx hb dX12_rowNow_88 (by decide) ?_
  obtain ⟨z18, h18⟩ := dck_s h17
  clear h17
  refine ld_34 B Z z18 dX12_rowNow_89 ?_
  refine lv_iconst (v := (1 : Int32)) hx hb dX12_rowNow_90 (by decide) ?_
  refine lv_isub hx hb dX12_rowNow_91 ?_
  exact reI B Z rfl hz h18 dX12_rowNow_92
theorem dX12_row_0 : decode cX12_row 0 = .ok (.iload_n 1, 1) := by decide +kernel
theorem dX12_row_1 : decode cX12_row 1 = .ok (.invokestatic 158, 3) := by decide +kernel
theorem dX12_row_4 : decode cX12_row 4 = .ok (.ifCond .eq 56, 3) := by decide +kernel
theorem dX12_row_7 : decode cX12_row 7 = .ok (.iload_n 2, 1) := by decide +kernel
theorem dX12_row_8 : decode cX12_row 8 = .ok (.invokestatic 158, 3) := by decide +kernel
theorem dX12_row_11 : decode cX12_row 11 = .ok (.ifCond .eq 49, 3) := by decide +kernel
theorem dX12_row_14 : decode cX12_row 14 = .ok (.iload_n 3, 1) := by decide +kernel
theorem dX12_row_15 : decode cX12_row 15 = .ok (.invokestatic 158, 3) := by decide +kernel
theorem dX12_row_18 : decode cX12_row 18 = .ok (.ifCond .eq 42, 3) := by decide +kernel
theorem dX12_row_21 : decode cX12_row 21 = .ok (.iload 4, 2) := by decide +kernel
theorem dX12_row_23 : decode cX12_row 23 = .ok (.i2l, 1) := by decide +kernel
theorem dX12_row_24 : decode cX12_row 24 = .ok (.lconst 0, 1) := by decide +kernel
theorem dX12_row_25 : decode cX12_row 25 = .ok (.ldc2_w 162, 3) := by decide +kernel
theorem dX12_row_28 : decode cX12_row 28 = .ok (.invokestatic 68, 3) := by decide +kernel
theorem dX12_row_31 : decode cX12_row 31 = .ok (.ifCond .eq 29, 3) := by decide +kernel
theorem dX12_row_34 : decode cX12_row 34 = .ok (.iload 5, 2) := by decide +kernel
theorem dX12_row_36 : decode cX12_row 36 = .ok (.i2l, 1) := by decide +kernel
theorem dX12_row_37 : decode cX12_row 37 = .ok (.ldc2_w 164, 3) := by decide +kernel
theorem dX12_row_40 : decode cX12_row 40 = .ok (.ldc2_w 166, 3) := by decide +kernel
theorem dX12_row_43 : decode cX12_row 43 = .ok (.invokestatic 68, 3) := by decide +kernel
theorem dX12_row_46 : decode cX12_row 46 = .ok (.ifCond .eq 14, 3) := by decide +kernel
theorem dX12_row_49 : decode cX12_row 49 = .ok (.iload 6, 2) := by decide +kernel
theorem dX12_row_51 : decode cX12_row 51 = .ok (.i2l, 1) := by decide +kernel
theorem dX12_row_52 : decode cX12_row 52 = .ok (.lconst 0, 1) := by decide +kernel
theorem dX12_row_53 : decode cX12_row 53 = .ok (.lconst 1, 1) := by decide +kernel
theorem dX12_row_54 : decode cX12_row 54 = .ok (.invokestatic 68, 3) := by decide +kernel
theorem dX12_row_57 : decode cX12_row 57 = .ok (.ifCond .ne 10, 3) := by decide +kernel
theorem dX12_row_60 : decode cX12_row 60 = .ok (.aload_n 0, 1) := by decide +kernel
theorem dX12_row_61 : decode cX12_row 61 = .ok (.ldc 63, 2) := by decide +kernel
theorem dX12_row_63 : decode cX12_row 63 = .ok (.invokevirtual 168, 3) := by decide +kernel
theorem dX12_row_66 : decode cX12_row 66 = .ok (.ireturn, 1) := by decide +kernel
theorem dX12_row_67 : decode cX12_row 67 = .ok (.aload_n 0, 1) := by decide +kernel
theorem dX12_row_68 : decode cX12_row 68 = .ok (.getfield 7, 3) := by decide +kernel
theorem dX12_row_71 : decode cX12_row 71 = .ok (.iconst 0, 1) := by decide +kernel
theorem dX12_row_72 : decode cX12_row 72 = .ok (.iaload, 1) := by decide +kernel
theorem dX12_row_73 : decode cX12_row 73 = .ok (.bipush 12, 2) := by decide +kernel
theorem dX12_row_75 : decode cX12_row 75 = .ok (.if_icmp .ne 10, 3) := by decide +kernel
theorem dX12_row_78 : decode cX12_row 78 = .ok (.aload_n 0, 1) := by decide +kernel
theorem dX12_row_79 : decode cX12_row 79 = .ok (.ldc 172, 2) := by decide +kernel
theorem dX12_row_81 : decode cX12_row 81 = .ok (.invokevirtual 168, 3) := by decide +kernel
theorem dX12_row_84 : decode cX12_row 84 = .ok (.ireturn, 1) := by decide +kernel
theorem dX12_row_85 : decode cX12_row 85 = .ok (.aload_n 0, 1) := by decide +kernel
theorem dX12_row_86 : decode cX12_row 86 = .ok (.invokevirtual 173, 3) := by decide +kernel
theorem dX12_row_89 : decode cX12_row 89 = .ok (.aload_n 0, 1) := by decide +kernel
theorem dX12_row_90 : decode cX12_row 90 = .ok (.iload_n 1, 1) := by decide +kernel
theorem dX12_row_91 : decode cX12_row 91 = .ok (.iload_n 2, 1) := by decide +kernel
theorem dX12_row_92 : decode cX12_row 92 = .ok (.iload_n 3, 1) := by decide +kernel
theorem dX12_row_93 : decode cX12_row 93 = .ok (.iload 4, 2) := by decide +kernel
theorem dX12_row_95 : decode cX12_row 95 = .ok (.iload 5, 2) := by decide +kernel
theorem dX12_row_97 : decode cX12_row 97 = .ok (.iload 6, 2) := by decide +kernel
theorem dX12_row_99 : decode cX12_row 99 = .ok (.invokevirtual 176, 3) := by decide +kernel
theorem dX12_row_102 : decode cX12_row 102 = .ok (.ireturn, 1) := by decide +kernel
def rm_fMM_row : Room := { frames := 3, cells := 0, slots := 0, locals := 105 }
set_option maxHeartbeats 4000000 in
set_option maxRecDepth 100000 in
theorem c_fMM_row (l : Launch) (X : eX) (sz : Nat) (a1 : Int32) (a2 : Int32) (a3 : Int32) (a4 : Int32) (a5 : Int32) (a6 : Int32) (σ : sT) (rz : Int32) (σz : sT) (h0 : fMM_row a1 a2 a3 a4 a5 a6 σ = some (rz, σz)) : ctI l yX12_row cX12_row 7 (some .int) rm_fMM_row [.ref (X.2.1 33), .int a1, .int a2, .int a3, .int a4, .int a5, .int a6] (wM X) (tM X) (aM X) X sz σ rz σz := by
  refine ct_of (by decide +kernel) (Nat.le_of_ble_eq_true rfl) ?_
  intro p e s m args below meth c ls hz B hl Z
  have B : Bd p s m args meth c RX12 cX12_row 7 (some .int) := B
  have hl : lv_has ls 7 [(0, .ref (X.2.1 33)), (1, .int a1), (2, .int a2), (3, .int a3), (4, .int a4), (5, .int a5), (6, .int a6)] := hl
  have hx := B.1
  have hb := B.2.1
  unfold fMM_row at h0
  refine lv_iload_n hx hb dX12_row_0 rfl (lv_at hl 1 rfl) ?_
  obtain ⟨r2, hc0, h1⟩ := db1_s h0
  clear h0
  refine cS_I [.int a1] [] B mx_yX12_isNumber (c_fMM_isNumber l X _ a1 σ r2 hc0) kl_RX12_158 ks_yX12_isNumber Z hl rfl rfl ⟨Nat.le_of_ble_eq_true rfl, Nat.le_of_ble_eq_true rfl⟩ rfl rfl (Nat.le_of_ble_eq_true rfl) dX12_row_1 (fun H locs Z => ?_)
  clear hc0
  obtain ⟨J3, eJ3, h4⟩ := dlt_s h1
  clear h1
  have kJ3 : ∀ (H : Heap) (locs : List Loc) (ls : Array Slot), Wd (wM X) (tM X) (aM X) X s σ H locs → lv_has ls 7 [(0, .ref (X.2.1 33))] → J3 () = some (rz, σz) → W p l e rm_fMM_row s m args below meth c H locs 0 0 (MQ below (va_Qi (fun a u => a = rz ∧ u = σz) (poW (wM X) (tM X) (aM X) X sz) (aA (aM X) sz)) args s 0 0 (aA (aM X) sz)) (F0 m 60 ls []) := by
    intro  H locs ls Z hl h2
    rw [eJ3] at h2
    refine lv_aload_n hx hb dX12_row_60 rfl (lv_at hl 0 rfl) ?_
    refine lv_ldc hx hb B.2.2.2.1 (B.2.2.2.2.1 _ kc_RX12_63) dX12_row_61 ?_
    obtain ⟨r5, σ6, hc3, h3⟩ := db2_s h2
    clear h2
    refine cV_I [.int (-1000002 : Int32)] [] B mx_yX12_refuses (c_fMM_refuses l X _ (-1000002 : Int32) σ r5 σ6 hc3) kl_RX12_168 mi_yX12_refuses (rv_33 _ _) hcl_12 Z hl rfl rfl ⟨Nat.le_of_ble_eq_true rfl, Nat.le_of_ble_eq_true rfl⟩ rfl rfl (Nat.le_of_ble_eq_true rfl) dX12_row_63 (fun H locs Z => ?_)
    clear hc3
    exact reI B Z rfl hz h3 dX12_row_66
  clear eJ3
  refine lv_if_eq (tgt := 60) hx hb dX12_row_4 (by decide) (fun c7 => ?_) (fun c7 => ?_)
  · have h5 := dit h4 c7
    clear h4
    exact kJ3  _ _ _ Z (lv_sub hl [0] rfl) h5
  · have h6 := dif h4 c7
    clear h4
    refine lv_iload_n hx hb dX12_row_7 rfl (lv_at hl 2 rfl) ?_
    obtain ⟨r9, hc7, h7⟩ := db1_s h6
    clear h6
    refine cS_I [.int a2] [] B mx_yX12_isNumber (c_fMM_isNumber l X _ a2 σ r9 hc7) kl_RX12_158 ks_yX12_isNumber Z hl rfl rfl ⟨Nat.le_of_ble_eq_true rfl, Nat.le_of_ble_eq_true rfl⟩ rfl rfl (Nat.le_of_ble_eq_true rfl) dX12_row_8 (fun H locs Z => ?_)
    clear hc7
    refine lv_if_eq (tgt := 60) hx hb dX12_row_11 (by decide) (fun c10 => ?_) (fun c10 => ?_)
    · have h8 := dit h7 c10
      clear h7
      exact kJ3  _ _ _ Z (lv_sub hl [0] rfl) h8
    · have h9 := dif h7 c10
      clear h7
      refine lv_iload_n hx hb dX12_row_14 rfl (lv_at hl 3 rfl) ?_
      obtain ⟨r12, hc10, h10⟩ := db1_s h9
      clear h9
      refine cS_I [.int a3] [] B mx_yX12_isNumber (c_fMM_isNumber l X _ a3 σ r12 hc10) kl_RX12_158 ks_yX12_isNumber Z hl rfl rfl ⟨Nat.le_of_ble_eq_true rfl, Nat.le_of_ble_eq_true rfl⟩ rfl rfl (Nat.le_of_ble_eq_true rfl) dX12_row_15 (fun H locs Z => ?_)
      clear hc10
      refine lv_if_eq (tgt := 60) hx hb dX12_row_18 (by decide) (fun c13 => ?_) (fun c13 => ?_)
      · have h11 := dit h10 c13
        clear h10
        exact kJ3  _ _ _ Z (lv_sub hl [0] rfl) h11
      · have h12 := dif h10 c13
        clear h10
        refine lv_iload hx hb dX12_row_21 (lv_at hl 4 rfl) ?_
        refine lv_i2l hx hb dX12_row_23 rfl ?_
        refine lv_lconst (v := (0 : Int64)) hx hb dX12_row_24 (by decide) ?_
        refine lv_ldc2 hx hb B.2.2.2.1 (B.2.2.2.2.1 _ kc_RX12_162) dX12_row_25 ?_
        obtain ⟨r15, hc13, h13⟩ := db1_s h12
        clear h12
        refine cS_I [.long a4.toInt64, .long (0 : Int64), .long (2 : Int64)] [] B mx_yX12_in (c_fMM_in l X _ a4.toInt64 (0 : Int64) (2 : Int64) σ r15 hc13) kl_RX12_68 ks_yX12_in Z hl rfl rfl ⟨Nat.le_of_ble_eq_true rfl, Nat.le_of_ble_eq_true rfl⟩ rfl rfl (Nat.le_of_ble_eq_true rfl) dX12_row_28 (fun H locs Z => ?_)
        clear hc13
        refine lv_if_eq (tgt := 60) hx hb dX12_row_31 (by decide) (fun c16 => ?_) (fun c16 => ?_)
        · have h14 := dit h13 c16
          clear h13
          exact kJ3  _ _ _ Z (lv_sub hl [0] rfl) h14
        · have h15 := dif h13 c16
          clear h13
          refine lv_iload hx hb dX12_row_34 (lv_at hl 5 rfl) ?_
          refine lv_i2l hx hb dX12_row_36 rfl ?_
          refine lv_ldc2 hx hb B.2.2.2.1 (B.2.2.2.2.1 _ kc_RX12_164) dX12_row_37 ?_
          refine lv_ldc2 hx hb B.2.2.2.1 (B.2.2.2.2.1 _ kc_RX12_166) dX12_row_40 ?_
          obtain ⟨r18, hc16, h16⟩ := db1_s h15
          clear h15
          refine cS_I [.long a5.toInt64, .long (-50 : Int64), .long (50 : Int64)] [] B mx_yX12_in (c_fMM_in l X _ a5.toInt64 (-50 : Int64) (50 : Int64) σ r18 hc16) kl_RX12_68 ks_yX12_in Z hl rfl rfl ⟨Nat.le_of_ble_eq_true rfl, Nat.le_of_ble_eq_true rfl⟩ rfl rfl (Nat.le_of_ble_eq_true rfl) dX12_row_43 (fun H locs Z => ?_)
          clear hc16
          refine lv_if_eq (tgt := 60) hx hb dX12_row_46 (by decide) (fun c19 => ?_) (fun c19 => ?_)
          · have h17 := dit h16 c19
            clear h16
            exact kJ3  _ _ _ Z (lv_sub hl [0] rfl) h17
          · have h18 := dif h16 c19
            clear h16
            refine lv_iload hx hb dX12_row_49 (lv_at hl 6 rfl) ?_
            refine lv_i2l hx hb dX12_row_51 rfl ?_
            refine lv_lconst (v := (0 : Int64)) hx hb dX12_row_52 (by decide) ?_
            refine lv_lconst (v := (1 : Int64)) hx hb dX12_row_53 (by decide) ?_
            obtain ⟨r21, hc19, h19⟩ := db1_s h18
            clear h18
            refine cS_I [.long a6.toInt64, .long (0 : Int64), .long (1 : Int64)] [] B mx_yX12_in (c_fMM_in l X _ a6.toInt64 (0 : Int64) (1 : Int64) σ r21 hc19) kl_RX12_68 ks_yX12_in Z hl rfl rfl ⟨Nat.le_of_ble_eq_true rfl, Nat.le_of_ble_eq_true rfl⟩ rfl rfl (Nat.le_of_ble_eq_true rfl) dX12_row_54 (fun H locs Z => ?_)
            clear hc19
            refine lv_if_ne (tgt := 67) hx hb dX12_row_57 (by decide) (fun c22 => ?_) (fun c22 => ?_)
            · have h20 := dif h19 c22
              clear h19
              refine lv_aload_n hx hb dX12_row_67 rfl (lv_at hl 0 rfl) ?_
              refine g_33_0 B Z kf_RX12_7 dX12_row_68 ?_
              refine lv_iconst (v := (0 : Int32)) hx hb dX12_row_71 (by decide) ?_
              obtain ⟨z23, h21⟩ := dck_s h20
              clear h20
              refine ld_34 B Z z23 dX12_row_72 ?_
              refine lv_bipush (v := (12 : Int32)) hx hb dX12_row_73 (by decide) ?_
              refine lv_icmp_ne (tgt := 85) hx hb dX12_row_75 (by decide) (fun c24 => ?_) (fun c24 => ?_)
              · have h22 := dif h21 c24
                clear h21
                refine lv_aload_n hx hb dX12_row_85 rfl (lv_at hl 0 rfl) ?_
                obtain ⟨σ26, hc24, h23⟩ := db1_s h22
                clear h22
                refine cV_V [] [] B mx_yX12_keep (c_fMM_keep l X _ σ σ26 hc24) kl_RX12_173 mi_yX12_keep (rv_33 _ _) hcl_12 Z hl rfl rfl ⟨Nat.le_of_ble_eq_true rfl, Nat.le_of_ble_eq_true rfl⟩ rfl rfl (Nat.le_of_ble_eq_true rfl) dX12_row_86 (fun H locs Z => ?_)
                clear hc24
                refine lv_aload_n hx hb dX12_row_89 rfl (lv_at hl 0 rfl) ?_
                refine lv_iload_n hx hb dX12_row_90 rfl (lv_at hl 1 rfl) ?_
                refine lv_iload_n hx hb dX12_row_91 rfl (lv_at hl 2 rfl) ?_
                refine lv_iload_n hx hb dX12_row_92 rfl (lv_at hl 3 rfl) ?_
                refine lv_iload hx hb dX12_row_93 (lv_at hl 4 rfl) ?_
                refine lv_iload hx hb dX12_row_95 (lv_at hl 5 rfl) ?_
                refine lv_iload hx hb dX12_row_97 (lv_at hl 6 rfl) ?_
                obtain ⟨r28, σ29, hc26, h24⟩ := db2_s h23
                clear h23
                refine cV_I [.int a1, .int a2, .int a3, .int a4, .int a5, .int a6] [] B mx_yX12_rowNow (c_fMM_rowNow l X _ a1 a2 a3 a4 a5 a6 σ26 r28 σ29 hc26) kl_RX12_176 mi_yX12_rowNow (rv_33 _ _) hcl_12 Z hl rfl rfl ⟨Nat.le_of_ble_eq_true rfl, Nat.le_of_ble_eq_true rfl⟩ rfl rfl (Nat.le_of_ble_eq_true rfl) dX12_row_99 (fun H locs Z => ?_)
                clear hc26
                exact reI B Z rfl hz h24 dX12_row_102
              · have h25 := dit h21 c24
                clear h21
                refine lv_aload_n hx hb dX12_row_78 rfl (lv_at hl 0 rfl) ?_
                refine lv_ldc hx hb B.2.2.2.1 (B.2.2.2.2.1 _ kc_RX12_172) dX12_row_79 ?_
                obtain ⟨r31, σ32, hc29, h26⟩ := db2_s h25
                clear h25
                refine cV_I [.int (-1000004 : Int32)] [] B mx_yX12_refuses (c_fMM_refuses l X _ (-1000004 : Int32) σ r31 σ32 hc29) kl_RX12_168 mi_yX12_refuses (rv_33 _ _) hcl_12 Z hl rfl rfl ⟨Nat.le_of_ble_eq_true rfl, Nat.le_of_ble_eq_true rfl⟩ rfl rfl (Nat.le_of_ble_eq_true rfl) dX12_row_81 (fun H locs Z => ?_)
                clear hc29
                exact reI B Z rfl hz h26 dX12_row_84
            · have h27 := dit h19 c22
              clear h19
              exact kJ3  _ _ _ Z (lv_sub hl [0] rfl) h27
theorem dX12_isRow_0 : decode cX12_isRow 0 = .ok (.iload_n 1, 1) := by decide +kernel
theorem dX12_isRow_1 : decode cX12_isRow 1 = .ok (.i2l, 1) := by decide +kernel
theorem dX12_isRow_2 : decode cX12_isRow 2 = .ok (.lconst 0, 1) := by decide +kernel
theorem dX12_isRow_3 : decode cX12_isRow 3 = .ok (.aload_n 0, 1) := by decide +kernel
theorem dX12_isRow_4 : decode cX12_isRow 4 = .ok (.getfield 7, 3) := by decide +kernel
theorem dX12_isRow_7 : decode cX12_isRow 7 = .ok (.iconst 0, 1) := by decide +kernel
theorem dX12_isRow_8 : decode cX12_isRow 8 = .ok (.iaload, 1) := by decide +kernel
theorem dX12_isRow_9 : decode cX12_isRow 9 = .ok (.iconst 1, 1) := by decide +kernel
theorem dX12_isRow_10 : decode cX12_isRow 10 = .ok (.isub, 1) := by decide +kernel
theorem dX12_isRow_11 : decode cX12_isRow 11 = .ok (.i2l, 1) := by decide +kernel
theorem dX12_isRow_12 : decode cX12_isRow 12 = .ok (.invokestatic 68, 3) := by decide +kernel
theorem dX12_isRow_15 : decode cX12_isRow 15 = .ok (.ireturn, 1) := by decide +kernel
def rm_fMM_isRow : Room := { frames := 2, cells := 0, slots := 0, locals := 85 }
set_option maxHeartbeats 4000000 in
set_option maxRecDepth 100000 in
theorem c_fMM_isRow (l : Launch) (X : eX) (sz : Nat) (a1 : Int32) (σ : sT) (rz : Int32) (h0 : fMM_isRow a1 σ = some rz) : ctI l yX12_isRow cX12_isRow 2 (some .boolean) rm_fMM_isRow [.ref (X.2.1 33), .int a1] (wM X) (tM X) (aM X) X sz σ rz σ := by
  refine ct_of (by decide +kernel) (Nat.le_of_ble_eq_true rfl) ?_
  intro p e s m args below meth c ls hz B hl Z
  have B : Bd p s m args meth c RX12 cX12_isRow 2 (some .boolean) := B
  have hl : lv_has ls 2 [(0, .ref (X.2.1 33)), (1, .int a1)] := hl
  have hx := B.1
  have hb := B.2.1
  unfold fMM_isRow at h0
  refine lv_iload_n hx hb dX12_isRow_0 rfl (lv_at hl 1 rfl) ?_
  refine lv_i2l hx hb dX12_isRow_1 rfl ?_
  refine lv_lconst (v := (0 : Int64)) hx hb dX12_isRow_2 (by decide) ?_
  refine lv_aload_n hx hb dX12_isRow_3 rfl (lv_at hl 0 rfl) ?_
  refine g_33_0 B Z kf_RX12_7 dX12_isRow_4 ?_
  refine lv_iconst (v := (0 : Int32)) hx hb dX12_isRow_7 (by decide) ?_
  obtain ⟨z1, h1⟩ := dck_s h0
  clear h0
  refine ld_34 B Z z1 dX12_isRow_8 ?_
  refine lv_iconst (v := (1 : Int32)) hx hb dX12_isRow_9 (by decide) ?_
  refine lv_isub hx hb dX12_isRow_10 ?_
  refine lv_i2l hx hb dX12_isRow_11 rfl ?_
  obtain ⟨r3, hc1, h2⟩ := db1_s h1
  clear h1
  refine cS_I [.long a1.toInt64, .long (0 : Int64), .long (((σ.1 34 (0 : Int32).toNatClampNeg) - (1 : Int32)).toInt64)] [] B mx_yX12_in (c_fMM_in l X _ a1.toInt64 (0 : Int64) (((σ.1 34 (0 : Int32).toNatClampNeg) - (1 : Int32)).toInt64) σ r3 hc1) kl_RX12_68 ks_yX12_in Z hl rfl rfl ⟨Nat.le_of_ble_eq_true rfl, Nat.le_of_ble_eq_true rfl⟩ rfl rfl (Nat.le_of_ble_eq_true rfl) dX12_isRow_12 (fun H locs Z => ?_)
  clear hc1
  obtain ⟨z4, h3⟩ := dck_s h2
  clear h2
  exact reI B Z (okZ_n z4) hz (congrArg (Option.map (fun q => (q, σ))) h3) dX12_isRow_15
theorem dX12_drops_0 : decode cX12_drops 0 = .ok (.aload_n 0, 1) := by decide +kernel
theorem dX12_drops_1 : decode cX12_drops 1 = .ok (.iload_n 1, 1) := by decide +kernel
theorem dX12_drops_2 : decode cX12_drops 2 = .ok (.invokevirtual 180, 3) := by decide +kernel
theorem dX12_drops_5 : decode cX12_drops 5 = .ok (.ifCond .ne 10, 3) := by decide +kernel
theorem dX12_drops_8 : decode cX12_drops 8 = .ok (.aload_n 0, 1) := by decide +kernel
theorem dX12_drops_9 : decode cX12_drops 9 = .ok (.ldc 63, 2) := by decide +kernel
theorem dX12_drops_11 : decode cX12_drops 11 = .ok (.invokevirtual 168, 3) := by decide +kernel
theorem dX12_drops_14 : decode cX12_drops 14 = .ok (.ireturn, 1) := by decide +kernel
theorem dX12_drops_15 : decode cX12_drops 15 = .ok (.aload_n 0, 1) := by decide +kernel
theorem dX12_drops_16 : decode cX12_drops 16 = .ok (.invokevirtual 173, 3) := by decide +kernel
theorem dX12_drops_19 : decode cX12_drops 19 = .ok (.aload_n 0, 1) := by decide +kernel
theorem dX12_drops_20 : decode cX12_drops 20 = .ok (.getfield 7, 3) := by decide +kernel
theorem dX12_drops_23 : decode cX12_drops 23 = .ok (.iconst 0, 1) := by decide +kernel
theorem dX12_drops_24 : decode cX12_drops 24 = .ok (.dup2, 1) := by decide +kernel
theorem dX12_drops_25 : decode cX12_drops 25 = .ok (.iaload, 1) := by decide +kernel
theorem dX12_drops_26 : decode cX12_drops 26 = .ok (.iconst 1, 1) := by decide +kernel
theorem dX12_drops_27 : decode cX12_drops 27 = .ok (.isub, 1) := by decide +kernel
theorem dX12_drops_28 : decode cX12_drops 28 = .ok (.iastore, 1) := by decide +kernel
theorem dX12_drops_29 : decode cX12_drops 29 = .ok (.iconst 1, 1) := by decide +kernel
theorem dX12_drops_30 : decode cX12_drops 30 = .ok (.bipush 6, 2) := by decide +kernel
theorem dX12_drops_32 : decode cX12_drops 32 = .ok (.iload_n 1, 1) := by decide +kernel
theorem dX12_drops_33 : decode cX12_drops 33 = .ok (.imul, 1) := by decide +kernel
theorem dX12_drops_34 : decode cX12_drops 34 = .ok (.iadd, 1) := by decide +kernel
theorem dX12_drops_35 : decode cX12_drops 35 = .ok (.istore_n 2, 1) := by decide +kernel
theorem dX12_drops_36 : decode cX12_drops 36 = .ok (.iload_n 2, 1) := by decide +kernel
theorem dX12_drops_37 : decode cX12_drops 37 = .ok (.iconst 1, 1) := by decide +kernel
theorem dX12_drops_38 : decode cX12_drops 38 = .ok (.bipush 6, 2) := by decide +kernel
theorem dX12_drops_40 : decode cX12_drops 40 = .ok (.aload_n 0, 1) := by decide +kernel
theorem dX12_drops_41 : decode cX12_drops 41 = .ok (.getfield 7, 3) := by decide +kernel
theorem dX12_drops_44 : decode cX12_drops 44 = .ok (.iconst 0, 1) := by decide +kernel
theorem dX12_drops_45 : decode cX12_drops 45 = .ok (.iaload, 1) := by decide +kernel
theorem dX12_drops_46 : decode cX12_drops 46 = .ok (.imul, 1) := by decide +kernel
theorem dX12_drops_47 : decode cX12_drops 47 = .ok (.iadd, 1) := by decide +kernel
theorem dX12_drops_48 : decode cX12_drops 48 = .ok (.if_icmp .ge 24, 3) := by decide +kernel
theorem dX12_drops_51 : decode cX12_drops 51 = .ok (.aload_n 0, 1) := by decide +kernel
theorem dX12_drops_52 : decode cX12_drops 52 = .ok (.getfield 7, 3) := by decide +kernel
theorem dX12_drops_55 : decode cX12_drops 55 = .ok (.iload_n 2, 1) := by decide +kernel
theorem dX12_drops_56 : decode cX12_drops 56 = .ok (.aload_n 0, 1) := by decide +kernel
theorem dX12_drops_57 : decode cX12_drops 57 = .ok (.getfield 7, 3) := by decide +kernel
theorem dX12_drops_60 : decode cX12_drops 60 = .ok (.iload_n 2, 1) := by decide +kernel
theorem dX12_drops_61 : decode cX12_drops 61 = .ok (.bipush 6, 2) := by decide +kernel
theorem dX12_drops_63 : decode cX12_drops 63 = .ok (.iadd, 1) := by decide +kernel
theorem dX12_drops_64 : decode cX12_drops 64 = .ok (.iaload, 1) := by decide +kernel
theorem dX12_drops_65 : decode cX12_drops 65 = .ok (.iastore, 1) := by decide +kernel
theorem dX12_drops_66 : decode cX12_drops 66 = .ok (.iinc 2 1, 3) := by decide +kernel
theorem dX12_drops_69 : decode cX12_drops 69 = .ok (.goto (-33), 3) := by decide +kernel
theorem dX12_drops_72 : decode cX12_drops 72 = .ok (.aload_n 0, 1) := by decide +kernel
theorem dX12_drops_73 : decode cX12_drops 73 = .ok (.getfield 7, 3) := by decide +kernel
theorem dX12_drops_76 : decode cX12_drops 76 = .ok (.iconst 0, 1) := by decide +kernel
theorem dX12_drops_77 : decode cX12_drops 77 = .ok (.iaload, 1) := by decide +kernel
theorem dX12_drops_78 : decode cX12_drops 78 = .ok (.ireturn, 1) := by decide +kernel
def rm_fMM_drops : Room := { frames := 3, cells := 0, slots := 0, locals := 106 }
set_option maxHeartbeats 4000000 in
set_option maxRecDepth 100000 in
theorem c_fMM_drops (l : Launch) (X : eX) (sz : Nat) (a1 : Int32) (σ : sT) (rz : Int32) (σz : sT) (h0 : fMM_drops a1 σ = some (rz, σz)) : ctI l yX12_drops cX12_drops 3 (some .int) rm_fMM_drops [.ref (X.2.1 33), .int a1] (wM X) (tM X) (aM X) X sz σ rz σz := by
  refine ct_of (by decide +kernel) (Nat.le_of_ble_eq_true rfl) ?_
  intro p e s m args below meth c ls hz B hl Z
  have B : Bd p s m args meth c RX12 cX12_drops 3 (some .int) := B
  have hl : lv_has ls 3 [(0, .ref (X.2.1 33)), (1, .int a1)] := hl
  have hx := B.1
  have hb := B.2.1
  unfold fMM_drops at h0
  refine lv_aload_n hx hb dX12_drops_0 rfl (lv_at hl 0 rfl) ?_
  refine lv_iload_n hx hb dX12_drops_1 rfl (lv_at hl 1 rfl) ?_
  obtain ⟨r2, hc0, h1⟩ := db1_s h0
  clear h0
  refine cV_I [.int a1] [] B mx_yX12_isRow (c_fMM_isRow l X _ a1 σ r2 hc0) kl_RX12_180 mi_yX12_isRow (rv_33 _ _) hcl_12 Z hl rfl rfl ⟨Nat.le_of_ble_eq_true rfl, Nat.le_of_ble_eq_true rfl⟩ rfl rfl (Nat.le_of_ble_eq_true rfl) dX12_drops_2 (fun H locs Z => ?_)
  clear hc0
  refine lv_if_ne (tgt := 15) hx hb dX12_drops_5 (by decide) (fun c3 => ?_) (fun c3 => ?_)
  · have h2 := dif h1 c3
    clear h1
    refine lv_aload_n hx hb dX12_drops_15 rfl (lv_at hl 0 rfl) ?_
    obtain ⟨σ5, hc3, h3⟩ := db1_s h2
    clear h2
    refine cV_V [] [] B mx_yX12_keep (c_fMM_keep l X _ σ σ5 hc3) kl_RX12_173 mi_yX12_keep (rv_33 _ _) hcl_12 Z hl rfl rfl ⟨Nat.le_of_ble_eq_true rfl, Nat.le_of_ble_eq_true rfl⟩ rfl rfl (Nat.le_of_ble_eq_true rfl) dX12_drops_16 (fun H locs Z => ?_)
    clear hc3
    refine lv_aload_n hx hb dX12_drops_19 rfl (lv_at hl 0 rfl) ?_
    refine g_33_0 B Z kf_RX12_7 dX12_drops_20 ?_
    refine lv_iconst (v := (0 : Int32)) hx hb dX12_drops_23 (by decide) ?_
    refine lv_dup2_11 hx hb dX12_drops_24 rfl rfl ?_
    obtain ⟨z6, h4⟩ := dck_s h3
    clear h3
    refine ld_34 B Z z6 dX12_drops_25 ?_
    refine lv_iconst (v := (1 : Int32)) hx hb dX12_drops_26 (by decide) ?_
    refine lv_isub hx hb dX12_drops_27 ?_
    obtain ⟨z7, h5⟩ := dck_s h4
    clear h4
    refine st_34 B Z z7 dX12_drops_28 (fun H locs Z => ?_)
    obtain ⟨σ8, eσ8, h6⟩ := dlt_s h5
    clear h5
    replace Z := Wd.eq eσ8 Z
    clear eσ8
    refine lv_iconst (v := (1 : Int32)) hx hb dX12_drops_29 (by decide) ?_
    refine lv_bipush (v := (6 : Int32)) hx hb dX12_drops_30 (by decide) ?_
    refine lv_iload_n hx hb dX12_drops_32 rfl (lv_at hl 1 rfl) ?_
    refine lv_imul hx hb dX12_drops_33 ?_
    refine lv_iadd hx hb dX12_drops_34 ?_
    refine lv_topi (fun x9 ex9 => ?_)
    have h7 := dlt_e ex9 h6
    clear ex9 h6
    refine lv_istore_n (lv' := [(2, .int x9), (0, .ref (X.2.1 33)), (1, .int a1)]) hx hb dX12_drops_35 rfl hl (by decide) rfl (fun ls hl => ?_)
    have lL36 : ∀ (n : Nat), ∀ (x10 : Int32) (σ11 : sT) (H : Heap) (locs : List Loc) (ls : Array Slot), Wd (wM X) (tM X) (aM X) X s σ11 H locs → lv_has ls 3 [(0, .ref (X.2.1 33)), (2, .int x10)] → fMM_drops_L36 n x10 σ11 = some (rz, σz) → W p l e rm_fMM_drops s m args below meth c H locs 0 0 (MQ below (va_Qi (fun a u => a = rz ∧ u = σz) (poW (wM X) (tM X) (aM X) X sz) (aA (aM X) sz)) args s 0 0 (aA (aM X) sz)) (F0 m 36 ls []) := by
      intro n
      induction n with
      | zero =>
        intro x10 σ11 H locs ls Z hl h
        exact nomatch (show (none : Option (Int32 × sT)) = some _ from h)
      | succ n12 ih24 =>
        intro x10 σ11 H locs ls Z hl h8
        unfold fMM_drops_L36 at h8
        refine lv_iload_n hx hb dX12_drops_36 rfl (lv_at hl 1 rfl) ?_
        refine lv_iconst (v := (1 : Int32)) hx hb dX12_drops_37 (by decide) ?_
        refine lv_bipush (v := (6 : Int32)) hx hb dX12_drops_38 (by decide) ?_
        refine lv_aload_n hx hb dX12_drops_40 rfl (lv_at hl 0 rfl) ?_
        refine g_33_0 B Z kf_RX12_7 dX12_drops_41 ?_
        refine lv_iconst (v := (0 : Int32)) hx hb dX12_drops_44 (by decide) ?_
        obtain ⟨z13, h9⟩ := dck_s h8
        clear h8
        refine ld_34 B Z z13 dX12_drops_45 ?_
        refine lv_imul hx hb dX12_drops_46 ?_
        refine lv_iadd hx hb dX12_drops_47 ?_
        refine lv_icmp_ge (tgt := 72) hx hb dX12_drops_48 (by decide) (fun c14 => ?_) (fun c14 => ?_)
        · have h10 := dit h9 c14
          clear h9
          refine lv_aload_n hx hb dX12_drops_72 rfl (lv_at hl 0 rfl) ?_
          refine g_33_0 B Z kf_RX12_7 dX12_drops_73 ?_
          refine lv_iconst (v := (0 : Int32)) hx hb dX12_drops_76 (by decide) ?_
          obtain ⟨z15, h11⟩ := dck_s h10
          clear h10
          refine ld_34 B Z z15 dX12_drops_77 ?_
          exact reI B Z rfl hz h11 dX12_drops_78
        · have h12 := dif h9 c14
          clear h9
          refine lv_aload_n hx hb dX12_drops_51 rfl (lv_at hl 0 rfl) ?_
          refine g_33_0 B Z kf_RX12_7 dX12_drops_52 ?_
          refine lv_iload_n hx hb dX12_drops_55 rfl (lv_at hl 1 rfl) ?_
          refine lv_aload_n hx hb dX12_drops_56 rfl (lv_at hl 0 rfl) ?_
          refine g_33_0 B Z kf_RX12_7 dX12_drops_57 ?_
          refine lv_iload_n hx hb dX12_drops_60 rfl (lv_at hl 1 rfl) ?_
          refine lv_bipush (v := (6 : Int32)) hx hb dX12_drops_61 (by decide) ?_
          refine lv_iadd hx hb dX12_drops_63 ?_
          obtain ⟨z16, h13⟩ := dck_s h12
          clear h12
          refine ld_34 B Z z16 dX12_drops_64 ?_
          obtain ⟨z17, h14⟩ := dck_s h13
          clear h13
          refine st_34 B Z z17 dX12_drops_65 (fun H locs Z => ?_)
          obtain ⟨σ18, eσ18, h15⟩ := dlt_s h14
          clear h14
          replace Z := Wd.eq eσ18 Z
          clear eσ18
          refine lv_iinc (v := x10 + (1 : Int32)) (lv' := [(2, .int (x10 + (1 : Int32))), (0, .ref (X.2.1 33))]) hx hb dX12_drops_66 hl (k := 1) rfl (by rfl) (by decide) rfl (fun ls hl => ?_)
          refine lv_goto (tgt := 36) hx hb dX12_drops_69 (by decide) ?_
          exact ih24 (x10 + (1 : Int32)) σ18 _ _ _ Z (lv_sub hl [1, 0] rfl) h15
    exact lL36 FU x9 σ8 _ _ _ Z (lv_sub hl [1, 0] rfl) h7
  · have h16 := dit h1 c3
    clear h1
    refine lv_aload_n hx hb dX12_drops_8 rfl (lv_at hl 0 rfl) ?_
    refine lv_ldc hx hb B.2.2.2.1 (B.2.2.2.2.1 _ kc_RX12_63) dX12_drops_9 ?_
    obtain ⟨r20, σ21, hc18, h17⟩ := db2_s h16
    clear h16
    refine cV_I [.int (-1000002 : Int32)] [] B mx_yX12_refuses (c_fMM_refuses l X _ (-1000002 : Int32) σ r20 σ21 hc18) kl_RX12_168 mi_yX12_refuses (rv_33 _ _) hcl_12 Z hl rfl rfl ⟨Nat.le_of_ble_eq_true rfl, Nat.le_of_ble_eq_true rfl⟩ rfl rfl (Nat.le_of_ble_eq_true rfl) dX12_drops_11 (fun H locs Z => ?_)
    clear hc18
    exact reI B Z rfl hz h17 dX12_drops_14
theorem dX12_at_0 : decode cX12_at 0 = .ok (.aload_n 0, 1) := by decide +kernel
theorem dX12_at_1 : decode cX12_at 1 = .ok (.getfield 7, 3) := by decide +kernel
theorem dX12_at_4 : decode cX12_at 4 = .ok (.iconst 1, 1) := by decide +kernel
theorem dX12_at_5 : decode cX12_at 5 = .ok (.bipush 6, 2) := by decide +kernel
theorem dX12_at_7 : decode cX12_at 7 = .ok (.iload_n 1, 1) := by decide +kernel
theorem dX12_at_8 : decode cX12_at 8 = .ok (.imul, 1) := by decide +kernel
theorem dX12_at_9 : decode cX12_at 9 = .ok (.iadd, 1) := by decide +kernel
theorem dX12_at_10 : decode cX12_at 10 = .ok (.iload_n 2, 1) := by decide +kernel
theorem dX12_at_11 : decode cX12_at 11 = .ok (.iadd, 1) := by decide +kernel
theorem dX12_at_12 : decode cX12_at 12 = .ok (.iaload, 1) := by decide +kernel
theorem dX12_at_13 : decode cX12_at 13 = .ok (.ireturn, 1) := by decide +kernel
def rm_fMM_at : Room := { frames := 1, cells := 0, slots := 0, locals := 60 }
set_option maxHeartbeats 4000000 in
set_option maxRecDepth 100000 in
theorem c_fMM_at (l : Launch) (X : eX) (sz : Nat) (a1 : Int32) (a2 : Int32) (σ : sT) (rz : Int32) (h0 : fMM_at a1 a2 σ = some rz) : ctI l yX12_at cX12_at 3 (some .int) rm_fMM_at [.ref (X.2.1 33), .int a1, .int a2] (wM X) (tM X) (aM X) X sz σ rz σ := by
  refine ct_of (by decide +kernel) (Nat.le_of_ble_eq_true rfl) ?_
  intro p e s m args below meth c ls hz B hl Z
  have B : Bd p s m args meth c RX12 cX12_at 3 (some .int) := B
  have hl : lv_has ls 3 [(0, .ref (X.2.1 33)), (1, .int a1), (2, .int a2)] := hl
  have hx := B.1
  have hb := B.2.1
  unfold fMM_at at h0
  refine lv_aload_n hx hb dX12_at_0 rfl (lv_at hl 0 rfl) ?_
  refine g_33_0 B Z kf_RX12_7 dX12_at_1 ?_
  refine lv_iconst (v := (1 : Int32)) hx hb dX12_at_4 (by decide) ?_
  refine lv_bipush (v := (6 : Int32)) hx hb dX12_at_5 (by decide) ?_
  refine lv_iload_n hx hb dX12_at_7 rfl (lv_at hl 1 rfl) ?_
  refine lv_imul hx hb dX12_at_8 ?_
  refine lv_iadd hx hb dX12_at_9 ?_
  refine lv_iload_n hx hb dX12_at_10 rfl (lv_at hl 2 rfl) ?_
  refine lv_iadd hx hb dX12_at_11 ?_
  obtain ⟨z1, h1⟩ := dck_s h0
  clear h0
  refine ld_34 B Z z1 dX12_at_12 ?_
  exact reI B Z rfl hz (congrArg (Option.map (fun q => (q, σ))) h1) dX12_at_13
theorem dX12_sets_0 : decode cX12_sets 0 = .ok (.iload_n 2, 1) := by decide +kernel
theorem dX12_sets_1 : decode cX12_sets 1 = .ok (.ifCond .ne 15, 3) := by decide +kernel
theorem dX12_sets_4 : decode cX12_sets 4 = .ok (.iload_n 3, 1) := by decide +kernel
theorem dX12_sets_5 : decode cX12_sets 5 = .ok (.i2l, 1) := by decide +kernel
theorem dX12_sets_6 : decode cX12_sets 6 = .ok (.lconst 0, 1) := by decide +kernel
theorem dX12_sets_7 : decode cX12_sets 7 = .ok (.ldc2_w 162, 3) := by decide +kernel
theorem dX12_sets_10 : decode cX12_sets 10 = .ok (.invokestatic 68, 3) := by decide +kernel
theorem dX12_sets_13 : decode cX12_sets 13 = .ok (.goto 29, 3) := by decide +kernel
theorem dX12_sets_16 : decode cX12_sets 16 = .ok (.iload_n 2, 1) := by decide +kernel
theorem dX12_sets_17 : decode cX12_sets 17 = .ok (.iconst 1, 1) := by decide +kernel
theorem dX12_sets_18 : decode cX12_sets 18 = .ok (.if_icmp .ne 17, 3) := by decide +kernel
theorem dX12_sets_21 : decode cX12_sets 21 = .ok (.iload_n 3, 1) := by decide +kernel
theorem dX12_sets_22 : decode cX12_sets 22 = .ok (.i2l, 1) := by decide +kernel
theorem dX12_sets_23 : decode cX12_sets 23 = .ok (.ldc2_w 164, 3) := by decide +kernel
theorem dX12_sets_26 : decode cX12_sets 26 = .ok (.ldc2_w 166, 3) := by decide +kernel
theorem dX12_sets_29 : decode cX12_sets 29 = .ok (.invokestatic 68, 3) := by decide +kernel
theorem dX12_sets_32 : decode cX12_sets 32 = .ok (.goto 10, 3) := by decide +kernel
theorem dX12_sets_35 : decode cX12_sets 35 = .ok (.iload_n 3, 1) := by decide +kernel
theorem dX12_sets_36 : decode cX12_sets 36 = .ok (.i2l, 1) := by decide +kernel
theorem dX12_sets_37 : decode cX12_sets 37 = .ok (.lconst 0, 1) := by decide +kernel
theorem dX12_sets_38 : decode cX12_sets 38 = .ok (.lconst 1, 1) := by decide +kernel
theorem dX12_sets_39 : decode cX12_sets 39 = .ok (.invokestatic 68, 3) := by decide +kernel
theorem dX12_sets_42 : decode cX12_sets 42 = .ok (.istore 4, 2) := by decide +kernel
theorem dX12_sets_44 : decode cX12_sets 44 = .ok (.aload_n 0, 1) := by decide +kernel
theorem dX12_sets_45 : decode cX12_sets 45 = .ok (.iload_n 1, 1) := by decide +kernel
theorem dX12_sets_46 : decode cX12_sets 46 = .ok (.invokevirtual 180, 3) := by decide +kernel
theorem dX12_sets_49 : decode cX12_sets 49 = .ok (.ifCond .eq 20, 3) := by decide +kernel
theorem dX12_sets_52 : decode cX12_sets 52 = .ok (.iload_n 2, 1) := by decide +kernel
theorem dX12_sets_53 : decode cX12_sets 53 = .ok (.i2l, 1) := by decide +kernel
theorem dX12_sets_54 : decode cX12_sets 54 = .ok (.lconst 0, 1) := by decide +kernel
theorem dX12_sets_55 : decode cX12_sets 55 = .ok (.ldc2_w 162, 3) := by decide +kernel
theorem dX12_sets_58 : decode cX12_sets 58 = .ok (.invokestatic 68, 3) := by decide +kernel
theorem dX12_sets_61 : decode cX12_sets 61 = .ok (.ifCond .eq 8, 3) := by decide +kernel
theorem dX12_sets_64 : decode cX12_sets 64 = .ok (.iload 4, 2) := by decide +kernel
theorem dX12_sets_66 : decode cX12_sets 66 = .ok (.ifCond .ne 10, 3) := by decide +kernel
theorem dX12_sets_69 : decode cX12_sets 69 = .ok (.aload_n 0, 1) := by decide +kernel
theorem dX12_sets_70 : decode cX12_sets 70 = .ok (.ldc 63, 2) := by decide +kernel
theorem dX12_sets_72 : decode cX12_sets 72 = .ok (.invokevirtual 168, 3) := by decide +kernel
theorem dX12_sets_75 : decode cX12_sets 75 = .ok (.ireturn, 1) := by decide +kernel
theorem dX12_sets_76 : decode cX12_sets 76 = .ok (.aload_n 0, 1) := by decide +kernel
theorem dX12_sets_77 : decode cX12_sets 77 = .ok (.invokevirtual 173, 3) := by decide +kernel
theorem dX12_sets_80 : decode cX12_sets 80 = .ok (.aload_n 0, 1) := by decide +kernel
theorem dX12_sets_81 : decode cX12_sets 81 = .ok (.iload_n 1, 1) := by decide +kernel
theorem dX12_sets_82 : decode cX12_sets 82 = .ok (.iconst 3, 1) := by decide +kernel
theorem dX12_sets_83 : decode cX12_sets 83 = .ok (.iload_n 2, 1) := by decide +kernel
theorem dX12_sets_84 : decode cX12_sets 84 = .ok (.iadd, 1) := by decide +kernel
theorem dX12_sets_85 : decode cX12_sets 85 = .ok (.invokevirtual 87, 3) := by decide +kernel
theorem dX12_sets_88 : decode cX12_sets 88 = .ok (.istore 5, 2) := by decide +kernel
theorem dX12_sets_90 : decode cX12_sets 90 = .ok (.aload_n 0, 1) := by decide +kernel
theorem dX12_sets_91 : decode cX12_sets 91 = .ok (.getfield 7, 3) := by decide +kernel
theorem dX12_sets_94 : decode cX12_sets 94 = .ok (.iconst 1, 1) := by decide +kernel
theorem dX12_sets_95 : decode cX12_sets 95 = .ok (.bipush 6, 2) := by decide +kernel
theorem dX12_sets_97 : decode cX12_sets 97 = .ok (.iload_n 1, 1) := by decide +kernel
theorem dX12_sets_98 : decode cX12_sets 98 = .ok (.imul, 1) := by decide +kernel
theorem dX12_sets_99 : decode cX12_sets 99 = .ok (.iadd, 1) := by decide +kernel
theorem dX12_sets_100 : decode cX12_sets 100 = .ok (.iconst 3, 1) := by decide +kernel
theorem dX12_sets_101 : decode cX12_sets 101 = .ok (.iadd, 1) := by decide +kernel
theorem dX12_sets_102 : decode cX12_sets 102 = .ok (.iload_n 2, 1) := by decide +kernel
theorem dX12_sets_103 : decode cX12_sets 103 = .ok (.iadd, 1) := by decide +kernel
theorem dX12_sets_104 : decode cX12_sets 104 = .ok (.iload_n 3, 1) := by decide +kernel
theorem dX12_sets_105 : decode cX12_sets 105 = .ok (.iastore, 1) := by decide +kernel
theorem dX12_sets_106 : decode cX12_sets 106 = .ok (.iload 5, 2) := by decide +kernel
theorem dX12_sets_108 : decode cX12_sets 108 = .ok (.ireturn, 1) := by decide +kernel
def rm_fMM_sets : Room := { frames := 3, cells := 0, slots := 0, locals := 106 }
set_option maxHeartbeats 4000000 in
set_option maxRecDepth 100000 in
theorem c_fMM_sets (l : Launch) (X : eX) (sz : Nat) (a1 : Int32) (a2 : Int32) (a3 : Int32) (σ : sT) (rz : Int32) (σz : sT) (h0 : fMM_sets a1 a2 a3 σ = some (rz, σz)) : ctI l yX12_sets cX12_sets 6 (some .int) rm_fMM_sets [.ref (X.2.1 33), .int a1, .int a2, .int a3] (wM X) (tM X) (aM X) X sz σ rz σz := by
  refine ct_of (by decide +kernel) (Nat.le_of_ble_eq_true rfl) ?_
  intro p e s m args below meth c ls hz B hl Z
  have B : Bd p s m args meth c RX12 cX12_sets 6 (some .int) := B
  have hl : lv_has ls 6 [(0, .ref (X.2.1 33)), (1, .int a1), (2, .int a2), (3, .int a3)] := hl
  have hx := B.1
  have hb := B.2.1
  unfold fMM_sets at h0
  refine lv_iload_n hx hb dX12_sets_0 rfl (lv_at hl 2 rfl) ?_
  obtain ⟨J2, eJ2, h17⟩ := dlt_s h0
  clear h0
  have kJ2 : ∀ (x1 : Int32) (H : Heap) (locs : List Loc) (ls : Array Slot), Wd (wM X) (tM X) (aM X) X s σ H locs → lv_has ls 6 [(0, .ref (X.2.1 33)), (1, .int a1), (2, .int a2), (3, .int a3)] → J2 x1 = some (rz, σz) → W p l e rm_fMM_sets s m args below meth c H locs 0 0 (MQ below (va_Qi (fun a u => a = rz ∧ u = σz) (poW (wM X) (tM X) (aM X) X sz) (aA (aM X) sz)) args s 0 0 (aA (aM X) sz)) (F0 m 42 ls [.int x1]) := by
    intro x1 H locs ls Z hl h1
    rw [eJ2] at h1
    refine lv_istore (lv' := [(4, .int x1), (0, .ref (X.2.1 33)), (1, .int a1), (2, .int a2), (3, .int a3)]) hx hb dX12_sets_42 hl (by decide) rfl (fun ls hl => ?_)
    refine lv_aload_n hx hb dX12_sets_44 rfl (lv_at hl 1 rfl) ?_
    refine lv_iload_n hx hb dX12_sets_45 rfl (lv_at hl 2 rfl) ?_
    obtain ⟨r4, hc2, h2⟩ := db1_s h1
    clear h1
    refine cV_I [.int a1] [] B mx_yX12_isRow (c_fMM_isRow l X _ a1 σ r4 hc2) kl_RX12_180 mi_yX12_isRow (rv_33 _ _) hcl_12 Z hl rfl rfl ⟨Nat.le_of_ble_eq_true rfl, Nat.le_of_ble_eq_true rfl⟩ rfl rfl (Nat.le_of_ble_eq_true rfl) dX12_sets_46 (fun H locs Z => ?_)
    clear hc2
    obtain ⟨J5, eJ5, h5⟩ := dlt_s h2
    clear h2
    have kJ5 : ∀ (H : Heap) (locs : List Loc) (ls : Array Slot), Wd (wM X) (tM X) (aM X) X s σ H locs → lv_has ls 6 [(0, .ref (X.2.1 33))] → J5 () = some (rz, σz) → W p l e rm_fMM_sets s m args below meth c H locs 0 0 (MQ below (va_Qi (fun a u => a = rz ∧ u = σz) (poW (wM X) (tM X) (aM X) X sz) (aA (aM X) sz)) args s 0 0 (aA (aM X) sz)) (F0 m 69 ls []) := by
      intro  H locs ls Z hl h3
      rw [eJ5] at h3
      refine lv_aload_n hx hb dX12_sets_69 rfl (lv_at hl 0 rfl) ?_
      refine lv_ldc hx hb B.2.2.2.1 (B.2.2.2.2.1 _ kc_RX12_63) dX12_sets_70 ?_
      obtain ⟨r7, σ8, hc5, h4⟩ := db2_s h3
      clear h3
      refine cV_I [.int (-1000002 : Int32)] [] B mx_yX12_refuses (c_fMM_refuses l X _ (-1000002 : Int32) σ r7 σ8 hc5) kl_RX12_168 mi_yX12_refuses (rv_33 _ _) hcl_12 Z hl rfl rfl ⟨Nat.le_of_ble_eq_true rfl, Nat.le_of_ble_eq_true rfl⟩ rfl rfl (Nat.le_of_ble_eq_true rfl) dX12_sets_72 (fun H locs Z => ?_)
      clear hc5
      exact reI B Z rfl hz h4 dX12_sets_75
    clear eJ5
    refine lv_if_eq (tgt := 69) hx hb dX12_sets_49 (by decide) (fun c9 => ?_) (fun c9 => ?_)
    · have h6 := dit h5 c9
      clear h5
      exact kJ5  _ _ _ Z (lv_sub hl [1] rfl) h6
    · have h7 := dif h5 c9
      clear h5
      refine lv_iload_n hx hb dX12_sets_52 rfl (lv_at hl 3 rfl) ?_
      refine lv_i2l hx hb dX12_sets_53 rfl ?_
      refine lv_lconst (v := (0 : Int64)) hx hb dX12_sets_54 (by decide) ?_
      refine lv_ldc2 hx hb B.2.2.2.1 (B.2.2.2.2.1 _ kc_RX12_162) dX12_sets_55 ?_
      obtain ⟨r11, hc9, h8⟩ := db1_s h7
      clear h7
      refine cS_I [.long a2.toInt64, .long (0 : Int64), .long (2 : Int64)] [] B mx_yX12_in (c_fMM_in l X _ a2.toInt64 (0 : Int64) (2 : Int64) σ r11 hc9) kl_RX12_68 ks_yX12_in Z hl rfl rfl ⟨Nat.le_of_ble_eq_true rfl, Nat.le_of_ble_eq_true rfl⟩ rfl rfl (Nat.le_of_ble_eq_true rfl) dX12_sets_58 (fun H locs Z => ?_)
      clear hc9
      refine lv_if_eq (tgt := 69) hx hb dX12_sets_61 (by decide) (fun c12 => ?_) (fun c12 => ?_)
      · have h9 := dit h8 c12
        clear h8
        exact kJ5  _ _ _ Z (lv_sub hl [1] rfl) h9
      · have h10 := dif h8 c12
        clear h8
        refine lv_iload hx hb dX12_sets_64 (lv_at hl 0 rfl) ?_
        refine lv_if_ne (tgt := 76) hx hb dX12_sets_66 (by decide) (fun c13 => ?_) (fun c13 => ?_)
        · have h11 := dif h10 c13
          clear h10
          refine lv_aload_n hx hb dX12_sets_76 rfl (lv_at hl 1 rfl) ?_
          obtain ⟨σ15, hc13, h12⟩ := db1_s h11
          clear h11
          refine cV_V [] [] B mx_yX12_keep (c_fMM_keep l X _ σ σ15 hc13) kl_RX12_173 mi_yX12_keep (rv_33 _ _) hcl_12 Z hl rfl rfl ⟨Nat.le_of_ble_eq_true rfl, Nat.le_of_ble_eq_true rfl⟩ rfl rfl (Nat.le_of_ble_eq_true rfl) dX12_sets_77 (fun H locs Z => ?_)
          clear hc13
          refine lv_aload_n hx hb dX12_sets_80 rfl (lv_at hl 1 rfl) ?_
          refine lv_iload_n hx hb dX12_sets_81 rfl (lv_at hl 2 rfl) ?_
          refine lv_iconst (v := (3 : Int32)) hx hb dX12_sets_82 (by decide) ?_
          refine lv_iload_n hx hb dX12_sets_83 rfl (lv_at hl 3 rfl) ?_
          refine lv_iadd hx hb dX12_sets_84 ?_
          obtain ⟨r17, hc15, h13⟩ := db1_s h12
          clear h12
          refine cV_I [.int a1, .int ((3 : Int32) + a2)] [] B mx_yX12_at (c_fMM_at l X _ a1 ((3 : Int32) + a2) σ15 r17 hc15) kl_RX12_87 mi_yX12_at (rv_33 _ _) hcl_12 Z hl rfl rfl ⟨Nat.le_of_ble_eq_true rfl, Nat.le_of_ble_eq_true rfl⟩ rfl rfl (Nat.le_of_ble_eq_true rfl) dX12_sets_85 (fun H locs Z => ?_)
          clear hc15
          refine lv_istore (lv' := [(5, .int r17), (4, .int x1), (0, .ref (X.2.1 33)), (1, .int a1), (2, .int a2), (3, .int a3)]) hx hb dX12_sets_88 hl (by decide) rfl (fun ls hl => ?_)
          refine lv_aload_n hx hb dX12_sets_90 rfl (lv_at hl 2 rfl) ?_
          refine g_33_0 B Z kf_RX12_7 dX12_sets_91 ?_
          refine lv_iconst (v := (1 : Int32)) hx hb dX12_sets_94 (by decide) ?_
          refine lv_bipush (v := (6 : Int32)) hx hb dX12_sets_95 (by decide) ?_
          refine lv_iload_n hx hb dX12_sets_97 rfl (lv_at hl 3 rfl) ?_
          refine lv_imul hx hb dX12_sets_98 ?_
          refine lv_iadd hx hb dX12_sets_99 ?_
          refine lv_iconst (v := (3 : Int32)) hx hb dX12_sets_100 (by decide) ?_
          refine lv_iadd hx hb dX12_sets_101 ?_
          refine lv_iload_n hx hb dX12_sets_102 rfl (lv_at hl 4 rfl) ?_
          refine lv_iadd hx hb dX12_sets_103 ?_
          refine lv_iload_n hx hb dX12_sets_104 rfl (lv_at hl 5 rfl) ?_
          obtain ⟨z18, h14⟩ := dck_s h13
          clear h13
          refine st_34 B Z z18 dX12_sets_105 (fun H locs Z => ?_)
          obtain ⟨σ19, eσ19, h15⟩ := dlt_s h14
          clear h14
          replace Z := Wd.eq eσ19 Z
          clear eσ19
          refine lv_iload hx hb dX12_sets_106 (lv_at hl 0 rfl) ?_
          exact reI B Z rfl hz h15 dX12_sets_108
        · have h16 := dit h10 c13
          clear h10
          exact kJ5  _ _ _ Z (lv_sub hl [1] rfl) h16
  clear eJ2
  refine lv_if_ne (tgt := 16) hx hb dX12_sets_1 (by decide) (fun c20 => ?_) (fun c20 => ?_)
  · have h18 := dif h17 c20
    clear h17
    refine lv_iload_n hx hb dX12_sets_16 rfl (lv_at hl 2 rfl) ?_
    refine lv_iconst (v := (1 : Int32)) hx hb dX12_sets_17 (by decide) ?_
    refine lv_icmp_ne (tgt := 35) hx hb dX12_sets_18 (by decide) (fun c21 => ?_) (fun c21 => ?_)
    · have h19 := dif h18 c21
      clear h18
      refine lv_iload_n hx hb dX12_sets_35 rfl (lv_at hl 3 rfl) ?_
      refine lv_i2l hx hb dX12_sets_36 rfl ?_
      refine lv_lconst (v := (0 : Int64)) hx hb dX12_sets_37 (by decide) ?_
      refine lv_lconst (v := (1 : Int64)) hx hb dX12_sets_38 (by decide) ?_
      obtain ⟨r23, hc21, h20⟩ := db1_s h19
      clear h19
      refine cS_I [.long a3.toInt64, .long (0 : Int64), .long (1 : Int64)] [] B mx_yX12_in (c_fMM_in l X _ a3.toInt64 (0 : Int64) (1 : Int64) σ r23 hc21) kl_RX12_68 ks_yX12_in Z hl rfl rfl ⟨Nat.le_of_ble_eq_true rfl, Nat.le_of_ble_eq_true rfl⟩ rfl rfl (Nat.le_of_ble_eq_true rfl) dX12_sets_39 (fun H locs Z => ?_)
      clear hc21
      exact kJ2 r23 _ _ _ Z (lv_sub hl [0, 1, 2, 3] rfl) h20
    · have h21 := dit h18 c21
      clear h18
      refine lv_iload_n hx hb dX12_sets_21 rfl (lv_at hl 3 rfl) ?_
      refine lv_i2l hx hb dX12_sets_22 rfl ?_
      refine lv_ldc2 hx hb B.2.2.2.1 (B.2.2.2.2.1 _ kc_RX12_164) dX12_sets_23 ?_
      refine lv_ldc2 hx hb B.2.2.2.1 (B.2.2.2.2.1 _ kc_RX12_166) dX12_sets_26 ?_
      obtain ⟨r25, hc23, h22⟩ := db1_s h21
      clear h21
      refine cS_I [.long a3.toInt64, .long (-50 : Int64), .long (50 : Int64)] [] B mx_yX12_in (c_fMM_in l X _ a3.toInt64 (-50 : Int64) (50 : Int64) σ r25 hc23) kl_RX12_68 ks_yX12_in Z hl rfl rfl ⟨Nat.le_of_ble_eq_true rfl, Nat.le_of_ble_eq_true rfl⟩ rfl rfl (Nat.le_of_ble_eq_true rfl) dX12_sets_29 (fun H locs Z => ?_)
      clear hc23
      refine lv_goto (tgt := 42) hx hb dX12_sets_32 (by decide) ?_
      exact kJ2 r25 _ _ _ Z (lv_sub hl [0, 1, 2, 3] rfl) h22
  · have h23 := dit h17 c20
    clear h17
    refine lv_iload_n hx hb dX12_sets_4 rfl (lv_at hl 3 rfl) ?_
    refine lv_i2l hx hb dX12_sets_5 rfl ?_
    refine lv_lconst (v := (0 : Int64)) hx hb dX12_sets_6 (by decide) ?_
    refine lv_ldc2 hx hb B.2.2.2.1 (B.2.2.2.2.1 _ kc_RX12_162) dX12_sets_7 ?_
    obtain ⟨r27, hc25, h24⟩ := db1_s h23
    clear h23
    refine cS_I [.long a3.toInt64, .long (0 : Int64), .long (2 : Int64)] [] B mx_yX12_in (c_fMM_in l X _ a3.toInt64 (0 : Int64) (2 : Int64) σ r27 hc25) kl_RX12_68 ks_yX12_in Z hl rfl rfl ⟨Nat.le_of_ble_eq_true rfl, Nat.le_of_ble_eq_true rfl⟩ rfl rfl (Nat.le_of_ble_eq_true rfl) dX12_sets_10 (fun H locs Z => ?_)
    clear hc25
    refine lv_goto (tgt := 42) hx hb dX12_sets_13 (by decide) ?_
    exact kJ2 r27 _ _ _ Z (lv_sub hl [0, 1, 2, 3] rfl) h24
theorem dX12_of_0 : decode cX12_of 0 = .ok (.aload_n 0, 1) := by decide +kernel
theorem dX12_of_1 : decode cX12_of 1 = .ok (.iload_n 1, 1) := by decide +kernel
theorem dX12_of_2 : decode cX12_of 2 = .ok (.invokevirtual 180, 3) := by decide +kernel
theorem dX12_of_5 : decode cX12_of 5 = .ok (.ifCond .eq 24, 3) := by decide +kernel
theorem dX12_of_8 : decode cX12_of 8 = .ok (.iload_n 2, 1) := by decide +kernel
theorem dX12_of_9 : decode cX12_of 9 = .ok (.i2l, 1) := by decide +kernel
theorem dX12_of_10 : decode cX12_of 10 = .ok (.lconst 0, 1) := by decide +kernel
theorem dX12_of_11 : decode cX12_of 11 = .ok (.ldc2_w 156, 3) := by decide +kernel
theorem dX12_of_14 : decode cX12_of 14 = .ok (.invokestatic 68, 3) := by decide +kernel
theorem dX12_of_17 : decode cX12_of 17 = .ok (.ifCond .eq 12, 3) := by decide +kernel
theorem dX12_of_20 : decode cX12_of 20 = .ok (.aload_n 0, 1) := by decide +kernel
theorem dX12_of_21 : decode cX12_of 21 = .ok (.iload_n 1, 1) := by decide +kernel
theorem dX12_of_22 : decode cX12_of 22 = .ok (.iload_n 2, 1) := by decide +kernel
theorem dX12_of_23 : decode cX12_of 23 = .ok (.invokevirtual 87, 3) := by decide +kernel
theorem dX12_of_26 : decode cX12_of 26 = .ok (.goto 9, 3) := by decide +kernel
theorem dX12_of_29 : decode cX12_of 29 = .ok (.aload_n 0, 1) := by decide +kernel
theorem dX12_of_30 : decode cX12_of 30 = .ok (.ldc 63, 2) := by decide +kernel
theorem dX12_of_32 : decode cX12_of 32 = .ok (.invokevirtual 168, 3) := by decide +kernel
theorem dX12_of_35 : decode cX12_of 35 = .ok (.ireturn, 1) := by decide +kernel
def rm_fMM_of : Room := { frames := 3, cells := 0, slots := 0, locals := 106 }
set_option maxHeartbeats 4000000 in
set_option maxRecDepth 100000 in
theorem c_fMM_of (l : Launch) (X : eX) (sz : Nat) (a1 : Int32) (a2 : Int32) (σ : sT) (rz : Int32) (σz : sT) (h0 : fMM_of a1 a2 σ = some (rz, σz)) : ctI l yX12_of cX12_of 3 (some .int) rm_fMM_of [.ref (X.2.1 33), .int a1, .int a2] (wM X) (tM X) (aM X) X sz σ rz σz := by
  refine ct_of (by decide +kernel) (Nat.le_of_ble_eq_true rfl) ?_
  intro p e s m args below meth c ls hz B hl Z
  have B : Bd p s m args meth c RX12 cX12_of 3 (some .int) := B
  have hl : lv_has ls 3 [(0, .ref (X.2.1 33)), (1, .int a1), (2, .int a2)] := hl
  have hx := B.1
  have hb := B.2.1
  unfold fMM_of at h0
  refine lv_aload_n hx hb dX12_of_0 rfl (lv_at hl 0 rfl) ?_
  refine lv_iload_n hx hb dX12_of_1 rfl (lv_at hl 1 rfl) ?_
  obtain ⟨r2, hc0, h1⟩ := db1_s h0
  clear h0
  refine cV_I [.int a1] [] B mx_yX12_isRow (c_fMM_isRow l X _ a1 σ r2 hc0) kl_RX12_180 mi_yX12_isRow (rv_33 _ _) hcl_12 Z hl rfl rfl ⟨Nat.le_of_ble_eq_true rfl, Nat.le_of_ble_eq_true rfl⟩ rfl rfl (Nat.le_of_ble_eq_true rfl) dX12_of_2 (fun H locs Z => ?_)
  clear hc0
  obtain ⟨J3, eJ3, h4⟩ := dlt_s h1
  clear h1
  have kJ3 : ∀ (H : Heap) (locs : List Loc) (ls : Array Slot), Wd (wM X) (tM X) (aM X) X s σ H locs → lv_has ls 3 [(0, .ref (X.2.1 33))] → J3 () = some (rz, σz) → W p l e rm_fMM_of s m args below meth c H locs 0 0 (MQ below (va_Qi (fun a u => a = rz ∧ u = σz) (poW (wM X) (tM X) (aM X) X sz) (aA (aM X) sz)) args s 0 0 (aA (aM X) sz)) (F0 m 29 ls []) := by
    intro  H locs ls Z hl h2
    rw [eJ3] at h2
    refine lv_aload_n hx hb dX12_of_29 rfl (lv_at hl 0 rfl) ?_
    refine lv_ldc hx hb B.2.2.2.1 (B.2.2.2.2.1 _ kc_RX12_63) dX12_of_30 ?_
    obtain ⟨r5, σ6, hc3, h3⟩ := db2_s h2
    clear h2
    refine cV_I [.int (-1000002 : Int32)] [] B mx_yX12_refuses (c_fMM_refuses l X _ (-1000002 : Int32) σ r5 σ6 hc3) kl_RX12_168 mi_yX12_refuses (rv_33 _ _) hcl_12 Z hl rfl rfl ⟨Nat.le_of_ble_eq_true rfl, Nat.le_of_ble_eq_true rfl⟩ rfl rfl (Nat.le_of_ble_eq_true rfl) dX12_of_32 (fun H locs Z => ?_)
    clear hc3
    exact reI B Z rfl hz h3 dX12_of_35
  clear eJ3
  refine lv_if_eq (tgt := 29) hx hb dX12_of_5 (by decide) (fun c7 => ?_) (fun c7 => ?_)
  · have h5 := dit h4 c7
    clear h4
    exact kJ3  _ _ _ Z (lv_sub hl [0] rfl) h5
  · have h6 := dif h4 c7
    clear h4
    refine lv_iload_n hx hb dX12_of_8 rfl (lv_at hl 2 rfl) ?_
    refine lv_i2l hx hb dX12_of_9 rfl ?_
    refine lv_lconst (v := (0 : Int64)) hx hb dX12_of_10 (by decide) ?_
    refine lv_ldc2 hx hb B.2.2.2.1 (B.2.2.2.2.1 _ kc_RX12_156) dX12_of_11 ?_
    obtain ⟨r9, hc7, h7⟩ := db1_s h6
    clear h6
    refine cS_I [.long a2.toInt64, .long (0 : Int64), .long (5 : Int64)] [] B mx_yX12_in (c_fMM_in l X _ a2.toInt64 (0 : Int64) (5 : Int64) σ r9 hc7) kl_RX12_68 ks_yX12_in Z hl rfl rfl ⟨Nat.le_of_ble_eq_true rfl, Nat.le_of_ble_eq_true rfl⟩ rfl rfl (Nat.le_of_ble_eq_true rfl) dX12_of_14 (fun H locs Z => ?_)
    clear hc7
    refine lv_if_eq (tgt := 29) hx hb dX12_of_17 (by decide) (fun c10 => ?_) (fun c10 => ?_)
    · have h8 := dit h7 c10
      clear h7
      exact kJ3  _ _ _ Z (lv_sub hl [0] rfl) h8
    · have h9 := dif h7 c10
      clear h7
      refine lv_aload_n hx hb dX12_of_20 rfl (lv_at hl 0 rfl) ?_
      refine lv_iload_n hx hb dX12_of_21 rfl (lv_at hl 1 rfl) ?_
      refine lv_iload_n hx hb dX12_of_22 rfl (lv_at hl 2 rfl) ?_
      obtain ⟨r12, hc10, h10⟩ := db1_s h9
      clear h9
      refine cV_I [.int a1, .int a2] [] B mx_yX12_at (c_fMM_at l X _ a1 a2 σ r12 hc10) kl_RX12_87 mi_yX12_at (rv_33 _ _) hcl_12 Z hl rfl rfl ⟨Nat.le_of_ble_eq_true rfl, Nat.le_of_ble_eq_true rfl⟩ rfl rfl (Nat.le_of_ble_eq_true rfl) dX12_of_23 (fun H locs Z => ?_)
      clear hc10
      refine lv_goto (tgt := 35) hx hb dX12_of_26 (by decide) ?_
      exact reI B Z rfl hz h10 dX12_of_35
theorem dX12_every_0 : decode cX12_every 0 = .ok (.iconst 1, 1) := by decide +kernel
theorem dX12_every_1 : decode cX12_every 1 = .ok (.aload_n 0, 1) := by decide +kernel
theorem dX12_every_2 : decode cX12_every 2 = .ok (.getfield 7, 3) := by decide +kernel
theorem dX12_every_5 : decode cX12_every 5 = .ok (.iconst 0, 1) := by decide +kernel
theorem dX12_every_6 : decode cX12_every 6 = .ok (.iaload, 1) := by decide +kernel
theorem dX12_every_7 : decode cX12_every 7 = .ok (.ishl, 1) := by decide +kernel
theorem dX12_every_8 : decode cX12_every 8 = .ok (.iconst 1, 1) := by decide +kernel
theorem dX12_every_9 : decode cX12_every 9 = .ok (.isub, 1) := by decide +kernel
theorem dX12_every_10 : decode cX12_every 10 = .ok (.ireturn, 1) := by decide +kernel
def rm_fMM_every : Room := { frames := 1, cells := 0, slots := 0, locals := 60 }
set_option maxHeartbeats 4000000 in
set_option maxRecDepth 100000 in
theorem c_fMM_every (l : Launch) (X : eX) (sz : Nat)  (σ : sT) (rz : Int32) (h0 : fMM_every σ = some rz) : ctI l yX12_every cX12_every 1 (some .int) rm_fMM_every [.ref (X.2.1 33)] (wM X) (tM X) (aM X) X sz σ rz σ := by
  refine ct_of (by decide +kernel) (Nat.le_of_ble_eq_true rfl) ?_
  intro p e s m args below meth c ls hz B hl Z
  have B : Bd p s m args meth c RX12 cX12_every 1 (some .int) := B
  have hl : lv_has ls 1 [(0, .ref (X.2.1 33))] := hl
  have hx := B.1
  have hb := B.2.1
  unfold fMM_every at h0
  refine lv_iconst (v := (1 : Int32)) hx hb dX12_every_0 (by decide) ?_
  refine lv_aload_n hx hb dX12_every_1 rfl (lv_at hl 0 rfl) ?_
  refine g_33_0 B Z kf_RX12_7 dX12_every_2 ?_
  refine lv_iconst (v := (0 : Int32)) hx hb dX12_every_5 (by decide) ?_
  obtain ⟨z1, h1⟩ := dck_s h0
  clear h0
  refine ld_34 B Z z1 dX12_every_6 ?_
  refine lv_ishl hx hb dX12_every_7 ?_
  refine lv_iconst (v := (1 : Int32)) hx hb dX12_every_8 (by decide) ?_
  refine lv_isub hx hb dX12_every_9 ?_
  exact reI B Z rfl hz (congrArg (Option.map (fun q => (q, σ))) h1) dX12_every_10
theorem dX12_isSet_0 : decode cX12_isSet 0 = .ok (.iload_n 1, 1) := by decide +kernel
theorem dX12_isSet_1 : decode cX12_isSet 1 = .ok (.i2l, 1) := by decide +kernel
theorem dX12_isSet_2 : decode cX12_isSet 2 = .ok (.lconst 0, 1) := by decide +kernel
theorem dX12_isSet_3 : decode cX12_isSet 3 = .ok (.aload_n 0, 1) := by decide +kernel
theorem dX12_isSet_4 : decode cX12_isSet 4 = .ok (.invokevirtual 72, 3) := by decide +kernel
theorem dX12_isSet_7 : decode cX12_isSet 7 = .ok (.i2l, 1) := by decide +kernel
theorem dX12_isSet_8 : decode cX12_isSet 8 = .ok (.invokestatic 68, 3) := by decide +kernel
theorem dX12_isSet_11 : decode cX12_isSet 11 = .ok (.ireturn, 1) := by decide +kernel
def rm_fMM_isSet : Room := { frames := 2, cells := 0, slots := 0, locals := 85 }
set_option maxHeartbeats 4000000 in
set_option maxRecDepth 100000 in
theorem c_fMM_isSet (l : Launch) (X : eX) (sz : Nat) (a1 : Int32) (σ : sT) (rz : Int32) (h0 : fMM_isSet a1 σ = some rz) : ctI l yX12_isSet cX12_isSet 2 (some .boolean) rm_fMM_isSet [.ref (X.2.1 33), .int a1] (wM X) (tM X) (aM X) X sz σ rz σ := by
  refine ct_of (by decide +kernel) (Nat.le_of_ble_eq_true rfl) ?_
  intro p e s m args below meth c ls hz B hl Z
  have B : Bd p s m args meth c RX12 cX12_isSet 2 (some .boolean) := B
  have hl : lv_has ls 2 [(0, .ref (X.2.1 33)), (1, .int a1)] := hl
  have hx := B.1
  have hb := B.2.1
  unfold fMM_isSet at h0
  refine lv_iload_n hx hb dX12_isSet_0 rfl (lv_at hl 1 rfl) ?_
  refine lv_i2l hx hb dX12_isSet_1 rfl ?_
  refine lv_lconst (v := (0 : Int64)) hx hb dX12_isSet_2 (by decide) ?_
  refine lv_aload_n hx hb dX12_isSet_3 rfl (lv_at hl 0 rfl) ?_
  obtain ⟨r2, hc0, h1⟩ := db1_s h0
  clear h0
  refine cV_I [] [.long (0 : Int64), .long a1.toInt64] B mx_yX12_every (c_fMM_every l X _ σ r2 hc0) kl_RX12_72 mi_yX12_every (rv_33 _ _) hcl_12 Z hl rfl rfl ⟨Nat.le_of_ble_eq_true rfl, Nat.le_of_ble_eq_true rfl⟩ rfl rfl (Nat.le_of_ble_eq_true rfl) dX12_isSet_4 (fun H locs Z => ?_)
  clear hc0
  refine lv_i2l hx hb dX12_isSet_7 rfl ?_
  obtain ⟨r4, hc2, h2⟩ := db1_s h1
  clear h1
  refine cS_I [.long a1.toInt64, .long (0 : Int64), .long r2.toInt64] [] B mx_yX12_in (c_fMM_in l X _ a1.toInt64 (0 : Int64) r2.toInt64 σ r4 hc2) kl_RX12_68 ks_yX12_in Z hl rfl rfl ⟨Nat.le_of_ble_eq_true rfl, Nat.le_of_ble_eq_true rfl⟩ rfl rfl (Nat.le_of_ble_eq_true rfl) dX12_isSet_8 (fun H locs Z => ?_)
  clear hc2
  obtain ⟨z5, h3⟩ := dck_s h2
  clear h2
  exact reI B Z (okZ_n z5) hz (congrArg (Option.map (fun q => (q, σ))) h3) dX12_isSet_11
theorem dX12_has_0 : decode cX12_has 0 = .ok (.iload_n 0, 1) := by decide +kernel
theorem dX12_has_1 : decode cX12_has 1 = .ok (.iload_n 1, 1) := by decide +kernel
theorem dX12_has_2 : decode cX12_has 2 = .ok (.ishr, 1) := by decide +kernel
theorem dX12_has_3 : decode cX12_has 3 = .ok (.iconst 1, 1) := by decide +kernel
theorem dX12_has_4 : decode cX12_has 4 = .ok (.iand, 1) := by decide +kernel
theorem dX12_has_5 : decode cX12_has 5 = .ok (.iconst 1, 1) := by decide +kernel
theorem dX12_has_6 : decode cX12_has 6 = .ok (.if_icmp .ne 7, 3) := by decide +kernel
theorem dX12_has_9 : decode cX12_has 9 = .ok (.iconst 1, 1) := by decide +kernel
theorem dX12_has_10 : decode cX12_has 10 = .ok (.goto 4, 3) := by decide +kernel
theorem dX12_has_13 : decode cX12_has 13 = .ok (.iconst 0, 1) := by decide +kernel
theorem dX12_has_14 : decode cX12_has 14 = .ok (.ireturn, 1) := by decide +kernel
def rm_fMM_has : Room := { frames := 1, cells := 0, slots := 0, locals := 60 }
set_option maxHeartbeats 4000000 in
set_option maxRecDepth 100000 in
theorem c_fMM_has (l : Launch) (X : eX) (sz : Nat) (a1 : Int32) (a2 : Int32) (σ : sT) (rz : Int32) (h0 : fMM_has a1 a2 = some rz) : ctI l yX12_has cX12_has 2 (some .boolean) rm_fMM_has [.int a1, .int a2] (wM X) (tM X) (aM X) X sz σ rz σ := by
  refine ct_of (by decide +kernel) (Nat.le_of_ble_eq_true rfl) ?_
  intro p e s m args below meth c ls hz B hl Z
  have B : Bd p s m args meth c RX12 cX12_has 2 (some .boolean) := B
  have hl : lv_has ls 2 [(0, .int a1), (1, .int a2)] := hl
  have hx := B.1
  have hb := B.2.1
  unfold fMM_has at h0
  refine lv_iload_n hx hb dX12_has_0 rfl (lv_at hl 0 rfl) ?_
  refine lv_iload_n hx hb dX12_has_1 rfl (lv_at hl 1 rfl) ?_
  refine lv_ishr hx hb dX12_has_2 ?_
  refine lv_iconst (v := (1 : Int32)) hx hb dX12_has_3 (by decide) ?_
  refine lv_iand hx hb dX12_has_4 ?_
  refine lv_iconst (v := (1 : Int32)) hx hb dX12_has_5 (by decide) ?_
  refine lv_icmp_ne (tgt := 13) hx hb dX12_has_6 (by decide) (fun c1 => ?_) (fun c1 => ?_)
  · have h1 := dif h0 c1
    clear h0
    refine lv_iconst (v := (0 : Int32)) hx hb dX12_has_13 (by decide) ?_
    exact reI B Z rfl hz (congrArg (Option.map (fun q => (q, σ))) h1) dX12_has_14
  · have h2 := dit h0 c1
    clear h0
    refine lv_iconst (v := (1 : Int32)) hx hb dX12_has_9 (by decide) ?_
    refine lv_goto (tgt := 14) hx hb dX12_has_10 (by decide) ?_
    exact reI B Z rfl hz (congrArg (Option.map (fun q => (q, σ))) h2) dX12_has_14
theorem dX12_lays_0 : decode cX12_lays 0 = .ok (.iconst 5, 1) := by decide +kernel
theorem dX12_lays_1 : decode cX12_lays 1 = .ok (.aload_n 0, 1) := by decide +kernel
theorem dX12_lays_2 : decode cX12_lays 2 = .ok (.getfield 80, 3) := by decide +kernel
theorem dX12_lays_5 : decode cX12_lays 5 = .ok (.imul, 1) := by decide +kernel
theorem dX12_lays_6 : decode cX12_lays 6 = .ok (.istore 10, 2) := by decide +kernel
theorem dX12_lays_8 : decode cX12_lays 8 = .ok (.aload_n 0, 1) := by decide +kernel
theorem dX12_lays_9 : decode cX12_lays 9 = .ok (.getfield 19, 3) := by decide +kernel
theorem dX12_lays_12 : decode cX12_lays 12 = .ok (.iload 10, 2) := by decide +kernel
theorem dX12_lays_14 : decode cX12_lays 14 = .ok (.lload_n 1, 1) := by decide +kernel
theorem dX12_lays_15 : decode cX12_lays 15 = .ok (.lastore, 1) := by decide +kernel
theorem dX12_lays_16 : decode cX12_lays 16 = .ok (.aload_n 0, 1) := by decide +kernel
theorem dX12_lays_17 : decode cX12_lays 17 = .ok (.getfield 19, 3) := by decide +kernel
theorem dX12_lays_20 : decode cX12_lays 20 = .ok (.iload 10, 2) := by decide +kernel
theorem dX12_lays_22 : decode cX12_lays 22 = .ok (.iconst 1, 1) := by decide +kernel
theorem dX12_lays_23 : decode cX12_lays 23 = .ok (.iadd, 1) := by decide +kernel
theorem dX12_lays_24 : decode cX12_lays 24 = .ok (.lload_n 3, 1) := by decide +kernel
theorem dX12_lays_25 : decode cX12_lays 25 = .ok (.lastore, 1) := by decide +kernel
theorem dX12_lays_26 : decode cX12_lays 26 = .ok (.aload_n 0, 1) := by decide +kernel
theorem dX12_lays_27 : decode cX12_lays 27 = .ok (.getfield 19, 3) := by decide +kernel
theorem dX12_lays_30 : decode cX12_lays 30 = .ok (.iload 10, 2) := by decide +kernel
theorem dX12_lays_32 : decode cX12_lays 32 = .ok (.iconst 2, 1) := by decide +kernel
theorem dX12_lays_33 : decode cX12_lays 33 = .ok (.iadd, 1) := by decide +kernel
theorem dX12_lays_34 : decode cX12_lays 34 = .ok (.lload 5, 2) := by decide +kernel
theorem dX12_lays_36 : decode cX12_lays 36 = .ok (.lastore, 1) := by decide +kernel
theorem dX12_lays_37 : decode cX12_lays 37 = .ok (.aload_n 0, 1) := by decide +kernel
theorem dX12_lays_38 : decode cX12_lays 38 = .ok (.getfield 19, 3) := by decide +kernel
theorem dX12_lays_41 : decode cX12_lays 41 = .ok (.iload 10, 2) := by decide +kernel
theorem dX12_lays_43 : decode cX12_lays 43 = .ok (.iconst 3, 1) := by decide +kernel
theorem dX12_lays_44 : decode cX12_lays 44 = .ok (.iadd, 1) := by decide +kernel
theorem dX12_lays_45 : decode cX12_lays 45 = .ok (.lload 7, 2) := by decide +kernel
theorem dX12_lays_47 : decode cX12_lays 47 = .ok (.lastore, 1) := by decide +kernel
theorem dX12_lays_48 : decode cX12_lays 48 = .ok (.aload_n 0, 1) := by decide +kernel
theorem dX12_lays_49 : decode cX12_lays 49 = .ok (.getfield 19, 3) := by decide +kernel
theorem dX12_lays_52 : decode cX12_lays 52 = .ok (.iload 10, 2) := by decide +kernel
theorem dX12_lays_54 : decode cX12_lays 54 = .ok (.iconst 4, 1) := by decide +kernel
theorem dX12_lays_55 : decode cX12_lays 55 = .ok (.iadd, 1) := by decide +kernel
theorem dX12_lays_56 : decode cX12_lays 56 = .ok (.iload 9, 2) := by decide +kernel
theorem dX12_lays_58 : decode cX12_lays 58 = .ok (.ifCond .eq 7, 3) := by decide +kernel
theorem dX12_lays_61 : decode cX12_lays 61 = .ok (.lconst 1, 1) := by decide +kernel
theorem dX12_lays_62 : decode cX12_lays 62 = .ok (.goto 4, 3) := by decide +kernel
theorem dX12_lays_65 : decode cX12_lays 65 = .ok (.lconst 0, 1) := by decide +kernel
theorem dX12_lays_66 : decode cX12_lays 66 = .ok (.lastore, 1) := by decide +kernel
theorem dX12_lays_67 : decode cX12_lays 67 = .ok (.aload_n 0, 1) := by decide +kernel
theorem dX12_lays_68 : decode cX12_lays 68 = .ok (.dup, 1) := by decide +kernel
theorem dX12_lays_69 : decode cX12_lays 69 = .ok (.getfield 80, 3) := by decide +kernel
theorem dX12_lays_72 : decode cX12_lays 72 = .ok (.iconst 1, 1) := by decide +kernel
theorem dX12_lays_73 : decode cX12_lays 73 = .ok (.iadd, 1) := by decide +kernel
theorem dX12_lays_74 : decode cX12_lays 74 = .ok (.putfield 80, 3) := by decide +kernel
theorem dX12_lays_77 : decode cX12_lays 77 = .ok (.return_, 1) := by decide +kernel
def rm_fMM_lays : Room := { frames := 1, cells := 0, slots := 0, locals := 60 }
set_option maxHeartbeats 4000000 in
set_option maxRecDepth 100000 in
theorem c_fMM_lays (l : Launch) (X : eX) (sz : Nat) (a1 : Int64) (a2 : Int64) (a3 : Int64) (a4 : Int64) (a5 : Int32) (σ : sT) (σz : sT) (h0 : fMM_lays a1 a2 a3 a4 a5 σ = some σz) : ctV l yX12_lays cX12_lays 11 none rm_fMM_lays [.ref (X.2.1 33), .long a1, .long a2, .long a3, .long a4, .int a5] (wM X) (tM X) (aM X) X sz σ σz := by
  refine ct_of (by decide +kernel) (Nat.le_of_ble_eq_true rfl) ?_
  intro p e s m args below meth c ls hz B hl Z
  have B : Bd p s m args meth c RX12 cX12_lays 11 none := B
  have hl : lv_has ls 11 [(0, .ref (X.2.1 33)), (1, .long a1), (3, .long a2), (5, .long a3), (7, .long a4), (9, .int a5)] := hl
  have hx := B.1
  have hb := B.2.1
  unfold fMM_lays at h0
  refine lv_iconst (v := (5 : Int32)) hx hb dX12_lays_0 (by decide) ?_
  refine lv_aload_n hx hb dX12_lays_1 rfl (lv_at hl 0 rfl) ?_
  refine g_33_5 B Z kf_RX12_80 dX12_lays_2 ?_
  refine lv_imul hx hb dX12_lays_5 ?_
  refine lv_topi (fun x1 ex1 => ?_)
  have h1 := dlt_e ex1 h0
  clear ex1 h0
  refine lv_istore (lv' := [(10, .int x1), (0, .ref (X.2.1 33)), (1, .long a1), (3, .long a2), (5, .long a3), (7, .long a4), (9, .int a5)]) hx hb dX12_lays_6 hl (by decide) rfl (fun ls hl => ?_)
  refine lv_aload_n hx hb dX12_lays_8 rfl (lv_at hl 1 rfl) ?_
  refine g_33_4 B Z kf_RX12_19 dX12_lays_9 ?_
  refine lv_iload hx hb dX12_lays_12 (lv_at hl 0 rfl) ?_
  refine lv_lload_n hx hb dX12_lays_14 rfl (lv_at hl 2 rfl) ?_
  obtain ⟨z2, h2⟩ := dck_s h1
  clear h1
  refine st_37 B Z z2 dX12_lays_15 (fun H locs Z => ?_)
  obtain ⟨σ3, eσ3, h3⟩ := dlt_s h2
  clear h2
  replace Z := Wd.eq eσ3 Z
  clear eσ3
  refine lv_aload_n hx hb dX12_lays_16 rfl (lv_at hl 1 rfl) ?_
  refine g_33_4 B Z kf_RX12_19 dX12_lays_17 ?_
  refine lv_iload hx hb dX12_lays_20 (lv_at hl 0 rfl) ?_
  refine lv_iconst (v := (1 : Int32)) hx hb dX12_lays_22 (by decide) ?_
  refine lv_iadd hx hb dX12_lays_23 ?_
  refine lv_lload_n hx hb dX12_lays_24 rfl (lv_at hl 3 rfl) ?_
  obtain ⟨z4, h4⟩ := dck_s h3
  clear h3
  refine st_37 B Z z4 dX12_lays_25 (fun H locs Z => ?_)
  obtain ⟨σ5, eσ5, h5⟩ := dlt_s h4
  clear h4
  replace Z := Wd.eq eσ5 Z
  clear eσ5
  refine lv_aload_n hx hb dX12_lays_26 rfl (lv_at hl 1 rfl) ?_
  refine g_33_4 B Z kf_RX12_19 dX12_lays_27 ?_
  refine lv_iload hx hb dX12_lays_30 (lv_at hl 0 rfl) ?_
  refine lv_iconst (v := (2 : Int32)) hx hb dX12_lays_32 (by decide) ?_
  refine lv_iadd hx hb dX12_lays_33 ?_
  refine lv_lload hx hb dX12_lays_34 (lv_at hl 4 rfl) ?_
  obtain ⟨z6, h6⟩ := dck_s h5
  clear h5
  refine st_37 B Z z6 dX12_lays_36 (fun H locs Z => ?_)
  obtain ⟨σ7, eσ7, h7⟩ := dlt_s h6
  clear h6
  replace Z := Wd.eq eσ7 Z
  clear eσ7
  refine lv_aload_n hx hb dX12_lays_37 rfl (lv_at hl 1 rfl) ?_
  refine g_33_4 B Z kf_RX12_19 dX12_lays_38 ?_
  refine lv_iload hx hb dX12_lays_41 (lv_at hl 0 rfl) ?_
  refine lv_iconst (v := (3 : Int32)) hx hb dX12_lays_43 (by decide) ?_
  refine lv_iadd hx hb dX12_lays_44 ?_
  refine lv_lload hx hb dX12_lays_45 (lv_at hl 5 rfl) ?_
  obtain ⟨z8, h8⟩ := dck_s h7
  clear h7
  refine st_37 B Z z8 dX12_lays_47 (fun H locs Z => ?_)
  obtain ⟨σ9, eσ9, h9⟩ := dlt_s h8
  clear h8
  replace Z := Wd.eq eσ9 Z
  clear eσ9
  refine lv_aload_n hx hb dX12_lays_48 rfl (lv_at hl 1 rfl) ?_
  refine g_33_4 B Z kf_RX12_19 dX12_lays_49 ?_
  refine lv_iload hx hb dX12_lays_52 (lv_at hl 0 rfl) ?_
  refine lv_iconst (v := (4 : Int32)) hx hb dX12_lays_54 (by decide) ?_
  refine lv_iadd hx hb dX12_lays_55 ?_
  refine lv_iload hx hb dX12_lays_56 (lv_at hl 6 rfl) ?_
  obtain ⟨J12, eJ12, h14⟩ := dlt_s h9
  clear h9
  have kJ12 : ∀ (x10 : Int32) (x11 : Int64) (H : Heap) (locs : List Loc) (ls : Array Slot), Wd (wM X) (tM X) (aM X) X s σ9 H locs → lv_has ls 11 [(0, .ref (X.2.1 33))] → J12 x10 x11 = some σz → W p l e rm_fMM_lays s m args below meth c H locs 0 0 (MQ below (va_Qv (fun u => u = σz) (poW (wM X) (tM X) (aM X) X sz) (aA (aM X) sz)) args s 0 0 (aA (aM X) sz)) (F0 m 66 ls [.long x11, .int x10, .ref (X.2.1 37)]) := by
    intro x10 x11 H locs ls Z hl h10
    rw [eJ12] at h10
    obtain ⟨z13, h11⟩ := dck_s h10
    clear h10
    refine st_37 B Z z13 dX12_lays_66 (fun H locs Z => ?_)
    obtain ⟨σ14, eσ14, h12⟩ := dlt_s h11
    clear h11
    replace Z := Wd.eq eσ14 Z
    clear eσ14
    refine lv_aload_n hx hb dX12_lays_67 rfl (lv_at hl 0 rfl) ?_
    refine lv_dup hx hb dX12_lays_68 rfl ?_
    refine g_33_5 B Z kf_RX12_80 dX12_lays_69 ?_
    refine lv_iconst (v := (1 : Int32)) hx hb dX12_lays_72 (by decide) ?_
    refine lv_iadd hx hb dX12_lays_73 ?_
    refine s_33_5 B Z kf_RX12_80 dX12_lays_74 (fun H locs Z => ?_)
    obtain ⟨σ15, eσ15, h13⟩ := dlt_s h12
    clear h12
    replace Z := Wd.eq eσ15 Z
    clear eσ15
    exact reV B Z hz h13 dX12_lays_77
  clear eJ12
  refine lv_if_eq (tgt := 65) hx hb dX12_lays_58 (by decide) (fun c16 => ?_) (fun c16 => ?_)
  · have h15 := dit h14 c16
    clear h14
    refine lv_lconst (v := (0 : Int64)) hx hb dX12_lays_65 (by decide) ?_
    exact kJ12 (x1 + (4 : Int32)) (0 : Int64) _ _ _ Z (lv_sub hl [1] rfl) h15
  · have h16 := dif h14 c16
    clear h14
    refine lv_lconst (v := (1 : Int64)) hx hb dX12_lays_61 (by decide) ?_
    refine lv_goto (tgt := 66) hx hb dX12_lays_62 (by decide) ?_
    exact kJ12 (x1 + (4 : Int32)) (1 : Int64) _ _ _ Z (lv_sub hl [1] rfl) h16
theorem dX12_laysSum_0 : decode cX12_laysSum 0 = .ok (.aload_n 0, 1) := by decide +kernel
theorem dX12_laysSum_1 : decode cX12_laysSum 1 = .ok (.lload_n 1, 1) := by decide +kernel
theorem dX12_laysSum_2 : decode cX12_laysSum 2 = .ok (.lload_n 3, 1) := by decide +kernel
theorem dX12_laysSum_3 : decode cX12_laysSum 3 = .ok (.lload 5, 2) := by decide +kernel
theorem dX12_laysSum_5 : decode cX12_laysSum 5 = .ok (.lload 7, 2) := by decide +kernel
theorem dX12_laysSum_7 : decode cX12_laysSum 7 = .ok (.iload 9, 2) := by decide +kernel
theorem dX12_laysSum_9 : decode cX12_laysSum 9 = .ok (.ifCond .ne 7, 3) := by decide +kernel
theorem dX12_laysSum_12 : decode cX12_laysSum 12 = .ok (.iconst 1, 1) := by decide +kernel
theorem dX12_laysSum_13 : decode cX12_laysSum 13 = .ok (.goto 4, 3) := by decide +kernel
theorem dX12_laysSum_16 : decode cX12_laysSum 16 = .ok (.iconst 0, 1) := by decide +kernel
theorem dX12_laysSum_17 : decode cX12_laysSum 17 = .ok (.invokevirtual 83, 3) := by decide +kernel
theorem dX12_laysSum_20 : decode cX12_laysSum 20 = .ok (.iload 9, 2) := by decide +kernel
theorem dX12_laysSum_22 : decode cX12_laysSum 22 = .ok (.iconst 2, 1) := by decide +kernel
theorem dX12_laysSum_23 : decode cX12_laysSum 23 = .ok (.if_icmp .ne 18, 3) := by decide +kernel
theorem dX12_laysSum_26 : decode cX12_laysSum 26 = .ok (.aload_n 0, 1) := by decide +kernel
theorem dX12_laysSum_27 : decode cX12_laysSum 27 = .ok (.lload_n 1, 1) := by decide +kernel
theorem dX12_laysSum_28 : decode cX12_laysSum 28 = .ok (.lneg, 1) := by decide +kernel
theorem dX12_laysSum_29 : decode cX12_laysSum 29 = .ok (.lload_n 3, 1) := by decide +kernel
theorem dX12_laysSum_30 : decode cX12_laysSum 30 = .ok (.lneg, 1) := by decide +kernel
theorem dX12_laysSum_31 : decode cX12_laysSum 31 = .ok (.lload 5, 2) := by decide +kernel
theorem dX12_laysSum_33 : decode cX12_laysSum 33 = .ok (.lneg, 1) := by decide +kernel
theorem dX12_laysSum_34 : decode cX12_laysSum 34 = .ok (.lload 7, 2) := by decide +kernel
theorem dX12_laysSum_36 : decode cX12_laysSum 36 = .ok (.lneg, 1) := by decide +kernel
theorem dX12_laysSum_37 : decode cX12_laysSum 37 = .ok (.iconst 0, 1) := by decide +kernel
theorem dX12_laysSum_38 : decode cX12_laysSum 38 = .ok (.invokevirtual 83, 3) := by decide +kernel
theorem dX12_laysSum_41 : decode cX12_laysSum 41 = .ok (.return_, 1) := by decide +kernel
def rm_fMM_laysSum : Room := { frames := 2, cells := 0, slots := 0, locals := 90 }
set_option maxHeartbeats 4000000 in
set_option maxRecDepth 100000 in
theorem c_fMM_laysSum (l : Launch) (X : eX) (sz : Nat) (a1 : Int64) (a2 : Int64) (a3 : Int64) (a4 : Int64) (a5 : Int32) (σ : sT) (σz : sT) (h0 : fMM_laysSum a1 a2 a3 a4 a5 σ = some σz) : ctV l yX12_laysSum cX12_laysSum 10 none rm_fMM_laysSum [.ref (X.2.1 33), .long a1, .long a2, .long a3, .long a4, .int a5] (wM X) (tM X) (aM X) X sz σ σz := by
  refine ct_of (by decide +kernel) (Nat.le_of_ble_eq_true rfl) ?_
  intro p e s m args below meth c ls hz B hl Z
  have B : Bd p s m args meth c RX12 cX12_laysSum 10 none := B
  have hl : lv_has ls 10 [(0, .ref (X.2.1 33)), (1, .long a1), (3, .long a2), (5, .long a3), (7, .long a4), (9, .int a5)] := hl
  have hx := B.1
  have hb := B.2.1
  unfold fMM_laysSum at h0
  refine lv_aload_n hx hb dX12_laysSum_0 rfl (lv_at hl 0 rfl) ?_
  refine lv_lload_n hx hb dX12_laysSum_1 rfl (lv_at hl 1 rfl) ?_
  refine lv_lload_n hx hb dX12_laysSum_2 rfl (lv_at hl 2 rfl) ?_
  refine lv_lload hx hb dX12_laysSum_3 (lv_at hl 3 rfl) ?_
  refine lv_lload hx hb dX12_laysSum_5 (lv_at hl 4 rfl) ?_
  refine lv_iload hx hb dX12_laysSum_7 (lv_at hl 5 rfl) ?_
  obtain ⟨J6, eJ6, h6⟩ := dlt_s h0
  clear h0
  have kJ6 : ∀ (x1 : Int64) (x2 : Int64) (x3 : Int64) (x4 : Int64) (x5 : Int32) (H : Heap) (locs : List Loc) (ls : Array Slot), Wd (wM X) (tM X) (aM X) X s σ H locs → lv_has ls 10 [(0, .ref (X.2.1 33)), (1, .long a1), (3, .long a2), (5, .long a3), (7, .long a4), (9, .int a5)] → J6 x1 x2 x3 x4 x5 = some σz → W p l e rm_fMM_laysSum s m args below meth c H locs 0 0 (MQ below (va_Qv (fun u => u = σz) (poW (wM X) (tM X) (aM X) X sz) (aA (aM X) sz)) args s 0 0 (aA (aM X) sz)) (F0 m 17 ls [.int x5, .long x4, .long x3, .long x2, .long x1, .ref (X.2.1 33)]) := by
    intro x1 x2 x3 x4 x5 H locs ls Z hl h1
    rw [eJ6] at h1
    obtain ⟨σ8, hc6, h2⟩ := db1_s h1
    clear h1
    refine cV_V [.long x1, .long x2, .long x3, .long x4, .int x5] [] B mx_yX12_lays (c_fMM_lays l X _ x1 x2 x3 x4 x5 σ σ8 hc6) kl_RX12_83 mi_yX12_lays (rv_33 _ _) hcl_12 Z hl rfl rfl ⟨Nat.le_of_ble_eq_true rfl, Nat.le_of_ble_eq_true rfl⟩ rfl rfl (Nat.le_of_ble_eq_true rfl) dX12_laysSum_17 (fun H locs Z => ?_)
    clear hc6
    refine lv_iload hx hb dX12_laysSum_20 (lv_at hl 5 rfl) ?_
    refine lv_iconst (v := (2 : Int32)) hx hb dX12_laysSum_22 (by decide) ?_
    refine lv_icmp_ne (tgt := 41) hx hb dX12_laysSum_23 (by decide) (fun c9 => ?_) (fun c9 => ?_)
    · have h3 := dif h2 c9
      clear h2
      exact reV B Z hz h3 dX12_laysSum_41
    · have h4 := dit h2 c9
      clear h2
      refine lv_aload_n hx hb dX12_laysSum_26 rfl (lv_at hl 0 rfl) ?_
      refine lv_lload_n hx hb dX12_laysSum_27 rfl (lv_at hl 1 rfl) ?_
      refine lv_lneg hx hb dX12_laysSum_28 ?_
      refine lv_lload_n hx hb dX12_laysSum_29 rfl (lv_at hl 2 rfl) ?_
      refine lv_lneg hx hb dX12_laysSum_30 ?_
      refine lv_lload hx hb dX12_laysSum_31 (lv_at hl 3 rfl) ?_
      refine lv_lneg hx hb dX12_laysSum_33 ?_
      refine lv_lload hx hb dX12_laysSum_34 (lv_at hl 4 rfl) ?_
      refine lv_lneg hx hb dX12_laysSum_36 ?_
      refine lv_iconst (v := (0 : Int32)) hx hb dX12_laysSum_37 (by decide) ?_
      obtain ⟨σ11, hc9, h5⟩ := db1_s h4
      clear h4
      refine cV_V [.long (-a1), .long (-a2), .long (-a3), .long (-a4), .int (0 : Int32)] [] B mx_yX12_lays (c_fMM_lays l X _ (-a1) (-a2) (-a3) (-a4) (0 : Int32) σ8 σ11 hc9) kl_RX12_83 mi_yX12_lays (rv_33 _ _) hcl_12 Z hl rfl rfl ⟨Nat.le_of_ble_eq_true rfl, Nat.le_of_ble_eq_true rfl⟩ rfl rfl (Nat.le_of_ble_eq_true rfl) dX12_laysSum_38 (fun H locs Z => ?_)
      clear hc9
      exact reV B Z hz h5 dX12_laysSum_41
  clear eJ6
  refine lv_if_ne (tgt := 16) hx hb dX12_laysSum_9 (by decide) (fun c12 => ?_) (fun c12 => ?_)
  · have h7 := dif h6 c12
    clear h6
    refine lv_iconst (v := (0 : Int32)) hx hb dX12_laysSum_16 (by decide) ?_
    exact kJ6 a1 a2 a3 a4 (0 : Int32) _ _ _ Z (lv_sub hl [0, 1, 2, 3, 4, 5] rfl) h7
  · have h8 := dit h6 c12
    clear h6
    refine lv_iconst (v := (1 : Int32)) hx hb dX12_laysSum_12 (by decide) ?_
    refine lv_goto (tgt := 17) hx hb dX12_laysSum_13 (by decide) ?_
    exact kJ6 a1 a2 a3 a4 (1 : Int32) _ _ _ Z (lv_sub hl [0, 1, 2, 3, 4, 5] rfl) h8
theorem dX12_laysRow_0 : decode cX12_laysRow 0 = .ok (.aload_n 0, 1) := by decide +kernel
theorem dX12_laysRow_1 : decode cX12_laysRow 1 = .ok (.aload_n 0, 1) := by decide +kernel
theorem dX12_laysRow_2 : decode cX12_laysRow 2 = .ok (.iload_n 1, 1) := by decide +kernel
theorem dX12_laysRow_3 : decode cX12_laysRow 3 = .ok (.iconst 0, 1) := by decide +kernel
theorem dX12_laysRow_4 : decode cX12_laysRow 4 = .ok (.invokevirtual 87, 3) := by decide +kernel
theorem dX12_laysRow_7 : decode cX12_laysRow 7 = .ok (.i2l, 1) := by decide +kernel
theorem dX12_laysRow_8 : decode cX12_laysRow 8 = .ok (.aload_n 0, 1) := by decide +kernel
theorem dX12_laysRow_9 : decode cX12_laysRow 9 = .ok (.iload_n 1, 1) := by decide +kernel
theorem dX12_laysRow_10 : decode cX12_laysRow 10 = .ok (.iconst 1, 1) := by decide +kernel
theorem dX12_laysRow_11 : decode cX12_laysRow 11 = .ok (.invokevirtual 87, 3) := by decide +kernel
theorem dX12_laysRow_14 : decode cX12_laysRow 14 = .ok (.i2l, 1) := by decide +kernel
theorem dX12_laysRow_15 : decode cX12_laysRow 15 = .ok (.aload_n 0, 1) := by decide +kernel
theorem dX12_laysRow_16 : decode cX12_laysRow 16 = .ok (.iload_n 1, 1) := by decide +kernel
theorem dX12_laysRow_17 : decode cX12_laysRow 17 = .ok (.iconst 2, 1) := by decide +kernel
theorem dX12_laysRow_18 : decode cX12_laysRow 18 = .ok (.invokevirtual 87, 3) := by decide +kernel
theorem dX12_laysRow_21 : decode cX12_laysRow 21 = .ok (.i2l, 1) := by decide +kernel
theorem dX12_laysRow_22 : decode cX12_laysRow 22 = .ok (.aload_n 0, 1) := by decide +kernel
theorem dX12_laysRow_23 : decode cX12_laysRow 23 = .ok (.iload_n 1, 1) := by decide +kernel
theorem dX12_laysRow_24 : decode cX12_laysRow 24 = .ok (.iconst 4, 1) := by decide +kernel
theorem dX12_laysRow_25 : decode cX12_laysRow 25 = .ok (.invokevirtual 87, 3) := by decide +kernel
theorem dX12_laysRow_28 : decode cX12_laysRow 28 = .ok (.i2l, 1) := by decide +kernel
theorem dX12_laysRow_29 : decode cX12_laysRow 29 = .ok (.iload_n 2, 1) := by decide +kernel
theorem dX12_laysRow_30 : decode cX12_laysRow 30 = .ok (.invokevirtual 91, 3) := by decide +kernel
theorem dX12_laysRow_33 : decode cX12_laysRow 33 = .ok (.return_, 1) := by decide +kernel
def rm_fMM_laysRow : Room := { frames := 3, cells := 0, slots := 0, locals := 119 }
set_option maxHeartbeats 4000000 in
set_option maxRecDepth 100000 in
theorem c_fMM_laysRow (l : Launch) (X : eX) (sz : Nat) (a1 : Int32) (a2 : Int32) (σ : sT) (σz : sT) (h0 : fMM_laysRow a1 a2 σ = some σz) : ctV l yX12_laysRow cX12_laysRow 3 none rm_fMM_laysRow [.ref (X.2.1 33), .int a1, .int a2] (wM X) (tM X) (aM X) X sz σ σz := by
  refine ct_of (by decide +kernel) (Nat.le_of_ble_eq_true rfl) ?_
  intro p e s m args below meth c ls hz B hl Z
  have B : Bd p s m args meth c RX12 cX12_laysRow 3 none := B
  have hl : lv_has ls 3 [(0, .ref (X.2.1 33)), (1, .int a1), (2, .int a2)] := hl
  have hx := B.1
  have hb := B.2.1
  unfold fMM_laysRow at h0
  refine lv_aload_n hx hb dX12_laysRow_0 rfl (lv_at hl 0 rfl) ?_
  refine lv_aload_n hx hb dX12_laysRow_1 rfl (lv_at hl 0 rfl) ?_
  refine lv_iload_n hx hb dX12_laysRow_2 rfl (lv_at hl 1 rfl) ?_
  refine lv_iconst (v := (0 : Int32)) hx hb dX12_laysRow_3 (by decide) ?_
  obtain ⟨r2, hc0, h1⟩ := db1_s h0
  clear h0
  refine cV_I [.int a1, .int (0 : Int32)] [.ref (X.2.1 33)] B mx_yX12_at (c_fMM_at l X _ a1 (0 : Int32) σ r2 hc0) kl_RX12_87 mi_yX12_at (rv_33 _ _) hcl_12 Z hl rfl rfl ⟨Nat.le_of_ble_eq_true rfl, Nat.le_of_ble_eq_true rfl⟩ rfl rfl (Nat.le_of_ble_eq_true rfl) dX12_laysRow_4 (fun H locs Z => ?_)
  clear hc0
  refine lv_i2l hx hb dX12_laysRow_7 rfl ?_
  refine lv_aload_n hx hb dX12_laysRow_8 rfl (lv_at hl 0 rfl) ?_
  refine lv_iload_n hx hb dX12_laysRow_9 rfl (lv_at hl 1 rfl) ?_
  refine lv_iconst (v := (1 : Int32)) hx hb dX12_laysRow_10 (by decide) ?_
  obtain ⟨r4, hc2, h2⟩ := db1_s h1
  clear h1
  refine cV_I [.int a1, .int (1 : Int32)] [.long r2.toInt64, .ref (X.2.1 33)] B mx_yX12_at (c_fMM_at l X _ a1 (1 : Int32) σ r4 hc2) kl_RX12_87 mi_yX12_at (rv_33 _ _) hcl_12 Z hl rfl rfl ⟨Nat.le_of_ble_eq_true rfl, Nat.le_of_ble_eq_true rfl⟩ rfl rfl (Nat.le_of_ble_eq_true rfl) dX12_laysRow_11 (fun H locs Z => ?_)
  clear hc2
  refine lv_i2l hx hb dX12_laysRow_14 rfl ?_
  refine lv_aload_n hx hb dX12_laysRow_15 rfl (lv_at hl 0 rfl) ?_
  refine lv_iload_n hx hb dX12_laysRow_16 rfl (lv_at hl 1 rfl) ?_
  refine lv_iconst (v := (2 : Int32)) hx hb dX12_laysRow_17 (by decide) ?_
  obtain ⟨r6, hc4, h3⟩ := db1_s h2
  clear h2
  refine cV_I [.int a1, .int (2 : Int32)] [.long r4.toInt64, .long r2.toInt64, .ref (X.2.1 33)] B mx_yX12_at (c_fMM_at l X _ a1 (2 : Int32) σ r6 hc4) kl_RX12_87 mi_yX12_at (rv_33 _ _) hcl_12 Z hl rfl rfl ⟨Nat.le_of_ble_eq_true rfl, Nat.le_of_ble_eq_true rfl⟩ rfl rfl (Nat.le_of_ble_eq_true rfl) dX12_laysRow_18 (fun H locs Z => ?_)
  clear hc4
  refine lv_i2l hx hb dX12_laysRow_21 rfl ?_
  refine lv_aload_n hx hb dX12_laysRow_22 rfl (lv_at hl 0 rfl) ?_
  refine lv_iload_n hx hb dX12_laysRow_23 rfl (lv_at hl 1 rfl) ?_
  refine lv_iconst (v := (4 : Int32)) hx hb dX12_laysRow_24 (by decide) ?_
  obtain ⟨r8, hc6, h4⟩ := db1_s h3
  clear h3
  refine cV_I [.int a1, .int (4 : Int32)] [.long r6.toInt64, .long r4.toInt64, .long r2.toInt64, .ref (X.2.1 33)] B mx_yX12_at (c_fMM_at l X _ a1 (4 : Int32) σ r8 hc6) kl_RX12_87 mi_yX12_at (rv_33 _ _) hcl_12 Z hl rfl rfl ⟨Nat.le_of_ble_eq_true rfl, Nat.le_of_ble_eq_true rfl⟩ rfl rfl (Nat.le_of_ble_eq_true rfl) dX12_laysRow_25 (fun H locs Z => ?_)
  clear hc6
  refine lv_i2l hx hb dX12_laysRow_28 rfl ?_
  refine lv_iload_n hx hb dX12_laysRow_29 rfl (lv_at hl 2 rfl) ?_
  obtain ⟨σ10, hc8, h5⟩ := db1_s h4
  clear h4
  refine cV_V [.long r2.toInt64, .long r4.toInt64, .long r6.toInt64, .long r8.toInt64, .int a2] [] B mx_yX12_laysSum (c_fMM_laysSum l X _ r2.toInt64 r4.toInt64 r6.toInt64 r8.toInt64 a2 σ σ10 hc8) kl_RX12_91 mi_yX12_laysSum (rv_33 _ _) hcl_12 Z hl rfl rfl ⟨Nat.le_of_ble_eq_true rfl, Nat.le_of_ble_eq_true rfl⟩ rfl rfl (Nat.le_of_ble_eq_true rfl) dX12_laysRow_30 (fun H locs Z => ?_)
  clear hc8
  exact reV B Z hz h5 dX12_laysRow_33
