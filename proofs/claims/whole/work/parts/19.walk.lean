theorem dX12_laysSet_0 : decode cX12_laysSet 0 = .ok (.aload_n 0, 1) := by decide +kernel
theorem dX12_laysSet_1 : decode cX12_laysSet 1 = .ok (.iconst 0, 1) := by decide +kernel
theorem dX12_laysSet_2 : decode cX12_laysSet 2 = .ok (.putfield 80, 3) := by decide +kernel
theorem dX12_laysSet_5 : decode cX12_laysSet 5 = .ok (.iconst 0, 1) := by decide +kernel
theorem dX12_laysSet_6 : decode cX12_laysSet 6 = .ok (.istore_n 2, 1) := by decide +kernel
theorem dX12_laysSet_7 : decode cX12_laysSet 7 = .ok (.iload_n 2, 1) := by decide +kernel
theorem dX12_laysSet_8 : decode cX12_laysSet 8 = .ok (.aload_n 0, 1) := by decide +kernel
theorem dX12_laysSet_9 : decode cX12_laysSet 9 = .ok (.getfield 7, 3) := by decide +kernel
theorem dX12_laysSet_12 : decode cX12_laysSet 12 = .ok (.iconst 0, 1) := by decide +kernel
theorem dX12_laysSet_13 : decode cX12_laysSet 13 = .ok (.iaload, 1) := by decide +kernel
theorem dX12_laysSet_14 : decode cX12_laysSet 14 = .ok (.if_icmp .ge 28, 3) := by decide +kernel
theorem dX12_laysSet_17 : decode cX12_laysSet 17 = .ok (.iload_n 1, 1) := by decide +kernel
theorem dX12_laysSet_18 : decode cX12_laysSet 18 = .ok (.iload_n 2, 1) := by decide +kernel
theorem dX12_laysSet_19 : decode cX12_laysSet 19 = .ok (.invokestatic 95, 3) := by decide +kernel
theorem dX12_laysSet_22 : decode cX12_laysSet 22 = .ok (.ifCond .eq 14, 3) := by decide +kernel
theorem dX12_laysSet_25 : decode cX12_laysSet 25 = .ok (.aload_n 0, 1) := by decide +kernel
theorem dX12_laysSet_26 : decode cX12_laysSet 26 = .ok (.iload_n 2, 1) := by decide +kernel
theorem dX12_laysSet_27 : decode cX12_laysSet 27 = .ok (.aload_n 0, 1) := by decide +kernel
theorem dX12_laysSet_28 : decode cX12_laysSet 28 = .ok (.iload_n 2, 1) := by decide +kernel
theorem dX12_laysSet_29 : decode cX12_laysSet 29 = .ok (.iconst 3, 1) := by decide +kernel
theorem dX12_laysSet_30 : decode cX12_laysSet 30 = .ok (.invokevirtual 87, 3) := by decide +kernel
theorem dX12_laysSet_33 : decode cX12_laysSet 33 = .ok (.invokevirtual 99, 3) := by decide +kernel
theorem dX12_laysSet_36 : decode cX12_laysSet 36 = .ok (.iinc 2 1, 3) := by decide +kernel
theorem dX12_laysSet_39 : decode cX12_laysSet 39 = .ok (.goto (-32), 3) := by decide +kernel
theorem dX12_laysSet_42 : decode cX12_laysSet 42 = .ok (.return_, 1) := by decide +kernel
def rm_fMM_laysSet : Room := { frames := 4, cells := 0, slots := 0, locals := 141 }
set_option maxHeartbeats 4000000 in
set_option maxRecDepth 100000 in
theorem c_fMM_laysSet (l : Launch) (X : eX) (sz : Nat) (a1 : Int32) (σ : sT) (σz : sT) (h0 : fMM_laysSet a1 σ = some σz) : ctV l yX12_laysSet cX12_laysSet 3 none rm_fMM_laysSet [.ref (X.2.1 33), .int a1] (wM X) (tM X) (aM X) X sz σ σz := by
  refine ct_of (by decide +kernel) (Nat.le_of_ble_eq_true rfl) ?_
  intro p e s m args below meth c ls hz B hl Z
  have B : Bd p s m args meth c RX12 cX12_laysSet 3 none := B
  have hl : lv_has ls 3 [(0, .ref (X.2.1 33)), (1, .int a1)] := hl
  have hx := B.1
  have hb := B.2.1
  unfold fMM_laysSet at h0
  refine lv_aload_n hx hb dX12_laysSet_0 rfl (lv_at hl 0 rfl) ?_
  refine lv_iconst (v := (0 : Int32)) hx hb dX12_laysSet_1 (by decide) ?_
  refine s_33_5 B Z kf_RX12_80 dX12_laysSet_2 (fun H locs Z => ?_)
  obtain ⟨σ1, eσ1, h1⟩ := dlt_s h0
  clear h0
  replace Z := Wd.eq eσ1 Z
  clear eσ1
  refine lv_iconst (v := (0 : Int32)) hx hb dX12_laysSet_5 (by decide) ?_
  refine lv_istore_n (lv' := [(2, .int (0 : Int32)), (0, .ref (X.2.1 33)), (1, .int a1)]) hx hb dX12_laysSet_6 rfl hl (by decide) rfl (fun ls hl => ?_)
  have lL7 : ∀ (n : Nat), ∀ (x2 : Int32) (σ3 : sT) (H : Heap) (locs : List Loc) (ls : Array Slot), Wd (wM X) (tM X) (aM X) X s σ3 H locs → lv_has ls 3 [(0, .ref (X.2.1 33)), (1, .int a1), (2, .int x2)] → fMM_laysSet_L7 a1 n x2 σ3 = some σz → W p l e rm_fMM_laysSet s m args below meth c H locs 0 0 (MQ below (va_Qv (fun u => u = σz) (poW (wM X) (tM X) (aM X) X sz) (aA (aM X) sz)) args s 0 0 (aA (aM X) sz)) (F0 m 7 ls []) := by
    intro n
    induction n with
    | zero =>
      intro x2 σ3 H locs ls Z hl h
      exact nomatch (show (none : Option (sT)) = some _ from h)
    | succ n4 ih5 =>
      intro x2 σ3 H locs ls Z hl h2
      unfold fMM_laysSet_L7 at h2
      refine lv_iload_n hx hb dX12_laysSet_7 rfl (lv_at hl 2 rfl) ?_
      refine lv_aload_n hx hb dX12_laysSet_8 rfl (lv_at hl 0 rfl) ?_
      refine g_33_0 B Z kf_RX12_7 dX12_laysSet_9 ?_
      refine lv_iconst (v := (0 : Int32)) hx hb dX12_laysSet_12 (by decide) ?_
      obtain ⟨z5, h3⟩ := dck_s h2
      clear h2
      refine ld_34 B Z z5 dX12_laysSet_13 ?_
      refine lv_icmp_ge (tgt := 42) hx hb dX12_laysSet_14 (by decide) (fun c6 => ?_) (fun c6 => ?_)
      · have h4 := dit h3 c6
        clear h3
        exact reV B Z hz h4 dX12_laysSet_42
      · have h5 := dif h3 c6
        clear h3
        refine lv_iload_n hx hb dX12_laysSet_17 rfl (lv_at hl 1 rfl) ?_
        refine lv_iload_n hx hb dX12_laysSet_18 rfl (lv_at hl 2 rfl) ?_
        obtain ⟨r8, hc6, h6⟩ := db1_s h5
        clear h5
        refine cS_I [.int a1, .int x2] [] B mx_yX12_has (c_fMM_has l X _ a1 x2 σ3 r8 hc6) kl_RX12_95 ks_yX12_has Z hl rfl rfl ⟨Nat.le_of_ble_eq_true rfl, Nat.le_of_ble_eq_true rfl⟩ rfl rfl (Nat.le_of_ble_eq_true rfl) dX12_laysSet_19 (fun H locs Z => ?_)
        clear hc6
        refine lv_if_eq (tgt := 36) hx hb dX12_laysSet_22 (by decide) (fun c9 => ?_) (fun c9 => ?_)
        · have h7 := dit h6 c9
          clear h6
          refine lv_iinc (v := x2 + (1 : Int32)) (lv' := [(2, .int (x2 + (1 : Int32))), (0, .ref (X.2.1 33)), (1, .int a1)]) hx hb dX12_laysSet_36 hl (k := 2) rfl (by rfl) (by decide) rfl (fun ls hl => ?_)
          refine lv_goto (tgt := 7) hx hb dX12_laysSet_39 (by decide) ?_
          exact ih5 (x2 + (1 : Int32)) σ3 _ _ _ Z (lv_sub hl [1, 2, 0] rfl) h7
        · have h8 := dif h6 c9
          clear h6
          refine lv_aload_n hx hb dX12_laysSet_25 rfl (lv_at hl 0 rfl) ?_
          refine lv_iload_n hx hb dX12_laysSet_26 rfl (lv_at hl 2 rfl) ?_
          refine lv_aload_n hx hb dX12_laysSet_27 rfl (lv_at hl 0 rfl) ?_
          refine lv_iload_n hx hb dX12_laysSet_28 rfl (lv_at hl 2 rfl) ?_
          refine lv_iconst (v := (3 : Int32)) hx hb dX12_laysSet_29 (by decide) ?_
          obtain ⟨r11, hc9, h9⟩ := db1_s h8
          clear h8
          refine cV_I [.int x2, .int (3 : Int32)] [.int x2, .ref (X.2.1 33)] B mx_yX12_at (c_fMM_at l X _ x2 (3 : Int32) σ3 r11 hc9) kl_RX12_87 mi_yX12_at (rv_33 _ _) hcl_12 Z hl rfl rfl ⟨Nat.le_of_ble_eq_true rfl, Nat.le_of_ble_eq_true rfl⟩ rfl rfl (Nat.le_of_ble_eq_true rfl) dX12_laysSet_30 (fun H locs Z => ?_)
          clear hc9
          obtain ⟨σ13, hc11, h10⟩ := db1_s h9
          clear h9
          refine cV_V [.int x2, .int r11] [] B mx_yX12_laysRow (c_fMM_laysRow l X _ x2 r11 σ3 σ13 hc11) kl_RX12_99 mi_yX12_laysRow (rv_33 _ _) hcl_12 Z hl rfl rfl ⟨Nat.le_of_ble_eq_true rfl, Nat.le_of_ble_eq_true rfl⟩ rfl rfl (Nat.le_of_ble_eq_true rfl) dX12_laysSet_33 (fun H locs Z => ?_)
          clear hc11
          refine lv_iinc (v := x2 + (1 : Int32)) (lv' := [(2, .int (x2 + (1 : Int32))), (0, .ref (X.2.1 33)), (1, .int a1)]) hx hb dX12_laysSet_36 hl (k := 2) rfl (by rfl) (by decide) rfl (fun ls hl => ?_)
          refine lv_goto (tgt := 7) hx hb dX12_laysSet_39 (by decide) ?_
          exact ih5 (x2 + (1 : Int32)) σ13 _ _ _ Z (lv_sub hl [1, 2, 0] rfl) h10
  exact lL7 FU (0 : Int32) σ1 _ _ _ Z (lv_sub hl [1, 2, 0] rfl) h1
theorem dX12_stages_0 : decode cX12_stages 0 = .ok (.iconst 4, 1) := by decide +kernel
theorem dX12_stages_1 : decode cX12_stages 1 = .ok (.aload_n 0, 1) := by decide +kernel
theorem dX12_stages_2 : decode cX12_stages 2 = .ok (.getfield 103, 3) := by decide +kernel
theorem dX12_stages_5 : decode cX12_stages 5 = .ok (.imul, 1) := by decide +kernel
theorem dX12_stages_6 : decode cX12_stages 6 = .ok (.istore 8, 2) := by decide +kernel
theorem dX12_stages_8 : decode cX12_stages 8 = .ok (.aload_n 0, 1) := by decide +kernel
theorem dX12_stages_9 : decode cX12_stages 9 = .ok (.getfield 23, 3) := by decide +kernel
theorem dX12_stages_12 : decode cX12_stages 12 = .ok (.iload 8, 2) := by decide +kernel
theorem dX12_stages_14 : decode cX12_stages 14 = .ok (.lload_n 1, 1) := by decide +kernel
theorem dX12_stages_15 : decode cX12_stages 15 = .ok (.lastore, 1) := by decide +kernel
theorem dX12_stages_16 : decode cX12_stages 16 = .ok (.aload_n 0, 1) := by decide +kernel
theorem dX12_stages_17 : decode cX12_stages 17 = .ok (.getfield 23, 3) := by decide +kernel
theorem dX12_stages_20 : decode cX12_stages 20 = .ok (.iload 8, 2) := by decide +kernel
theorem dX12_stages_22 : decode cX12_stages 22 = .ok (.iconst 1, 1) := by decide +kernel
theorem dX12_stages_23 : decode cX12_stages 23 = .ok (.iadd, 1) := by decide +kernel
theorem dX12_stages_24 : decode cX12_stages 24 = .ok (.lload_n 3, 1) := by decide +kernel
theorem dX12_stages_25 : decode cX12_stages 25 = .ok (.lastore, 1) := by decide +kernel
theorem dX12_stages_26 : decode cX12_stages 26 = .ok (.aload_n 0, 1) := by decide +kernel
theorem dX12_stages_27 : decode cX12_stages 27 = .ok (.getfield 23, 3) := by decide +kernel
theorem dX12_stages_30 : decode cX12_stages 30 = .ok (.iload 8, 2) := by decide +kernel
theorem dX12_stages_32 : decode cX12_stages 32 = .ok (.iconst 2, 1) := by decide +kernel
theorem dX12_stages_33 : decode cX12_stages 33 = .ok (.iadd, 1) := by decide +kernel
theorem dX12_stages_34 : decode cX12_stages 34 = .ok (.lload 5, 2) := by decide +kernel
theorem dX12_stages_36 : decode cX12_stages 36 = .ok (.lastore, 1) := by decide +kernel
theorem dX12_stages_37 : decode cX12_stages 37 = .ok (.aload_n 0, 1) := by decide +kernel
theorem dX12_stages_38 : decode cX12_stages 38 = .ok (.getfield 23, 3) := by decide +kernel
theorem dX12_stages_41 : decode cX12_stages 41 = .ok (.iload 8, 2) := by decide +kernel
theorem dX12_stages_43 : decode cX12_stages 43 = .ok (.iconst 3, 1) := by decide +kernel
theorem dX12_stages_44 : decode cX12_stages 44 = .ok (.iadd, 1) := by decide +kernel
theorem dX12_stages_45 : decode cX12_stages 45 = .ok (.iload 7, 2) := by decide +kernel
theorem dX12_stages_47 : decode cX12_stages 47 = .ok (.ifCond .eq 7, 3) := by decide +kernel
theorem dX12_stages_50 : decode cX12_stages 50 = .ok (.lconst 1, 1) := by decide +kernel
theorem dX12_stages_51 : decode cX12_stages 51 = .ok (.goto 4, 3) := by decide +kernel
theorem dX12_stages_54 : decode cX12_stages 54 = .ok (.lconst 0, 1) := by decide +kernel
theorem dX12_stages_55 : decode cX12_stages 55 = .ok (.lastore, 1) := by decide +kernel
theorem dX12_stages_56 : decode cX12_stages 56 = .ok (.aload_n 0, 1) := by decide +kernel
theorem dX12_stages_57 : decode cX12_stages 57 = .ok (.dup, 1) := by decide +kernel
theorem dX12_stages_58 : decode cX12_stages 58 = .ok (.getfield 103, 3) := by decide +kernel
theorem dX12_stages_61 : decode cX12_stages 61 = .ok (.iconst 1, 1) := by decide +kernel
theorem dX12_stages_62 : decode cX12_stages 62 = .ok (.iadd, 1) := by decide +kernel
theorem dX12_stages_63 : decode cX12_stages 63 = .ok (.putfield 103, 3) := by decide +kernel
theorem dX12_stages_66 : decode cX12_stages 66 = .ok (.return_, 1) := by decide +kernel
def rm_fMM_stages : Room := { frames := 1, cells := 0, slots := 0, locals := 60 }
set_option maxHeartbeats 4000000 in
set_option maxRecDepth 100000 in
theorem c_fMM_stages (l : Launch) (X : eX) (sz : Nat) (a1 : Int64) (a2 : Int64) (a3 : Int64) (a4 : Int32) (σ : sT) (σz : sT) (h0 : fMM_stages a1 a2 a3 a4 σ = some σz) : ctV l yX12_stages cX12_stages 9 none rm_fMM_stages [.ref (X.2.1 33), .long a1, .long a2, .long a3, .int a4] (wM X) (tM X) (aM X) X sz σ σz := by
  refine ct_of (by decide +kernel) (Nat.le_of_ble_eq_true rfl) ?_
  intro p e s m args below meth c ls hz B hl Z
  have B : Bd p s m args meth c RX12 cX12_stages 9 none := B
  have hl : lv_has ls 9 [(0, .ref (X.2.1 33)), (1, .long a1), (3, .long a2), (5, .long a3), (7, .int a4)] := hl
  have hx := B.1
  have hb := B.2.1
  unfold fMM_stages at h0
  refine lv_iconst (v := (4 : Int32)) hx hb dX12_stages_0 (by decide) ?_
  refine lv_aload_n hx hb dX12_stages_1 rfl (lv_at hl 0 rfl) ?_
  refine g_33_7 B Z kf_RX12_103 dX12_stages_2 ?_
  refine lv_imul hx hb dX12_stages_5 ?_
  refine lv_topi (fun x1 ex1 => ?_)
  have h1 := dlt_e ex1 h0
  clear ex1 h0
  refine lv_istore (lv' := [(8, .int x1), (0, .ref (X.2.1 33)), (1, .long a1), (3, .long a2), (5, .long a3), (7, .int a4)]) hx hb dX12_stages_6 hl (by decide) rfl (fun ls hl => ?_)
  refine lv_aload_n hx hb dX12_stages_8 rfl (lv_at hl 1 rfl) ?_
  refine g_33_6 B Z kf_RX12_23 dX12_stages_9 ?_
  refine lv_iload hx hb dX12_stages_12 (lv_at hl 0 rfl) ?_
  refine lv_lload_n hx hb dX12_stages_14 rfl (lv_at hl 2 rfl) ?_
  obtain ⟨z2, h2⟩ := dck_s h1
  clear h1
  refine st_38 B Z z2 dX12_stages_15 (fun H locs Z => ?_)
  obtain ⟨σ3, eσ3, h3⟩ := dlt_s h2
  clear h2
  replace Z := Wd.eq eσ3 Z
  clear eσ3
  refine lv_aload_n hx hb dX12_stages_16 rfl (lv_at hl 1 rfl) ?_
  refine g_33_6 B Z kf_RX12_23 dX12_stages_17 ?_
  refine lv_iload hx hb dX12_stages_20 (lv_at hl 0 rfl) ?_
  refine lv_iconst (v := (1 : Int32)) hx hb dX12_stages_22 (by decide) ?_
  refine lv_iadd hx hb dX12_stages_23 ?_
  refine lv_lload_n hx hb dX12_stages_24 rfl (lv_at hl 3 rfl) ?_
  obtain ⟨z4, h4⟩ := dck_s h3
  clear h3
  refine st_38 B Z z4 dX12_stages_25 (fun H locs Z => ?_)
  obtain ⟨σ5, eσ5, h5⟩ := dlt_s h4
  clear h4
  replace Z := Wd.eq eσ5 Z
  clear eσ5
  refine lv_aload_n hx hb dX12_stages_26 rfl (lv_at hl 1 rfl) ?_
  refine g_33_6 B Z kf_RX12_23 dX12_stages_27 ?_
  refine lv_iload hx hb dX12_stages_30 (lv_at hl 0 rfl) ?_
  refine lv_iconst (v := (2 : Int32)) hx hb dX12_stages_32 (by decide) ?_
  refine lv_iadd hx hb dX12_stages_33 ?_
  refine lv_lload hx hb dX12_stages_34 (lv_at hl 4 rfl) ?_
  obtain ⟨z6, h6⟩ := dck_s h5
  clear h5
  refine st_38 B Z z6 dX12_stages_36 (fun H locs Z => ?_)
  obtain ⟨σ7, eσ7, h7⟩ := dlt_s h6
  clear h6
  replace Z := Wd.eq eσ7 Z
  clear eσ7
  refine lv_aload_n hx hb dX12_stages_37 rfl (lv_at hl 1 rfl) ?_
  refine g_33_6 B Z kf_RX12_23 dX12_stages_38 ?_
  refine lv_iload hx hb dX12_stages_41 (lv_at hl 0 rfl) ?_
  refine lv_iconst (v := (3 : Int32)) hx hb dX12_stages_43 (by decide) ?_
  refine lv_iadd hx hb dX12_stages_44 ?_
  refine lv_iload hx hb dX12_stages_45 (lv_at hl 5 rfl) ?_
  obtain ⟨J10, eJ10, h12⟩ := dlt_s h7
  clear h7
  have kJ10 : ∀ (x8 : Int32) (x9 : Int64) (H : Heap) (locs : List Loc) (ls : Array Slot), Wd (wM X) (tM X) (aM X) X s σ7 H locs → lv_has ls 9 [(0, .ref (X.2.1 33))] → J10 x8 x9 = some σz → W p l e rm_fMM_stages s m args below meth c H locs 0 0 (MQ below (va_Qv (fun u => u = σz) (poW (wM X) (tM X) (aM X) X sz) (aA (aM X) sz)) args s 0 0 (aA (aM X) sz)) (F0 m 55 ls [.long x9, .int x8, .ref (X.2.1 38)]) := by
    intro x8 x9 H locs ls Z hl h8
    rw [eJ10] at h8
    obtain ⟨z11, h9⟩ := dck_s h8
    clear h8
    refine st_38 B Z z11 dX12_stages_55 (fun H locs Z => ?_)
    obtain ⟨σ12, eσ12, h10⟩ := dlt_s h9
    clear h9
    replace Z := Wd.eq eσ12 Z
    clear eσ12
    refine lv_aload_n hx hb dX12_stages_56 rfl (lv_at hl 0 rfl) ?_
    refine lv_dup hx hb dX12_stages_57 rfl ?_
    refine g_33_7 B Z kf_RX12_103 dX12_stages_58 ?_
    refine lv_iconst (v := (1 : Int32)) hx hb dX12_stages_61 (by decide) ?_
    refine lv_iadd hx hb dX12_stages_62 ?_
    refine s_33_7 B Z kf_RX12_103 dX12_stages_63 (fun H locs Z => ?_)
    obtain ⟨σ13, eσ13, h11⟩ := dlt_s h10
    clear h10
    replace Z := Wd.eq eσ13 Z
    clear eσ13
    exact reV B Z hz h11 dX12_stages_66
  clear eJ10
  refine lv_if_eq (tgt := 54) hx hb dX12_stages_47 (by decide) (fun c14 => ?_) (fun c14 => ?_)
  · have h13 := dit h12 c14
    clear h12
    refine lv_lconst (v := (0 : Int64)) hx hb dX12_stages_54 (by decide) ?_
    exact kJ10 (x1 + (3 : Int32)) (0 : Int64) _ _ _ Z (lv_sub hl [1] rfl) h13
  · have h14 := dif h12 c14
    clear h12
    refine lv_lconst (v := (1 : Int64)) hx hb dX12_stages_50 (by decide) ?_
    refine lv_goto (tgt := 55) hx hb dX12_stages_51 (by decide) ?_
    exact kJ10 (x1 + (3 : Int32)) (1 : Int64) _ _ _ Z (lv_sub hl [1] rfl) h14
theorem dX12_loses_0 : decode cX12_loses 0 = .ok (.aload_n 0, 1) := by decide +kernel
theorem dX12_loses_1 : decode cX12_loses 1 = .ok (.iconst 0, 1) := by decide +kernel
theorem dX12_loses_2 : decode cX12_loses 2 = .ok (.putfield 103, 3) := by decide +kernel
theorem dX12_loses_5 : decode cX12_loses 5 = .ok (.iconst 0, 1) := by decide +kernel
theorem dX12_loses_6 : decode cX12_loses 6 = .ok (.istore 4, 2) := by decide +kernel
theorem dX12_loses_8 : decode cX12_loses 8 = .ok (.iload 4, 2) := by decide +kernel
theorem dX12_loses_10 : decode cX12_loses 10 = .ok (.aload_n 0, 1) := by decide +kernel
theorem dX12_loses_11 : decode cX12_loses 11 = .ok (.getfield 80, 3) := by decide +kernel
theorem dX12_loses_14 : decode cX12_loses 14 = .ok (.if_icmp .ge 262, 3) := by decide +kernel
theorem dX12_loses_17 : decode cX12_loses 17 = .ok (.iconst 5, 1) := by decide +kernel
theorem dX12_loses_18 : decode cX12_loses 18 = .ok (.iload 4, 2) := by decide +kernel
theorem dX12_loses_20 : decode cX12_loses 20 = .ok (.imul, 1) := by decide +kernel
theorem dX12_loses_21 : decode cX12_loses 21 = .ok (.istore 5, 2) := by decide +kernel
theorem dX12_loses_23 : decode cX12_loses 23 = .ok (.aload_n 0, 1) := by decide +kernel
theorem dX12_loses_24 : decode cX12_loses 24 = .ok (.getfield 19, 3) := by decide +kernel
theorem dX12_loses_27 : decode cX12_loses 27 = .ok (.iload 5, 2) := by decide +kernel
theorem dX12_loses_29 : decode cX12_loses 29 = .ok (.iload_n 3, 1) := by decide +kernel
theorem dX12_loses_30 : decode cX12_loses 30 = .ok (.iadd, 1) := by decide +kernel
theorem dX12_loses_31 : decode cX12_loses 31 = .ok (.laload, 1) := by decide +kernel
theorem dX12_loses_32 : decode cX12_loses 32 = .ok (.lconst 0, 1) := by decide +kernel
theorem dX12_loses_33 : decode cX12_loses 33 = .ok (.lcmp, 1) := by decide +kernel
theorem dX12_loses_34 : decode cX12_loses 34 = .ok (.ifCond .ne 53, 3) := by decide +kernel
theorem dX12_loses_37 : decode cX12_loses 37 = .ok (.aload_n 0, 1) := by decide +kernel
theorem dX12_loses_38 : decode cX12_loses 38 = .ok (.aload_n 0, 1) := by decide +kernel
theorem dX12_loses_39 : decode cX12_loses 39 = .ok (.getfield 19, 3) := by decide +kernel
theorem dX12_loses_42 : decode cX12_loses 42 = .ok (.iload 5, 2) := by decide +kernel
theorem dX12_loses_44 : decode cX12_loses 44 = .ok (.iload_n 1, 1) := by decide +kernel
theorem dX12_loses_45 : decode cX12_loses 45 = .ok (.iadd, 1) := by decide +kernel
theorem dX12_loses_46 : decode cX12_loses 46 = .ok (.laload, 1) := by decide +kernel
theorem dX12_loses_47 : decode cX12_loses 47 = .ok (.aload_n 0, 1) := by decide +kernel
theorem dX12_loses_48 : decode cX12_loses 48 = .ok (.getfield 19, 3) := by decide +kernel
theorem dX12_loses_51 : decode cX12_loses 51 = .ok (.iload 5, 2) := by decide +kernel
theorem dX12_loses_53 : decode cX12_loses 53 = .ok (.iload_n 2, 1) := by decide +kernel
theorem dX12_loses_54 : decode cX12_loses 54 = .ok (.iadd, 1) := by decide +kernel
theorem dX12_loses_55 : decode cX12_loses 55 = .ok (.laload, 1) := by decide +kernel
theorem dX12_loses_56 : decode cX12_loses 56 = .ok (.aload_n 0, 1) := by decide +kernel
theorem dX12_loses_57 : decode cX12_loses 57 = .ok (.getfield 19, 3) := by decide +kernel
theorem dX12_loses_60 : decode cX12_loses 60 = .ok (.iload 5, 2) := by decide +kernel
theorem dX12_loses_62 : decode cX12_loses 62 = .ok (.iconst 3, 1) := by decide +kernel
theorem dX12_loses_63 : decode cX12_loses 63 = .ok (.iadd, 1) := by decide +kernel
theorem dX12_loses_64 : decode cX12_loses 64 = .ok (.laload, 1) := by decide +kernel
theorem dX12_loses_65 : decode cX12_loses 65 = .ok (.aload_n 0, 1) := by decide +kernel
theorem dX12_loses_66 : decode cX12_loses 66 = .ok (.getfield 19, 3) := by decide +kernel
theorem dX12_loses_69 : decode cX12_loses 69 = .ok (.iload 5, 2) := by decide +kernel
theorem dX12_loses_71 : decode cX12_loses 71 = .ok (.iconst 4, 1) := by decide +kernel
theorem dX12_loses_72 : decode cX12_loses 72 = .ok (.iadd, 1) := by decide +kernel
theorem dX12_loses_73 : decode cX12_loses 73 = .ok (.laload, 1) := by decide +kernel
theorem dX12_loses_74 : decode cX12_loses 74 = .ok (.lconst 1, 1) := by decide +kernel
theorem dX12_loses_75 : decode cX12_loses 75 = .ok (.lcmp, 1) := by decide +kernel
theorem dX12_loses_76 : decode cX12_loses 76 = .ok (.ifCond .ne 7, 3) := by decide +kernel
theorem dX12_loses_79 : decode cX12_loses 79 = .ok (.iconst 1, 1) := by decide +kernel
theorem dX12_loses_80 : decode cX12_loses 80 = .ok (.goto 4, 3) := by decide +kernel
theorem dX12_loses_83 : decode cX12_loses 83 = .ok (.iconst 0, 1) := by decide +kernel
theorem dX12_loses_84 : decode cX12_loses 84 = .ok (.invokevirtual 106, 3) := by decide +kernel
theorem dX12_loses_87 : decode cX12_loses 87 = .ok (.iconst 0, 1) := by decide +kernel
theorem dX12_loses_88 : decode cX12_loses 88 = .ok (.istore 6, 2) := by decide +kernel
theorem dX12_loses_90 : decode cX12_loses 90 = .ok (.iload 6, 2) := by decide +kernel
theorem dX12_loses_92 : decode cX12_loses 92 = .ok (.aload_n 0, 1) := by decide +kernel
theorem dX12_loses_93 : decode cX12_loses 93 = .ok (.getfield 80, 3) := by decide +kernel
theorem dX12_loses_96 : decode cX12_loses 96 = .ok (.if_icmp .ge 174, 3) := by decide +kernel
theorem dX12_loses_99 : decode cX12_loses 99 = .ok (.aload_n 0, 1) := by decide +kernel
theorem dX12_loses_100 : decode cX12_loses 100 = .ok (.getfield 19, 3) := by decide +kernel
theorem dX12_loses_103 : decode cX12_loses 103 = .ok (.iload 5, 2) := by decide +kernel
theorem dX12_loses_105 : decode cX12_loses 105 = .ok (.iload_n 3, 1) := by decide +kernel
theorem dX12_loses_106 : decode cX12_loses 106 = .ok (.iadd, 1) := by decide +kernel
theorem dX12_loses_107 : decode cX12_loses 107 = .ok (.laload, 1) := by decide +kernel
theorem dX12_loses_108 : decode cX12_loses 108 = .ok (.lconst 0, 1) := by decide +kernel
theorem dX12_loses_109 : decode cX12_loses 109 = .ok (.lcmp, 1) := by decide +kernel
theorem dX12_loses_110 : decode cX12_loses 110 = .ok (.ifCond .le 160, 3) := by decide +kernel
theorem dX12_loses_113 : decode cX12_loses 113 = .ok (.iconst 5, 1) := by decide +kernel
theorem dX12_loses_114 : decode cX12_loses 114 = .ok (.iload 6, 2) := by decide +kernel
theorem dX12_loses_116 : decode cX12_loses 116 = .ok (.imul, 1) := by decide +kernel
theorem dX12_loses_117 : decode cX12_loses 117 = .ok (.istore 7, 2) := by decide +kernel
theorem dX12_loses_119 : decode cX12_loses 119 = .ok (.aload_n 0, 1) := by decide +kernel
theorem dX12_loses_120 : decode cX12_loses 120 = .ok (.getfield 19, 3) := by decide +kernel
theorem dX12_loses_123 : decode cX12_loses 123 = .ok (.iload 7, 2) := by decide +kernel
theorem dX12_loses_125 : decode cX12_loses 125 = .ok (.iload_n 3, 1) := by decide +kernel
theorem dX12_loses_126 : decode cX12_loses 126 = .ok (.iadd, 1) := by decide +kernel
theorem dX12_loses_127 : decode cX12_loses 127 = .ok (.laload, 1) := by decide +kernel
theorem dX12_loses_128 : decode cX12_loses 128 = .ok (.lconst 0, 1) := by decide +kernel
theorem dX12_loses_129 : decode cX12_loses 129 = .ok (.lcmp, 1) := by decide +kernel
theorem dX12_loses_130 : decode cX12_loses 130 = .ok (.ifCond .ge 134, 3) := by decide +kernel
theorem dX12_loses_133 : decode cX12_loses 133 = .ok (.aload_n 0, 1) := by decide +kernel
theorem dX12_loses_134 : decode cX12_loses 134 = .ok (.getfield 19, 3) := by decide +kernel
theorem dX12_loses_137 : decode cX12_loses 137 = .ok (.iload 7, 2) := by decide +kernel
theorem dX12_loses_139 : decode cX12_loses 139 = .ok (.iload_n 3, 1) := by decide +kernel
theorem dX12_loses_140 : decode cX12_loses 140 = .ok (.iadd, 1) := by decide +kernel
theorem dX12_loses_141 : decode cX12_loses 141 = .ok (.laload, 1) := by decide +kernel
theorem dX12_loses_142 : decode cX12_loses 142 = .ok (.lneg, 1) := by decide +kernel
theorem dX12_loses_143 : decode cX12_loses 143 = .ok (.lstore 8, 2) := by decide +kernel
theorem dX12_loses_145 : decode cX12_loses 145 = .ok (.aload_n 0, 1) := by decide +kernel
theorem dX12_loses_146 : decode cX12_loses 146 = .ok (.getfield 19, 3) := by decide +kernel
theorem dX12_loses_149 : decode cX12_loses 149 = .ok (.iload 5, 2) := by decide +kernel
theorem dX12_loses_151 : decode cX12_loses 151 = .ok (.iload_n 3, 1) := by decide +kernel
theorem dX12_loses_152 : decode cX12_loses 152 = .ok (.iadd, 1) := by decide +kernel
theorem dX12_loses_153 : decode cX12_loses 153 = .ok (.laload, 1) := by decide +kernel
theorem dX12_loses_154 : decode cX12_loses 154 = .ok (.lstore 10, 2) := by decide +kernel
theorem dX12_loses_156 : decode cX12_loses 156 = .ok (.aload_n 0, 1) := by decide +kernel
theorem dX12_loses_157 : decode cX12_loses 157 = .ok (.lload 8, 2) := by decide +kernel
theorem dX12_loses_159 : decode cX12_loses 159 = .ok (.aload_n 0, 1) := by decide +kernel
theorem dX12_loses_160 : decode cX12_loses 160 = .ok (.getfield 19, 3) := by decide +kernel
theorem dX12_loses_163 : decode cX12_loses 163 = .ok (.iload 5, 2) := by decide +kernel
theorem dX12_loses_165 : decode cX12_loses 165 = .ok (.iload_n 1, 1) := by decide +kernel
theorem dX12_loses_166 : decode cX12_loses 166 = .ok (.iadd, 1) := by decide +kernel
theorem dX12_loses_167 : decode cX12_loses 167 = .ok (.laload, 1) := by decide +kernel
theorem dX12_loses_168 : decode cX12_loses 168 = .ok (.lmul, 1) := by decide +kernel
theorem dX12_loses_169 : decode cX12_loses 169 = .ok (.lload 10, 2) := by decide +kernel
theorem dX12_loses_171 : decode cX12_loses 171 = .ok (.aload_n 0, 1) := by decide +kernel
theorem dX12_loses_172 : decode cX12_loses 172 = .ok (.getfield 19, 3) := by decide +kernel
theorem dX12_loses_175 : decode cX12_loses 175 = .ok (.iload 7, 2) := by decide +kernel
theorem dX12_loses_177 : decode cX12_loses 177 = .ok (.iload_n 1, 1) := by decide +kernel
theorem dX12_loses_178 : decode cX12_loses 178 = .ok (.iadd, 1) := by decide +kernel
theorem dX12_loses_179 : decode cX12_loses 179 = .ok (.laload, 1) := by decide +kernel
theorem dX12_loses_180 : decode cX12_loses 180 = .ok (.lmul, 1) := by decide +kernel
theorem dX12_loses_181 : decode cX12_loses 181 = .ok (.ladd, 1) := by decide +kernel
theorem dX12_loses_182 : decode cX12_loses 182 = .ok (.lload 8, 2) := by decide +kernel
theorem dX12_loses_184 : decode cX12_loses 184 = .ok (.aload_n 0, 1) := by decide +kernel
theorem dX12_loses_185 : decode cX12_loses 185 = .ok (.getfield 19, 3) := by decide +kernel
theorem dX12_loses_188 : decode cX12_loses 188 = .ok (.iload 5, 2) := by decide +kernel
theorem dX12_loses_190 : decode cX12_loses 190 = .ok (.iload_n 2, 1) := by decide +kernel
theorem dX12_loses_191 : decode cX12_loses 191 = .ok (.iadd, 1) := by decide +kernel
theorem dX12_loses_192 : decode cX12_loses 192 = .ok (.laload, 1) := by decide +kernel
theorem dX12_loses_193 : decode cX12_loses 193 = .ok (.lmul, 1) := by decide +kernel
theorem dX12_loses_194 : decode cX12_loses 194 = .ok (.lload 10, 2) := by decide +kernel
theorem dX12_loses_196 : decode cX12_loses 196 = .ok (.aload_n 0, 1) := by decide +kernel
theorem dX12_loses_197 : decode cX12_loses 197 = .ok (.getfield 19, 3) := by decide +kernel
theorem dX12_loses_200 : decode cX12_loses 200 = .ok (.iload 7, 2) := by decide +kernel
theorem dX12_loses_202 : decode cX12_loses 202 = .ok (.iload_n 2, 1) := by decide +kernel
theorem dX12_loses_203 : decode cX12_loses 203 = .ok (.iadd, 1) := by decide +kernel
theorem dX12_loses_204 : decode cX12_loses 204 = .ok (.laload, 1) := by decide +kernel
theorem dX12_loses_205 : decode cX12_loses 205 = .ok (.lmul, 1) := by decide +kernel
theorem dX12_loses_206 : decode cX12_loses 206 = .ok (.ladd, 1) := by decide +kernel
theorem dX12_loses_207 : decode cX12_loses 207 = .ok (.lload 8, 2) := by decide +kernel
theorem dX12_loses_209 : decode cX12_loses 209 = .ok (.aload_n 0, 1) := by decide +kernel
theorem dX12_loses_210 : decode cX12_loses 210 = .ok (.getfield 19, 3) := by decide +kernel
theorem dX12_loses_213 : decode cX12_loses 213 = .ok (.iload 5, 2) := by decide +kernel
theorem dX12_loses_215 : decode cX12_loses 215 = .ok (.iconst 3, 1) := by decide +kernel
theorem dX12_loses_216 : decode cX12_loses 216 = .ok (.iadd, 1) := by decide +kernel
theorem dX12_loses_217 : decode cX12_loses 217 = .ok (.laload, 1) := by decide +kernel
theorem dX12_loses_218 : decode cX12_loses 218 = .ok (.lmul, 1) := by decide +kernel
theorem dX12_loses_219 : decode cX12_loses 219 = .ok (.lload 10, 2) := by decide +kernel
theorem dX12_loses_221 : decode cX12_loses 221 = .ok (.aload_n 0, 1) := by decide +kernel
theorem dX12_loses_222 : decode cX12_loses 222 = .ok (.getfield 19, 3) := by decide +kernel
theorem dX12_loses_225 : decode cX12_loses 225 = .ok (.iload 7, 2) := by decide +kernel
theorem dX12_loses_227 : decode cX12_loses 227 = .ok (.iconst 3, 1) := by decide +kernel
theorem dX12_loses_228 : decode cX12_loses 228 = .ok (.iadd, 1) := by decide +kernel
theorem dX12_loses_229 : decode cX12_loses 229 = .ok (.laload, 1) := by decide +kernel
theorem dX12_loses_230 : decode cX12_loses 230 = .ok (.lmul, 1) := by decide +kernel
theorem dX12_loses_231 : decode cX12_loses 231 = .ok (.ladd, 1) := by decide +kernel
theorem dX12_loses_232 : decode cX12_loses 232 = .ok (.aload_n 0, 1) := by decide +kernel
theorem dX12_loses_233 : decode cX12_loses 233 = .ok (.getfield 19, 3) := by decide +kernel
theorem dX12_loses_236 : decode cX12_loses 236 = .ok (.iload 5, 2) := by decide +kernel
theorem dX12_loses_238 : decode cX12_loses 238 = .ok (.iconst 4, 1) := by decide +kernel
theorem dX12_loses_239 : decode cX12_loses 239 = .ok (.iadd, 1) := by decide +kernel
theorem dX12_loses_240 : decode cX12_loses 240 = .ok (.laload, 1) := by decide +kernel
theorem dX12_loses_241 : decode cX12_loses 241 = .ok (.aload_n 0, 1) := by decide +kernel
theorem dX12_loses_242 : decode cX12_loses 242 = .ok (.getfield 19, 3) := by decide +kernel
theorem dX12_loses_245 : decode cX12_loses 245 = .ok (.iload 7, 2) := by decide +kernel
theorem dX12_loses_247 : decode cX12_loses 247 = .ok (.iconst 4, 1) := by decide +kernel
theorem dX12_loses_248 : decode cX12_loses 248 = .ok (.iadd, 1) := by decide +kernel
theorem dX12_loses_249 : decode cX12_loses 249 = .ok (.laload, 1) := by decide +kernel
theorem dX12_loses_250 : decode cX12_loses 250 = .ok (.ladd, 1) := by decide +kernel
theorem dX12_loses_251 : decode cX12_loses 251 = .ok (.lconst 0, 1) := by decide +kernel
theorem dX12_loses_252 : decode cX12_loses 252 = .ok (.lcmp, 1) := by decide +kernel
theorem dX12_loses_253 : decode cX12_loses 253 = .ok (.ifCond .le 7, 3) := by decide +kernel
theorem dX12_loses_256 : decode cX12_loses 256 = .ok (.iconst 1, 1) := by decide +kernel
theorem dX12_loses_257 : decode cX12_loses 257 = .ok (.goto 4, 3) := by decide +kernel
theorem dX12_loses_260 : decode cX12_loses 260 = .ok (.iconst 0, 1) := by decide +kernel
theorem dX12_loses_261 : decode cX12_loses 261 = .ok (.invokevirtual 106, 3) := by decide +kernel
theorem dX12_loses_264 : decode cX12_loses 264 = .ok (.iinc 6 1, 3) := by decide +kernel
theorem dX12_loses_267 : decode cX12_loses 267 = .ok (.goto (-177), 3) := by decide +kernel
theorem dX12_loses_270 : decode cX12_loses 270 = .ok (.iinc 4 1, 3) := by decide +kernel
theorem dX12_loses_273 : decode cX12_loses 273 = .ok (.goto (-265), 3) := by decide +kernel
theorem dX12_loses_276 : decode cX12_loses 276 = .ok (.return_, 1) := by decide +kernel
def rm_fMM_loses : Room := { frames := 2, cells := 0, slots := 0, locals := 88 }
set_option maxHeartbeats 4000000 in
set_option maxRecDepth 100000 in
theorem c_fMM_loses (l : Launch) (X : eX) (sz : Nat) (a1 : Int32) (a2 : Int32) (a3 : Int32) (σ : sT) (σz : sT) (h0 : fMM_loses a1 a2 a3 σ = some σz) : ctV l yX12_loses cX12_loses 12 none rm_fMM_loses [.ref (X.2.1 33), .int a1, .int a2, .int a3] (wM X) (tM X) (aM X) X sz σ σz := by
  refine ct_of (by decide +kernel) (Nat.le_of_ble_eq_true rfl) ?_
  intro p e s m args below meth c ls hz B hl Z
  have B : Bd p s m args meth c RX12 cX12_loses 12 none := B
  have hl : lv_has ls 12 [(0, .ref (X.2.1 33)), (1, .int a1), (2, .int a2), (3, .int a3)] := hl
  have hx := B.1
  have hb := B.2.1
  unfold fMM_loses at h0
  refine lv_aload_n hx hb dX12_loses_0 rfl (lv_at hl 0 rfl) ?_
  refine lv_iconst (v := (0 : Int32)) hx hb dX12_loses_1 (by decide) ?_
  refine s_33_7 B Z kf_RX12_103 dX12_loses_2 (fun H locs Z => ?_)
  obtain ⟨σ1, eσ1, h1⟩ := dlt_s h0
  clear h0
  replace Z := Wd.eq eσ1 Z
  clear eσ1
  refine lv_iconst (v := (0 : Int32)) hx hb dX12_loses_5 (by decide) ?_
  refine lv_istore (lv' := [(4, .int (0 : Int32)), (0, .ref (X.2.1 33)), (1, .int a1), (2, .int a2), (3, .int a3)]) hx hb dX12_loses_6 hl (by decide) rfl (fun ls hl => ?_)
  have lL8 : ∀ (n : Nat), ∀ (x2 : Int32) (σ3 : sT) (H : Heap) (locs : List Loc) (ls : Array Slot), Wd (wM X) (tM X) (aM X) X s σ3 H locs → lv_has ls 12 [(0, .ref (X.2.1 33)), (1, .int a1), (2, .int a2), (3, .int a3), (4, .int x2)] → fMM_loses_L8 a1 a2 a3 n x2 σ3 = some σz → W p l e rm_fMM_loses s m args below meth c H locs 0 0 (MQ below (va_Qv (fun u => u = σz) (poW (wM X) (tM X) (aM X) X sz) (aA (aM X) sz)) args s 0 0 (aA (aM X) sz)) (F0 m 8 ls []) := by
    intro n
    induction n with
    | zero =>
      intro x2 σ3 H locs ls Z hl h
      exact nomatch (show (none : Option (sT)) = some _ from h)
    | succ n4 ih5 =>
      intro x2 σ3 H locs ls Z hl h2
      unfold fMM_loses_L8 at h2
      refine lv_iload hx hb dX12_loses_8 (lv_at hl 4 rfl) ?_
      refine lv_aload_n hx hb dX12_loses_10 rfl (lv_at hl 0 rfl) ?_
      refine g_33_5 B Z kf_RX12_80 dX12_loses_11 ?_
      refine lv_icmp_ge (tgt := 276) hx hb dX12_loses_14 (by decide) (fun c5 => ?_) (fun c5 => ?_)
      · have h3 := dit h2 c5
        clear h2
        exact reV B Z hz h3 dX12_loses_276
      · have h4 := dif h2 c5
        clear h2
        refine lv_iconst (v := (5 : Int32)) hx hb dX12_loses_17 (by decide) ?_
        refine lv_iload hx hb dX12_loses_18 (lv_at hl 4 rfl) ?_
        refine lv_imul hx hb dX12_loses_20 ?_
        refine lv_topi (fun x6 ex6 => ?_)
        have h5 := dlt_e ex6 h4
        clear ex6 h4
        refine lv_istore (lv' := [(5, .int x6), (0, .ref (X.2.1 33)), (1, .int a1), (2, .int a2), (3, .int a3), (4, .int x2)]) hx hb dX12_loses_21 hl (by decide) rfl (fun ls hl => ?_)
        refine lv_aload_n hx hb dX12_loses_23 rfl (lv_at hl 1 rfl) ?_
        refine g_33_4 B Z kf_RX12_19 dX12_loses_24 ?_
        refine lv_iload hx hb dX12_loses_27 (lv_at hl 0 rfl) ?_
        refine lv_iload_n hx hb dX12_loses_29 rfl (lv_at hl 4 rfl) ?_
        refine lv_iadd hx hb dX12_loses_30 ?_
        obtain ⟨z7, h6⟩ := dck_s h5
        clear h5
        refine ld_37 B Z z7 dX12_loses_31 ?_
        refine lv_lconst (v := (0 : Int64)) hx hb dX12_loses_32 (by decide) ?_
        refine W.lcmp hx hb dX12_loses_33 ?_
        obtain ⟨J9, eJ9, h37⟩ := dlt_s h6
        clear h6
        have kJ9 : ∀ (σ8 : sT) (H : Heap) (locs : List Loc) (ls : Array Slot), Wd (wM X) (tM X) (aM X) X s σ8 H locs → lv_has ls 12 [(0, .ref (X.2.1 33)), (1, .int a1), (2, .int a2), (3, .int a3), (4, .int x2), (5, .int x6)] → J9 σ8 = some σz → W p l e rm_fMM_loses s m args below meth c H locs 0 0 (MQ below (va_Qv (fun u => u = σz) (poW (wM X) (tM X) (aM X) X sz) (aA (aM X) sz)) args s 0 0 (aA (aM X) sz)) (F0 m 87 ls []) := by
          intro σ8 H locs ls Z hl h7
          rw [eJ9] at h7
          refine lv_iconst (v := (0 : Int32)) hx hb dX12_loses_87 (by decide) ?_
          refine lv_istore (lv' := [(6, .int (0 : Int32)), (0, .ref (X.2.1 33)), (1, .int a1), (2, .int a2), (3, .int a3), (4, .int x2), (5, .int x6)]) hx hb dX12_loses_88 hl (by decide) rfl (fun ls hl => ?_)
          obtain ⟨K13, eK13, h9⟩ := dlt_s h7
          clear h7
          have kK13 : ∀ (σ12 : sT) (H : Heap) (locs : List Loc) (ls : Array Slot), Wd (wM X) (tM X) (aM X) X s σ12 H locs → lv_has ls 12 [(0, .ref (X.2.1 33)), (1, .int a1), (2, .int a2), (3, .int a3), (4, .int x2)] → K13 σ12 = some σz → W p l e rm_fMM_loses s m args below meth c H locs 0 0 (MQ below (va_Qv (fun u => u = σz) (poW (wM X) (tM X) (aM X) X sz) (aA (aM X) sz)) args s 0 0 (aA (aM X) sz)) (F0 m 270 ls []) := by
            intro σ12 H locs ls Z hl h8
            rw [eK13] at h8
            refine lv_iinc (v := x2 + (1 : Int32)) (lv' := [(4, .int (x2 + (1 : Int32))), (0, .ref (X.2.1 33)), (1, .int a1), (2, .int a2), (3, .int a3)]) hx hb dX12_loses_270 hl (k := 4) rfl (by rfl) (by decide) rfl (fun ls hl => ?_)
            refine lv_goto (tgt := 8) hx hb dX12_loses_273 (by decide) ?_
            exact ih5 (x2 + (1 : Int32)) σ12 _ _ _ Z (lv_sub hl [1, 2, 3, 4, 0] rfl) h8
          clear eK13
          have lL90 : ∀ (n : Nat), ∀ (x10 : Int32) (σ11 : sT) (H : Heap) (locs : List Loc) (ls : Array Slot), Wd (wM X) (tM X) (aM X) X s σ11 H locs → lv_has ls 12 [(0, .ref (X.2.1 33)), (1, .int a1), (2, .int a2), (3, .int a3), (4, .int x2), (5, .int x6), (6, .int x10)] → fMM_loses_L90 a1 a2 a3 x6 K13 n x10 σ11 = some σz → W p l e rm_fMM_loses s m args below meth c H locs 0 0 (MQ below (va_Qv (fun u => u = σz) (poW (wM X) (tM X) (aM X) X sz) (aA (aM X) sz)) args s 0 0 (aA (aM X) sz)) (F0 m 90 ls []) := by
            intro n
            induction n with
            | zero =>
              intro x10 σ11 H locs ls Z hl h
              exact nomatch (show (none : Option (sT)) = some _ from h)
            | succ n14 ih56 =>
              intro x10 σ11 H locs ls Z hl h10
              unfold fMM_loses_L90 at h10
              refine lv_iload hx hb dX12_loses_90 (lv_at hl 6 rfl) ?_
              refine lv_aload_n hx hb dX12_loses_92 rfl (lv_at hl 0 rfl) ?_
              refine g_33_5 B Z kf_RX12_80 dX12_loses_93 ?_
              refine lv_icmp_ge (tgt := 270) hx hb dX12_loses_96 (by decide) (fun c15 => ?_) (fun c15 => ?_)
              · have h11 := dit h10 c15
                clear h10
                exact kK13 σ11 _ _ _ Z (lv_sub hl [0, 1, 2, 3, 4] rfl) h11
              · have h12 := dif h10 c15
                clear h10
                refine lv_aload_n hx hb dX12_loses_99 rfl (lv_at hl 0 rfl) ?_
                refine g_33_4 B Z kf_RX12_19 dX12_loses_100 ?_
                refine lv_iload hx hb dX12_loses_103 (lv_at hl 5 rfl) ?_
                refine lv_iload_n hx hb dX12_loses_105 rfl (lv_at hl 3 rfl) ?_
                refine lv_iadd hx hb dX12_loses_106 ?_
                obtain ⟨z16, h13⟩ := dck_s h12
                clear h12
                refine ld_37 B Z z16 dX12_loses_107 ?_
                refine lv_lconst (v := (0 : Int64)) hx hb dX12_loses_108 (by decide) ?_
                refine W.lcmp hx hb dX12_loses_109 ?_
                refine lv_if_le (tgt := 270) hx hb dX12_loses_110 (by decide) (fun c17 => ?_) (fun c17 => ?_)
                · have h14 := dit h13 c17
                  clear h13
                  exact kK13 σ11 _ _ _ Z (lv_sub hl [0, 1, 2, 3, 4] rfl) h14
                · have h15 := dif h13 c17
                  clear h13
                  refine lv_iconst (v := (5 : Int32)) hx hb dX12_loses_113 (by decide) ?_
                  refine lv_iload hx hb dX12_loses_114 (lv_at hl 6 rfl) ?_
                  refine lv_imul hx hb dX12_loses_116 ?_
                  refine lv_topi (fun x18 ex18 => ?_)
                  have h16 := dlt_e ex18 h15
                  clear ex18 h15
                  refine lv_istore (lv' := [(7, .int x18), (0, .ref (X.2.1 33)), (1, .int a1), (2, .int a2), (3, .int a3), (4, .int x2), (5, .int x6), (6, .int x10)]) hx hb dX12_loses_117 hl (by decide) rfl (fun ls hl => ?_)
                  refine lv_aload_n hx hb dX12_loses_119 rfl (lv_at hl 1 rfl) ?_
                  refine g_33_4 B Z kf_RX12_19 dX12_loses_120 ?_
                  refine lv_iload hx hb dX12_loses_123 (lv_at hl 0 rfl) ?_
                  refine lv_iload_n hx hb dX12_loses_125 rfl (lv_at hl 4 rfl) ?_
                  refine lv_iadd hx hb dX12_loses_126 ?_
                  obtain ⟨z19, h17⟩ := dck_s h16
                  clear h16
                  refine ld_37 B Z z19 dX12_loses_127 ?_
                  refine lv_lconst (v := (0 : Int64)) hx hb dX12_loses_128 (by decide) ?_
                  refine W.lcmp hx hb dX12_loses_129 ?_
                  refine lv_if_ge (tgt := 264) hx hb dX12_loses_130 (by decide) (fun c20 => ?_) (fun c20 => ?_)
                  · have h18 := dit h17 c20
                    clear h17
                    refine lv_iinc (v := x10 + (1 : Int32)) (lv' := [(6, .int (x10 + (1 : Int32))), (7, .int x18), (0, .ref (X.2.1 33)), (1, .int a1), (2, .int a2), (3, .int a3), (4, .int x2), (5, .int x6)]) hx hb dX12_loses_264 hl (k := 7) rfl (by rfl) (by decide) rfl (fun ls hl => ?_)
                    refine lv_goto (tgt := 90) hx hb dX12_loses_267 (by decide) ?_
                    exact ih56 (x10 + (1 : Int32)) σ11 _ _ _ Z (lv_sub hl [2, 3, 4, 5, 6, 7, 0] rfl) h18
                  · have h19 := dif h17 c20
                    clear h17
                    refine lv_aload_n hx hb dX12_loses_133 rfl (lv_at hl 1 rfl) ?_
                    refine g_33_4 B Z kf_RX12_19 dX12_loses_134 ?_
                    refine lv_iload hx hb dX12_loses_137 (lv_at hl 0 rfl) ?_
                    refine lv_iload_n hx hb dX12_loses_139 rfl (lv_at hl 4 rfl) ?_
                    refine lv_iadd hx hb dX12_loses_140 ?_
                    obtain ⟨z21, h20⟩ := dck_s h19
                    clear h19
                    refine ld_37 B Z z21 dX12_loses_141 ?_
                    refine lv_lneg hx hb dX12_loses_142 ?_
                    refine lv_topl (fun x22 ex22 => ?_)
                    have h21 := dlt_e ex22 h20
                    clear ex22 h20
                    refine lv_lstore (lv' := [(8, .long x22), (7, .int x18), (0, .ref (X.2.1 33)), (1, .int a1), (2, .int a2), (3, .int a3), (4, .int x2), (5, .int x6), (6, .int x10)]) hx hb dX12_loses_143 hl (by decide) rfl (fun ls hl => ?_)
                    refine lv_aload_n hx hb dX12_loses_145 rfl (lv_at hl 2 rfl) ?_
                    refine g_33_4 B Z kf_RX12_19 dX12_loses_146 ?_
                    refine lv_iload hx hb dX12_loses_149 (lv_at hl 7 rfl) ?_
                    refine lv_iload_n hx hb dX12_loses_151 rfl (lv_at hl 5 rfl) ?_
                    refine lv_iadd hx hb dX12_loses_152 ?_
                    obtain ⟨z23, h22⟩ := dck_s h21
                    clear h21
                    refine ld_37 B Z z23 dX12_loses_153 ?_
                    refine lv_topl (fun x24 ex24 => ?_)
                    have h23 := dlt_e ex24 h22
                    clear ex24 h22
                    refine lv_lstore (lv' := [(10, .long x24), (8, .long x22), (7, .int x18), (0, .ref (X.2.1 33)), (1, .int a1), (2, .int a2), (3, .int a3), (4, .int x2), (5, .int x6), (6, .int x10)]) hx hb dX12_loses_154 hl (by decide) rfl (fun ls hl => ?_)
                    refine lv_aload_n hx hb dX12_loses_156 rfl (lv_at hl 3 rfl) ?_
                    refine lv_lload hx hb dX12_loses_157 (lv_at hl 1 rfl) ?_
                    refine lv_aload_n hx hb dX12_loses_159 rfl (lv_at hl 3 rfl) ?_
                    refine g_33_4 B Z kf_RX12_19 dX12_loses_160 ?_
                    refine lv_iload hx hb dX12_loses_163 (lv_at hl 8 rfl) ?_
                    refine lv_iload_n hx hb dX12_loses_165 rfl (lv_at hl 4 rfl) ?_
                    refine lv_iadd hx hb dX12_loses_166 ?_
                    obtain ⟨z25, h24⟩ := dck_s h23
                    clear h23
                    refine ld_37 B Z z25 dX12_loses_167 ?_
                    refine lv_lmul hx hb dX12_loses_168 ?_
                    refine lv_lload hx hb dX12_loses_169 (lv_at hl 0 rfl) ?_
                    refine lv_aload_n hx hb dX12_loses_171 rfl (lv_at hl 3 rfl) ?_
                    refine g_33_4 B Z kf_RX12_19 dX12_loses_172 ?_
                    refine lv_iload hx hb dX12_loses_175 (lv_at hl 2 rfl) ?_
                    refine lv_iload_n hx hb dX12_loses_177 rfl (lv_at hl 4 rfl) ?_
                    refine lv_iadd hx hb dX12_loses_178 ?_
                    obtain ⟨z26, h25⟩ := dck_s h24
                    clear h24
                    refine ld_37 B Z z26 dX12_loses_179 ?_
                    refine lv_lmul hx hb dX12_loses_180 ?_
                    refine lv_ladd hx hb dX12_loses_181 ?_
                    refine lv_lload hx hb dX12_loses_182 (lv_at hl 1 rfl) ?_
                    refine lv_aload_n hx hb dX12_loses_184 rfl (lv_at hl 3 rfl) ?_
                    refine g_33_4 B Z kf_RX12_19 dX12_loses_185 ?_
                    refine lv_iload hx hb dX12_loses_188 (lv_at hl 8 rfl) ?_
                    refine lv_iload_n hx hb dX12_loses_190 rfl (lv_at hl 5 rfl) ?_
                    refine lv_iadd hx hb dX12_loses_191 ?_
                    obtain ⟨z27, h26⟩ := dck_s h25
                    clear h25
                    refine ld_37 B Z z27 dX12_loses_192 ?_
                    refine lv_lmul hx hb dX12_loses_193 ?_
                    refine lv_lload hx hb dX12_loses_194 (lv_at hl 0 rfl) ?_
                    refine lv_aload_n hx hb dX12_loses_196 rfl (lv_at hl 3 rfl) ?_
                    refine g_33_4 B Z kf_RX12_19 dX12_loses_197 ?_
                    refine lv_iload hx hb dX12_loses_200 (lv_at hl 2 rfl) ?_
                    refine lv_iload_n hx hb dX12_loses_202 rfl (lv_at hl 5 rfl) ?_
                    refine lv_iadd hx hb dX12_loses_203 ?_
                    obtain ⟨z28, h27⟩ := dck_s h26
                    clear h26
                    refine ld_37 B Z z28 dX12_loses_204 ?_
                    refine lv_lmul hx hb dX12_loses_205 ?_
                    refine lv_ladd hx hb dX12_loses_206 ?_
                    refine lv_lload hx hb dX12_loses_207 (lv_at hl 1 rfl) ?_
                    refine lv_aload_n hx hb dX12_loses_209 rfl (lv_at hl 3 rfl) ?_
                    refine g_33_4 B Z kf_RX12_19 dX12_loses_210 ?_
                    refine lv_iload hx hb dX12_loses_213 (lv_at hl 8 rfl) ?_
                    refine lv_iconst (v := (3 : Int32)) hx hb dX12_loses_215 (by decide) ?_
                    refine lv_iadd hx hb dX12_loses_216 ?_
                    obtain ⟨z29, h28⟩ := dck_s h27
                    clear h27
                    refine ld_37 B Z z29 dX12_loses_217 ?_
                    refine lv_lmul hx hb dX12_loses_218 ?_
                    refine lv_lload hx hb dX12_loses_219 (lv_at hl 0 rfl) ?_
                    refine lv_aload_n hx hb dX12_loses_221 rfl (lv_at hl 3 rfl) ?_
                    refine g_33_4 B Z kf_RX12_19 dX12_loses_222 ?_
                    refine lv_iload hx hb dX12_loses_225 (lv_at hl 2 rfl) ?_
                    refine lv_iconst (v := (3 : Int32)) hx hb dX12_loses_227 (by decide) ?_
                    refine lv_iadd hx hb dX12_loses_228 ?_
                    obtain ⟨z30, h29⟩ := dck_s h28
                    clear h28
                    refine ld_37 B Z z30 dX12_loses_229 ?_
                    refine lv_lmul hx hb dX12_loses_230 ?_
                    refine lv_ladd hx hb dX12_loses_231 ?_
                    refine lv_aload_n hx hb dX12_loses_232 rfl (lv_at hl 3 rfl) ?_
                    refine g_33_4 B Z kf_RX12_19 dX12_loses_233 ?_
                    refine lv_iload hx hb dX12_loses_236 (lv_at hl 8 rfl) ?_
                    refine lv_iconst (v := (4 : Int32)) hx hb dX12_loses_238 (by decide) ?_
                    refine lv_iadd hx hb dX12_loses_239 ?_
                    obtain ⟨z31, h30⟩ := dck_s h29
                    clear h29
                    refine ld_37 B Z z31 dX12_loses_240 ?_
                    refine lv_aload_n hx hb dX12_loses_241 rfl (lv_at hl 3 rfl) ?_
                    refine g_33_4 B Z kf_RX12_19 dX12_loses_242 ?_
                    refine lv_iload hx hb dX12_loses_245 (lv_at hl 2 rfl) ?_
                    refine lv_iconst (v := (4 : Int32)) hx hb dX12_loses_247 (by decide) ?_
                    refine lv_iadd hx hb dX12_loses_248 ?_
                    obtain ⟨z32, h31⟩ := dck_s h30
                    clear h30
                    refine ld_37 B Z z32 dX12_loses_249 ?_
                    refine lv_ladd hx hb dX12_loses_250 ?_
                    refine lv_lconst (v := (0 : Int64)) hx hb dX12_loses_251 (by decide) ?_
                    refine W.lcmp hx hb dX12_loses_252 ?_
                    obtain ⟨J37, eJ37, h34⟩ := dlt_s h31
                    clear h31
                    have kJ37 : ∀ (x33 : Int64) (x34 : Int64) (x35 : Int64) (x36 : Int32) (H : Heap) (locs : List Loc) (ls : Array Slot), Wd (wM X) (tM X) (aM X) X s σ11 H locs → lv_has ls 12 [(0, .ref (X.2.1 33)), (1, .int a1), (2, .int a2), (3, .int a3), (4, .int x2), (5, .int x6), (6, .int x10)] → J37 x33 x34 x35 x36 = some σz → W p l e rm_fMM_loses s m args below meth c H locs 0 0 (MQ below (va_Qv (fun u => u = σz) (poW (wM X) (tM X) (aM X) X sz) (aA (aM X) sz)) args s 0 0 (aA (aM X) sz)) (F0 m 261 ls [.int x36, .long x35, .long x34, .long x33, .ref (X.2.1 33)]) := by
                      intro x33 x34 x35 x36 H locs ls Z hl h32
                      rw [eJ37] at h32
                      obtain ⟨σ39, hc37, h33⟩ := db1_s h32
                      clear h32
                      refine cV_V [.long x33, .long x34, .long x35, .int x36] [] B mx_yX12_stages (c_fMM_stages l X _ x33 x34 x35 x36 σ11 σ39 hc37) kl_RX12_106 mi_yX12_stages (rv_33 _ _) hcl_12 Z hl rfl rfl ⟨Nat.le_of_ble_eq_true rfl, Nat.le_of_ble_eq_true rfl⟩ rfl rfl (Nat.le_of_ble_eq_true rfl) dX12_loses_261 (fun H locs Z => ?_)
                      clear hc37
                      refine lv_iinc (v := x10 + (1 : Int32)) (lv' := [(6, .int (x10 + (1 : Int32))), (0, .ref (X.2.1 33)), (1, .int a1), (2, .int a2), (3, .int a3), (4, .int x2), (5, .int x6)]) hx hb dX12_loses_264 hl (k := 6) rfl (by rfl) (by decide) rfl (fun ls hl => ?_)
                      refine lv_goto (tgt := 90) hx hb dX12_loses_267 (by decide) ?_
                      exact ih56 (x10 + (1 : Int32)) σ39 _ _ _ Z (lv_sub hl [1, 2, 3, 4, 5, 6, 0] rfl) h33
                    clear eJ37
                    refine lv_if_le (tgt := 260) hx hb dX12_loses_253 (by decide) (fun c40 => ?_) (fun c40 => ?_)
                    · have h35 := dit h34 c40
                      clear h34
                      refine lv_iconst (v := (0 : Int32)) hx hb dX12_loses_260 (by decide) ?_
                      exact kJ37 ((x22 * (σ11.2 37 (x6 + a1).toNatClampNeg)) + (x24 * (σ11.2 37 (x18 + a1).toNatClampNeg))) ((x22 * (σ11.2 37 (x6 + a2).toNatClampNeg)) + (x24 * (σ11.2 37 (x18 + a2).toNatClampNeg))) ((x22 * (σ11.2 37 (x6 + (3 : Int32)).toNatClampNeg)) + (x24 * (σ11.2 37 (x18 + (3 : Int32)).toNatClampNeg))) (0 : Int32) _ _ _ Z (lv_sub hl [3, 4, 5, 6, 7, 8, 9] rfl) h35
                    · have h36 := dif h34 c40
                      clear h34
                      refine lv_iconst (v := (1 : Int32)) hx hb dX12_loses_256 (by decide) ?_
                      refine lv_goto (tgt := 261) hx hb dX12_loses_257 (by decide) ?_
                      exact kJ37 ((x22 * (σ11.2 37 (x6 + a1).toNatClampNeg)) + (x24 * (σ11.2 37 (x18 + a1).toNatClampNeg))) ((x22 * (σ11.2 37 (x6 + a2).toNatClampNeg)) + (x24 * (σ11.2 37 (x18 + a2).toNatClampNeg))) ((x22 * (σ11.2 37 (x6 + (3 : Int32)).toNatClampNeg)) + (x24 * (σ11.2 37 (x18 + (3 : Int32)).toNatClampNeg))) (1 : Int32) _ _ _ Z (lv_sub hl [3, 4, 5, 6, 7, 8, 9] rfl) h36
          exact lL90 FU (0 : Int32) σ8 _ _ _ Z (lv_sub hl [1, 2, 3, 4, 5, 6, 0] rfl) h9
        clear eJ9
        refine lv_if_ne (tgt := 87) hx hb dX12_loses_34 (by decide) (fun c41 => ?_) (fun c41 => ?_)
        · have h38 := dif h37 c41
          clear h37
          exact kJ9 σ3 _ _ _ Z (lv_sub hl [1, 2, 3, 4, 5, 0] rfl) h38
        · have h39 := dit h37 c41
          clear h37
          refine lv_aload_n hx hb dX12_loses_37 rfl (lv_at hl 1 rfl) ?_
          refine lv_aload_n hx hb dX12_loses_38 rfl (lv_at hl 1 rfl) ?_
          refine g_33_4 B Z kf_RX12_19 dX12_loses_39 ?_
          refine lv_iload hx hb dX12_loses_42 (lv_at hl 0 rfl) ?_
          refine lv_iload_n hx hb dX12_loses_44 rfl (lv_at hl 2 rfl) ?_
          refine lv_iadd hx hb dX12_loses_45 ?_
          obtain ⟨z42, h40⟩ := dck_s h39
          clear h39
          refine ld_37 B Z z42 dX12_loses_46 ?_
          refine lv_aload_n hx hb dX12_loses_47 rfl (lv_at hl 1 rfl) ?_
          refine g_33_4 B Z kf_RX12_19 dX12_loses_48 ?_
          refine lv_iload hx hb dX12_loses_51 (lv_at hl 0 rfl) ?_
          refine lv_iload_n hx hb dX12_loses_53 rfl (lv_at hl 3 rfl) ?_
          refine lv_iadd hx hb dX12_loses_54 ?_
          obtain ⟨z43, h41⟩ := dck_s h40
          clear h40
          refine ld_37 B Z z43 dX12_loses_55 ?_
          refine lv_aload_n hx hb dX12_loses_56 rfl (lv_at hl 1 rfl) ?_
          refine g_33_4 B Z kf_RX12_19 dX12_loses_57 ?_
          refine lv_iload hx hb dX12_loses_60 (lv_at hl 0 rfl) ?_
          refine lv_iconst (v := (3 : Int32)) hx hb dX12_loses_62 (by decide) ?_
          refine lv_iadd hx hb dX12_loses_63 ?_
          obtain ⟨z44, h42⟩ := dck_s h41
          clear h41
          refine ld_37 B Z z44 dX12_loses_64 ?_
          refine lv_aload_n hx hb dX12_loses_65 rfl (lv_at hl 1 rfl) ?_
          refine g_33_4 B Z kf_RX12_19 dX12_loses_66 ?_
          refine lv_iload hx hb dX12_loses_69 (lv_at hl 0 rfl) ?_
          refine lv_iconst (v := (4 : Int32)) hx hb dX12_loses_71 (by decide) ?_
          refine lv_iadd hx hb dX12_loses_72 ?_
          obtain ⟨z45, h43⟩ := dck_s h42
          clear h42
          refine ld_37 B Z z45 dX12_loses_73 ?_
          refine lv_lconst (v := (1 : Int64)) hx hb dX12_loses_74 (by decide) ?_
          refine W.lcmp hx hb dX12_loses_75 ?_
          obtain ⟨J50, eJ50, h46⟩ := dlt_s h43
          clear h43
          have kJ50 : ∀ (x46 : Int64) (x47 : Int64) (x48 : Int64) (x49 : Int32) (H : Heap) (locs : List Loc) (ls : Array Slot), Wd (wM X) (tM X) (aM X) X s σ3 H locs → lv_has ls 12 [(0, .ref (X.2.1 33)), (1, .int a1), (2, .int a2), (3, .int a3), (4, .int x2), (5, .int x6)] → J50 x46 x47 x48 x49 = some σz → W p l e rm_fMM_loses s m args below meth c H locs 0 0 (MQ below (va_Qv (fun u => u = σz) (poW (wM X) (tM X) (aM X) X sz) (aA (aM X) sz)) args s 0 0 (aA (aM X) sz)) (F0 m 84 ls [.int x49, .long x48, .long x47, .long x46, .ref (X.2.1 33)]) := by
            intro x46 x47 x48 x49 H locs ls Z hl h44
            rw [eJ50] at h44
            obtain ⟨σ52, hc50, h45⟩ := db1_s h44
            clear h44
            refine cV_V [.long x46, .long x47, .long x48, .int x49] [] B mx_yX12_stages (c_fMM_stages l X _ x46 x47 x48 x49 σ3 σ52 hc50) kl_RX12_106 mi_yX12_stages (rv_33 _ _) hcl_12 Z hl rfl rfl ⟨Nat.le_of_ble_eq_true rfl, Nat.le_of_ble_eq_true rfl⟩ rfl rfl (Nat.le_of_ble_eq_true rfl) dX12_loses_84 (fun H locs Z => ?_)
            clear hc50
            exact kJ9 σ52 _ _ _ Z (lv_sub hl [0, 1, 2, 3, 4, 5] rfl) h45
          clear eJ50
          refine lv_if_ne (tgt := 83) hx hb dX12_loses_76 (by decide) (fun c53 => ?_) (fun c53 => ?_)
          · have h47 := dif h46 c53
            clear h46
            refine lv_iconst (v := (0 : Int32)) hx hb dX12_loses_83 (by decide) ?_
            exact kJ50 (σ3.2 37 (x6 + a1).toNatClampNeg) (σ3.2 37 (x6 + a2).toNatClampNeg) (σ3.2 37 (x6 + (3 : Int32)).toNatClampNeg) (0 : Int32) _ _ _ Z (lv_sub hl [1, 2, 3, 4, 5, 0] rfl) h47
          · have h48 := dit h46 c53
            clear h46
            refine lv_iconst (v := (1 : Int32)) hx hb dX12_loses_79 (by decide) ?_
            refine lv_goto (tgt := 84) hx hb dX12_loses_80 (by decide) ?_
            exact kJ50 (σ3.2 37 (x6 + a1).toNatClampNeg) (σ3.2 37 (x6 + a2).toNatClampNeg) (σ3.2 37 (x6 + (3 : Int32)).toNatClampNeg) (1 : Int32) _ _ _ Z (lv_sub hl [1, 2, 3, 4, 5, 0] rfl) h48
  exact lL8 FU (0 : Int32) σ1 _ _ _ Z (lv_sub hl [1, 2, 3, 4, 0] rfl) h1
theorem dX12_takes_0 : decode cX12_takes 0 = .ok (.lload_n 1, 1) := by decide +kernel
theorem dX12_takes_1 : decode cX12_takes 1 = .ok (.lconst 0, 1) := by decide +kernel
theorem dX12_takes_2 : decode cX12_takes 2 = .ok (.lcmp, 1) := by decide +kernel
theorem dX12_takes_3 : decode cX12_takes 3 = .ok (.ifCond .ne 39, 3) := by decide +kernel
theorem dX12_takes_6 : decode cX12_takes 6 = .ok (.aload_n 0, 1) := by decide +kernel
theorem dX12_takes_7 : decode cX12_takes 7 = .ok (.aload_n 0, 1) := by decide +kernel
theorem dX12_takes_8 : decode cX12_takes 8 = .ok (.getfield 110, 3) := by decide +kernel
theorem dX12_takes_11 : decode cX12_takes 11 = .ok (.ifCond .eq 24, 3) := by decide +kernel
theorem dX12_takes_14 : decode cX12_takes 14 = .ok (.lload_n 3, 1) := by decide +kernel
theorem dX12_takes_15 : decode cX12_takes 15 = .ok (.lconst 0, 1) := by decide +kernel
theorem dX12_takes_16 : decode cX12_takes 16 = .ok (.lcmp, 1) := by decide +kernel
theorem dX12_takes_17 : decode cX12_takes 17 = .ok (.ifCond .gt 14, 3) := by decide +kernel
theorem dX12_takes_20 : decode cX12_takes 20 = .ok (.lload_n 3, 1) := by decide +kernel
theorem dX12_takes_21 : decode cX12_takes 21 = .ok (.lconst 0, 1) := by decide +kernel
theorem dX12_takes_22 : decode cX12_takes 22 = .ok (.lcmp, 1) := by decide +kernel
theorem dX12_takes_23 : decode cX12_takes 23 = .ok (.ifCond .ne 12, 3) := by decide +kernel
theorem dX12_takes_26 : decode cX12_takes 26 = .ok (.iload 5, 2) := by decide +kernel
theorem dX12_takes_28 : decode cX12_takes 28 = .ok (.ifCond .ne 7, 3) := by decide +kernel
theorem dX12_takes_31 : decode cX12_takes 31 = .ok (.iconst 1, 1) := by decide +kernel
theorem dX12_takes_32 : decode cX12_takes 32 = .ok (.goto 4, 3) := by decide +kernel
theorem dX12_takes_35 : decode cX12_takes 35 = .ok (.iconst 0, 1) := by decide +kernel
theorem dX12_takes_36 : decode cX12_takes 36 = .ok (.putfield 110, 3) := by decide +kernel
theorem dX12_takes_39 : decode cX12_takes 39 = .ok (.goto 243, 3) := by decide +kernel
theorem dX12_takes_42 : decode cX12_takes 42 = .ok (.lload_n 1, 1) := by decide +kernel
theorem dX12_takes_43 : decode cX12_takes 43 = .ok (.lconst 0, 1) := by decide +kernel
theorem dX12_takes_44 : decode cX12_takes 44 = .ok (.lcmp, 1) := by decide +kernel
theorem dX12_takes_45 : decode cX12_takes 45 = .ok (.ifCond .le 121, 3) := by decide +kernel
theorem dX12_takes_48 : decode cX12_takes 48 = .ok (.aload_n 0, 1) := by decide +kernel
theorem dX12_takes_49 : decode cX12_takes 49 = .ok (.getfield 114, 3) := by decide +kernel
theorem dX12_takes_52 : decode cX12_takes 52 = .ok (.lconst 0, 1) := by decide +kernel
theorem dX12_takes_53 : decode cX12_takes 53 = .ok (.lcmp, 1) := by decide +kernel
theorem dX12_takes_54 : decode cX12_takes 54 = .ok (.ifCond .ne 9, 3) := by decide +kernel
theorem dX12_takes_57 : decode cX12_takes 57 = .ok (.ldc2_w 118, 3) := by decide +kernel
theorem dX12_takes_60 : decode cX12_takes 60 = .ok (.goto 16, 3) := by decide +kernel
theorem dX12_takes_63 : decode cX12_takes 63 = .ok (.lload_n 3, 1) := by decide +kernel
theorem dX12_takes_64 : decode cX12_takes 64 = .ok (.aload_n 0, 1) := by decide +kernel
theorem dX12_takes_65 : decode cX12_takes 65 = .ok (.getfield 114, 3) := by decide +kernel
theorem dX12_takes_68 : decode cX12_takes 68 = .ok (.lmul, 1) := by decide +kernel
theorem dX12_takes_69 : decode cX12_takes 69 = .ok (.aload_n 0, 1) := by decide +kernel
theorem dX12_takes_70 : decode cX12_takes 70 = .ok (.getfield 120, 3) := by decide +kernel
theorem dX12_takes_73 : decode cX12_takes 73 = .ok (.lload_n 1, 1) := by decide +kernel
theorem dX12_takes_74 : decode cX12_takes 74 = .ok (.lmul, 1) := by decide +kernel
theorem dX12_takes_75 : decode cX12_takes 75 = .ok (.lsub, 1) := by decide +kernel
theorem dX12_takes_76 : decode cX12_takes 76 = .ok (.lstore 6, 2) := by decide +kernel
theorem dX12_takes_78 : decode cX12_takes 78 = .ok (.aload_n 0, 1) := by decide +kernel
theorem dX12_takes_79 : decode cX12_takes 79 = .ok (.lload 6, 2) := by decide +kernel
theorem dX12_takes_81 : decode cX12_takes 81 = .ok (.lconst 0, 1) := by decide +kernel
theorem dX12_takes_82 : decode cX12_takes 82 = .ok (.lcmp, 1) := by decide +kernel
theorem dX12_takes_83 : decode cX12_takes 83 = .ok (.ifCond .ge 8, 3) := by decide +kernel
theorem dX12_takes_86 : decode cX12_takes 86 = .ok (.iload 5, 2) := by decide +kernel
theorem dX12_takes_88 : decode cX12_takes 88 = .ok (.goto 34, 3) := by decide +kernel
theorem dX12_takes_91 : decode cX12_takes 91 = .ok (.lload 6, 2) := by decide +kernel
theorem dX12_takes_93 : decode cX12_takes 93 = .ok (.lconst 0, 1) := by decide +kernel
theorem dX12_takes_94 : decode cX12_takes 94 = .ok (.lcmp, 1) := by decide +kernel
theorem dX12_takes_95 : decode cX12_takes 95 = .ok (.ifCond .ne 23, 3) := by decide +kernel
theorem dX12_takes_98 : decode cX12_takes 98 = .ok (.aload_n 0, 1) := by decide +kernel
theorem dX12_takes_99 : decode cX12_takes 99 = .ok (.getfield 123, 3) := by decide +kernel
theorem dX12_takes_102 : decode cX12_takes 102 = .ok (.ifCond .ne 8, 3) := by decide +kernel
theorem dX12_takes_105 : decode cX12_takes 105 = .ok (.iload 5, 2) := by decide +kernel
theorem dX12_takes_107 : decode cX12_takes 107 = .ok (.ifCond .eq 7, 3) := by decide +kernel
theorem dX12_takes_110 : decode cX12_takes 110 = .ok (.iconst 1, 1) := by decide +kernel
theorem dX12_takes_111 : decode cX12_takes 111 = .ok (.goto 11, 3) := by decide +kernel
theorem dX12_takes_114 : decode cX12_takes 114 = .ok (.iconst 0, 1) := by decide +kernel
theorem dX12_takes_115 : decode cX12_takes 115 = .ok (.goto 7, 3) := by decide +kernel
theorem dX12_takes_118 : decode cX12_takes 118 = .ok (.aload_n 0, 1) := by decide +kernel
theorem dX12_takes_119 : decode cX12_takes 119 = .ok (.getfield 123, 3) := by decide +kernel
theorem dX12_takes_122 : decode cX12_takes 122 = .ok (.putfield 123, 3) := by decide +kernel
theorem dX12_takes_125 : decode cX12_takes 125 = .ok (.aload_n 0, 1) := by decide +kernel
theorem dX12_takes_126 : decode cX12_takes 126 = .ok (.lload 6, 2) := by decide +kernel
theorem dX12_takes_128 : decode cX12_takes 128 = .ok (.lconst 0, 1) := by decide +kernel
theorem dX12_takes_129 : decode cX12_takes 129 = .ok (.lcmp, 1) := by decide +kernel
theorem dX12_takes_130 : decode cX12_takes 130 = .ok (.ifCond .ge 7, 3) := by decide +kernel
theorem dX12_takes_133 : decode cX12_takes 133 = .ok (.lload_n 3, 1) := by decide +kernel
theorem dX12_takes_134 : decode cX12_takes 134 = .ok (.goto 7, 3) := by decide +kernel
theorem dX12_takes_137 : decode cX12_takes 137 = .ok (.aload_n 0, 1) := by decide +kernel
theorem dX12_takes_138 : decode cX12_takes 138 = .ok (.getfield 120, 3) := by decide +kernel
theorem dX12_takes_141 : decode cX12_takes 141 = .ok (.putfield 120, 3) := by decide +kernel
theorem dX12_takes_144 : decode cX12_takes 144 = .ok (.aload_n 0, 1) := by decide +kernel
theorem dX12_takes_145 : decode cX12_takes 145 = .ok (.lload 6, 2) := by decide +kernel
theorem dX12_takes_147 : decode cX12_takes 147 = .ok (.lconst 0, 1) := by decide +kernel
theorem dX12_takes_148 : decode cX12_takes 148 = .ok (.lcmp, 1) := by decide +kernel
theorem dX12_takes_149 : decode cX12_takes 149 = .ok (.ifCond .ge 7, 3) := by decide +kernel
theorem dX12_takes_152 : decode cX12_takes 152 = .ok (.lload_n 1, 1) := by decide +kernel
theorem dX12_takes_153 : decode cX12_takes 153 = .ok (.goto 7, 3) := by decide +kernel
theorem dX12_takes_156 : decode cX12_takes 156 = .ok (.aload_n 0, 1) := by decide +kernel
theorem dX12_takes_157 : decode cX12_takes 157 = .ok (.getfield 114, 3) := by decide +kernel
theorem dX12_takes_160 : decode cX12_takes 160 = .ok (.putfield 114, 3) := by decide +kernel
theorem dX12_takes_163 : decode cX12_takes 163 = .ok (.goto 119, 3) := by decide +kernel
theorem dX12_takes_166 : decode cX12_takes 166 = .ok (.aload_n 0, 1) := by decide +kernel
theorem dX12_takes_167 : decode cX12_takes 167 = .ok (.getfield 126, 3) := by decide +kernel
theorem dX12_takes_170 : decode cX12_takes 170 = .ok (.lconst 0, 1) := by decide +kernel
theorem dX12_takes_171 : decode cX12_takes 171 = .ok (.lcmp, 1) := by decide +kernel
theorem dX12_takes_172 : decode cX12_takes 172 = .ok (.ifCond .ne 7, 3) := by decide +kernel
theorem dX12_takes_175 : decode cX12_takes 175 = .ok (.lconst 1, 1) := by decide +kernel
theorem dX12_takes_176 : decode cX12_takes 176 = .ok (.goto 17, 3) := by decide +kernel
theorem dX12_takes_179 : decode cX12_takes 179 = .ok (.lload_n 3, 1) := by decide +kernel
theorem dX12_takes_180 : decode cX12_takes 180 = .ok (.lneg, 1) := by decide +kernel
theorem dX12_takes_181 : decode cX12_takes 181 = .ok (.aload_n 0, 1) := by decide +kernel
theorem dX12_takes_182 : decode cX12_takes 182 = .ok (.getfield 126, 3) := by decide +kernel
theorem dX12_takes_185 : decode cX12_takes 185 = .ok (.lmul, 1) := by decide +kernel
theorem dX12_takes_186 : decode cX12_takes 186 = .ok (.aload_n 0, 1) := by decide +kernel
theorem dX12_takes_187 : decode cX12_takes 187 = .ok (.getfield 129, 3) := by decide +kernel
theorem dX12_takes_190 : decode cX12_takes 190 = .ok (.lload_n 1, 1) := by decide +kernel
theorem dX12_takes_191 : decode cX12_takes 191 = .ok (.lmul, 1) := by decide +kernel
theorem dX12_takes_192 : decode cX12_takes 192 = .ok (.ladd, 1) := by decide +kernel
theorem dX12_takes_193 : decode cX12_takes 193 = .ok (.lstore 6, 2) := by decide +kernel
theorem dX12_takes_195 : decode cX12_takes 195 = .ok (.aload_n 0, 1) := by decide +kernel
theorem dX12_takes_196 : decode cX12_takes 196 = .ok (.lload 6, 2) := by decide +kernel
theorem dX12_takes_198 : decode cX12_takes 198 = .ok (.lconst 0, 1) := by decide +kernel
theorem dX12_takes_199 : decode cX12_takes 199 = .ok (.lcmp, 1) := by decide +kernel
theorem dX12_takes_200 : decode cX12_takes 200 = .ok (.ifCond .le 8, 3) := by decide +kernel
theorem dX12_takes_203 : decode cX12_takes 203 = .ok (.iload 5, 2) := by decide +kernel
theorem dX12_takes_205 : decode cX12_takes 205 = .ok (.goto 34, 3) := by decide +kernel
theorem dX12_takes_208 : decode cX12_takes 208 = .ok (.lload 6, 2) := by decide +kernel
theorem dX12_takes_210 : decode cX12_takes 210 = .ok (.lconst 0, 1) := by decide +kernel
theorem dX12_takes_211 : decode cX12_takes 211 = .ok (.lcmp, 1) := by decide +kernel
theorem dX12_takes_212 : decode cX12_takes 212 = .ok (.ifCond .ne 23, 3) := by decide +kernel
theorem dX12_takes_215 : decode cX12_takes 215 = .ok (.aload_n 0, 1) := by decide +kernel
theorem dX12_takes_216 : decode cX12_takes 216 = .ok (.getfield 132, 3) := by decide +kernel
theorem dX12_takes_219 : decode cX12_takes 219 = .ok (.ifCond .ne 8, 3) := by decide +kernel
theorem dX12_takes_222 : decode cX12_takes 222 = .ok (.iload 5, 2) := by decide +kernel
theorem dX12_takes_224 : decode cX12_takes 224 = .ok (.ifCond .eq 7, 3) := by decide +kernel
theorem dX12_takes_227 : decode cX12_takes 227 = .ok (.iconst 1, 1) := by decide +kernel
theorem dX12_takes_228 : decode cX12_takes 228 = .ok (.goto 11, 3) := by decide +kernel
theorem dX12_takes_231 : decode cX12_takes 231 = .ok (.iconst 0, 1) := by decide +kernel
theorem dX12_takes_232 : decode cX12_takes 232 = .ok (.goto 7, 3) := by decide +kernel
theorem dX12_takes_235 : decode cX12_takes 235 = .ok (.aload_n 0, 1) := by decide +kernel
theorem dX12_takes_236 : decode cX12_takes 236 = .ok (.getfield 132, 3) := by decide +kernel
theorem dX12_takes_239 : decode cX12_takes 239 = .ok (.putfield 132, 3) := by decide +kernel
theorem dX12_takes_242 : decode cX12_takes 242 = .ok (.aload_n 0, 1) := by decide +kernel
theorem dX12_takes_243 : decode cX12_takes 243 = .ok (.lload 6, 2) := by decide +kernel
theorem dX12_takes_245 : decode cX12_takes 245 = .ok (.lconst 0, 1) := by decide +kernel
theorem dX12_takes_246 : decode cX12_takes 246 = .ok (.lcmp, 1) := by decide +kernel
theorem dX12_takes_247 : decode cX12_takes 247 = .ok (.ifCond .le 8, 3) := by decide +kernel
theorem dX12_takes_250 : decode cX12_takes 250 = .ok (.lload_n 3, 1) := by decide +kernel
theorem dX12_takes_251 : decode cX12_takes 251 = .ok (.lneg, 1) := by decide +kernel
theorem dX12_takes_252 : decode cX12_takes 252 = .ok (.goto 7, 3) := by decide +kernel
theorem dX12_takes_255 : decode cX12_takes 255 = .ok (.aload_n 0, 1) := by decide +kernel
theorem dX12_takes_256 : decode cX12_takes 256 = .ok (.getfield 129, 3) := by decide +kernel
theorem dX12_takes_259 : decode cX12_takes 259 = .ok (.putfield 129, 3) := by decide +kernel
theorem dX12_takes_262 : decode cX12_takes 262 = .ok (.aload_n 0, 1) := by decide +kernel
theorem dX12_takes_263 : decode cX12_takes 263 = .ok (.lload 6, 2) := by decide +kernel
theorem dX12_takes_265 : decode cX12_takes 265 = .ok (.lconst 0, 1) := by decide +kernel
theorem dX12_takes_266 : decode cX12_takes 266 = .ok (.lcmp, 1) := by decide +kernel
theorem dX12_takes_267 : decode cX12_takes 267 = .ok (.ifCond .le 8, 3) := by decide +kernel
theorem dX12_takes_270 : decode cX12_takes 270 = .ok (.lload_n 1, 1) := by decide +kernel
theorem dX12_takes_271 : decode cX12_takes 271 = .ok (.lneg, 1) := by decide +kernel
theorem dX12_takes_272 : decode cX12_takes 272 = .ok (.goto 7, 3) := by decide +kernel
theorem dX12_takes_275 : decode cX12_takes 275 = .ok (.aload_n 0, 1) := by decide +kernel
theorem dX12_takes_276 : decode cX12_takes 276 = .ok (.getfield 126, 3) := by decide +kernel
theorem dX12_takes_279 : decode cX12_takes 279 = .ok (.putfield 126, 3) := by decide +kernel
theorem dX12_takes_282 : decode cX12_takes 282 = .ok (.return_, 1) := by decide +kernel
def rm_fMM_takes : Room := { frames := 1, cells := 0, slots := 0, locals := 60 }
set_option maxHeartbeats 4000000 in
set_option maxRecDepth 100000 in
theorem c_fMM_takes (l : Launch) (X : eX) (sz : Nat) (a1 : Int64) (a2 : Int64) (a3 : Int32) (σ : sT) (σz : sT) (h0 : fMM_takes a1 a2 a3 σ = some σz) : ctV l yX12_takes cX12_takes 8 none rm_fMM_takes [.ref (X.2.1 33), .long a1, .long a2, .int a3] (wM X) (tM X) (aM X) X sz σ σz := by
  refine ct_of (by decide +kernel) (Nat.le_of_ble_eq_true rfl) ?_
  intro p e s m args below meth c ls hz B hl Z
  have B : Bd p s m args meth c RX12 cX12_takes 8 none := B
  have hl : lv_has ls 8 [(0, .ref (X.2.1 33)), (1, .long a1), (3, .long a2), (5, .int a3)] := hl
  have hx := B.1
  have hb := B.2.1
  unfold fMM_takes at h0
  refine lv_lload_n hx hb dX12_takes_0 rfl (lv_at hl 1 rfl) ?_
  refine lv_lconst (v := (0 : Int64)) hx hb dX12_takes_1 (by decide) ?_
  refine W.lcmp hx hb dX12_takes_2 ?_
  refine lv_if_ne (tgt := 42) hx hb dX12_takes_3 (by decide) (fun c1 => ?_) (fun c1 => ?_)
  · have h1 := dif h0 c1
    clear h0
    refine lv_lload_n hx hb dX12_takes_42 rfl (lv_at hl 1 rfl) ?_
    refine lv_lconst (v := (0 : Int64)) hx hb dX12_takes_43 (by decide) ?_
    refine W.lcmp hx hb dX12_takes_44 ?_
    refine lv_if_le (tgt := 166) hx hb dX12_takes_45 (by decide) (fun c2 => ?_) (fun c2 => ?_)
    · have h2 := dit h1 c2
      clear h1
      refine lv_aload_n hx hb dX12_takes_166 rfl (lv_at hl 0 rfl) ?_
      refine g_33_10 B Z kf_RX12_126 dX12_takes_167 ?_
      refine lv_lconst (v := (0 : Int64)) hx hb dX12_takes_170 (by decide) ?_
      refine W.lcmp hx hb dX12_takes_171 ?_
      obtain ⟨J4, eJ4, h28⟩ := dlt_s h2
      clear h2
      have kJ4 : ∀ (x3 : Int64) (H : Heap) (locs : List Loc) (ls : Array Slot), Wd (wM X) (tM X) (aM X) X s σ H locs → lv_has ls 8 [(0, .ref (X.2.1 33)), (1, .long a1), (3, .long a2), (5, .int a3)] → J4 x3 = some σz → W p l e rm_fMM_takes s m args below meth c H locs 0 0 (MQ below (va_Qv (fun u => u = σz) (poW (wM X) (tM X) (aM X) X sz) (aA (aM X) sz)) args s 0 0 (aA (aM X) sz)) (F0 m 193 ls [.long x3]) := by
        intro x3 H locs ls Z hl h3
        rw [eJ4] at h3
        refine lv_lstore (lv' := [(6, .long x3), (0, .ref (X.2.1 33)), (1, .long a1), (3, .long a2), (5, .int a3)]) hx hb dX12_takes_193 hl (by decide) rfl (fun ls hl => ?_)
        refine lv_aload_n hx hb dX12_takes_195 rfl (lv_at hl 1 rfl) ?_
        refine lv_lload hx hb dX12_takes_196 (lv_at hl 0 rfl) ?_
        refine lv_lconst (v := (0 : Int64)) hx hb dX12_takes_198 (by decide) ?_
        refine W.lcmp hx hb dX12_takes_199 ?_
        obtain ⟨J6, eJ6, h17⟩ := dlt_s h3
        clear h3
        have kJ6 : ∀ (x5 : Int32) (H : Heap) (locs : List Loc) (ls : Array Slot), Wd (wM X) (tM X) (aM X) X s σ H locs → lv_has ls 8 [(0, .ref (X.2.1 33)), (1, .long a1), (3, .long a2), (6, .long x3)] → J6 x5 = some σz → W p l e rm_fMM_takes s m args below meth c H locs 0 0 (MQ below (va_Qv (fun u => u = σz) (poW (wM X) (tM X) (aM X) X sz) (aA (aM X) sz)) args s 0 0 (aA (aM X) sz)) (F0 m 239 ls [.int x5, .ref (X.2.1 33)]) := by
          intro x5 H locs ls Z hl h4
          rw [eJ6] at h4
          obtain ⟨z7, h5⟩ := dck_s h4
          clear h4
          refine s_33_11 B Z z7 kf_RX12_132 dX12_takes_239 (fun H locs Z => ?_)
          obtain ⟨σ8, eσ8, h6⟩ := dlt_s h5
          clear h5
          replace Z := Wd.eq eσ8 Z
          clear eσ8
          refine lv_aload_n hx hb dX12_takes_242 rfl (lv_at hl 0 rfl) ?_
          refine lv_lload hx hb dX12_takes_243 (lv_at hl 3 rfl) ?_
          refine lv_lconst (v := (0 : Int64)) hx hb dX12_takes_245 (by decide) ?_
          refine W.lcmp hx hb dX12_takes_246 ?_
          obtain ⟨J10, eJ10, h14⟩ := dlt_s h6
          clear h6
          have kJ10 : ∀ (x9 : Int64) (H : Heap) (locs : List Loc) (ls : Array Slot), Wd (wM X) (tM X) (aM X) X s σ8 H locs → lv_has ls 8 [(0, .ref (X.2.1 33)), (1, .long a1), (6, .long x3)] → J10 x9 = some σz → W p l e rm_fMM_takes s m args below meth c H locs 0 0 (MQ below (va_Qv (fun u => u = σz) (poW (wM X) (tM X) (aM X) X sz) (aA (aM X) sz)) args s 0 0 (aA (aM X) sz)) (F0 m 259 ls [.long x9, .ref (X.2.1 33)]) := by
            intro x9 H locs ls Z hl h7
            rw [eJ10] at h7
            refine s_33_9 B Z kf_RX12_129 dX12_takes_259 (fun H locs Z => ?_)
            obtain ⟨σ11, eσ11, h8⟩ := dlt_s h7
            clear h7
            replace Z := Wd.eq eσ11 Z
            clear eσ11
            refine lv_aload_n hx hb dX12_takes_262 rfl (lv_at hl 0 rfl) ?_
            refine lv_lload hx hb dX12_takes_263 (lv_at hl 2 rfl) ?_
            refine lv_lconst (v := (0 : Int64)) hx hb dX12_takes_265 (by decide) ?_
            refine W.lcmp hx hb dX12_takes_266 ?_
            obtain ⟨J13, eJ13, h11⟩ := dlt_s h8
            clear h8
            have kJ13 : ∀ (x12 : Int64) (H : Heap) (locs : List Loc) (ls : Array Slot), Wd (wM X) (tM X) (aM X) X s σ11 H locs → lv_has ls 8 [] → J13 x12 = some σz → W p l e rm_fMM_takes s m args below meth c H locs 0 0 (MQ below (va_Qv (fun u => u = σz) (poW (wM X) (tM X) (aM X) X sz) (aA (aM X) sz)) args s 0 0 (aA (aM X) sz)) (F0 m 279 ls [.long x12, .ref (X.2.1 33)]) := by
              intro x12 H locs ls Z hl h9
              rw [eJ13] at h9
              refine s_33_10 B Z kf_RX12_126 dX12_takes_279 (fun H locs Z => ?_)
              obtain ⟨σ14, eσ14, h10⟩ := dlt_s h9
              clear h9
              replace Z := Wd.eq eσ14 Z
              clear eσ14
              exact reV B Z hz h10 dX12_takes_282
            clear eJ13
            refine lv_if_le (tgt := 275) hx hb dX12_takes_267 (by decide) (fun c15 => ?_) (fun c15 => ?_)
            · have h12 := dit h11 c15
              clear h11
              refine lv_aload_n hx hb dX12_takes_275 rfl (lv_at hl 0 rfl) ?_
              refine g_33_10 B Z kf_RX12_126 dX12_takes_276 ?_
              exact kJ13 (σ11.2 33 10) _ _ _ Z (lv_sub hl [] rfl) h12
            · have h13 := dif h11 c15
              clear h11
              refine lv_lload_n hx hb dX12_takes_270 rfl (lv_at hl 1 rfl) ?_
              refine lv_lneg hx hb dX12_takes_271 ?_
              refine lv_goto (tgt := 279) hx hb dX12_takes_272 (by decide) ?_
              exact kJ13 (-a1) _ _ _ Z (lv_sub hl [] rfl) h13
          clear eJ10
          refine lv_if_le (tgt := 255) hx hb dX12_takes_247 (by decide) (fun c16 => ?_) (fun c16 => ?_)
          · have h15 := dit h14 c16
            clear h14
            refine lv_aload_n hx hb dX12_takes_255 rfl (lv_at hl 0 rfl) ?_
            refine g_33_9 B Z kf_RX12_129 dX12_takes_256 ?_
            exact kJ10 (σ8.2 33 9) _ _ _ Z (lv_sub hl [0, 1, 3] rfl) h15
          · have h16 := dif h14 c16
            clear h14
            refine lv_lload_n hx hb dX12_takes_250 rfl (lv_at hl 2 rfl) ?_
            refine lv_lneg hx hb dX12_takes_251 ?_
            refine lv_goto (tgt := 259) hx hb dX12_takes_252 (by decide) ?_
            exact kJ10 (-a2) _ _ _ Z (lv_sub hl [0, 1, 3] rfl) h16
        clear eJ6
        refine lv_if_le (tgt := 208) hx hb dX12_takes_200 (by decide) (fun c17 => ?_) (fun c17 => ?_)
        · have h18 := dit h17 c17
          clear h17
          refine lv_lload hx hb dX12_takes_208 (lv_at hl 0 rfl) ?_
          refine lv_lconst (v := (0 : Int64)) hx hb dX12_takes_210 (by decide) ?_
          refine W.lcmp hx hb dX12_takes_211 ?_
          refine lv_if_ne (tgt := 235) hx hb dX12_takes_212 (by decide) (fun c18 => ?_) (fun c18 => ?_)
          · have h19 := dif h18 c18
            clear h18
            refine lv_aload_n hx hb dX12_takes_235 rfl (lv_at hl 1 rfl) ?_
            refine g_33_11 B Z kf_RX12_132 dX12_takes_236 ?_
            exact kJ6 (σ.1 33 11) _ _ _ Z (lv_sub hl [1, 2, 3, 0] rfl) h19
          · have h20 := dit h18 c18
            clear h18
            refine lv_aload_n hx hb dX12_takes_215 rfl (lv_at hl 1 rfl) ?_
            refine g_33_11 B Z kf_RX12_132 dX12_takes_216 ?_
            obtain ⟨J19, eJ19, h22⟩ := dlt_s h20
            clear h20
            have kJ19 : ∀ (H : Heap) (locs : List Loc) (ls : Array Slot), Wd (wM X) (tM X) (aM X) X s σ H locs → lv_has ls 8 [(0, .ref (X.2.1 33)), (1, .long a1), (3, .long a2), (6, .long x3)] → J19 () = some σz → W p l e rm_fMM_takes s m args below meth c H locs 0 0 (MQ below (va_Qv (fun u => u = σz) (poW (wM X) (tM X) (aM X) X sz) (aA (aM X) sz)) args s 0 0 (aA (aM X) sz)) (F0 m 227 ls [.ref (X.2.1 33)]) := by
              intro  H locs ls Z hl h21
              rw [eJ19] at h21
              refine lv_iconst (v := (1 : Int32)) hx hb dX12_takes_227 (by decide) ?_
              refine lv_goto (tgt := 239) hx hb dX12_takes_228 (by decide) ?_
              exact kJ6 (1 : Int32) _ _ _ Z (lv_sub hl [0, 1, 2, 3] rfl) h21
            clear eJ19
            refine lv_if_ne (tgt := 227) hx hb dX12_takes_219 (by decide) (fun c20 => ?_) (fun c20 => ?_)
            · have h23 := dif h22 c20
              clear h22
              exact kJ19  _ _ _ Z (lv_sub hl [1, 2, 3, 0] rfl) h23
            · have h24 := dit h22 c20
              clear h22
              refine lv_iload hx hb dX12_takes_222 (lv_at hl 4 rfl) ?_
              refine lv_if_eq (tgt := 231) hx hb dX12_takes_224 (by decide) (fun c21 => ?_) (fun c21 => ?_)
              · have h25 := dit h24 c21
                clear h24
                refine lv_iconst (v := (0 : Int32)) hx hb dX12_takes_231 (by decide) ?_
                refine lv_goto (tgt := 239) hx hb dX12_takes_232 (by decide) ?_
                exact kJ6 (0 : Int32) _ _ _ Z (lv_sub hl [1, 2, 3, 0] rfl) h25
              · have h26 := dif h24 c21
                clear h24
                exact kJ19  _ _ _ Z (lv_sub hl [1, 2, 3, 0] rfl) h26
        · have h27 := dif h17 c17
          clear h17
          refine lv_iload hx hb dX12_takes_203 (lv_at hl 4 rfl) ?_
          refine lv_goto (tgt := 239) hx hb dX12_takes_205 (by decide) ?_
          exact kJ6 a3 _ _ _ Z (lv_sub hl [1, 2, 3, 0] rfl) h27
      clear eJ4
      refine lv_if_ne (tgt := 179) hx hb dX12_takes_172 (by decide) (fun c22 => ?_) (fun c22 => ?_)
      · have h29 := dif h28 c22
        clear h28
        refine lv_lload_n hx hb dX12_takes_179 rfl (lv_at hl 2 rfl) ?_
        refine lv_lneg hx hb dX12_takes_180 ?_
        refine lv_aload_n hx hb dX12_takes_181 rfl (lv_at hl 0 rfl) ?_
        refine g_33_10 B Z kf_RX12_126 dX12_takes_182 ?_
        refine lv_lmul hx hb dX12_takes_185 ?_
        refine lv_aload_n hx hb dX12_takes_186 rfl (lv_at hl 0 rfl) ?_
        refine g_33_9 B Z kf_RX12_129 dX12_takes_187 ?_
        refine lv_lload_n hx hb dX12_takes_190 rfl (lv_at hl 1 rfl) ?_
        refine lv_lmul hx hb dX12_takes_191 ?_
        refine lv_ladd hx hb dX12_takes_192 ?_
        exact kJ4 (((-a2) * (σ.2 33 10)) + ((σ.2 33 9) * a1)) _ _ _ Z (lv_sub hl [0, 1, 2, 3] rfl) h29
      · have h30 := dit h28 c22
        clear h28
        refine lv_lconst (v := (1 : Int64)) hx hb dX12_takes_175 (by decide) ?_
        refine lv_goto (tgt := 193) hx hb dX12_takes_176 (by decide) ?_
        exact kJ4 (1 : Int64) _ _ _ Z (lv_sub hl [0, 1, 2, 3] rfl) h30
    · have h31 := dif h1 c2
      clear h1
      refine lv_aload_n hx hb dX12_takes_48 rfl (lv_at hl 0 rfl) ?_
      refine g_33_13 B Z kf_RX12_114 dX12_takes_49 ?_
      refine lv_lconst (v := (0 : Int64)) hx hb dX12_takes_52 (by decide) ?_
      refine W.lcmp hx hb dX12_takes_53 ?_
      obtain ⟨J24, eJ24, h57⟩ := dlt_s h31
      clear h31
      have kJ24 : ∀ (x23 : Int64) (H : Heap) (locs : List Loc) (ls : Array Slot), Wd (wM X) (tM X) (aM X) X s σ H locs → lv_has ls 8 [(0, .ref (X.2.1 33)), (1, .long a1), (3, .long a2), (5, .int a3)] → J24 x23 = some σz → W p l e rm_fMM_takes s m args below meth c H locs 0 0 (MQ below (va_Qv (fun u => u = σz) (poW (wM X) (tM X) (aM X) X sz) (aA (aM X) sz)) args s 0 0 (aA (aM X) sz)) (F0 m 76 ls [.long x23]) := by
        intro x23 H locs ls Z hl h32
        rw [eJ24] at h32
        refine lv_lstore (lv' := [(6, .long x23), (0, .ref (X.2.1 33)), (1, .long a1), (3, .long a2), (5, .int a3)]) hx hb dX12_takes_76 hl (by decide) rfl (fun ls hl => ?_)
        refine lv_aload_n hx hb dX12_takes_78 rfl (lv_at hl 1 rfl) ?_
        refine lv_lload hx hb dX12_takes_79 (lv_at hl 0 rfl) ?_
        refine lv_lconst (v := (0 : Int64)) hx hb dX12_takes_81 (by decide) ?_
        refine W.lcmp hx hb dX12_takes_82 ?_
        obtain ⟨J26, eJ26, h46⟩ := dlt_s h32
        clear h32
        have kJ26 : ∀ (x25 : Int32) (H : Heap) (locs : List Loc) (ls : Array Slot), Wd (wM X) (tM X) (aM X) X s σ H locs → lv_has ls 8 [(0, .ref (X.2.1 33)), (1, .long a1), (3, .long a2), (6, .long x23)] → J26 x25 = some σz → W p l e rm_fMM_takes s m args below meth c H locs 0 0 (MQ below (va_Qv (fun u => u = σz) (poW (wM X) (tM X) (aM X) X sz) (aA (aM X) sz)) args s 0 0 (aA (aM X) sz)) (F0 m 122 ls [.int x25, .ref (X.2.1 33)]) := by
          intro x25 H locs ls Z hl h33
          rw [eJ26] at h33
          obtain ⟨z27, h34⟩ := dck_s h33
          clear h33
          refine s_33_14 B Z z27 kf_RX12_123 dX12_takes_122 (fun H locs Z => ?_)
          obtain ⟨σ28, eσ28, h35⟩ := dlt_s h34
          clear h34
          replace Z := Wd.eq eσ28 Z
          clear eσ28
          refine lv_aload_n hx hb dX12_takes_125 rfl (lv_at hl 0 rfl) ?_
          refine lv_lload hx hb dX12_takes_126 (lv_at hl 3 rfl) ?_
          refine lv_lconst (v := (0 : Int64)) hx hb dX12_takes_128 (by decide) ?_
          refine W.lcmp hx hb dX12_takes_129 ?_
          obtain ⟨J30, eJ30, h43⟩ := dlt_s h35
          clear h35
          have kJ30 : ∀ (x29 : Int64) (H : Heap) (locs : List Loc) (ls : Array Slot), Wd (wM X) (tM X) (aM X) X s σ28 H locs → lv_has ls 8 [(0, .ref (X.2.1 33)), (1, .long a1), (6, .long x23)] → J30 x29 = some σz → W p l e rm_fMM_takes s m args below meth c H locs 0 0 (MQ below (va_Qv (fun u => u = σz) (poW (wM X) (tM X) (aM X) X sz) (aA (aM X) sz)) args s 0 0 (aA (aM X) sz)) (F0 m 141 ls [.long x29, .ref (X.2.1 33)]) := by
            intro x29 H locs ls Z hl h36
            rw [eJ30] at h36
            refine s_33_12 B Z kf_RX12_120 dX12_takes_141 (fun H locs Z => ?_)
            obtain ⟨σ31, eσ31, h37⟩ := dlt_s h36
            clear h36
            replace Z := Wd.eq eσ31 Z
            clear eσ31
            refine lv_aload_n hx hb dX12_takes_144 rfl (lv_at hl 0 rfl) ?_
            refine lv_lload hx hb dX12_takes_145 (lv_at hl 2 rfl) ?_
            refine lv_lconst (v := (0 : Int64)) hx hb dX12_takes_147 (by decide) ?_
            refine W.lcmp hx hb dX12_takes_148 ?_
            obtain ⟨J33, eJ33, h40⟩ := dlt_s h37
            clear h37
            have kJ33 : ∀ (x32 : Int64) (H : Heap) (locs : List Loc) (ls : Array Slot), Wd (wM X) (tM X) (aM X) X s σ31 H locs → lv_has ls 8 [] → J33 x32 = some σz → W p l e rm_fMM_takes s m args below meth c H locs 0 0 (MQ below (va_Qv (fun u => u = σz) (poW (wM X) (tM X) (aM X) X sz) (aA (aM X) sz)) args s 0 0 (aA (aM X) sz)) (F0 m 160 ls [.long x32, .ref (X.2.1 33)]) := by
              intro x32 H locs ls Z hl h38
              rw [eJ33] at h38
              refine s_33_13 B Z kf_RX12_114 dX12_takes_160 (fun H locs Z => ?_)
              obtain ⟨σ34, eσ34, h39⟩ := dlt_s h38
              clear h38
              replace Z := Wd.eq eσ34 Z
              clear eσ34
              refine lv_goto (tgt := 282) hx hb dX12_takes_163 (by decide) ?_
              exact reV B Z hz h39 dX12_takes_282
            clear eJ33
            refine lv_if_ge (tgt := 156) hx hb dX12_takes_149 (by decide) (fun c35 => ?_) (fun c35 => ?_)
            · have h41 := dit h40 c35
              clear h40
              refine lv_aload_n hx hb dX12_takes_156 rfl (lv_at hl 0 rfl) ?_
              refine g_33_13 B Z kf_RX12_114 dX12_takes_157 ?_
              exact kJ33 (σ31.2 33 13) _ _ _ Z (lv_sub hl [] rfl) h41
            · have h42 := dif h40 c35
              clear h40
              refine lv_lload_n hx hb dX12_takes_152 rfl (lv_at hl 1 rfl) ?_
              refine lv_goto (tgt := 160) hx hb dX12_takes_153 (by decide) ?_
              exact kJ33 a1 _ _ _ Z (lv_sub hl [] rfl) h42
          clear eJ30
          refine lv_if_ge (tgt := 137) hx hb dX12_takes_130 (by decide) (fun c36 => ?_) (fun c36 => ?_)
          · have h44 := dit h43 c36
            clear h43
            refine lv_aload_n hx hb dX12_takes_137 rfl (lv_at hl 0 rfl) ?_
            refine g_33_12 B Z kf_RX12_120 dX12_takes_138 ?_
            exact kJ30 (σ28.2 33 12) _ _ _ Z (lv_sub hl [0, 1, 3] rfl) h44
          · have h45 := dif h43 c36
            clear h43
            refine lv_lload_n hx hb dX12_takes_133 rfl (lv_at hl 2 rfl) ?_
            refine lv_goto (tgt := 141) hx hb dX12_takes_134 (by decide) ?_
            exact kJ30 a2 _ _ _ Z (lv_sub hl [0, 1, 3] rfl) h45
        clear eJ26
        refine lv_if_ge (tgt := 91) hx hb dX12_takes_83 (by decide) (fun c37 => ?_) (fun c37 => ?_)
        · have h47 := dit h46 c37
          clear h46
          refine lv_lload hx hb dX12_takes_91 (lv_at hl 0 rfl) ?_
          refine lv_lconst (v := (0 : Int64)) hx hb dX12_takes_93 (by decide) ?_
          refine W.lcmp hx hb dX12_takes_94 ?_
          refine lv_if_ne (tgt := 118) hx hb dX12_takes_95 (by decide) (fun c38 => ?_) (fun c38 => ?_)
          · have h48 := dif h47 c38
            clear h47
            refine lv_aload_n hx hb dX12_takes_118 rfl (lv_at hl 1 rfl) ?_
            refine g_33_14 B Z kf_RX12_123 dX12_takes_119 ?_
            exact kJ26 (σ.1 33 14) _ _ _ Z (lv_sub hl [1, 2, 3, 0] rfl) h48
          · have h49 := dit h47 c38
            clear h47
            refine lv_aload_n hx hb dX12_takes_98 rfl (lv_at hl 1 rfl) ?_
            refine g_33_14 B Z kf_RX12_123 dX12_takes_99 ?_
            obtain ⟨J39, eJ39, h51⟩ := dlt_s h49
            clear h49
            have kJ39 : ∀ (H : Heap) (locs : List Loc) (ls : Array Slot), Wd (wM X) (tM X) (aM X) X s σ H locs → lv_has ls 8 [(0, .ref (X.2.1 33)), (1, .long a1), (3, .long a2), (6, .long x23)] → J39 () = some σz → W p l e rm_fMM_takes s m args below meth c H locs 0 0 (MQ below (va_Qv (fun u => u = σz) (poW (wM X) (tM X) (aM X) X sz) (aA (aM X) sz)) args s 0 0 (aA (aM X) sz)) (F0 m 110 ls [.ref (X.2.1 33)]) := by
              intro  H locs ls Z hl h50
              rw [eJ39] at h50
              refine lv_iconst (v := (1 : Int32)) hx hb dX12_takes_110 (by decide) ?_
              refine lv_goto (tgt := 122) hx hb dX12_takes_111 (by decide) ?_
              exact kJ26 (1 : Int32) _ _ _ Z (lv_sub hl [0, 1, 2, 3] rfl) h50
            clear eJ39
            refine lv_if_ne (tgt := 110) hx hb dX12_takes_102 (by decide) (fun c40 => ?_) (fun c40 => ?_)
            · have h52 := dif h51 c40
              clear h51
              exact kJ39  _ _ _ Z (lv_sub hl [1, 2, 3, 0] rfl) h52
            · have h53 := dit h51 c40
              clear h51
              refine lv_iload hx hb dX12_takes_105 (lv_at hl 4 rfl) ?_
              refine lv_if_eq (tgt := 114) hx hb dX12_takes_107 (by decide) (fun c41 => ?_) (fun c41 => ?_)
              · have h54 := dit h53 c41
                clear h53
                refine lv_iconst (v := (0 : Int32)) hx hb dX12_takes_114 (by decide) ?_
                refine lv_goto (tgt := 122) hx hb dX12_takes_115 (by decide) ?_
                exact kJ26 (0 : Int32) _ _ _ Z (lv_sub hl [1, 2, 3, 0] rfl) h54
              · have h55 := dif h53 c41
                clear h53
                exact kJ39  _ _ _ Z (lv_sub hl [1, 2, 3, 0] rfl) h55
        · have h56 := dif h46 c37
          clear h46
          refine lv_iload hx hb dX12_takes_86 (lv_at hl 4 rfl) ?_
          refine lv_goto (tgt := 122) hx hb dX12_takes_88 (by decide) ?_
          exact kJ26 a3 _ _ _ Z (lv_sub hl [1, 2, 3, 0] rfl) h56
      clear eJ24
      refine lv_if_ne (tgt := 63) hx hb dX12_takes_54 (by decide) (fun c42 => ?_) (fun c42 => ?_)
      · have h58 := dif h57 c42
        clear h57
        refine lv_lload_n hx hb dX12_takes_63 rfl (lv_at hl 2 rfl) ?_
        refine lv_aload_n hx hb dX12_takes_64 rfl (lv_at hl 0 rfl) ?_
        refine g_33_13 B Z kf_RX12_114 dX12_takes_65 ?_
        refine lv_lmul hx hb dX12_takes_68 ?_
        refine lv_aload_n hx hb dX12_takes_69 rfl (lv_at hl 0 rfl) ?_
        refine g_33_12 B Z kf_RX12_120 dX12_takes_70 ?_
        refine lv_lload_n hx hb dX12_takes_73 rfl (lv_at hl 1 rfl) ?_
        refine lv_lmul hx hb dX12_takes_74 ?_
        refine lv_lsub hx hb dX12_takes_75 ?_
        exact kJ24 ((a2 * (σ.2 33 13)) - ((σ.2 33 12) * a1)) _ _ _ Z (lv_sub hl [0, 1, 2, 3] rfl) h58
      · have h59 := dit h57 c42
        clear h57
        refine lv_ldc2 hx hb B.2.2.2.1 (B.2.2.2.2.1 _ kc_RX12_118) dX12_takes_57 ?_
        refine lv_goto (tgt := 76) hx hb dX12_takes_60 (by decide) ?_
        exact kJ24 (-1 : Int64) _ _ _ Z (lv_sub hl [0, 1, 2, 3] rfl) h59
  · have h60 := dit h0 c1
    clear h0
    refine lv_aload_n hx hb dX12_takes_6 rfl (lv_at hl 0 rfl) ?_
    refine lv_aload_n hx hb dX12_takes_7 rfl (lv_at hl 0 rfl) ?_
    refine g_33_8 B Z kf_RX12_110 dX12_takes_8 ?_
    obtain ⟨J44, eJ44, h64⟩ := dlt_s h60
    clear h60
    have kJ44 : ∀ (x43 : Int32) (H : Heap) (locs : List Loc) (ls : Array Slot), Wd (wM X) (tM X) (aM X) X s σ H locs → lv_has ls 8 [] → J44 x43 = some σz → W p l e rm_fMM_takes s m args below meth c H locs 0 0 (MQ below (va_Qv (fun u => u = σz) (poW (wM X) (tM X) (aM X) X sz) (aA (aM X) sz)) args s 0 0 (aA (aM X) sz)) (F0 m 36 ls [.int x43, .ref (X.2.1 33)]) := by
      intro x43 H locs ls Z hl h61
      rw [eJ44] at h61
      obtain ⟨z45, h62⟩ := dck_s h61
      clear h61
      refine s_33_8 B Z z45 kf_RX12_110 dX12_takes_36 (fun H locs Z => ?_)
      obtain ⟨σ46, eσ46, h63⟩ := dlt_s h62
      clear h62
      replace Z := Wd.eq eσ46 Z
      clear eσ46
      refine lv_goto (tgt := 282) hx hb dX12_takes_39 (by decide) ?_
      exact reV B Z hz h63 dX12_takes_282
    clear eJ44
    obtain ⟨J47, eJ47, h66⟩ := dlt_s h64
    clear h64
    have kJ47 : ∀ (H : Heap) (locs : List Loc) (ls : Array Slot), Wd (wM X) (tM X) (aM X) X s σ H locs → lv_has ls 8 [] → J47 () = some σz → W p l e rm_fMM_takes s m args below meth c H locs 0 0 (MQ below (va_Qv (fun u => u = σz) (poW (wM X) (tM X) (aM X) X sz) (aA (aM X) sz)) args s 0 0 (aA (aM X) sz)) (F0 m 35 ls [.ref (X.2.1 33)]) := by
      intro  H locs ls Z hl h65
      rw [eJ47] at h65
      refine lv_iconst (v := (0 : Int32)) hx hb dX12_takes_35 (by decide) ?_
      exact kJ44 (0 : Int32) _ _ _ Z (lv_sub hl [] rfl) h65
    clear eJ47
    refine lv_if_eq (tgt := 35) hx hb dX12_takes_11 (by decide) (fun c48 => ?_) (fun c48 => ?_)
    · have h67 := dit h66 c48
      clear h66
      exact kJ47  _ _ _ Z (lv_sub hl [] rfl) h67
    · have h68 := dif h66 c48
      clear h66
      refine lv_lload_n hx hb dX12_takes_14 rfl (lv_at hl 2 rfl) ?_
      refine lv_lconst (v := (0 : Int64)) hx hb dX12_takes_15 (by decide) ?_
      refine W.lcmp hx hb dX12_takes_16 ?_
      obtain ⟨J49, eJ49, h70⟩ := dlt_s h68
      clear h68
      have kJ49 : ∀ (H : Heap) (locs : List Loc) (ls : Array Slot), Wd (wM X) (tM X) (aM X) X s σ H locs → lv_has ls 8 [] → J49 () = some σz → W p l e rm_fMM_takes s m args below meth c H locs 0 0 (MQ below (va_Qv (fun u => u = σz) (poW (wM X) (tM X) (aM X) X sz) (aA (aM X) sz)) args s 0 0 (aA (aM X) sz)) (F0 m 31 ls [.ref (X.2.1 33)]) := by
        intro  H locs ls Z hl h69
        rw [eJ49] at h69
        refine lv_iconst (v := (1 : Int32)) hx hb dX12_takes_31 (by decide) ?_
        refine lv_goto (tgt := 36) hx hb dX12_takes_32 (by decide) ?_
        exact kJ44 (1 : Int32) _ _ _ Z (lv_sub hl [] rfl) h69
      clear eJ49
      refine lv_if_gt (tgt := 31) hx hb dX12_takes_17 (by decide) (fun c50 => ?_) (fun c50 => ?_)
      · have h71 := dit h70 c50
        clear h70
        exact kJ49  _ _ _ Z (lv_sub hl [] rfl) h71
      · have h72 := dif h70 c50
        clear h70
        refine lv_lload_n hx hb dX12_takes_20 rfl (lv_at hl 2 rfl) ?_
        refine lv_lconst (v := (0 : Int64)) hx hb dX12_takes_21 (by decide) ?_
        refine W.lcmp hx hb dX12_takes_22 ?_
        refine lv_if_ne (tgt := 35) hx hb dX12_takes_23 (by decide) (fun c51 => ?_) (fun c51 => ?_)
        · have h73 := dif h72 c51
          clear h72
          exact kJ47  _ _ _ Z (lv_sub hl [] rfl) h73
        · have h74 := dit h72 c51
          clear h72
          refine lv_iload hx hb dX12_takes_26 (lv_at hl 3 rfl) ?_
          refine lv_if_ne (tgt := 35) hx hb dX12_takes_28 (by decide) (fun c52 => ?_) (fun c52 => ?_)
          · have h75 := dif h74 c52
            clear h74
            exact kJ47  _ _ _ Z (lv_sub hl [] rfl) h75
          · have h76 := dit h74 c52
            clear h74
            exact kJ49  _ _ _ Z (lv_sub hl [] rfl) h76
