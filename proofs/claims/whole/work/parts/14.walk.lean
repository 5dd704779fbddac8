theorem dX11_times_0 : decode cX11_times 0 = .ok (.aload_n 0, 1) := by decide +kernel
theorem dX11_times_1 : decode cX11_times 1 = .ok (.getfield 10, 3) := by decide +kernel
theorem dX11_times_4 : decode cX11_times 4 = .ok (.iload_n 1, 1) := by decide +kernel
theorem dX11_times_5 : decode cX11_times 5 = .ok (.invokevirtual 118, 3) := by decide +kernel
theorem dX11_times_8 : decode cX11_times 8 = .ok (.ifCond .eq 14, 3) := by decide +kernel
theorem dX11_times_11 : decode cX11_times 11 = .ok (.aload_n 0, 1) := by decide +kernel
theorem dX11_times_12 : decode cX11_times 12 = .ok (.getfield 10, 3) := by decide +kernel
theorem dX11_times_15 : decode cX11_times 15 = .ok (.iload_n 2, 1) := by decide +kernel
theorem dX11_times_16 : decode cX11_times 16 = .ok (.invokevirtual 99, 3) := by decide +kernel
theorem dX11_times_19 : decode cX11_times 19 = .ok (.ifCond .ne 8, 3) := by decide +kernel
theorem dX11_times_22 : decode cX11_times 22 = .ok (.aload_n 0, 1) := by decide +kernel
theorem dX11_times_23 : decode cX11_times 23 = .ok (.invokevirtual 77, 3) := by decide +kernel
theorem dX11_times_26 : decode cX11_times 26 = .ok (.ireturn, 1) := by decide +kernel
theorem dX11_times_27 : decode cX11_times 27 = .ok (.aload_n 0, 1) := by decide +kernel
theorem dX11_times_28 : decode cX11_times 28 = .ok (.getfield 21, 3) := by decide +kernel
theorem dX11_times_31 : decode cX11_times 31 = .ok (.iload_n 1, 1) := by decide +kernel
theorem dX11_times_32 : decode cX11_times 32 = .ok (.invokevirtual 121, 3) := by decide +kernel
theorem dX11_times_35 : decode cX11_times 35 = .ok (.ifCond .eq 8, 3) := by decide +kernel
theorem dX11_times_38 : decode cX11_times 38 = .ok (.aload_n 0, 1) := by decide +kernel
theorem dX11_times_39 : decode cX11_times 39 = .ok (.invokevirtual 124, 3) := by decide +kernel
theorem dX11_times_42 : decode cX11_times 42 = .ok (.ireturn, 1) := by decide +kernel
theorem dX11_times_43 : decode cX11_times 43 = .ok (.aload_n 0, 1) := by decide +kernel
theorem dX11_times_44 : decode cX11_times 44 = .ok (.getfield 28, 3) := by decide +kernel
theorem dX11_times_47 : decode cX11_times 47 = .ok (.aload_n 0, 1) := by decide +kernel
theorem dX11_times_48 : decode cX11_times 48 = .ok (.getfield 21, 3) := by decide +kernel
theorem dX11_times_51 : decode cX11_times 51 = .ok (.iload_n 1, 1) := by decide +kernel
theorem dX11_times_52 : decode cX11_times 52 = .ok (.invokevirtual 164, 3) := by decide +kernel
theorem dX11_times_55 : decode cX11_times 55 = .ok (.invokevirtual 167, 3) := by decide +kernel
theorem dX11_times_58 : decode cX11_times 58 = .ok (.aload_n 0, 1) := by decide +kernel
theorem dX11_times_59 : decode cX11_times 59 = .ok (.getfield 28, 3) := by decide +kernel
theorem dX11_times_62 : decode cX11_times 62 = .ok (.iload_n 2, 1) := by decide +kernel
theorem dX11_times_63 : decode cX11_times 63 = .ok (.invokevirtual 170, 3) := by decide +kernel
theorem dX11_times_66 : decode cX11_times 66 = .ok (.ireturn, 1) := by decide +kernel
def rm_fRM_times : Room := { frames := 8, cells := 0, slots := 0, locals := 253 }
set_option maxHeartbeats 4000000 in
set_option maxRecDepth 100000 in
theorem c_fRM_times (l : Launch) (X : eX) (sz : Nat) (a1 : Int32) (a2 : Int32) (σ : sT) (rz : Int32) (σz : sT) (h0 : fRM_times a1 a2 σ = some (rz, σz)) : ctI l yX11_times cX11_times 3 (some .int) rm_fRM_times [.ref (X.2.1 0), .int a1, .int a2] (wC X) (tC X) (aC X) X sz σ rz σz := by
  refine ct_of (by decide +kernel) (Nat.le_of_ble_eq_true rfl) ?_
  intro p e s m args below meth c ls hz B hl Z
  have B : Bd p s m args meth c RX11 cX11_times 3 (some .int) := B
  have hl : lv_has ls 3 [(0, .ref (X.2.1 0)), (1, .int a1), (2, .int a2)] := hl
  have hx := B.1
  have hb := B.2.1
  unfold fRM_times at h0
  refine lv_aload_n hx hb dX11_times_0 rfl (lv_at hl 0 rfl) ?_
  refine g_0_0 B Z kf_RX11_10 dX11_times_1 ?_
  refine lv_iload_n hx hb dX11_times_4 rfl (lv_at hl 1 rfl) ?_
  obtain ⟨r2, hc0, h1⟩ := db1_s h0
  clear h0
  refine cV_I [.int a1] [] B mx_yX0_covers (c_fBk_covers l X _ a1 σ r2 hc0) kl_RX11_118 mi_yX0_covers (rv_1 _ _) hcl_0 Z hl rfl rfl ⟨Nat.le_of_ble_eq_true rfl, Nat.le_of_ble_eq_true rfl⟩ rfl rfl (Nat.le_of_ble_eq_true rfl) dX11_times_5 (fun H locs Z => ?_)
  clear hc0
  obtain ⟨J3, eJ3, h4⟩ := dlt_s h1
  clear h1
  have kJ3 : ∀ (H : Heap) (locs : List Loc) (ls : Array Slot), Wd (wC X) (tC X) (aC X) X s σ H locs → lv_has ls 3 [(0, .ref (X.2.1 0))] → J3 () = some (rz, σz) → W p l e rm_fRM_times s m args below meth c H locs 0 0 (MQ below (va_Qi (fun a u => a = rz ∧ u = σz) (poW (wC X) (tC X) (aC X) X sz) (aA (aC X) sz)) args s 0 0 (aA (aC X) sz)) (F0 m 22 ls []) := by
    intro  H locs ls Z hl h2
    rw [eJ3] at h2
    refine lv_aload_n hx hb dX11_times_22 rfl (lv_at hl 0 rfl) ?_
    obtain ⟨r5, σ6, hc3, h3⟩ := db2_s h2
    clear h2
    refine cV_I [] [] B mx_yX11_bad (c_fRM_bad l X _ σ r5 σ6 hc3) kl_RX11_77 mi_yX11_bad (rv_0 _ _) hcl_11 Z hl rfl rfl ⟨Nat.le_of_ble_eq_true rfl, Nat.le_of_ble_eq_true rfl⟩ rfl rfl (Nat.le_of_ble_eq_true rfl) dX11_times_23 (fun H locs Z => ?_)
    clear hc3
    exact reI B Z rfl hz h3 dX11_times_26
  clear eJ3
  refine lv_if_eq (tgt := 22) hx hb dX11_times_8 (by decide) (fun c7 => ?_) (fun c7 => ?_)
  · have h5 := dit h4 c7
    clear h4
    exact kJ3  _ _ _ Z (lv_sub hl [0] rfl) h5
  · have h6 := dif h4 c7
    clear h4
    refine lv_aload_n hx hb dX11_times_11 rfl (lv_at hl 0 rfl) ?_
    refine g_0_0 B Z kf_RX11_10 dX11_times_12 ?_
    refine lv_iload_n hx hb dX11_times_15 rfl (lv_at hl 2 rfl) ?_
    obtain ⟨r9, hc7, h7⟩ := db1_s h6
    clear h6
    refine cV_I [.int a2] [] B mx_yX0_has (c_fBk_has l X _ a2 σ r9 hc7) kl_RX11_99 mi_yX0_has (rv_1 _ _) hcl_0 Z hl rfl rfl ⟨Nat.le_of_ble_eq_true rfl, Nat.le_of_ble_eq_true rfl⟩ rfl rfl (Nat.le_of_ble_eq_true rfl) dX11_times_16 (fun H locs Z => ?_)
    clear hc7
    refine lv_if_ne (tgt := 27) hx hb dX11_times_19 (by decide) (fun c10 => ?_) (fun c10 => ?_)
    · have h8 := dif h7 c10
      clear h7
      refine lv_aload_n hx hb dX11_times_27 rfl (lv_at hl 0 rfl) ?_
      refine g_0_1 B Z kf_RX11_21 dX11_times_28 ?_
      refine lv_iload_n hx hb dX11_times_31 rfl (lv_at hl 1 rfl) ?_
      obtain ⟨r12, σ13, hc10, h9⟩ := db2_s h8
      clear h8
      refine cV_I [.int a1] [] B mx_yX7_isSatisfiable (c_fSo_isSatisfiable l X _ a1 σ r12 σ13 hc10) kl_RX11_121 mi_yX7_isSatisfiable (rv_5 _ _) hcl_7 Z hl rfl rfl ⟨Nat.le_of_ble_eq_true rfl, Nat.le_of_ble_eq_true rfl⟩ rfl rfl (Nat.le_of_ble_eq_true rfl) dX11_times_32 (fun H locs Z => ?_)
      clear hc10
      refine lv_if_eq (tgt := 43) hx hb dX11_times_35 (by decide) (fun c14 => ?_) (fun c14 => ?_)
      · have h10 := dit h9 c14
        clear h9
        refine lv_aload_n hx hb dX11_times_43 rfl (lv_at hl 0 rfl) ?_
        refine g_0_2 B Z kf_RX11_28 dX11_times_44 ?_
        refine lv_aload_n hx hb dX11_times_47 rfl (lv_at hl 0 rfl) ?_
        refine g_0_1 B Z kf_RX11_21 dX11_times_48 ?_
        refine lv_iload_n hx hb dX11_times_51 rfl (lv_at hl 1 rfl) ?_
        obtain ⟨r16, σ17, hc14, h11⟩ := db2_s h10
        clear h10
        refine cV_I [.int a1] [.ref (X.2.1 20)] B mx_yX7_coreOf (c_fSo_coreOf l X _ a1 σ13 r16 σ17 hc14) kl_RX11_164 mi_yX7_coreOf (rv_5 _ _) hcl_7 Z hl rfl rfl ⟨Nat.le_of_ble_eq_true rfl, Nat.le_of_ble_eq_true rfl⟩ rfl rfl (Nat.le_of_ble_eq_true rfl) dX11_times_52 (fun H locs Z => ?_)
        clear hc14
        obtain ⟨σ19, hc17, h12⟩ := db1_s h11
        clear h11
        refine cV_V [.int r16] [] B mx_yX9_find (c_fWt_find l X _ r16 σ17 σ19 hc17) kl_RX11_167 mi_yX9_find (rv_20 _ _) hcl_9 Z hl rfl rfl ⟨Nat.le_of_ble_eq_true rfl, Nat.le_of_ble_eq_true rfl⟩ rfl rfl (Nat.le_of_ble_eq_true rfl) dX11_times_55 (fun H locs Z => ?_)
        clear hc17
        refine lv_aload_n hx hb dX11_times_58 rfl (lv_at hl 0 rfl) ?_
        refine g_0_2 B Z kf_RX11_28 dX11_times_59 ?_
        refine lv_iload_n hx hb dX11_times_62 rfl (lv_at hl 2 rfl) ?_
        obtain ⟨r21, hc19, h13⟩ := db1_s h12
        clear h12
        refine cV_I [.int a2] [] B mx_yX9_weightOf (c_fWt_weightOf l X _ a2 σ19 r21 hc19) kl_RX11_170 mi_yX9_weightOf (rv_20 _ _) hcl_9 Z hl rfl rfl ⟨Nat.le_of_ble_eq_true rfl, Nat.le_of_ble_eq_true rfl⟩ rfl rfl (Nat.le_of_ble_eq_true rfl) dX11_times_63 (fun H locs Z => ?_)
        clear hc19
        exact reI B Z rfl hz h13 dX11_times_66
      · have h14 := dif h9 c14
        clear h9
        refine lv_aload_n hx hb dX11_times_38 rfl (lv_at hl 0 rfl) ?_
        obtain ⟨r23, σ24, hc21, h15⟩ := db2_s h14
        clear h14
        refine cV_I [] [] B mx_yX11_no (c_fRM_no l X _ σ13 r23 σ24 hc21) kl_RX11_124 mi_yX11_no (rv_0 _ _) hcl_11 Z hl rfl rfl ⟨Nat.le_of_ble_eq_true rfl, Nat.le_of_ble_eq_true rfl⟩ rfl rfl (Nat.le_of_ble_eq_true rfl) dX11_times_39 (fun H locs Z => ?_)
        clear hc21
        exact reI B Z rfl hz h15 dX11_times_42
    · have h16 := dit h7 c10
      clear h7
      exact kJ3  _ _ _ Z (lv_sub hl [0] rfl) h16
theorem dX0_every_0 : decode cX0_every 0 = .ok (.iconst 1, 1) := by decide +kernel
theorem dX0_every_1 : decode cX0_every 1 = .ok (.aload_n 0, 1) := by decide +kernel
theorem dX0_every_2 : decode cX0_every 2 = .ok (.getfield 21, 3) := by decide +kernel
theorem dX0_every_5 : decode cX0_every 5 = .ok (.ishl, 1) := by decide +kernel
theorem dX0_every_6 : decode cX0_every 6 = .ok (.iconst 1, 1) := by decide +kernel
theorem dX0_every_7 : decode cX0_every 7 = .ok (.isub, 1) := by decide +kernel
theorem dX0_every_8 : decode cX0_every 8 = .ok (.ireturn, 1) := by decide +kernel
def rm_fBk_every : Room := { frames := 1, cells := 0, slots := 0, locals := 60 }
set_option maxHeartbeats 4000000 in
set_option maxRecDepth 100000 in
theorem c_fBk_every (l : Launch) (X : eX) (sz : Nat)  (σ : sT) (rz : Int32) (h0 : fBk_every σ = some rz) : ctI l yX0_every cX0_every 1 (some .int) rm_fBk_every [.ref (X.2.1 1)] (wC X) (tC X) (aC X) X sz σ rz σ := by
  refine ct_of (by decide +kernel) (Nat.le_of_ble_eq_true rfl) ?_
  intro p e s m args below meth c ls hz B hl Z
  have B : Bd p s m args meth c RX0 cX0_every 1 (some .int) := B
  have hl : lv_has ls 1 [(0, .ref (X.2.1 1))] := hl
  have hx := B.1
  have hb := B.2.1
  unfold fBk_every at h0
  refine lv_iconst (v := (1 : Int32)) hx hb dX0_every_0 (by decide) ?_
  refine lv_aload_n hx hb dX0_every_1 rfl (lv_at hl 0 rfl) ?_
  refine g_1_3 B Z kf_RX0_21 dX0_every_2 ?_
  refine lv_ishl hx hb dX0_every_5 ?_
  refine lv_iconst (v := (1 : Int32)) hx hb dX0_every_6 (by decide) ?_
  refine lv_isub hx hb dX0_every_7 ?_
  exact reI B Z rfl hz (congrArg (Option.map (fun q => (q, σ))) h0) dX0_every_8
theorem dX9_interpolantSum_0 : decode cX9_interpolantSum 0 = .ok (.iconst 0, 1) := by decide +kernel
theorem dX9_interpolantSum_1 : decode cX9_interpolantSum 1 = .ok (.istore_n 2, 1) := by decide +kernel
theorem dX9_interpolantSum_2 : decode cX9_interpolantSum 2 = .ok (.iconst 0, 1) := by decide +kernel
theorem dX9_interpolantSum_3 : decode cX9_interpolantSum 3 = .ok (.istore_n 3, 1) := by decide +kernel
theorem dX9_interpolantSum_4 : decode cX9_interpolantSum 4 = .ok (.iload_n 3, 1) := by decide +kernel
theorem dX9_interpolantSum_5 : decode cX9_interpolantSum 5 = .ok (.aload_n 0, 1) := by decide +kernel
theorem dX9_interpolantSum_6 : decode cX9_interpolantSum 6 = .ok (.getfield 25, 3) := by decide +kernel
theorem dX9_interpolantSum_9 : decode cX9_interpolantSum 9 = .ok (.if_icmp .ge 50, 3) := by decide +kernel
theorem dX9_interpolantSum_12 : decode cX9_interpolantSum 12 = .ok (.aload_n 0, 1) := by decide +kernel
theorem dX9_interpolantSum_13 : decode cX9_interpolantSum 13 = .ok (.getfield 21, 3) := by decide +kernel
theorem dX9_interpolantSum_16 : decode cX9_interpolantSum 16 = .ok (.aload_n 0, 1) := by decide +kernel
theorem dX9_interpolantSum_17 : decode cX9_interpolantSum 17 = .ok (.getfield 11, 3) := by decide +kernel
theorem dX9_interpolantSum_20 : decode cX9_interpolantSum 20 = .ok (.iload_n 3, 1) := by decide +kernel
theorem dX9_interpolantSum_21 : decode cX9_interpolantSum 21 = .ok (.iaload, 1) := by decide +kernel
theorem dX9_interpolantSum_22 : decode cX9_interpolantSum 22 = .ok (.iconst 5, 1) := by decide +kernel
theorem dX9_interpolantSum_23 : decode cX9_interpolantSum 23 = .ok (.invokevirtual 33, 3) := by decide +kernel
theorem dX9_interpolantSum_26 : decode cX9_interpolantSum 26 = .ok (.ifCond .ne 27, 3) := by decide +kernel
theorem dX9_interpolantSum_29 : decode cX9_interpolantSum 29 = .ok (.iload_n 2, 1) := by decide +kernel
theorem dX9_interpolantSum_30 : decode cX9_interpolantSum 30 = .ok (.aload_n 0, 1) := by decide +kernel
theorem dX9_interpolantSum_31 : decode cX9_interpolantSum 31 = .ok (.getfield 18, 3) := by decide +kernel
theorem dX9_interpolantSum_34 : decode cX9_interpolantSum 34 = .ok (.iload_n 3, 1) := by decide +kernel
theorem dX9_interpolantSum_35 : decode cX9_interpolantSum 35 = .ok (.iaload, 1) := by decide +kernel
theorem dX9_interpolantSum_36 : decode cX9_interpolantSum 36 = .ok (.aload_n 0, 1) := by decide +kernel
theorem dX9_interpolantSum_37 : decode cX9_interpolantSum 37 = .ok (.getfield 21, 3) := by decide +kernel
theorem dX9_interpolantSum_40 : decode cX9_interpolantSum 40 = .ok (.aload_n 0, 1) := by decide +kernel
theorem dX9_interpolantSum_41 : decode cX9_interpolantSum 41 = .ok (.getfield 11, 3) := by decide +kernel
theorem dX9_interpolantSum_44 : decode cX9_interpolantSum 44 = .ok (.iload_n 3, 1) := by decide +kernel
theorem dX9_interpolantSum_45 : decode cX9_interpolantSum 45 = .ok (.iaload, 1) := by decide +kernel
theorem dX9_interpolantSum_46 : decode cX9_interpolantSum 46 = .ok (.iload_n 1, 1) := by decide +kernel
theorem dX9_interpolantSum_47 : decode cX9_interpolantSum 47 = .ok (.invokevirtual 33, 3) := by decide +kernel
theorem dX9_interpolantSum_50 : decode cX9_interpolantSum 50 = .ok (.imul, 1) := by decide +kernel
theorem dX9_interpolantSum_51 : decode cX9_interpolantSum 51 = .ok (.iadd, 1) := by decide +kernel
theorem dX9_interpolantSum_52 : decode cX9_interpolantSum 52 = .ok (.istore_n 2, 1) := by decide +kernel
theorem dX9_interpolantSum_53 : decode cX9_interpolantSum 53 = .ok (.iinc 3 1, 3) := by decide +kernel
theorem dX9_interpolantSum_56 : decode cX9_interpolantSum 56 = .ok (.goto (-52), 3) := by decide +kernel
theorem dX9_interpolantSum_59 : decode cX9_interpolantSum 59 = .ok (.iload_n 2, 1) := by decide +kernel
theorem dX9_interpolantSum_60 : decode cX9_interpolantSum 60 = .ok (.ireturn, 1) := by decide +kernel
def rm_fWt_interpolantSum : Room := { frames := 3, cells := 0, slots := 0, locals := 104 }
set_option maxHeartbeats 4000000 in
set_option maxRecDepth 100000 in
theorem c_fWt_interpolantSum (l : Launch) (X : eX) (sz : Nat) (a1 : Int32) (σ : sT) (rz : Int32) (h0 : fWt_interpolantSum a1 σ = some rz) : ctI l yX9_interpolantSum cX9_interpolantSum 4 (some .int) rm_fWt_interpolantSum [.ref (X.2.1 20), .int a1] (wC X) (tC X) (aC X) X sz σ rz σ := by
  refine ct_of (by decide +kernel) (Nat.le_of_ble_eq_true rfl) ?_
  intro p e s m args below meth c ls hz B hl Z
  have B : Bd p s m args meth c RX9 cX9_interpolantSum 4 (some .int) := B
  have hl : lv_has ls 4 [(0, .ref (X.2.1 20)), (1, .int a1)] := hl
  have hx := B.1
  have hb := B.2.1
  unfold fWt_interpolantSum at h0
  refine lv_iconst (v := (0 : Int32)) hx hb dX9_interpolantSum_0 (by decide) ?_
  refine lv_istore_n (lv' := [(2, .int (0 : Int32)), (0, .ref (X.2.1 20)), (1, .int a1)]) hx hb dX9_interpolantSum_1 rfl hl (by decide) rfl (fun ls hl => ?_)
  refine lv_iconst (v := (0 : Int32)) hx hb dX9_interpolantSum_2 (by decide) ?_
  refine lv_istore_n (lv' := [(3, .int (0 : Int32)), (2, .int (0 : Int32)), (0, .ref (X.2.1 20)), (1, .int a1)]) hx hb dX9_interpolantSum_3 rfl hl (by decide) rfl (fun ls hl => ?_)
  have lL4 : ∀ (n : Nat), ∀ (x1 : Int32) (x2 : Int32) (H : Heap) (locs : List Loc) (ls : Array Slot), Wd (wC X) (tC X) (aC X) X s σ H locs → lv_has ls 4 [(0, .ref (X.2.1 20)), (1, .int a1), (2, .int x1), (3, .int x2)] → fWt_interpolantSum_L4 a1 σ n x1 x2 = some rz → W p l e rm_fWt_interpolantSum s m args below meth c H locs 0 0 (MQ below (va_Qi (fun a u => a = rz ∧ u = σ) (poW (wC X) (tC X) (aC X) X sz) (aA (aC X) sz)) args s 0 0 (aA (aC X) sz)) (F0 m 4 ls []) := by
    intro n
    induction n with
    | zero =>
      intro x1 x2 H locs ls Z hl h
      exact nomatch (show (none : Option (Int32)) = some _ from h)
    | succ n3 ih4 =>
      intro x1 x2 H locs ls Z hl h1
      unfold fWt_interpolantSum_L4 at h1
      refine lv_iload_n hx hb dX9_interpolantSum_4 rfl (lv_at hl 3 rfl) ?_
      refine lv_aload_n hx hb dX9_interpolantSum_5 rfl (lv_at hl 0 rfl) ?_
      refine g_20_4 B Z kf_RX9_25 dX9_interpolantSum_6 ?_
      refine lv_icmp_ge (tgt := 59) hx hb dX9_interpolantSum_9 (by decide) (fun c4 => ?_) (fun c4 => ?_)
      · have h2 := dit h1 c4
        clear h1
        refine lv_iload_n hx hb dX9_interpolantSum_59 rfl (lv_at hl 2 rfl) ?_
        exact reI B Z rfl hz (congrArg (Option.map (fun q => (q, σ))) h2) dX9_interpolantSum_60
      · have h3 := dif h1 c4
        clear h1
        refine lv_aload_n hx hb dX9_interpolantSum_12 rfl (lv_at hl 0 rfl) ?_
        refine g_20_0 B Z kf_RX9_21 dX9_interpolantSum_13 ?_
        refine lv_aload_n hx hb dX9_interpolantSum_16 rfl (lv_at hl 0 rfl) ?_
        refine g_20_1 B Z kf_RX9_11 dX9_interpolantSum_17 ?_
        refine lv_iload_n hx hb dX9_interpolantSum_20 rfl (lv_at hl 3 rfl) ?_
        obtain ⟨z5, h4⟩ := dck_s h3
        clear h3
        refine ld_21 B Z z5 dX9_interpolantSum_21 ?_
        refine lv_iconst (v := (5 : Int32)) hx hb dX9_interpolantSum_22 (by decide) ?_
        obtain ⟨r7, hc5, h5⟩ := db1_s h4
        clear h4
        refine cV_I [.int (σ.1 21 x2.toNatClampNeg), .int (5 : Int32)] [] B mx_yX0_get (c_fBk_get l X _ (σ.1 21 x2.toNatClampNeg) (5 : Int32) σ r7 hc5) kl_RX9_33 mi_yX0_get (rv_1 _ _) hcl_0 Z hl rfl rfl ⟨Nat.le_of_ble_eq_true rfl, Nat.le_of_ble_eq_true rfl⟩ rfl rfl (Nat.le_of_ble_eq_true rfl) dX9_interpolantSum_23 (fun H locs Z => ?_)
        clear hc5
        refine lv_if_ne (tgt := 53) hx hb dX9_interpolantSum_26 (by decide) (fun c8 => ?_) (fun c8 => ?_)
        · have h6 := dif h5 c8
          clear h5
          refine lv_iinc (v := x2 + (1 : Int32)) (lv' := [(3, .int (x2 + (1 : Int32))), (0, .ref (X.2.1 20)), (1, .int a1), (2, .int x1)]) hx hb dX9_interpolantSum_53 hl (k := 3) rfl (by rfl) (by decide) rfl (fun ls hl => ?_)
          refine lv_goto (tgt := 4) hx hb dX9_interpolantSum_56 (by decide) ?_
          exact ih4 x1 (x2 + (1 : Int32)) _ _ _ Z (lv_sub hl [1, 2, 3, 0] rfl) h6
        · have h7 := dit h5 c8
          clear h5
          refine lv_iload_n hx hb dX9_interpolantSum_29 rfl (lv_at hl 2 rfl) ?_
          refine lv_aload_n hx hb dX9_interpolantSum_30 rfl (lv_at hl 0 rfl) ?_
          refine g_20_3 B Z kf_RX9_18 dX9_interpolantSum_31 ?_
          refine lv_iload_n hx hb dX9_interpolantSum_34 rfl (lv_at hl 3 rfl) ?_
          obtain ⟨z9, h8⟩ := dck_s h7
          clear h7
          refine ld_23 B Z z9 dX9_interpolantSum_35 ?_
          refine lv_aload_n hx hb dX9_interpolantSum_36 rfl (lv_at hl 0 rfl) ?_
          refine g_20_0 B Z kf_RX9_21 dX9_interpolantSum_37 ?_
          refine lv_aload_n hx hb dX9_interpolantSum_40 rfl (lv_at hl 0 rfl) ?_
          refine g_20_1 B Z kf_RX9_11 dX9_interpolantSum_41 ?_
          refine lv_iload_n hx hb dX9_interpolantSum_44 rfl (lv_at hl 3 rfl) ?_
          obtain ⟨z10, h9⟩ := dck_s h8
          clear h8
          refine ld_21 B Z z10 dX9_interpolantSum_45 ?_
          refine lv_iload_n hx hb dX9_interpolantSum_46 rfl (lv_at hl 1 rfl) ?_
          obtain ⟨r12, hc10, h10⟩ := db1_s h9
          clear h9
          refine cV_I [.int (σ.1 21 x2.toNatClampNeg), .int a1] [.int (σ.1 23 x2.toNatClampNeg), .int x1] B mx_yX0_get (c_fBk_get l X _ (σ.1 21 x2.toNatClampNeg) a1 σ r12 hc10) kl_RX9_33 mi_yX0_get (rv_1 _ _) hcl_0 Z hl rfl rfl ⟨Nat.le_of_ble_eq_true rfl, Nat.le_of_ble_eq_true rfl⟩ rfl rfl (Nat.le_of_ble_eq_true rfl) dX9_interpolantSum_47 (fun H locs Z => ?_)
          clear hc10
          refine lv_imul hx hb dX9_interpolantSum_50 ?_
          refine lv_iadd hx hb dX9_interpolantSum_51 ?_
          refine lv_topi (fun x13 ex13 => ?_)
          have h11 := dlt_e ex13 h10
          clear ex13 h10
          refine lv_istore_n (lv' := [(2, .int x13), (0, .ref (X.2.1 20)), (1, .int a1), (3, .int x2)]) hx hb dX9_interpolantSum_52 rfl hl (by decide) rfl (fun ls hl => ?_)
          refine lv_iinc (v := x2 + (1 : Int32)) (lv' := [(3, .int (x2 + (1 : Int32))), (2, .int x13), (0, .ref (X.2.1 20)), (1, .int a1)]) hx hb dX9_interpolantSum_53 hl (k := 3) rfl (by rfl) (by decide) rfl (fun ls hl => ?_)
          refine lv_goto (tgt := 4) hx hb dX9_interpolantSum_56 (by decide) ?_
          exact ih4 x13 (x2 + (1 : Int32)) _ _ _ Z (lv_sub hl [2, 3, 1, 0] rfl) h11
  exact lL4 FU (0 : Int32) (0 : Int32) _ _ _ Z (lv_sub hl [2, 3, 1, 0] rfl) h0
theorem dX9_interpolantKind_0 : decode cX9_interpolantKind 0 = .ok (.iconst 2, 1) := by decide +kernel
theorem dX9_interpolantKind_1 : decode cX9_interpolantKind 1 = .ok (.istore_n 1, 1) := by decide +kernel
theorem dX9_interpolantKind_2 : decode cX9_interpolantKind 2 = .ok (.iconst 0, 1) := by decide +kernel
theorem dX9_interpolantKind_3 : decode cX9_interpolantKind 3 = .ok (.istore_n 2, 1) := by decide +kernel
theorem dX9_interpolantKind_4 : decode cX9_interpolantKind 4 = .ok (.iload_n 2, 1) := by decide +kernel
theorem dX9_interpolantKind_5 : decode cX9_interpolantKind 5 = .ok (.aload_n 0, 1) := by decide +kernel
theorem dX9_interpolantKind_6 : decode cX9_interpolantKind 6 = .ok (.getfield 25, 3) := by decide +kernel
theorem dX9_interpolantKind_9 : decode cX9_interpolantKind 9 = .ok (.if_icmp .ge 45, 3) := by decide +kernel
theorem dX9_interpolantKind_12 : decode cX9_interpolantKind 12 = .ok (.aload_n 0, 1) := by decide +kernel
theorem dX9_interpolantKind_13 : decode cX9_interpolantKind 13 = .ok (.getfield 21, 3) := by decide +kernel
theorem dX9_interpolantKind_16 : decode cX9_interpolantKind 16 = .ok (.aload_n 0, 1) := by decide +kernel
theorem dX9_interpolantKind_17 : decode cX9_interpolantKind 17 = .ok (.getfield 11, 3) := by decide +kernel
theorem dX9_interpolantKind_20 : decode cX9_interpolantKind 20 = .ok (.iload_n 2, 1) := by decide +kernel
theorem dX9_interpolantKind_21 : decode cX9_interpolantKind 21 = .ok (.iaload, 1) := by decide +kernel
theorem dX9_interpolantKind_22 : decode cX9_interpolantKind 22 = .ok (.iconst 5, 1) := by decide +kernel
theorem dX9_interpolantKind_23 : decode cX9_interpolantKind 23 = .ok (.invokevirtual 33, 3) := by decide +kernel
theorem dX9_interpolantKind_26 : decode cX9_interpolantKind 26 = .ok (.ifCond .ne 22, 3) := by decide +kernel
theorem dX9_interpolantKind_29 : decode cX9_interpolantKind 29 = .ok (.iload_n 1, 1) := by decide +kernel
theorem dX9_interpolantKind_30 : decode cX9_interpolantKind 30 = .ok (.aload_n 0, 1) := by decide +kernel
theorem dX9_interpolantKind_31 : decode cX9_interpolantKind 31 = .ok (.getfield 21, 3) := by decide +kernel
theorem dX9_interpolantKind_34 : decode cX9_interpolantKind 34 = .ok (.aload_n 0, 1) := by decide +kernel
theorem dX9_interpolantKind_35 : decode cX9_interpolantKind 35 = .ok (.getfield 11, 3) := by decide +kernel
theorem dX9_interpolantKind_38 : decode cX9_interpolantKind 38 = .ok (.iload_n 2, 1) := by decide +kernel
theorem dX9_interpolantKind_39 : decode cX9_interpolantKind 39 = .ok (.iaload, 1) := by decide +kernel
theorem dX9_interpolantKind_40 : decode cX9_interpolantKind 40 = .ok (.iconst 3, 1) := by decide +kernel
theorem dX9_interpolantKind_41 : decode cX9_interpolantKind 41 = .ok (.invokevirtual 33, 3) := by decide +kernel
theorem dX9_interpolantKind_44 : decode cX9_interpolantKind 44 = .ok (.invokestatic 63, 3) := by decide +kernel
theorem dX9_interpolantKind_47 : decode cX9_interpolantKind 47 = .ok (.istore_n 1, 1) := by decide +kernel
theorem dX9_interpolantKind_48 : decode cX9_interpolantKind 48 = .ok (.iinc 2 1, 3) := by decide +kernel
theorem dX9_interpolantKind_51 : decode cX9_interpolantKind 51 = .ok (.goto (-47), 3) := by decide +kernel
theorem dX9_interpolantKind_54 : decode cX9_interpolantKind 54 = .ok (.iload_n 1, 1) := by decide +kernel
theorem dX9_interpolantKind_55 : decode cX9_interpolantKind 55 = .ok (.ireturn, 1) := by decide +kernel
def rm_fWt_interpolantKind : Room := { frames := 3, cells := 0, slots := 0, locals := 104 }
set_option maxHeartbeats 4000000 in
set_option maxRecDepth 100000 in
theorem c_fWt_interpolantKind (l : Launch) (X : eX) (sz : Nat)  (σ : sT) (rz : Int32) (h0 : fWt_interpolantKind σ = some rz) : ctI l yX9_interpolantKind cX9_interpolantKind 3 (some .int) rm_fWt_interpolantKind [.ref (X.2.1 20)] (wC X) (tC X) (aC X) X sz σ rz σ := by
  refine ct_of (by decide +kernel) (Nat.le_of_ble_eq_true rfl) ?_
  intro p e s m args below meth c ls hz B hl Z
  have B : Bd p s m args meth c RX9 cX9_interpolantKind 3 (some .int) := B
  have hl : lv_has ls 3 [(0, .ref (X.2.1 20))] := hl
  have hx := B.1
  have hb := B.2.1
  unfold fWt_interpolantKind at h0
  refine lv_iconst (v := (2 : Int32)) hx hb dX9_interpolantKind_0 (by decide) ?_
  refine lv_istore_n (lv' := [(1, .int (2 : Int32)), (0, .ref (X.2.1 20))]) hx hb dX9_interpolantKind_1 rfl hl (by decide) rfl (fun ls hl => ?_)
  refine lv_iconst (v := (0 : Int32)) hx hb dX9_interpolantKind_2 (by decide) ?_
  refine lv_istore_n (lv' := [(2, .int (0 : Int32)), (1, .int (2 : Int32)), (0, .ref (X.2.1 20))]) hx hb dX9_interpolantKind_3 rfl hl (by decide) rfl (fun ls hl => ?_)
  have lL4 : ∀ (n : Nat), ∀ (x1 : Int32) (x2 : Int32) (H : Heap) (locs : List Loc) (ls : Array Slot), Wd (wC X) (tC X) (aC X) X s σ H locs → lv_has ls 3 [(0, .ref (X.2.1 20)), (1, .int x1), (2, .int x2)] → fWt_interpolantKind_L4 σ n x1 x2 = some rz → W p l e rm_fWt_interpolantKind s m args below meth c H locs 0 0 (MQ below (va_Qi (fun a u => a = rz ∧ u = σ) (poW (wC X) (tC X) (aC X) X sz) (aA (aC X) sz)) args s 0 0 (aA (aC X) sz)) (F0 m 4 ls []) := by
    intro n
    induction n with
    | zero =>
      intro x1 x2 H locs ls Z hl h
      exact nomatch (show (none : Option (Int32)) = some _ from h)
    | succ n3 ih4 =>
      intro x1 x2 H locs ls Z hl h1
      unfold fWt_interpolantKind_L4 at h1
      refine lv_iload_n hx hb dX9_interpolantKind_4 rfl (lv_at hl 2 rfl) ?_
      refine lv_aload_n hx hb dX9_interpolantKind_5 rfl (lv_at hl 0 rfl) ?_
      refine g_20_4 B Z kf_RX9_25 dX9_interpolantKind_6 ?_
      refine lv_icmp_ge (tgt := 54) hx hb dX9_interpolantKind_9 (by decide) (fun c4 => ?_) (fun c4 => ?_)
      · have h2 := dit h1 c4
        clear h1
        refine lv_iload_n hx hb dX9_interpolantKind_54 rfl (lv_at hl 1 rfl) ?_
        exact reI B Z rfl hz (congrArg (Option.map (fun q => (q, σ))) h2) dX9_interpolantKind_55
      · have h3 := dif h1 c4
        clear h1
        refine lv_aload_n hx hb dX9_interpolantKind_12 rfl (lv_at hl 0 rfl) ?_
        refine g_20_0 B Z kf_RX9_21 dX9_interpolantKind_13 ?_
        refine lv_aload_n hx hb dX9_interpolantKind_16 rfl (lv_at hl 0 rfl) ?_
        refine g_20_1 B Z kf_RX9_11 dX9_interpolantKind_17 ?_
        refine lv_iload_n hx hb dX9_interpolantKind_20 rfl (lv_at hl 2 rfl) ?_
        obtain ⟨z5, h4⟩ := dck_s h3
        clear h3
        refine ld_21 B Z z5 dX9_interpolantKind_21 ?_
        refine lv_iconst (v := (5 : Int32)) hx hb dX9_interpolantKind_22 (by decide) ?_
        obtain ⟨r7, hc5, h5⟩ := db1_s h4
        clear h4
        refine cV_I [.int (σ.1 21 x2.toNatClampNeg), .int (5 : Int32)] [] B mx_yX0_get (c_fBk_get l X _ (σ.1 21 x2.toNatClampNeg) (5 : Int32) σ r7 hc5) kl_RX9_33 mi_yX0_get (rv_1 _ _) hcl_0 Z hl rfl rfl ⟨Nat.le_of_ble_eq_true rfl, Nat.le_of_ble_eq_true rfl⟩ rfl rfl (Nat.le_of_ble_eq_true rfl) dX9_interpolantKind_23 (fun H locs Z => ?_)
        clear hc5
        refine lv_if_ne (tgt := 48) hx hb dX9_interpolantKind_26 (by decide) (fun c8 => ?_) (fun c8 => ?_)
        · have h6 := dif h5 c8
          clear h5
          refine lv_iinc (v := x2 + (1 : Int32)) (lv' := [(2, .int (x2 + (1 : Int32))), (0, .ref (X.2.1 20)), (1, .int x1)]) hx hb dX9_interpolantKind_48 hl (k := 2) rfl (by rfl) (by decide) rfl (fun ls hl => ?_)
          refine lv_goto (tgt := 4) hx hb dX9_interpolantKind_51 (by decide) ?_
          exact ih4 x1 (x2 + (1 : Int32)) _ _ _ Z (lv_sub hl [1, 2, 0] rfl) h6
        · have h7 := dit h5 c8
          clear h5
          refine lv_iload_n hx hb dX9_interpolantKind_29 rfl (lv_at hl 1 rfl) ?_
          refine lv_aload_n hx hb dX9_interpolantKind_30 rfl (lv_at hl 0 rfl) ?_
          refine g_20_0 B Z kf_RX9_21 dX9_interpolantKind_31 ?_
          refine lv_aload_n hx hb dX9_interpolantKind_34 rfl (lv_at hl 0 rfl) ?_
          refine g_20_1 B Z kf_RX9_11 dX9_interpolantKind_35 ?_
          refine lv_iload_n hx hb dX9_interpolantKind_38 rfl (lv_at hl 2 rfl) ?_
          obtain ⟨z9, h8⟩ := dck_s h7
          clear h7
          refine ld_21 B Z z9 dX9_interpolantKind_39 ?_
          refine lv_iconst (v := (3 : Int32)) hx hb dX9_interpolantKind_40 (by decide) ?_
          obtain ⟨r11, hc9, h9⟩ := db1_s h8
          clear h8
          refine cV_I [.int (σ.1 21 x2.toNatClampNeg), .int (3 : Int32)] [.int x1] B mx_yX0_get (c_fBk_get l X _ (σ.1 21 x2.toNatClampNeg) (3 : Int32) σ r11 hc9) kl_RX9_33 mi_yX0_get (rv_1 _ _) hcl_0 Z hl rfl rfl ⟨Nat.le_of_ble_eq_true rfl, Nat.le_of_ble_eq_true rfl⟩ rfl rfl (Nat.le_of_ble_eq_true rfl) dX9_interpolantKind_41 (fun H locs Z => ?_)
          clear hc9
          refine va_mmin hx hb (B.2.2.1.trans hl.1.symm) B.2.2.2.1 (B.2.2.2.2.1 _ kl_RX9_63) (B.2.2.2.2.1 _ ks_Jmin) (B.2.2.2.2.1 _ kz_RJ9) (B.2.2.2.2.1 _ kd_Jmin) (Nat.le_of_ble_eq_true rfl) (Nat.le_of_ble_eq_true rfl) (Nat.zero_le _) (Nat.zero_le _) dX9_interpolantKind_44 ?_
          refine lv_topi (fun x12 ex12 => ?_)
          have h10 := dlt_e ex12 h9
          clear ex12 h9
          refine lv_istore_n (lv' := [(1, .int x12), (0, .ref (X.2.1 20)), (2, .int x2)]) hx hb dX9_interpolantKind_47 rfl hl (by decide) rfl (fun ls hl => ?_)
          refine lv_iinc (v := x2 + (1 : Int32)) (lv' := [(2, .int (x2 + (1 : Int32))), (1, .int x12), (0, .ref (X.2.1 20))]) hx hb dX9_interpolantKind_48 hl (k := 2) rfl (by rfl) (by decide) rfl (fun ls hl => ?_)
          refine lv_goto (tgt := 4) hx hb dX9_interpolantKind_51 (by decide) ?_
          exact ih4 x12 (x2 + (1 : Int32)) _ _ _ Z (lv_sub hl [2, 1, 0] rfl) h10
  exact lL4 FU (2 : Int32) (0 : Int32) _ _ _ Z (lv_sub hl [2, 1, 0] rfl) h0
theorem dX11_between_0 : decode cX11_between 0 = .ok (.iload_n 1, 1) := by decide +kernel
theorem dX11_between_1 : decode cX11_between 1 = .ok (.iconst 0, 1) := by decide +kernel
theorem dX11_between_2 : decode cX11_between 2 = .ok (.iconst 4, 1) := by decide +kernel
theorem dX11_between_3 : decode cX11_between 3 = .ok (.invokestatic 106, 3) := by decide +kernel
theorem dX11_between_6 : decode cX11_between 6 = .ok (.ifCond .ne 8, 3) := by decide +kernel
theorem dX11_between_9 : decode cX11_between 9 = .ok (.aload_n 0, 1) := by decide +kernel
theorem dX11_between_10 : decode cX11_between 10 = .ok (.invokevirtual 77, 3) := by decide +kernel
theorem dX11_between_13 : decode cX11_between 13 = .ok (.ireturn, 1) := by decide +kernel
theorem dX11_between_14 : decode cX11_between 14 = .ok (.aload_n 0, 1) := by decide +kernel
theorem dX11_between_15 : decode cX11_between 15 = .ok (.getfield 21, 3) := by decide +kernel
theorem dX11_between_18 : decode cX11_between 18 = .ok (.aload_n 0, 1) := by decide +kernel
theorem dX11_between_19 : decode cX11_between 19 = .ok (.getfield 10, 3) := by decide +kernel
theorem dX11_between_22 : decode cX11_between 22 = .ok (.invokevirtual 173, 3) := by decide +kernel
theorem dX11_between_25 : decode cX11_between 25 = .ok (.invokevirtual 121, 3) := by decide +kernel
theorem dX11_between_28 : decode cX11_between 28 = .ok (.ifCond .eq 8, 3) := by decide +kernel
theorem dX11_between_31 : decode cX11_between 31 = .ok (.aload_n 0, 1) := by decide +kernel
theorem dX11_between_32 : decode cX11_between 32 = .ok (.invokevirtual 124, 3) := by decide +kernel
theorem dX11_between_35 : decode cX11_between 35 = .ok (.ireturn, 1) := by decide +kernel
theorem dX11_between_36 : decode cX11_between 36 = .ok (.aload_n 0, 1) := by decide +kernel
theorem dX11_between_37 : decode cX11_between 37 = .ok (.getfield 28, 3) := by decide +kernel
theorem dX11_between_40 : decode cX11_between 40 = .ok (.aload_n 0, 1) := by decide +kernel
theorem dX11_between_41 : decode cX11_between 41 = .ok (.getfield 21, 3) := by decide +kernel
theorem dX11_between_44 : decode cX11_between 44 = .ok (.aload_n 0, 1) := by decide +kernel
theorem dX11_between_45 : decode cX11_between 45 = .ok (.getfield 10, 3) := by decide +kernel
theorem dX11_between_48 : decode cX11_between 48 = .ok (.invokevirtual 173, 3) := by decide +kernel
theorem dX11_between_51 : decode cX11_between 51 = .ok (.invokevirtual 164, 3) := by decide +kernel
theorem dX11_between_54 : decode cX11_between 54 = .ok (.invokevirtual 167, 3) := by decide +kernel
theorem dX11_between_57 : decode cX11_between 57 = .ok (.iload_n 1, 1) := by decide +kernel
theorem dX11_between_58 : decode cX11_between 58 = .ok (.iconst 3, 1) := by decide +kernel
theorem dX11_between_59 : decode cX11_between 59 = .ok (.if_icmp .ne 13, 3) := by decide +kernel
theorem dX11_between_62 : decode cX11_between 62 = .ok (.aload_n 0, 1) := by decide +kernel
theorem dX11_between_63 : decode cX11_between 63 = .ok (.getfield 28, 3) := by decide +kernel
theorem dX11_between_66 : decode cX11_between 66 = .ok (.invokevirtual 176, 3) := by decide +kernel
theorem dX11_between_69 : decode cX11_between 69 = .ok (.goto 11, 3) := by decide +kernel
theorem dX11_between_72 : decode cX11_between 72 = .ok (.aload_n 0, 1) := by decide +kernel
theorem dX11_between_73 : decode cX11_between 73 = .ok (.getfield 28, 3) := by decide +kernel
theorem dX11_between_76 : decode cX11_between 76 = .ok (.iload_n 1, 1) := by decide +kernel
theorem dX11_between_77 : decode cX11_between 77 = .ok (.invokevirtual 179, 3) := by decide +kernel
theorem dX11_between_80 : decode cX11_between 80 = .ok (.ireturn, 1) := by decide +kernel
def rm_fRM_between : Room := { frames := 8, cells := 0, slots := 0, locals := 253 }
set_option maxHeartbeats 4000000 in
set_option maxRecDepth 100000 in
theorem c_fRM_between (l : Launch) (X : eX) (sz : Nat) (a1 : Int32) (σ : sT) (rz : Int32) (σz : sT) (h0 : fRM_between a1 σ = some (rz, σz)) : ctI l yX11_between cX11_between 2 (some .int) rm_fRM_between [.ref (X.2.1 0), .int a1] (wC X) (tC X) (aC X) X sz σ rz σz := by
  refine ct_of (by decide +kernel) (Nat.le_of_ble_eq_true rfl) ?_
  intro p e s m args below meth c ls hz B hl Z
  have B : Bd p s m args meth c RX11 cX11_between 2 (some .int) := B
  have hl : lv_has ls 2 [(0, .ref (X.2.1 0)), (1, .int a1)] := hl
  have hx := B.1
  have hb := B.2.1
  unfold fRM_between at h0
  refine lv_iload_n hx hb dX11_between_0 rfl (lv_at hl 1 rfl) ?_
  refine lv_iconst (v := (0 : Int32)) hx hb dX11_between_1 (by decide) ?_
  refine lv_iconst (v := (4 : Int32)) hx hb dX11_between_2 (by decide) ?_
  obtain ⟨r2, hc0, h1⟩ := db1_s h0
  clear h0
  refine cS_I [.int a1, .int (0 : Int32), .int (4 : Int32)] [] B mx_yX11_isWithin (c_fRM_isWithin l X _ a1 (0 : Int32) (4 : Int32) σ r2 hc0) kl_RX11_106 ks_yX11_isWithin Z hl rfl rfl ⟨Nat.le_of_ble_eq_true rfl, Nat.le_of_ble_eq_true rfl⟩ rfl rfl (Nat.le_of_ble_eq_true rfl) dX11_between_3 (fun H locs Z => ?_)
  clear hc0
  refine lv_if_ne (tgt := 14) hx hb dX11_between_6 (by decide) (fun c3 => ?_) (fun c3 => ?_)
  · have h2 := dif h1 c3
    clear h1
    refine lv_aload_n hx hb dX11_between_14 rfl (lv_at hl 0 rfl) ?_
    refine g_0_1 B Z kf_RX11_21 dX11_between_15 ?_
    refine lv_aload_n hx hb dX11_between_18 rfl (lv_at hl 0 rfl) ?_
    refine g_0_0 B Z kf_RX11_10 dX11_between_19 ?_
    obtain ⟨r5, hc3, h3⟩ := db1_s h2
    clear h2
    refine cV_I [] [.ref (X.2.1 5)] B mx_yX0_every (c_fBk_every l X _ σ r5 hc3) kl_RX11_173 mi_yX0_every (rv_1 _ _) hcl_0 Z hl rfl rfl ⟨Nat.le_of_ble_eq_true rfl, Nat.le_of_ble_eq_true rfl⟩ rfl rfl (Nat.le_of_ble_eq_true rfl) dX11_between_22 (fun H locs Z => ?_)
    clear hc3
    obtain ⟨r7, σ8, hc5, h4⟩ := db2_s h3
    clear h3
    refine cV_I [.int r5] [] B mx_yX7_isSatisfiable (c_fSo_isSatisfiable l X _ r5 σ r7 σ8 hc5) kl_RX11_121 mi_yX7_isSatisfiable (rv_5 _ _) hcl_7 Z hl rfl rfl ⟨Nat.le_of_ble_eq_true rfl, Nat.le_of_ble_eq_true rfl⟩ rfl rfl (Nat.le_of_ble_eq_true rfl) dX11_between_25 (fun H locs Z => ?_)
    clear hc5
    refine lv_if_eq (tgt := 36) hx hb dX11_between_28 (by decide) (fun c9 => ?_) (fun c9 => ?_)
    · have h5 := dit h4 c9
      clear h4
      refine lv_aload_n hx hb dX11_between_36 rfl (lv_at hl 0 rfl) ?_
      refine g_0_2 B Z kf_RX11_28 dX11_between_37 ?_
      refine lv_aload_n hx hb dX11_between_40 rfl (lv_at hl 0 rfl) ?_
      refine g_0_1 B Z kf_RX11_21 dX11_between_41 ?_
      refine lv_aload_n hx hb dX11_between_44 rfl (lv_at hl 0 rfl) ?_
      refine g_0_0 B Z kf_RX11_10 dX11_between_45 ?_
      obtain ⟨r11, hc9, h6⟩ := db1_s h5
      clear h5
      refine cV_I [] [.ref (X.2.1 5), .ref (X.2.1 20)] B mx_yX0_every (c_fBk_every l X _ σ8 r11 hc9) kl_RX11_173 mi_yX0_every (rv_1 _ _) hcl_0 Z hl rfl rfl ⟨Nat.le_of_ble_eq_true rfl, Nat.le_of_ble_eq_true rfl⟩ rfl rfl (Nat.le_of_ble_eq_true rfl) dX11_between_48 (fun H locs Z => ?_)
      clear hc9
      obtain ⟨r13, σ14, hc11, h7⟩ := db2_s h6
      clear h6
      refine cV_I [.int r11] [.ref (X.2.1 20)] B mx_yX7_coreOf (c_fSo_coreOf l X _ r11 σ8 r13 σ14 hc11) kl_RX11_164 mi_yX7_coreOf (rv_5 _ _) hcl_7 Z hl rfl rfl ⟨Nat.le_of_ble_eq_true rfl, Nat.le_of_ble_eq_true rfl⟩ rfl rfl (Nat.le_of_ble_eq_true rfl) dX11_between_51 (fun H locs Z => ?_)
      clear hc11
      obtain ⟨σ16, hc14, h8⟩ := db1_s h7
      clear h7
      refine cV_V [.int r13] [] B mx_yX9_find (c_fWt_find l X _ r13 σ14 σ16 hc14) kl_RX11_167 mi_yX9_find (rv_20 _ _) hcl_9 Z hl rfl rfl ⟨Nat.le_of_ble_eq_true rfl, Nat.le_of_ble_eq_true rfl⟩ rfl rfl (Nat.le_of_ble_eq_true rfl) dX11_between_54 (fun H locs Z => ?_)
      clear hc14
      refine lv_iload_n hx hb dX11_between_57 rfl (lv_at hl 1 rfl) ?_
      refine lv_iconst (v := (3 : Int32)) hx hb dX11_between_58 (by decide) ?_
      refine lv_icmp_ne (tgt := 72) hx hb dX11_between_59 (by decide) (fun c17 => ?_) (fun c17 => ?_)
      · have h9 := dif h8 c17
        clear h8
        refine lv_aload_n hx hb dX11_between_72 rfl (lv_at hl 0 rfl) ?_
        refine g_0_2 B Z kf_RX11_28 dX11_between_73 ?_
        refine lv_iload_n hx hb dX11_between_76 rfl (lv_at hl 1 rfl) ?_
        obtain ⟨r19, hc17, h10⟩ := db1_s h9
        clear h9
        refine cV_I [.int a1] [] B mx_yX9_interpolantSum (c_fWt_interpolantSum l X _ a1 σ16 r19 hc17) kl_RX11_179 mi_yX9_interpolantSum (rv_20 _ _) hcl_9 Z hl rfl rfl ⟨Nat.le_of_ble_eq_true rfl, Nat.le_of_ble_eq_true rfl⟩ rfl rfl (Nat.le_of_ble_eq_true rfl) dX11_between_77 (fun H locs Z => ?_)
        clear hc17
        exact reI B Z rfl hz h10 dX11_between_80
      · have h11 := dit h8 c17
        clear h8
        refine lv_aload_n hx hb dX11_between_62 rfl (lv_at hl 0 rfl) ?_
        refine g_0_2 B Z kf_RX11_28 dX11_between_63 ?_
        obtain ⟨r21, hc19, h12⟩ := db1_s h11
        clear h11
        refine cV_I [] [] B mx_yX9_interpolantKind (c_fWt_interpolantKind l X _ σ16 r21 hc19) kl_RX11_176 mi_yX9_interpolantKind (rv_20 _ _) hcl_9 Z hl rfl rfl ⟨Nat.le_of_ble_eq_true rfl, Nat.le_of_ble_eq_true rfl⟩ rfl rfl (Nat.le_of_ble_eq_true rfl) dX11_between_66 (fun H locs Z => ?_)
        clear hc19
        refine lv_goto (tgt := 80) hx hb dX11_between_69 (by decide) ?_
        exact reI B Z rfl hz h12 dX11_between_80
    · have h13 := dif h4 c9
      clear h4
      refine lv_aload_n hx hb dX11_between_31 rfl (lv_at hl 0 rfl) ?_
      obtain ⟨r23, σ24, hc21, h14⟩ := db2_s h13
      clear h13
      refine cV_I [] [] B mx_yX11_no (c_fRM_no l X _ σ8 r23 σ24 hc21) kl_RX11_124 mi_yX11_no (rv_0 _ _) hcl_11 Z hl rfl rfl ⟨Nat.le_of_ble_eq_true rfl, Nat.le_of_ble_eq_true rfl⟩ rfl rfl (Nat.le_of_ble_eq_true rfl) dX11_between_32 (fun H locs Z => ?_)
      clear hc21
      exact reI B Z rfl hz h14 dX11_between_35
  · have h15 := dit h1 c3
    clear h1
    refine lv_aload_n hx hb dX11_between_9 rfl (lv_at hl 0 rfl) ?_
    obtain ⟨r26, σ27, hc24, h16⟩ := db2_s h15
    clear h15
    refine cV_I [] [] B mx_yX11_bad (c_fRM_bad l X _ σ r26 σ27 hc24) kl_RX11_77 mi_yX11_bad (rv_0 _ _) hcl_11 Z hl rfl rfl ⟨Nat.le_of_ble_eq_true rfl, Nat.le_of_ble_eq_true rfl⟩ rfl rfl (Nat.le_of_ble_eq_true rfl) dX11_between_10 (fun H locs Z => ?_)
    clear hc24
    exact reI B Z rfl hz h16 dX11_between_13
theorem dX6_forget_0 : decode cX6_forget 0 = .ok (.aload_n 0, 1) := by decide +kernel
theorem dX6_forget_1 : decode cX6_forget 1 = .ok (.iconst 0, 1) := by decide +kernel
theorem dX6_forget_2 : decode cX6_forget 2 = .ok (.putfield 23, 3) := by decide +kernel
theorem dX6_forget_5 : decode cX6_forget 5 = .ok (.return_, 1) := by decide +kernel
def rm_fSg_forget : Room := { frames := 1, cells := 0, slots := 0, locals := 60 }
set_option maxHeartbeats 4000000 in
set_option maxRecDepth 100000 in
theorem c_fSg_forget (l : Launch) (X : eX) (sz : Nat)  (σ : sT) (σz : sT) (h0 : fSg_forget σ = some σz) : ctV l yX6_forget cX6_forget 1 none rm_fSg_forget [.ref (X.2.1 24)] (wC X) (tC X) (aC X) X sz σ σz := by
  refine ct_of (by decide +kernel) (Nat.le_of_ble_eq_true rfl) ?_
  intro p e s m args below meth c ls hz B hl Z
  have B : Bd p s m args meth c RX6 cX6_forget 1 none := B
  have hl : lv_has ls 1 [(0, .ref (X.2.1 24))] := hl
  have hx := B.1
  have hb := B.2.1
  unfold fSg_forget at h0
  refine lv_aload_n hx hb dX6_forget_0 rfl (lv_at hl 0 rfl) ?_
  refine lv_iconst (v := (0 : Int32)) hx hb dX6_forget_1 (by decide) ?_
  refine s_24_3 B Z kf_RX6_23 dX6_forget_2 (fun H locs Z => ?_)
  obtain ⟨σ1, eσ1, h1⟩ := dlt_s h0
  clear h0
  replace Z := Wd.eq eσ1 Z
  clear eσ1
  exact reV B Z hz h1 dX6_forget_5
theorem dX7_begin_0 : decode cX7_begin 0 = .ok (.aload_n 0, 1) := by decide +kernel
theorem dX7_begin_1 : decode cX7_begin 1 = .ok (.getfield 16, 3) := by decide +kernel
theorem dX7_begin_4 : decode cX7_begin 4 = .ok (.invokevirtual 54, 3) := by decide +kernel
theorem dX7_begin_7 : decode cX7_begin 7 = .ok (.return_, 1) := by decide +kernel
def rm_fSo_begin : Room := { frames := 2, cells := 0, slots := 0, locals := 80 }
set_option maxHeartbeats 4000000 in
set_option maxRecDepth 100000 in
theorem c_fSo_begin (l : Launch) (X : eX) (sz : Nat)  (σ : sT) (σz : sT) (h0 : fSo_begin σ = some σz) : ctV l yX7_begin cX7_begin 1 none rm_fSo_begin [.ref (X.2.1 5)] (wC X) (tC X) (aC X) X sz σ σz := by
  refine ct_of (by decide +kernel) (Nat.le_of_ble_eq_true rfl) ?_
  intro p e s m args below meth c ls hz B hl Z
  have B : Bd p s m args meth c RX7 cX7_begin 1 none := B
  have hl : lv_has ls 1 [(0, .ref (X.2.1 5))] := hl
  have hx := B.1
  have hb := B.2.1
  unfold fSo_begin at h0
  refine lv_aload_n hx hb dX7_begin_0 rfl (lv_at hl 0 rfl) ?_
  refine g_5_1 B Z kf_RX7_16 dX7_begin_1 ?_
  obtain ⟨σ2, hc0, h1⟩ := db1_s h0
  clear h0
  refine cV_V [] [] B mx_yX4_empty (c_fRw_empty_6 l X _ σ σ2 hc0) kl_RX7_54 mi_yX4_empty (rv_6 _ _) hcl_4 Z hl rfl rfl ⟨Nat.le_of_ble_eq_true rfl, Nat.le_of_ble_eq_true rfl⟩ rfl rfl (Nat.le_of_ble_eq_true rfl) dX7_begin_4 (fun H locs Z => ?_)
  clear hc0
  exact reV B Z hz h1 dX7_begin_7
theorem dX7_mark_0 : decode cX7_mark 0 = .ok (.aload_n 0, 1) := by decide +kernel
theorem dX7_mark_1 : decode cX7_mark 1 = .ok (.getfield 16, 3) := by decide +kernel
theorem dX7_mark_4 : decode cX7_mark 4 = .ok (.getfield 57, 3) := by decide +kernel
theorem dX7_mark_7 : decode cX7_mark 7 = .ok (.ireturn, 1) := by decide +kernel
def rm_fSo_mark : Room := { frames := 1, cells := 0, slots := 0, locals := 60 }
set_option maxHeartbeats 4000000 in
set_option maxRecDepth 100000 in
theorem c_fSo_mark (l : Launch) (X : eX) (sz : Nat)  (σ : sT) (rz : Int32) (h0 : fSo_mark σ = some rz) : ctI l yX7_mark cX7_mark 1 (some .int) rm_fSo_mark [.ref (X.2.1 5)] (wC X) (tC X) (aC X) X sz σ rz σ := by
  refine ct_of (by decide +kernel) (Nat.le_of_ble_eq_true rfl) ?_
  intro p e s m args below meth c ls hz B hl Z
  have B : Bd p s m args meth c RX7 cX7_mark 1 (some .int) := B
  have hl : lv_has ls 1 [(0, .ref (X.2.1 5))] := hl
  have hx := B.1
  have hb := B.2.1
  unfold fSo_mark at h0
  refine lv_aload_n hx hb dX7_mark_0 rfl (lv_at hl 0 rfl) ?_
  refine g_5_1 B Z kf_RX7_16 dX7_mark_1 ?_
  refine gn_6_2 B Z kx_RX7_57 dX7_mark_4 ?_
  exact reI B Z rfl hz (congrArg (Option.map (fun q => (q, σ))) h0) dX7_mark_7
theorem dX7_takesSign_0 : decode cX7_takesSign 0 = .ok (.aload_n 0, 1) := by decide +kernel
theorem dX7_takesSign_1 : decode cX7_takesSign 1 = .ok (.iload_n 1, 1) := by decide +kernel
theorem dX7_takesSign_2 : decode cX7_takesSign 2 = .ok (.iload_n 2, 1) := by decide +kernel
theorem dX7_takesSign_3 : decode cX7_takesSign 3 = .ok (.ifCond .le 7, 3) := by decide +kernel
theorem dX7_takesSign_6 : decode cX7_takesSign 6 = .ok (.iconst (-1), 1) := by decide +kernel
theorem dX7_takesSign_7 : decode cX7_takesSign 7 = .ok (.goto 4, 3) := by decide +kernel
theorem dX7_takesSign_10 : decode cX7_takesSign 10 = .ok (.iconst 1, 1) := by decide +kernel
theorem dX7_takesSign_11 : decode cX7_takesSign 11 = .ok (.iload_n 2, 1) := by decide +kernel
theorem dX7_takesSign_12 : decode cX7_takesSign 12 = .ok (.ifCond .ne 7, 3) := by decide +kernel
theorem dX7_takesSign_15 : decode cX7_takesSign 15 = .ok (.iconst 2, 1) := by decide +kernel
theorem dX7_takesSign_16 : decode cX7_takesSign 16 = .ok (.goto 4, 3) := by decide +kernel
theorem dX7_takesSign_19 : decode cX7_takesSign 19 = .ok (.iconst 0, 1) := by decide +kernel
theorem dX7_takesSign_20 : decode cX7_takesSign 20 = .ok (.invokevirtual 83, 3) := by decide +kernel
theorem dX7_takesSign_23 : decode cX7_takesSign 23 = .ok (.aload_n 0, 1) := by decide +kernel
theorem dX7_takesSign_24 : decode cX7_takesSign 24 = .ok (.iconst 0, 1) := by decide +kernel
theorem dX7_takesSign_25 : decode cX7_takesSign 25 = .ok (.invokevirtual 115, 3) := by decide +kernel
theorem dX7_takesSign_28 : decode cX7_takesSign 28 = .ok (.ireturn, 1) := by decide +kernel
def rm_fSo_takesSign : Room := { frames := 6, cells := 0, slots := 0, locals := 207 }
set_option maxHeartbeats 4000000 in
set_option maxRecDepth 100000 in
theorem c_fSo_takesSign (l : Launch) (X : eX) (sz : Nat) (a1 : Int32) (a2 : Int32) (σ : sT) (rz : Int32) (σz : sT) (h0 : fSo_takesSign a1 a2 σ = some (rz, σz)) : ctI l yX7_takesSign cX7_takesSign 3 (some .boolean) rm_fSo_takesSign [.ref (X.2.1 5), .int a1, .int a2] (wC X) (tC X) (aC X) X sz σ rz σz := by
  refine ct_of (by decide +kernel) (Nat.le_of_ble_eq_true rfl) ?_
  intro p e s m args below meth c ls hz B hl Z
  have B : Bd p s m args meth c RX7 cX7_takesSign 3 (some .boolean) := B
  have hl : lv_has ls 3 [(0, .ref (X.2.1 5)), (1, .int a1), (2, .int a2)] := hl
  have hx := B.1
  have hb := B.2.1
  unfold fSo_takesSign at h0
  refine lv_aload_n hx hb dX7_takesSign_0 rfl (lv_at hl 0 rfl) ?_
  refine lv_iload_n hx hb dX7_takesSign_1 rfl (lv_at hl 1 rfl) ?_
  refine lv_iload_n hx hb dX7_takesSign_2 rfl (lv_at hl 2 rfl) ?_
  obtain ⟨J3, eJ3, h9⟩ := dlt_s h0
  clear h0
  have kJ3 : ∀ (x1 : Int32) (x2 : Int32) (H : Heap) (locs : List Loc) (ls : Array Slot), Wd (wC X) (tC X) (aC X) X s σ H locs → lv_has ls 3 [(0, .ref (X.2.1 5)), (2, .int a2)] → J3 x1 x2 = some (rz, σz) → W p l e rm_fSo_takesSign s m args below meth c H locs 0 0 (MQ below (va_Qi (fun a u => a = rz ∧ u = σz) (poW (wC X) (tC X) (aC X) X sz) (aA (aC X) sz)) args s 0 0 (aA (aC X) sz)) (F0 m 11 ls [.int x2, .int x1, .ref (X.2.1 5)]) := by
    intro x1 x2 H locs ls Z hl h1
    rw [eJ3] at h1
    refine lv_iload_n hx hb dX7_takesSign_11 rfl (lv_at hl 1 rfl) ?_
    obtain ⟨J7, eJ7, h6⟩ := dlt_s h1
    clear h1
    have kJ7 : ∀ (x4 : Int32) (x5 : Int32) (x6 : Int32) (H : Heap) (locs : List Loc) (ls : Array Slot), Wd (wC X) (tC X) (aC X) X s σ H locs → lv_has ls 3 [(0, .ref (X.2.1 5))] → J7 x4 x5 x6 = some (rz, σz) → W p l e rm_fSo_takesSign s m args below meth c H locs 0 0 (MQ below (va_Qi (fun a u => a = rz ∧ u = σz) (poW (wC X) (tC X) (aC X) X sz) (aA (aC X) sz)) args s 0 0 (aA (aC X) sz)) (F0 m 20 ls [.int x6, .int x5, .int x4, .ref (X.2.1 5)]) := by
      intro x4 x5 x6 H locs ls Z hl h2
      rw [eJ7] at h2
      obtain ⟨σ9, hc7, h3⟩ := db1_s h2
      clear h2
      refine cV_V [.int x4, .int x5, .int x6] [] B mx_yX7_keep (c_fSo_keep l X _ x4 x5 x6 σ σ9 hc7) kl_RX7_83 mi_yX7_keep (rv_5 _ _) hcl_7 Z hl rfl rfl ⟨Nat.le_of_ble_eq_true rfl, Nat.le_of_ble_eq_true rfl⟩ rfl rfl (Nat.le_of_ble_eq_true rfl) dX7_takesSign_20 (fun H locs Z => ?_)
      clear hc7
      refine lv_aload_n hx hb dX7_takesSign_23 rfl (lv_at hl 0 rfl) ?_
      refine lv_iconst (v := (0 : Int32)) hx hb dX7_takesSign_24 (by decide) ?_
      obtain ⟨r11, σ12, hc9, h4⟩ := db2_s h3
      clear h3
      refine cV_I [.int (0 : Int32)] [] B mx_yX7_narrow (c_fSo_narrow l X _ (0 : Int32) σ9 r11 σ12 hc9) kl_RX7_115 mi_yX7_narrow (rv_5 _ _) hcl_7 Z hl rfl rfl ⟨Nat.le_of_ble_eq_true rfl, Nat.le_of_ble_eq_true rfl⟩ rfl rfl (Nat.le_of_ble_eq_true rfl) dX7_takesSign_25 (fun H locs Z => ?_)
      clear hc9
      obtain ⟨z13, h5⟩ := dck_s h4
      clear h4
      exact reI B Z (okZ_n z13) hz h5 dX7_takesSign_28
    clear eJ7
    refine lv_if_ne (tgt := 19) hx hb dX7_takesSign_12 (by decide) (fun c14 => ?_) (fun c14 => ?_)
    · have h7 := dif h6 c14
      clear h6
      refine lv_iconst (v := (0 : Int32)) hx hb dX7_takesSign_19 (by decide) ?_
      exact kJ7 x1 x2 (0 : Int32) _ _ _ Z (lv_sub hl [0] rfl) h7
    · have h8 := dit h6 c14
      clear h6
      refine lv_iconst (v := (2 : Int32)) hx hb dX7_takesSign_15 (by decide) ?_
      refine lv_goto (tgt := 20) hx hb dX7_takesSign_16 (by decide) ?_
      exact kJ7 x1 x2 (2 : Int32) _ _ _ Z (lv_sub hl [0] rfl) h8
  clear eJ3
  refine lv_if_le (tgt := 10) hx hb dX7_takesSign_3 (by decide) (fun c15 => ?_) (fun c15 => ?_)
  · have h10 := dit h9 c15
    clear h9
    refine lv_iconst (v := (1 : Int32)) hx hb dX7_takesSign_10 (by decide) ?_
    exact kJ3 a1 (1 : Int32) _ _ _ Z (lv_sub hl [0, 2] rfl) h10
  · have h11 := dif h9 c15
    clear h9
    refine lv_iconst (v := (-1 : Int32)) hx hb dX7_takesSign_6 (by decide) ?_
    refine lv_goto (tgt := 11) hx hb dX7_takesSign_7 (by decide) ?_
    exact kJ3 a1 (-1 : Int32) _ _ _ Z (lv_sub hl [0, 2] rfl) h11
theorem dX7_returnTo_0 : decode cX7_returnTo 0 = .ok (.aload_n 0, 1) := by decide +kernel
theorem dX7_returnTo_1 : decode cX7_returnTo 1 = .ok (.getfield 16, 3) := by decide +kernel
theorem dX7_returnTo_4 : decode cX7_returnTo 4 = .ok (.iconst 0, 1) := by decide +kernel
theorem dX7_returnTo_5 : decode cX7_returnTo 5 = .ok (.iload_n 1, 1) := by decide +kernel
theorem dX7_returnTo_6 : decode cX7_returnTo 6 = .ok (.aload_n 0, 1) := by decide +kernel
theorem dX7_returnTo_7 : decode cX7_returnTo 7 = .ok (.getfield 16, 3) := by decide +kernel
theorem dX7_returnTo_10 : decode cX7_returnTo 10 = .ok (.getfield 57, 3) := by decide +kernel
theorem dX7_returnTo_13 : decode cX7_returnTo 13 = .ok (.invokestatic 61, 3) := by decide +kernel
theorem dX7_returnTo_16 : decode cX7_returnTo 16 = .ok (.invokestatic 67, 3) := by decide +kernel
theorem dX7_returnTo_19 : decode cX7_returnTo 19 = .ok (.putfield 57, 3) := by decide +kernel
theorem dX7_returnTo_22 : decode cX7_returnTo 22 = .ok (.aload_n 0, 1) := by decide +kernel
theorem dX7_returnTo_23 : decode cX7_returnTo 23 = .ok (.getfield 16, 3) := by decide +kernel
theorem dX7_returnTo_26 : decode cX7_returnTo 26 = .ok (.iconst 0, 1) := by decide +kernel
theorem dX7_returnTo_27 : decode cX7_returnTo 27 = .ok (.putfield 70, 3) := by decide +kernel
theorem dX7_returnTo_30 : decode cX7_returnTo 30 = .ok (.return_, 1) := by decide +kernel
def rm_fSo_returnTo : Room := { frames := 1, cells := 0, slots := 0, locals := 60 }
set_option maxHeartbeats 4000000 in
set_option maxRecDepth 100000 in
theorem c_fSo_returnTo (l : Launch) (X : eX) (sz : Nat) (a1 : Int32) (σ : sT) (σz : sT) (h0 : fSo_returnTo a1 σ = some σz) : ctV l yX7_returnTo cX7_returnTo 2 none rm_fSo_returnTo [.ref (X.2.1 5), .int a1] (wC X) (tC X) (aC X) X sz σ σz := by
  refine ct_of (by decide +kernel) (Nat.le_of_ble_eq_true rfl) ?_
  intro p e s m args below meth c ls hz B hl Z
  have B : Bd p s m args meth c RX7 cX7_returnTo 2 none := B
  have hl : lv_has ls 2 [(0, .ref (X.2.1 5)), (1, .int a1)] := hl
  have hx := B.1
  have hb := B.2.1
  unfold fSo_returnTo at h0
  refine lv_aload_n hx hb dX7_returnTo_0 rfl (lv_at hl 0 rfl) ?_
  refine g_5_1 B Z kf_RX7_16 dX7_returnTo_1 ?_
  refine lv_iconst (v := (0 : Int32)) hx hb dX7_returnTo_4 (by decide) ?_
  refine lv_iload_n hx hb dX7_returnTo_5 rfl (lv_at hl 1 rfl) ?_
  refine lv_aload_n hx hb dX7_returnTo_6 rfl (lv_at hl 0 rfl) ?_
  refine g_5_1 B Z kf_RX7_16 dX7_returnTo_7 ?_
  refine gn_6_2 B Z kx_RX7_57 dX7_returnTo_10 ?_
  refine va_mmin hx hb (B.2.2.1.trans hl.1.symm) B.2.2.2.1 (B.2.2.2.2.1 _ kl_RX7_61) (B.2.2.2.2.1 _ ks_Jmin) (B.2.2.2.2.1 _ kz_RJ9) (B.2.2.2.2.1 _ kd_Jmin) (Nat.le_of_ble_eq_true rfl) (Nat.le_of_ble_eq_true rfl) (Nat.zero_le _) (Nat.zero_le _) dX7_returnTo_13 ?_
  refine va_mmax hx hb (B.2.2.1.trans hl.1.symm) B.2.2.2.1 (B.2.2.2.2.1 _ kl_RX7_67) (B.2.2.2.2.1 _ ks_Jmax) (B.2.2.2.2.1 _ kz_RJ9) (B.2.2.2.2.1 _ kd_Jmax) (Nat.le_of_ble_eq_true rfl) (Nat.le_of_ble_eq_true rfl) (Nat.zero_le _) (Nat.zero_le _) dX7_returnTo_16 ?_
  refine sn_6_2 B Z kx_RX7_57 dX7_returnTo_19 (fun H locs Z => ?_)
  obtain ⟨σ1, eσ1, h1⟩ := dlt_s h0
  clear h0
  replace Z := Wd.eq eσ1 Z
  clear eσ1
  refine lv_aload_n hx hb dX7_returnTo_22 rfl (lv_at hl 0 rfl) ?_
  refine g_5_1 B Z kf_RX7_16 dX7_returnTo_23 ?_
  refine lv_iconst (v := (0 : Int32)) hx hb dX7_returnTo_26 (by decide) ?_
  refine sn_6_3 B Z (by decide) kx_RX7_70 dX7_returnTo_27 (fun H locs Z => ?_)
  obtain ⟨σ2, eσ2, h2⟩ := dlt_s h1
  clear h1
  replace Z := Wd.eq eσ2 Z
  clear eσ2
  exact reV B Z hz h2 dX7_returnTo_30
theorem dX6_isTrue_0 : decode cX6_isTrue 0 = .ok (.aload_n 0, 1) := by decide +kernel
theorem dX6_isTrue_1 : decode cX6_isTrue 1 = .ok (.getfield 15, 3) := by decide +kernel
theorem dX6_isTrue_4 : decode cX6_isTrue 4 = .ok (.iload_n 1, 1) := by decide +kernel
theorem dX6_isTrue_5 : decode cX6_isTrue 5 = .ok (.iconst 3, 1) := by decide +kernel
theorem dX6_isTrue_6 : decode cX6_isTrue 6 = .ok (.invokevirtual 48, 3) := by decide +kernel
theorem dX6_isTrue_9 : decode cX6_isTrue 9 = .ok (.istore_n 3, 1) := by decide +kernel
theorem dX6_isTrue_10 : decode cX6_isTrue 10 = .ok (.iload_n 3, 1) := by decide +kernel
theorem dX6_isTrue_11 : decode cX6_isTrue 11 = .ok (.ifCond .ne 15, 3) := by decide +kernel
theorem dX6_isTrue_14 : decode cX6_isTrue 14 = .ok (.iload_n 2, 1) := by decide +kernel
theorem dX6_isTrue_15 : decode cX6_isTrue 15 = .ok (.ifCond .ge 7, 3) := by decide +kernel
theorem dX6_isTrue_18 : decode cX6_isTrue 18 = .ok (.iconst 1, 1) := by decide +kernel
theorem dX6_isTrue_19 : decode cX6_isTrue 19 = .ok (.goto 33, 3) := by decide +kernel
theorem dX6_isTrue_22 : decode cX6_isTrue 22 = .ok (.iconst 0, 1) := by decide +kernel
theorem dX6_isTrue_23 : decode cX6_isTrue 23 = .ok (.goto 29, 3) := by decide +kernel
theorem dX6_isTrue_26 : decode cX6_isTrue 26 = .ok (.iload_n 3, 1) := by decide +kernel
theorem dX6_isTrue_27 : decode cX6_isTrue 27 = .ok (.iconst 1, 1) := by decide +kernel
theorem dX6_isTrue_28 : decode cX6_isTrue 28 = .ok (.if_icmp .ne 15, 3) := by decide +kernel
theorem dX6_isTrue_31 : decode cX6_isTrue 31 = .ok (.iload_n 2, 1) := by decide +kernel
theorem dX6_isTrue_32 : decode cX6_isTrue 32 = .ok (.ifCond .gt 7, 3) := by decide +kernel
theorem dX6_isTrue_35 : decode cX6_isTrue 35 = .ok (.iconst 1, 1) := by decide +kernel
theorem dX6_isTrue_36 : decode cX6_isTrue 36 = .ok (.goto 16, 3) := by decide +kernel
theorem dX6_isTrue_39 : decode cX6_isTrue 39 = .ok (.iconst 0, 1) := by decide +kernel
theorem dX6_isTrue_40 : decode cX6_isTrue 40 = .ok (.goto 12, 3) := by decide +kernel
theorem dX6_isTrue_43 : decode cX6_isTrue 43 = .ok (.iload_n 2, 1) := by decide +kernel
theorem dX6_isTrue_44 : decode cX6_isTrue 44 = .ok (.ifCond .ne 7, 3) := by decide +kernel
theorem dX6_isTrue_47 : decode cX6_isTrue 47 = .ok (.iconst 1, 1) := by decide +kernel
theorem dX6_isTrue_48 : decode cX6_isTrue 48 = .ok (.goto 4, 3) := by decide +kernel
theorem dX6_isTrue_51 : decode cX6_isTrue 51 = .ok (.iconst 0, 1) := by decide +kernel
theorem dX6_isTrue_52 : decode cX6_isTrue 52 = .ok (.ireturn, 1) := by decide +kernel
def rm_fSg_isTrue : Room := { frames := 3, cells := 0, slots := 0, locals := 104 }
set_option maxHeartbeats 4000000 in
set_option maxRecDepth 100000 in
theorem c_fSg_isTrue (l : Launch) (X : eX) (sz : Nat) (a1 : Int32) (a2 : Int32) (σ : sT) (rz : Int32) (h0 : fSg_isTrue a1 a2 σ = some rz) : ctI l yX6_isTrue cX6_isTrue 4 (some .boolean) rm_fSg_isTrue [.ref (X.2.1 24), .int a1, .int a2] (wC X) (tC X) (aC X) X sz σ rz σ := by
  refine ct_of (by decide +kernel) (Nat.le_of_ble_eq_true rfl) ?_
  intro p e s m args below meth c ls hz B hl Z
  have B : Bd p s m args meth c RX6 cX6_isTrue 4 (some .boolean) := B
  have hl : lv_has ls 4 [(0, .ref (X.2.1 24)), (1, .int a1), (2, .int a2)] := hl
  have hx := B.1
  have hb := B.2.1
  unfold fSg_isTrue at h0
  refine lv_aload_n hx hb dX6_isTrue_0 rfl (lv_at hl 0 rfl) ?_
  refine g_24_0 B Z kf_RX6_15 dX6_isTrue_1 ?_
  refine lv_iload_n hx hb dX6_isTrue_4 rfl (lv_at hl 1 rfl) ?_
  refine lv_iconst (v := (3 : Int32)) hx hb dX6_isTrue_5 (by decide) ?_
  obtain ⟨r2, hc0, h1⟩ := db1_s h0
  clear h0
  refine cV_I [.int a1, .int (3 : Int32)] [] B mx_yX0_get (c_fBk_get l X _ a1 (3 : Int32) σ r2 hc0) kl_RX6_48 mi_yX0_get (rv_1 _ _) hcl_0 Z hl rfl rfl ⟨Nat.le_of_ble_eq_true rfl, Nat.le_of_ble_eq_true rfl⟩ rfl rfl (Nat.le_of_ble_eq_true rfl) dX6_isTrue_6 (fun H locs Z => ?_)
  clear hc0
  refine lv_istore_n (lv' := [(3, .int r2), (0, .ref (X.2.1 24)), (1, .int a1), (2, .int a2)]) hx hb dX6_isTrue_9 rfl hl (by decide) rfl (fun ls hl => ?_)
  refine lv_iload_n hx hb dX6_isTrue_10 rfl (lv_at hl 0 rfl) ?_
  refine lv_if_ne (tgt := 26) hx hb dX6_isTrue_11 (by decide) (fun c3 => ?_) (fun c3 => ?_)
  · have h2 := dif h1 c3
    clear h1
    refine lv_iload_n hx hb dX6_isTrue_26 rfl (lv_at hl 0 rfl) ?_
    refine lv_iconst (v := (1 : Int32)) hx hb dX6_isTrue_27 (by decide) ?_
    refine lv_icmp_ne (tgt := 43) hx hb dX6_isTrue_28 (by decide) (fun c4 => ?_) (fun c4 => ?_)
    · have h3 := dif h2 c4
      clear h2
      refine lv_iload_n hx hb dX6_isTrue_43 rfl (lv_at hl 3 rfl) ?_
      refine lv_if_ne (tgt := 51) hx hb dX6_isTrue_44 (by decide) (fun c5 => ?_) (fun c5 => ?_)
      · have h4 := dif h3 c5
        clear h3
        refine lv_iconst (v := (0 : Int32)) hx hb dX6_isTrue_51 (by decide) ?_
        exact reI B Z rfl hz (congrArg (Option.map (fun q => (q, σ))) h4) dX6_isTrue_52
      · have h5 := dit h3 c5
        clear h3
        refine lv_iconst (v := (1 : Int32)) hx hb dX6_isTrue_47 (by decide) ?_
        refine lv_goto (tgt := 52) hx hb dX6_isTrue_48 (by decide) ?_
        exact reI B Z rfl hz (congrArg (Option.map (fun q => (q, σ))) h5) dX6_isTrue_52
    · have h6 := dit h2 c4
      clear h2
      refine lv_iload_n hx hb dX6_isTrue_31 rfl (lv_at hl 3 rfl) ?_
      refine lv_if_gt (tgt := 39) hx hb dX6_isTrue_32 (by decide) (fun c6 => ?_) (fun c6 => ?_)
      · have h7 := dit h6 c6
        clear h6
        refine lv_iconst (v := (0 : Int32)) hx hb dX6_isTrue_39 (by decide) ?_
        refine lv_goto (tgt := 52) hx hb dX6_isTrue_40 (by decide) ?_
        exact reI B Z rfl hz (congrArg (Option.map (fun q => (q, σ))) h7) dX6_isTrue_52
      · have h8 := dif h6 c6
        clear h6
        refine lv_iconst (v := (1 : Int32)) hx hb dX6_isTrue_35 (by decide) ?_
        refine lv_goto (tgt := 52) hx hb dX6_isTrue_36 (by decide) ?_
        exact reI B Z rfl hz (congrArg (Option.map (fun q => (q, σ))) h8) dX6_isTrue_52
  · have h9 := dit h1 c3
    clear h1
    refine lv_iload_n hx hb dX6_isTrue_14 rfl (lv_at hl 3 rfl) ?_
    refine lv_if_ge (tgt := 22) hx hb dX6_isTrue_15 (by decide) (fun c7 => ?_) (fun c7 => ?_)
    · have h10 := dit h9 c7
      clear h9
      refine lv_iconst (v := (0 : Int32)) hx hb dX6_isTrue_22 (by decide) ?_
      refine lv_goto (tgt := 52) hx hb dX6_isTrue_23 (by decide) ?_
      exact reI B Z rfl hz (congrArg (Option.map (fun q => (q, σ))) h10) dX6_isTrue_52
    · have h11 := dif h9 c7
      clear h9
      refine lv_iconst (v := (1 : Int32)) hx hb dX6_isTrue_18 (by decide) ?_
      refine lv_goto (tgt := 52) hx hb dX6_isTrue_19 (by decide) ?_
      exact reI B Z rfl hz (congrArg (Option.map (fun q => (q, σ))) h11) dX6_isTrue_52
def rm_SG (d : Nat) : Room := { frames := 9 + d, cells := 0, slots := 0, locals := 289 + 33 * d }
theorem dX6_count_0 : decode cX6_count 0 = .ok (.iload_n 1, 1) := by decide +kernel
theorem dX6_count_1 : decode cX6_count 1 = .ok (.aload_n 0, 1) := by decide +kernel
theorem dX6_count_2 : decode cX6_count 2 = .ok (.getfield 23, 3) := by decide +kernel
theorem dX6_count_5 : decode cX6_count 5 = .ok (.if_icmp .ge 8, 3) := by decide +kernel
theorem dX6_count_8 : decode cX6_count 8 = .ok (.iload_n 1, 1) := by decide +kernel
theorem dX6_count_9 : decode cX6_count 9 = .ok (.iconst 5, 1) := by decide +kernel
theorem dX6_count_10 : decode cX6_count 10 = .ok (.if_icmp .lt 9, 3) := by decide +kernel
theorem dX6_count_13 : decode cX6_count 13 = .ok (.iload_n 3, 1) := by decide +kernel
theorem dX6_count_14 : decode cX6_count 14 = .ok (.iload_n 2, 1) := by decide +kernel
theorem dX6_count_15 : decode cX6_count 15 = .ok (.iushr, 1) := by decide +kernel
theorem dX6_count_16 : decode cX6_count 16 = .ok (.iconst 1, 1) := by decide +kernel
theorem dX6_count_17 : decode cX6_count 17 = .ok (.iand, 1) := by decide +kernel
theorem dX6_count_18 : decode cX6_count 18 = .ok (.ireturn, 1) := by decide +kernel
theorem dX6_count_19 : decode cX6_count 19 = .ok (.aload_n 0, 1) := by decide +kernel
theorem dX6_count_20 : decode cX6_count 20 = .ok (.getfield 9, 3) := by decide +kernel
theorem dX6_count_23 : decode cX6_count 23 = .ok (.iload_n 1, 1) := by decide +kernel
theorem dX6_count_24 : decode cX6_count 24 = .ok (.iaload, 1) := by decide +kernel
theorem dX6_count_25 : decode cX6_count 25 = .ok (.istore 4, 2) := by decide +kernel
theorem dX6_count_27 : decode cX6_count 27 = .ok (.aload_n 0, 1) := by decide +kernel
theorem dX6_count_28 : decode cX6_count 28 = .ok (.getfield 19, 3) := by decide +kernel
theorem dX6_count_31 : decode cX6_count 31 = .ok (.invokevirtual 27, 3) := by decide +kernel
theorem dX6_count_34 : decode cX6_count 34 = .ok (.istore 5, 2) := by decide +kernel
theorem dX6_count_36 : decode cX6_count 36 = .ok (.iconst 0, 1) := by decide +kernel
theorem dX6_count_37 : decode cX6_count 37 = .ok (.istore 6, 2) := by decide +kernel
theorem dX6_count_39 : decode cX6_count 39 = .ok (.iconst (-1), 1) := by decide +kernel
theorem dX6_count_40 : decode cX6_count 40 = .ok (.istore 7, 2) := by decide +kernel
theorem dX6_count_42 : decode cX6_count 42 = .ok (.iload 7, 2) := by decide +kernel
theorem dX6_count_44 : decode cX6_count 44 = .ok (.iconst 1, 1) := by decide +kernel
theorem dX6_count_45 : decode cX6_count 45 = .ok (.if_icmp .gt 69, 3) := by decide +kernel
theorem dX6_count_48 : decode cX6_count 48 = .ok (.aload_n 0, 1) := by decide +kernel
theorem dX6_count_49 : decode cX6_count 49 = .ok (.getfield 19, 3) := by decide +kernel
theorem dX6_count_52 : decode cX6_count 52 = .ok (.iload 4, 2) := by decide +kernel
theorem dX6_count_54 : decode cX6_count 54 = .ok (.iload 7, 2) := by decide +kernel
theorem dX6_count_56 : decode cX6_count 56 = .ok (.invokevirtual 33, 3) := by decide +kernel
theorem dX6_count_59 : decode cX6_count 59 = .ok (.ifCond .eq 40, 3) := by decide +kernel
theorem dX6_count_62 : decode cX6_count 62 = .ok (.aload_n 0, 1) := by decide +kernel
theorem dX6_count_63 : decode cX6_count 63 = .ok (.iload 4, 2) := by decide +kernel
theorem dX6_count_65 : decode cX6_count 65 = .ok (.iload 7, 2) := by decide +kernel
theorem dX6_count_67 : decode cX6_count 67 = .ok (.invokevirtual 37, 3) := by decide +kernel
theorem dX6_count_70 : decode cX6_count 70 = .ok (.ifCond .eq 9, 3) := by decide +kernel
theorem dX6_count_73 : decode cX6_count 73 = .ok (.iconst 1, 1) := by decide +kernel
theorem dX6_count_74 : decode cX6_count 74 = .ok (.iload_n 1, 1) := by decide +kernel
theorem dX6_count_75 : decode cX6_count 75 = .ok (.ishl, 1) := by decide +kernel
theorem dX6_count_76 : decode cX6_count 76 = .ok (.goto 4, 3) := by decide +kernel
theorem dX6_count_79 : decode cX6_count 79 = .ok (.iconst 0, 1) := by decide +kernel
theorem dX6_count_80 : decode cX6_count 80 = .ok (.istore 8, 2) := by decide +kernel
theorem dX6_count_82 : decode cX6_count 82 = .ok (.iload 6, 2) := by decide +kernel
theorem dX6_count_84 : decode cX6_count 84 = .ok (.aload_n 0, 1) := by decide +kernel
theorem dX6_count_85 : decode cX6_count 85 = .ok (.iload_n 1, 1) := by decide +kernel
theorem dX6_count_86 : decode cX6_count 86 = .ok (.iconst 1, 1) := by decide +kernel
theorem dX6_count_87 : decode cX6_count 87 = .ok (.iadd, 1) := by decide +kernel
theorem dX6_count_88 : decode cX6_count 88 = .ok (.iload_n 2, 1) := by decide +kernel
theorem dX6_count_89 : decode cX6_count 89 = .ok (.iload 8, 2) := by decide +kernel
theorem dX6_count_91 : decode cX6_count 91 = .ok (.ior, 1) := by decide +kernel
theorem dX6_count_92 : decode cX6_count 92 = .ok (.iload_n 3, 1) := by decide +kernel
theorem dX6_count_93 : decode cX6_count 93 = .ok (.invokestatic 40, 3) := by decide +kernel
theorem dX6_count_96 : decode cX6_count 96 = .ok (.iadd, 1) := by decide +kernel
theorem dX6_count_97 : decode cX6_count 97 = .ok (.istore 6, 2) := by decide +kernel
theorem dX6_count_99 : decode cX6_count 99 = .ok (.aload_n 0, 1) := by decide +kernel
theorem dX6_count_100 : decode cX6_count 100 = .ok (.getfield 19, 3) := by decide +kernel
theorem dX6_count_103 : decode cX6_count 103 = .ok (.iload 5, 2) := by decide +kernel
theorem dX6_count_105 : decode cX6_count 105 = .ok (.invokevirtual 44, 3) := by decide +kernel
theorem dX6_count_108 : decode cX6_count 108 = .ok (.iinc 7 1, 3) := by decide +kernel
theorem dX6_count_111 : decode cX6_count 111 = .ok (.goto (-69), 3) := by decide +kernel
theorem dX6_count_114 : decode cX6_count 114 = .ok (.iload 6, 2) := by decide +kernel
theorem dX6_count_116 : decode cX6_count 116 = .ok (.ireturn, 1) := by decide +kernel
set_option maxHeartbeats 4000000 in
set_option maxRecDepth 100000 in
theorem c_fSg_count_B (l : Launch) (X : eX) (d : Nat) (ih_0 : ∀ (sz : Nat) (a2 : Int32) (a3 : Int32) (a4 : Int32) (σ : sT) (rz : Int32) (σz : sT), (fSg_rec d) 0 a2 a3 a4 σ = some (rz, σz) → ctI l yX6_count cX6_count 9 (some .int) (rm_SG d) [.ref (X.2.1 24), .int a2, .int a3, .int a4] (wC X) (tC X) (aC X) X sz σ rz σz) (sz : Nat) (a2 : Int32) (a3 : Int32) (a4 : Int32) (σ : sT) (rz : Int32) (σz : sT) (h0 : fSg_count_B (fSg_rec d) a2 a3 a4 σ = some (rz, σz)) : ctI l yX6_count cX6_count 9 (some .int) (rm_SG (d + 1)) [.ref (X.2.1 24), .int a2, .int a3, .int a4] (wC X) (tC X) (aC X) X sz σ rz σz := by
  refine ct_of (by decide +kernel) (Nat.le_of_ble_eq_true rfl) ?_
  intro p e s m args below meth c ls hz B hl Z
  have B : Bd p s m args meth c RX6 cX6_count 9 (some .int) := B
  have hl : lv_has ls 9 [(0, .ref (X.2.1 24)), (1, .int a2), (2, .int a3), (3, .int a4)] := hl
  have hx := B.1
  have hb := B.2.1
  unfold fSg_count_B at h0
  refine lv_iload_n hx hb dX6_count_0 rfl (lv_at hl 1 rfl) ?_
  refine lv_aload_n hx hb dX6_count_1 rfl (lv_at hl 0 rfl) ?_
  refine g_24_3 B Z kf_RX6_23 dX6_count_2 ?_
  refine lv_icmp_ge (tgt := 13) hx hb dX6_count_5 (by decide) (fun c1 => ?_) (fun c1 => ?_)
  · have h1 := dit h0 c1
    clear h0
    refine lv_iload_n hx hb dX6_count_13 rfl (lv_at hl 3 rfl) ?_
    refine lv_iload_n hx hb dX6_count_14 rfl (lv_at hl 2 rfl) ?_
    refine lv_iushr hx hb dX6_count_15 rfl ?_
    refine lv_iconst (v := (1 : Int32)) hx hb dX6_count_16 (by decide) ?_
    refine lv_iand hx hb dX6_count_17 ?_
    exact reI B Z rfl hz h1 dX6_count_18
  · have h2 := dif h0 c1
    clear h0
    refine lv_iload_n hx hb dX6_count_8 rfl (lv_at hl 1 rfl) ?_
    refine lv_iconst (v := (5 : Int32)) hx hb dX6_count_9 (by decide) ?_
    refine lv_icmp_lt (tgt := 19) hx hb dX6_count_10 (by decide) (fun c2 => ?_) (fun c2 => ?_)
    · have h3 := dit h2 c2
      clear h2
      refine lv_aload_n hx hb dX6_count_19 rfl (lv_at hl 0 rfl) ?_
      refine g_24_2 B Z kf_RX6_9 dX6_count_20 ?_
      refine lv_iload_n hx hb dX6_count_23 rfl (lv_at hl 1 rfl) ?_
      obtain ⟨z3, h4⟩ := dck_s h3
      clear h3
      refine ld_25 B Z z3 dX6_count_24 ?_
      refine lv_topi (fun x4 ex4 => ?_)
      have h5 := dlt_e ex4 h4
      clear ex4 h4
      refine lv_istore (lv' := [(4, .int x4), (0, .ref (X.2.1 24)), (1, .int a2), (2, .int a3), (3, .int a4)]) hx hb dX6_count_25 hl (by decide) rfl (fun ls hl => ?_)
      refine lv_aload_n hx hb dX6_count_27 rfl (lv_at hl 1 rfl) ?_
      refine g_24_1 B Z kf_RX6_19 dX6_count_28 ?_
      obtain ⟨r6, hc4, h6⟩ := db1_s h5
      clear h5
      refine cV_I [] [] B mx_yX7_mark (c_fSo_mark l X _ σ r6 hc4) kl_RX6_27 mi_yX7_mark (rv_5 _ _) hcl_7 Z hl rfl rfl ⟨by dsimp only [rm_SG, rm_fSo_mark]; omega, by dsimp only [rm_SG, rm_fSo_mark]; omega⟩ rfl rfl (Nat.le_of_ble_eq_true rfl) dX6_count_31 (fun H locs Z => ?_)
      clear hc4
      refine lv_istore (lv' := [(5, .int r6), (4, .int x4), (0, .ref (X.2.1 24)), (1, .int a2), (2, .int a3), (3, .int a4)]) hx hb dX6_count_34 hl (by decide) rfl (fun ls hl => ?_)
      refine lv_iconst (v := (0 : Int32)) hx hb dX6_count_36 (by decide) ?_
      refine lv_istore (lv' := [(6, .int (0 : Int32)), (5, .int r6), (4, .int x4), (0, .ref (X.2.1 24)), (1, .int a2), (2, .int a3), (3, .int a4)]) hx hb dX6_count_37 hl (by decide) rfl (fun ls hl => ?_)
      refine lv_iconst (v := (-1 : Int32)) hx hb dX6_count_39 (by decide) ?_
      refine lv_istore (lv' := [(7, .int (-1 : Int32)), (6, .int (0 : Int32)), (5, .int r6), (4, .int x4), (0, .ref (X.2.1 24)), (1, .int a2), (2, .int a3), (3, .int a4)]) hx hb dX6_count_40 hl (by decide) rfl (fun ls hl => ?_)
      have lL42 : ∀ (n : Nat), ∀ (x7 : Int32) (x8 : Int32) (σ9 : sT) (H : Heap) (locs : List Loc) (ls : Array Slot), Wd (wC X) (tC X) (aC X) X s σ9 H locs → lv_has ls 9 [(0, .ref (X.2.1 24)), (1, .int a2), (2, .int a3), (3, .int a4), (4, .int x4), (5, .int r6), (6, .int x7), (7, .int x8)] → fSg_count_B_L42 (fSg_rec d) a2 a3 a4 x4 r6 n x7 x8 σ9 = some (rz, σz) → W p l e (rm_SG (d + 1)) s m args below meth c H locs 0 0 (MQ below (va_Qi (fun a u => a = rz ∧ u = σz) (poW (wC X) (tC X) (aC X) X sz) (aA (aC X) sz)) args s 0 0 (aA (aC X) sz)) (F0 m 42 ls []) := by
        intro n
        induction n with
        | zero =>
          intro x7 x8 σ9 H locs ls Z hl h
          exact nomatch (show (none : Option (Int32 × sT)) = some _ from h)
        | succ n10 ih26 =>
          intro x7 x8 σ9 H locs ls Z hl h7
          unfold fSg_count_B_L42 at h7
          refine lv_iload hx hb dX6_count_42 (lv_at hl 7 rfl) ?_
          refine lv_iconst (v := (1 : Int32)) hx hb dX6_count_44 (by decide) ?_
          refine lv_icmp_gt (tgt := 114) hx hb dX6_count_45 (by decide) (fun c11 => ?_) (fun c11 => ?_)
          · have h8 := dit h7 c11
            clear h7
            refine lv_iload hx hb dX6_count_114 (lv_at hl 6 rfl) ?_
            exact reI B Z rfl hz h8 dX6_count_116
          · have h9 := dif h7 c11
            clear h7
            refine lv_aload_n hx hb dX6_count_48 rfl (lv_at hl 0 rfl) ?_
            refine g_24_1 B Z kf_RX6_19 dX6_count_49 ?_
            refine lv_iload hx hb dX6_count_52 (lv_at hl 4 rfl) ?_
            refine lv_iload hx hb dX6_count_54 (lv_at hl 7 rfl) ?_
            obtain ⟨r13, σ14, hc11, h10⟩ := db2_s h9
            clear h9
            refine cV_I [.int x4, .int x8] [] B mx_yX7_takesSign (c_fSo_takesSign l X _ x4 x8 σ9 r13 σ14 hc11) kl_RX6_33 mi_yX7_takesSign (rv_5 _ _) hcl_7 Z hl rfl rfl ⟨by dsimp only [rm_SG, rm_fSo_takesSign]; omega, by dsimp only [rm_SG, rm_fSo_takesSign]; omega⟩ rfl rfl (Nat.le_of_ble_eq_true rfl) dX6_count_56 (fun H locs Z => ?_)
            clear hc11
            obtain ⟨J17, eJ17, h13⟩ := dlt_s h10
            clear h10
            have kJ17 : ∀ (x15 : Int32) (σ16 : sT) (H : Heap) (locs : List Loc) (ls : Array Slot), Wd (wC X) (tC X) (aC X) X s σ16 H locs → lv_has ls 9 [(0, .ref (X.2.1 24)), (1, .int a2), (2, .int a3), (3, .int a4), (4, .int x4), (5, .int r6), (6, .int x15), (7, .int x8)] → J17 x15 σ16 = some (rz, σz) → W p l e (rm_SG (d + 1)) s m args below meth c H locs 0 0 (MQ below (va_Qi (fun a u => a = rz ∧ u = σz) (poW (wC X) (tC X) (aC X) X sz) (aA (aC X) sz)) args s 0 0 (aA (aC X) sz)) (F0 m 99 ls []) := by
              intro x15 σ16 H locs ls Z hl h11
              rw [eJ17] at h11
              refine lv_aload_n hx hb dX6_count_99 rfl (lv_at hl 0 rfl) ?_
              refine g_24_1 B Z kf_RX6_19 dX6_count_100 ?_
              refine lv_iload hx hb dX6_count_103 (lv_at hl 5 rfl) ?_
              obtain ⟨σ19, hc17, h12⟩ := db1_s h11
              clear h11
              refine cV_V [.int r6] [] B mx_yX7_returnTo (c_fSo_returnTo l X _ r6 σ16 σ19 hc17) kl_RX6_44 mi_yX7_returnTo (rv_5 _ _) hcl_7 Z hl rfl rfl ⟨by dsimp only [rm_SG, rm_fSo_returnTo]; omega, by dsimp only [rm_SG, rm_fSo_returnTo]; omega⟩ rfl rfl (Nat.le_of_ble_eq_true rfl) dX6_count_105 (fun H locs Z => ?_)
              clear hc17
              refine lv_iinc (v := x8 + (1 : Int32)) (lv' := [(7, .int (x8 + (1 : Int32))), (0, .ref (X.2.1 24)), (1, .int a2), (2, .int a3), (3, .int a4), (4, .int x4), (5, .int r6), (6, .int x15)]) hx hb dX6_count_108 hl (k := 7) rfl (by rfl) (by decide) rfl (fun ls hl => ?_)
              refine lv_goto (tgt := 42) hx hb dX6_count_111 (by decide) ?_
              exact ih26 x15 (x8 + (1 : Int32)) σ19 _ _ _ Z (lv_sub hl [1, 2, 3, 4, 5, 6, 7, 0] rfl) h12
            clear eJ17
            refine lv_if_eq (tgt := 99) hx hb dX6_count_59 (by decide) (fun c20 => ?_) (fun c20 => ?_)
            · have h14 := dit h13 c20
              clear h13
              exact kJ17 x7 σ14 _ _ _ Z (lv_sub hl [0, 1, 2, 3, 4, 5, 6, 7] rfl) h14
            · have h15 := dif h13 c20
              clear h13
              refine lv_aload_n hx hb dX6_count_62 rfl (lv_at hl 0 rfl) ?_
              refine lv_iload hx hb dX6_count_63 (lv_at hl 4 rfl) ?_
              refine lv_iload hx hb dX6_count_65 (lv_at hl 7 rfl) ?_
              obtain ⟨r22, hc20, h16⟩ := db1_s h15
              clear h15
              refine cV_I [.int x4, .int x8] [] B mx_yX6_isTrue (c_fSg_isTrue l X _ x4 x8 σ14 r22 hc20) kl_RX6_37 mi_yX6_isTrue (rv_24 _ _) hcl_6 Z hl rfl rfl ⟨by dsimp only [rm_SG, rm_fSg_isTrue]; omega, by dsimp only [rm_SG, rm_fSg_isTrue]; omega⟩ rfl rfl (Nat.le_of_ble_eq_true rfl) dX6_count_67 (fun H locs Z => ?_)
              clear hc20
              obtain ⟨J24, eJ24, h20⟩ := dlt_s h16
              clear h16
              have kJ24 : ∀ (x23 : Int32) (H : Heap) (locs : List Loc) (ls : Array Slot), Wd (wC X) (tC X) (aC X) X s σ14 H locs → lv_has ls 9 [(0, .ref (X.2.1 24)), (1, .int a2), (2, .int a3), (3, .int a4), (4, .int x4), (5, .int r6), (6, .int x7), (7, .int x8)] → J24 x23 = some (rz, σz) → W p l e (rm_SG (d + 1)) s m args below meth c H locs 0 0 (MQ below (va_Qi (fun a u => a = rz ∧ u = σz) (poW (wC X) (tC X) (aC X) X sz) (aA (aC X) sz)) args s 0 0 (aA (aC X) sz)) (F0 m 80 ls [.int x23]) := by
                intro x23 H locs ls Z hl h17
                rw [eJ24] at h17
                refine lv_istore (lv' := [(8, .int x23), (0, .ref (X.2.1 24)), (1, .int a2), (2, .int a3), (3, .int a4), (4, .int x4), (5, .int r6), (6, .int x7), (7, .int x8)]) hx hb dX6_count_80 hl (by decide) rfl (fun ls hl => ?_)
                refine lv_iload hx hb dX6_count_82 (lv_at hl 7 rfl) ?_
                refine lv_aload_n hx hb dX6_count_84 rfl (lv_at hl 1 rfl) ?_
                refine lv_iload_n hx hb dX6_count_85 rfl (lv_at hl 2 rfl) ?_
                refine lv_iconst (v := (1 : Int32)) hx hb dX6_count_86 (by decide) ?_
                refine lv_iadd hx hb dX6_count_87 ?_
                refine lv_iload_n hx hb dX6_count_88 rfl (lv_at hl 3 rfl) ?_
                refine lv_iload hx hb dX6_count_89 (lv_at hl 0 rfl) ?_
                refine lv_ior hx hb dX6_count_91 ?_
                refine lv_iload_n hx hb dX6_count_92 rfl (lv_at hl 4 rfl) ?_
                obtain ⟨r26, σ27, hc24, h18⟩ := db2_s h17
                clear h17
                refine cS_I [.ref (X.2.1 24), .int (a2 + (1 : Int32)), .int (a3 ||| x23), .int a4] [.int x7] B mx_yX6_count (ih_0 _ (a2 + (1 : Int32)) (a3 ||| x23) a4 σ14 r26 σ27 hc24) kl_RX6_40 ks_yX6_count Z hl rfl rfl ⟨by dsimp only [rm_SG]; omega, by dsimp only [rm_SG]; omega⟩ rfl rfl (Nat.le_of_ble_eq_true rfl) dX6_count_93 (fun H locs Z => ?_)
                clear hc24
                refine lv_iadd hx hb dX6_count_96 ?_
                refine lv_topi (fun x28 ex28 => ?_)
                have h19 := dlt_e ex28 h18
                clear ex28 h18
                refine lv_istore (lv' := [(6, .int x28), (8, .int x23), (0, .ref (X.2.1 24)), (1, .int a2), (2, .int a3), (3, .int a4), (4, .int x4), (5, .int r6), (7, .int x8)]) hx hb dX6_count_97 hl (by decide) rfl (fun ls hl => ?_)
                exact kJ17 x28 σ27 _ _ _ Z (lv_sub hl [2, 3, 4, 5, 6, 7, 0, 8] rfl) h19
              clear eJ24
              refine lv_if_eq (tgt := 79) hx hb dX6_count_70 (by decide) (fun c29 => ?_) (fun c29 => ?_)
              · have h21 := dit h20 c29
                clear h20
                refine lv_iconst (v := (0 : Int32)) hx hb dX6_count_79 (by decide) ?_
                exact kJ24 (0 : Int32) _ _ _ Z (lv_sub hl [0, 1, 2, 3, 4, 5, 6, 7] rfl) h21
              · have h22 := dif h20 c29
                clear h20
                refine lv_iconst (v := (1 : Int32)) hx hb dX6_count_73 (by decide) ?_
                refine lv_iload_n hx hb dX6_count_74 rfl (lv_at hl 1 rfl) ?_
                refine lv_ishl hx hb dX6_count_75 ?_
                refine lv_goto (tgt := 80) hx hb dX6_count_76 (by decide) ?_
                exact kJ24 ((1 : Int32) <<< (a2 &&& 31)) _ _ _ Z (lv_sub hl [0, 1, 2, 3, 4, 5, 6, 7] rfl) h22
      exact lL42 FU (0 : Int32) (-1 : Int32) σ _ _ _ Z (lv_sub hl [4, 5, 6, 7, 3, 2, 1, 0] rfl) h6
    · have h23 := dif h2 c2
      clear h2
      refine lv_iload_n hx hb dX6_count_13 rfl (lv_at hl 3 rfl) ?_
      refine lv_iload_n hx hb dX6_count_14 rfl (lv_at hl 2 rfl) ?_
      refine lv_iushr hx hb dX6_count_15 rfl ?_
      refine lv_iconst (v := (1 : Int32)) hx hb dX6_count_16 (by decide) ?_
      refine lv_iand hx hb dX6_count_17 ?_
      exact reI B Z rfl hz h23 dX6_count_18
set_option maxHeartbeats 4000000 in
theorem c_fSg_rec (l : Launch) (X : eX) : ∀ d : Nat, (∀ (sz : Nat) (a2 : Int32) (a3 : Int32) (a4 : Int32) (σ : sT) (rz : Int32) (σz : sT), fSg_rec d 0 a2 a3 a4 σ = some (rz, σz) → ctI l yX6_count cX6_count 9 (some .int) (rm_SG d) [.ref (X.2.1 24), .int a2, .int a3, .int a4] (wC X) (tC X) (aC X) X sz σ rz σz) := by
  intro d
  induction d with
  | zero => exact (fun sz a2 a3 a4 σ rz σz h => nomatch (show (none : Option (Int32 × sT)) = some _ from h))
  | succ d ih =>
    have i0 := ih
    exact fun sz a2 a3 a4 σ rz σz h => c_fSg_count_B l X d i0 sz a2 a3 a4 σ rz σz h
theorem dX6_slotOf_0 : decode cX6_slotOf 0 = .ok (.iconst 0, 1) := by decide +kernel
theorem dX6_slotOf_1 : decode cX6_slotOf 1 = .ok (.istore_n 2, 1) := by decide +kernel
theorem dX6_slotOf_2 : decode cX6_slotOf 2 = .ok (.iload_n 2, 1) := by decide +kernel
theorem dX6_slotOf_3 : decode cX6_slotOf 3 = .ok (.aload_n 0, 1) := by decide +kernel
theorem dX6_slotOf_4 : decode cX6_slotOf 4 = .ok (.getfield 23, 3) := by decide +kernel
theorem dX6_slotOf_7 : decode cX6_slotOf 7 = .ok (.if_icmp .ge 21, 3) := by decide +kernel
theorem dX6_slotOf_10 : decode cX6_slotOf 10 = .ok (.aload_n 0, 1) := by decide +kernel
theorem dX6_slotOf_11 : decode cX6_slotOf 11 = .ok (.getfield 9, 3) := by decide +kernel
theorem dX6_slotOf_14 : decode cX6_slotOf 14 = .ok (.iload_n 2, 1) := by decide +kernel
theorem dX6_slotOf_15 : decode cX6_slotOf 15 = .ok (.iaload, 1) := by decide +kernel
theorem dX6_slotOf_16 : decode cX6_slotOf 16 = .ok (.iload_n 1, 1) := by decide +kernel
theorem dX6_slotOf_17 : decode cX6_slotOf 17 = .ok (.if_icmp .ne 5, 3) := by decide +kernel
theorem dX6_slotOf_20 : decode cX6_slotOf 20 = .ok (.iload_n 2, 1) := by decide +kernel
theorem dX6_slotOf_21 : decode cX6_slotOf 21 = .ok (.ireturn, 1) := by decide +kernel
theorem dX6_slotOf_22 : decode cX6_slotOf 22 = .ok (.iinc 2 1, 3) := by decide +kernel
theorem dX6_slotOf_25 : decode cX6_slotOf 25 = .ok (.goto (-23), 3) := by decide +kernel
theorem dX6_slotOf_28 : decode cX6_slotOf 28 = .ok (.aload_n 0, 1) := by decide +kernel
theorem dX6_slotOf_29 : decode cX6_slotOf 29 = .ok (.getfield 23, 3) := by decide +kernel
theorem dX6_slotOf_32 : decode cX6_slotOf 32 = .ok (.iconst 5, 1) := by decide +kernel
theorem dX6_slotOf_33 : decode cX6_slotOf 33 = .ok (.if_icmp .lt 5, 3) := by decide +kernel
theorem dX6_slotOf_36 : decode cX6_slotOf 36 = .ok (.iconst (-1), 1) := by decide +kernel
theorem dX6_slotOf_37 : decode cX6_slotOf 37 = .ok (.ireturn, 1) := by decide +kernel
theorem dX6_slotOf_38 : decode cX6_slotOf 38 = .ok (.aload_n 0, 1) := by decide +kernel
theorem dX6_slotOf_39 : decode cX6_slotOf 39 = .ok (.getfield 9, 3) := by decide +kernel
theorem dX6_slotOf_42 : decode cX6_slotOf 42 = .ok (.aload_n 0, 1) := by decide +kernel
theorem dX6_slotOf_43 : decode cX6_slotOf 43 = .ok (.getfield 23, 3) := by decide +kernel
theorem dX6_slotOf_46 : decode cX6_slotOf 46 = .ok (.iload_n 1, 1) := by decide +kernel
theorem dX6_slotOf_47 : decode cX6_slotOf 47 = .ok (.iastore, 1) := by decide +kernel
theorem dX6_slotOf_48 : decode cX6_slotOf 48 = .ok (.aload_n 0, 1) := by decide +kernel
theorem dX6_slotOf_49 : decode cX6_slotOf 49 = .ok (.dup, 1) := by decide +kernel
theorem dX6_slotOf_50 : decode cX6_slotOf 50 = .ok (.getfield 23, 3) := by decide +kernel
theorem dX6_slotOf_53 : decode cX6_slotOf 53 = .ok (.iconst 1, 1) := by decide +kernel
theorem dX6_slotOf_54 : decode cX6_slotOf 54 = .ok (.iadd, 1) := by decide +kernel
theorem dX6_slotOf_55 : decode cX6_slotOf 55 = .ok (.putfield 23, 3) := by decide +kernel
theorem dX6_slotOf_58 : decode cX6_slotOf 58 = .ok (.aload_n 0, 1) := by decide +kernel
theorem dX6_slotOf_59 : decode cX6_slotOf 59 = .ok (.getfield 23, 3) := by decide +kernel
theorem dX6_slotOf_62 : decode cX6_slotOf 62 = .ok (.iconst 1, 1) := by decide +kernel
theorem dX6_slotOf_63 : decode cX6_slotOf 63 = .ok (.isub, 1) := by decide +kernel
theorem dX6_slotOf_64 : decode cX6_slotOf 64 = .ok (.ireturn, 1) := by decide +kernel
def rm_fSg_slotOf : Room := { frames := 1, cells := 0, slots := 0, locals := 60 }
set_option maxHeartbeats 4000000 in
set_option maxRecDepth 100000 in
theorem c_fSg_slotOf (l : Launch) (X : eX) (sz : Nat) (a1 : Int32) (σ : sT) (rz : Int32) (σz : sT) (h0 : fSg_slotOf a1 σ = some (rz, σz)) : ctI l yX6_slotOf cX6_slotOf 3 (some .int) rm_fSg_slotOf [.ref (X.2.1 24), .int a1] (wC X) (tC X) (aC X) X sz σ rz σz := by
  refine ct_of (by decide +kernel) (Nat.le_of_ble_eq_true rfl) ?_
  intro p e s m args below meth c ls hz B hl Z
  have B : Bd p s m args meth c RX6 cX6_slotOf 3 (some .int) := B
  have hl : lv_has ls 3 [(0, .ref (X.2.1 24)), (1, .int a1)] := hl
  have hx := B.1
  have hb := B.2.1
  unfold fSg_slotOf at h0
  refine lv_iconst (v := (0 : Int32)) hx hb dX6_slotOf_0 (by decide) ?_
  refine lv_istore_n (lv' := [(2, .int (0 : Int32)), (0, .ref (X.2.1 24)), (1, .int a1)]) hx hb dX6_slotOf_1 rfl hl (by decide) rfl (fun ls hl => ?_)
  obtain ⟨K2, eK2, h7⟩ := dlt_s h0
  clear h0
  have kK2 : ∀ (H : Heap) (locs : List Loc) (ls : Array Slot), Wd (wC X) (tC X) (aC X) X s σ H locs → lv_has ls 3 [(0, .ref (X.2.1 24)), (1, .int a1)] → K2 () = some (rz, σz) → W p l e rm_fSg_slotOf s m args below meth c H locs 0 0 (MQ below (va_Qi (fun a u => a = rz ∧ u = σz) (poW (wC X) (tC X) (aC X) X sz) (aA (aC X) sz)) args s 0 0 (aA (aC X) sz)) (F0 m 28 ls []) := by
    intro  H locs ls Z hl h1
    rw [eK2] at h1
    refine lv_aload_n hx hb dX6_slotOf_28 rfl (lv_at hl 0 rfl) ?_
    refine g_24_3 B Z kf_RX6_23 dX6_slotOf_29 ?_
    refine lv_iconst (v := (5 : Int32)) hx hb dX6_slotOf_32 (by decide) ?_
    refine lv_icmp_lt (tgt := 38) hx hb dX6_slotOf_33 (by decide) (fun c3 => ?_) (fun c3 => ?_)
    · have h2 := dit h1 c3
      clear h1
      refine lv_aload_n hx hb dX6_slotOf_38 rfl (lv_at hl 0 rfl) ?_
      refine g_24_2 B Z kf_RX6_9 dX6_slotOf_39 ?_
      refine lv_aload_n hx hb dX6_slotOf_42 rfl (lv_at hl 0 rfl) ?_
      refine g_24_3 B Z kf_RX6_23 dX6_slotOf_43 ?_
      refine lv_iload_n hx hb dX6_slotOf_46 rfl (lv_at hl 1 rfl) ?_
      obtain ⟨z4, h3⟩ := dck_s h2
      clear h2
      refine st_25 B Z z4 dX6_slotOf_47 (fun H locs Z => ?_)
      obtain ⟨σ5, eσ5, h4⟩ := dlt_s h3
      clear h3
      replace Z := Wd.eq eσ5 Z
      clear eσ5
      refine lv_aload_n hx hb dX6_slotOf_48 rfl (lv_at hl 0 rfl) ?_
      refine lv_dup hx hb dX6_slotOf_49 rfl ?_
      refine g_24_3 B Z kf_RX6_23 dX6_slotOf_50 ?_
      refine lv_iconst (v := (1 : Int32)) hx hb dX6_slotOf_53 (by decide) ?_
      refine lv_iadd hx hb dX6_slotOf_54 ?_
      refine s_24_3 B Z kf_RX6_23 dX6_slotOf_55 (fun H locs Z => ?_)
      obtain ⟨σ6, eσ6, h5⟩ := dlt_s h4
      clear h4
      replace Z := Wd.eq eσ6 Z
      clear eσ6
      refine lv_aload_n hx hb dX6_slotOf_58 rfl (lv_at hl 0 rfl) ?_
      refine g_24_3 B Z kf_RX6_23 dX6_slotOf_59 ?_
      refine lv_iconst (v := (1 : Int32)) hx hb dX6_slotOf_62 (by decide) ?_
      refine lv_isub hx hb dX6_slotOf_63 ?_
      exact reI B Z rfl hz h5 dX6_slotOf_64
    · have h6 := dif h1 c3
      clear h1
      refine lv_iconst (v := (-1 : Int32)) hx hb dX6_slotOf_36 (by decide) ?_
      exact reI B Z rfl hz h6 dX6_slotOf_37
  clear eK2
  have lL2 : ∀ (n : Nat), ∀ (x1 : Int32) (H : Heap) (locs : List Loc) (ls : Array Slot), Wd (wC X) (tC X) (aC X) X s σ H locs → lv_has ls 3 [(0, .ref (X.2.1 24)), (1, .int a1), (2, .int x1)] → fSg_slotOf_L2 a1 σ K2 n x1 = some (rz, σz) → W p l e rm_fSg_slotOf s m args below meth c H locs 0 0 (MQ below (va_Qi (fun a u => a = rz ∧ u = σz) (poW (wC X) (tC X) (aC X) X sz) (aA (aC X) sz)) args s 0 0 (aA (aC X) sz)) (F0 m 2 ls []) := by
    intro n
    induction n with
    | zero =>
      intro x1 H locs ls Z hl h
      exact nomatch (show (none : Option (Int32 × sT)) = some _ from h)
    | succ n7 ih2 =>
      intro x1 H locs ls Z hl h8
      unfold fSg_slotOf_L2 at h8
      refine lv_iload_n hx hb dX6_slotOf_2 rfl (lv_at hl 2 rfl) ?_
      refine lv_aload_n hx hb dX6_slotOf_3 rfl (lv_at hl 0 rfl) ?_
      refine g_24_3 B Z kf_RX6_23 dX6_slotOf_4 ?_
      refine lv_icmp_ge (tgt := 28) hx hb dX6_slotOf_7 (by decide) (fun c8 => ?_) (fun c8 => ?_)
      · have h9 := dit h8 c8
        clear h8
        exact kK2  _ _ _ Z (lv_sub hl [0, 1] rfl) h9
      · have h10 := dif h8 c8
        clear h8
        refine lv_aload_n hx hb dX6_slotOf_10 rfl (lv_at hl 0 rfl) ?_
        refine g_24_2 B Z kf_RX6_9 dX6_slotOf_11 ?_
        refine lv_iload_n hx hb dX6_slotOf_14 rfl (lv_at hl 2 rfl) ?_
        obtain ⟨z9, h11⟩ := dck_s h10
        clear h10
        refine ld_25 B Z z9 dX6_slotOf_15 ?_
        refine lv_iload_n hx hb dX6_slotOf_16 rfl (lv_at hl 1 rfl) ?_
        refine lv_icmp_ne (tgt := 22) hx hb dX6_slotOf_17 (by decide) (fun c10 => ?_) (fun c10 => ?_)
        · have h12 := dif h11 c10
          clear h11
          refine lv_iinc (v := x1 + (1 : Int32)) (lv' := [(2, .int (x1 + (1 : Int32))), (0, .ref (X.2.1 24)), (1, .int a1)]) hx hb dX6_slotOf_22 hl (k := 2) rfl (by rfl) (by decide) rfl (fun ls hl => ?_)
          refine lv_goto (tgt := 2) hx hb dX6_slotOf_25 (by decide) ?_
          exact ih2 (x1 + (1 : Int32)) _ _ _ Z (lv_sub hl [1, 2, 0] rfl) h12
        · have h13 := dit h11 c10
          clear h11
          refine lv_iload_n hx hb dX6_slotOf_20 rfl (lv_at hl 2 rfl) ?_
          exact reI B Z rfl hz h13 dX6_slotOf_21
  exact lL2 FU (0 : Int32) _ _ _ Z (lv_sub hl [1, 2, 0] rfl) h7
theorem dX11_sides_0 : decode cX11_sides 0 = .ok (.aload_n 0, 1) := by decide +kernel
theorem dX11_sides_1 : decode cX11_sides 1 = .ok (.getfield 10, 3) := by decide +kernel
theorem dX11_sides_4 : decode cX11_sides 4 = .ok (.iload_n 1, 1) := by decide +kernel
theorem dX11_sides_5 : decode cX11_sides 5 = .ok (.invokevirtual 118, 3) := by decide +kernel
theorem dX11_sides_8 : decode cX11_sides 8 = .ok (.ifCond .eq 11, 3) := by decide +kernel
theorem dX11_sides_11 : decode cX11_sides 11 = .ok (.iload_n 1, 1) := by decide +kernel
theorem dX11_sides_12 : decode cX11_sides 12 = .ok (.invokestatic 182, 3) := by decide +kernel
theorem dX11_sides_15 : decode cX11_sides 15 = .ok (.iconst 5, 1) := by decide +kernel
theorem dX11_sides_16 : decode cX11_sides 16 = .ok (.if_icmp .le 8, 3) := by decide +kernel
theorem dX11_sides_19 : decode cX11_sides 19 = .ok (.aload_n 0, 1) := by decide +kernel
theorem dX11_sides_20 : decode cX11_sides 20 = .ok (.invokevirtual 77, 3) := by decide +kernel
theorem dX11_sides_23 : decode cX11_sides 23 = .ok (.ireturn, 1) := by decide +kernel
theorem dX11_sides_24 : decode cX11_sides 24 = .ok (.aload_n 0, 1) := by decide +kernel
theorem dX11_sides_25 : decode cX11_sides 25 = .ok (.getfield 37, 3) := by decide +kernel
theorem dX11_sides_28 : decode cX11_sides 28 = .ok (.invokevirtual 187, 3) := by decide +kernel
theorem dX11_sides_31 : decode cX11_sides 31 = .ok (.iconst 0, 1) := by decide +kernel
theorem dX11_sides_32 : decode cX11_sides 32 = .ok (.istore_n 2, 1) := by decide +kernel
theorem dX11_sides_33 : decode cX11_sides 33 = .ok (.iload_n 2, 1) := by decide +kernel
theorem dX11_sides_34 : decode cX11_sides 34 = .ok (.bipush 12, 2) := by decide +kernel
theorem dX11_sides_36 : decode cX11_sides 36 = .ok (.if_icmp .ge 26, 3) := by decide +kernel
theorem dX11_sides_39 : decode cX11_sides 39 = .ok (.iload_n 1, 1) := by decide +kernel
theorem dX11_sides_40 : decode cX11_sides 40 = .ok (.iload_n 2, 1) := by decide +kernel
theorem dX11_sides_41 : decode cX11_sides 41 = .ok (.invokestatic 150, 3) := by decide +kernel
theorem dX11_sides_44 : decode cX11_sides 44 = .ok (.ifCond .eq 12, 3) := by decide +kernel
theorem dX11_sides_47 : decode cX11_sides 47 = .ok (.aload_n 0, 1) := by decide +kernel
theorem dX11_sides_48 : decode cX11_sides 48 = .ok (.getfield 37, 3) := by decide +kernel
theorem dX11_sides_51 : decode cX11_sides 51 = .ok (.iload_n 2, 1) := by decide +kernel
theorem dX11_sides_52 : decode cX11_sides 52 = .ok (.invokevirtual 190, 3) := by decide +kernel
theorem dX11_sides_55 : decode cX11_sides 55 = .ok (.pop, 1) := by decide +kernel
theorem dX11_sides_56 : decode cX11_sides 56 = .ok (.iinc 2 1, 3) := by decide +kernel
theorem dX11_sides_59 : decode cX11_sides 59 = .ok (.goto (-26), 3) := by decide +kernel
theorem dX11_sides_62 : decode cX11_sides 62 = .ok (.aload_n 0, 1) := by decide +kernel
theorem dX11_sides_63 : decode cX11_sides 63 = .ok (.getfield 21, 3) := by decide +kernel
theorem dX11_sides_66 : decode cX11_sides 66 = .ok (.invokevirtual 193, 3) := by decide +kernel
theorem dX11_sides_69 : decode cX11_sides 69 = .ok (.aload_n 0, 1) := by decide +kernel
theorem dX11_sides_70 : decode cX11_sides 70 = .ok (.getfield 37, 3) := by decide +kernel
theorem dX11_sides_73 : decode cX11_sides 73 = .ok (.iconst 0, 1) := by decide +kernel
theorem dX11_sides_74 : decode cX11_sides 74 = .ok (.iconst 0, 1) := by decide +kernel
theorem dX11_sides_75 : decode cX11_sides 75 = .ok (.iconst (-1), 1) := by decide +kernel
theorem dX11_sides_76 : decode cX11_sides 76 = .ok (.invokestatic 196, 3) := by decide +kernel
theorem dX11_sides_79 : decode cX11_sides 79 = .ok (.ireturn, 1) := by decide +kernel
def rm_fRM_sides : Room := { frames := 20, cells := 0, slots := 0, locals := 647 }
set_option maxHeartbeats 4000000 in
set_option maxRecDepth 100000 in
theorem c_fRM_sides (l : Launch) (X : eX) (sz : Nat) (a1 : Int32) (σ : sT) (rz : Int32) (σz : sT) (h0 : fRM_sides a1 σ = some (rz, σz)) : ctI l yX11_sides cX11_sides 3 (some .int) rm_fRM_sides [.ref (X.2.1 0), .int a1] (wC X) (tC X) (aC X) X sz σ rz σz := by
  refine ct_of (by decide +kernel) (Nat.le_of_ble_eq_true rfl) ?_
  intro p e s m args below meth c ls hz B hl Z
  have B : Bd p s m args meth c RX11 cX11_sides 3 (some .int) := B
  have hl : lv_has ls 3 [(0, .ref (X.2.1 0)), (1, .int a1)] := hl
  have hx := B.1
  have hb := B.2.1
  unfold fRM_sides at h0
  refine lv_aload_n hx hb dX11_sides_0 rfl (lv_at hl 0 rfl) ?_
  refine g_0_0 B Z kf_RX11_10 dX11_sides_1 ?_
  refine lv_iload_n hx hb dX11_sides_4 rfl (lv_at hl 1 rfl) ?_
  obtain ⟨r2, hc0, h1⟩ := db1_s h0
  clear h0
  refine cV_I [.int a1] [] B mx_yX0_covers (c_fBk_covers l X _ a1 σ r2 hc0) kl_RX11_118 mi_yX0_covers (rv_1 _ _) hcl_0 Z hl rfl rfl ⟨Nat.le_of_ble_eq_true rfl, Nat.le_of_ble_eq_true rfl⟩ rfl rfl (Nat.le_of_ble_eq_true rfl) dX11_sides_5 (fun H locs Z => ?_)
  clear hc0
  obtain ⟨J3, eJ3, h4⟩ := dlt_s h1
  clear h1
  have kJ3 : ∀ (H : Heap) (locs : List Loc) (ls : Array Slot), Wd (wC X) (tC X) (aC X) X s σ H locs → lv_has ls 3 [(0, .ref (X.2.1 0))] → J3 () = some (rz, σz) → W p l e rm_fRM_sides s m args below meth c H locs 0 0 (MQ below (va_Qi (fun a u => a = rz ∧ u = σz) (poW (wC X) (tC X) (aC X) X sz) (aA (aC X) sz)) args s 0 0 (aA (aC X) sz)) (F0 m 19 ls []) := by
    intro  H locs ls Z hl h2
    rw [eJ3] at h2
    refine lv_aload_n hx hb dX11_sides_19 rfl (lv_at hl 0 rfl) ?_
    obtain ⟨r5, σ6, hc3, h3⟩ := db2_s h2
    clear h2
    refine cV_I [] [] B mx_yX11_bad (c_fRM_bad l X _ σ r5 σ6 hc3) kl_RX11_77 mi_yX11_bad (rv_0 _ _) hcl_11 Z hl rfl rfl ⟨Nat.le_of_ble_eq_true rfl, Nat.le_of_ble_eq_true rfl⟩ rfl rfl (Nat.le_of_ble_eq_true rfl) dX11_sides_20 (fun H locs Z => ?_)
    clear hc3
    exact reI B Z rfl hz h3 dX11_sides_23
  clear eJ3
  refine lv_if_eq (tgt := 19) hx hb dX11_sides_8 (by decide) (fun c7 => ?_) (fun c7 => ?_)
  · have h5 := dit h4 c7
    clear h4
    exact kJ3  _ _ _ Z (lv_sub hl [0] rfl) h5
  · have h6 := dif h4 c7
    clear h4
    refine lv_iload_n hx hb dX11_sides_11 rfl (lv_at hl 1 rfl) ?_
    obtain ⟨r9, hc7, h7⟩ := db1_s h6
    clear h6
    refine cS_I [.int a1] [] B mx_yJ6_bitCount_0f7a4 (c_fJI_bitCount l X _ a1 σ r9 hc7) kl_RX11_182 ks_yJ6_bitCount_0f7a4 Z hl rfl rfl ⟨Nat.le_of_ble_eq_true rfl, Nat.le_of_ble_eq_true rfl⟩ rfl rfl (Nat.le_of_ble_eq_true rfl) dX11_sides_12 (fun H locs Z => ?_)
    clear hc7
    refine lv_iconst (v := (5 : Int32)) hx hb dX11_sides_15 (by decide) ?_
    refine lv_icmp_le (tgt := 24) hx hb dX11_sides_16 (by decide) (fun c10 => ?_) (fun c10 => ?_)
    · have h8 := dit h7 c10
      clear h7
      refine lv_aload_n hx hb dX11_sides_24 rfl (lv_at hl 0 rfl) ?_
      refine g_0_3 B Z kf_RX11_37 dX11_sides_25 ?_
      obtain ⟨σ12, hc10, h9⟩ := db1_s h8
      clear h8
      refine cV_V [] [] B mx_yX6_forget (c_fSg_forget l X _ σ σ12 hc10) kl_RX11_187 mi_yX6_forget (rv_24 _ _) hcl_6 Z hl rfl rfl ⟨Nat.le_of_ble_eq_true rfl, Nat.le_of_ble_eq_true rfl⟩ rfl rfl (Nat.le_of_ble_eq_true rfl) dX11_sides_28 (fun H locs Z => ?_)
      clear hc10
      refine lv_iconst (v := (0 : Int32)) hx hb dX11_sides_31 (by decide) ?_
      refine lv_istore_n (lv' := [(2, .int (0 : Int32)), (0, .ref (X.2.1 0)), (1, .int a1)]) hx hb dX11_sides_32 rfl hl (by decide) rfl (fun ls hl => ?_)
      obtain ⟨K16, eK16, h13⟩ := dlt_s h9
      clear h9
      have kK16 : ∀ (σ15 : sT) (H : Heap) (locs : List Loc) (ls : Array Slot), Wd (wC X) (tC X) (aC X) X s σ15 H locs → lv_has ls 3 [(0, .ref (X.2.1 0))] → K16 σ15 = some (rz, σz) → W p l e rm_fRM_sides s m args below meth c H locs 0 0 (MQ below (va_Qi (fun a u => a = rz ∧ u = σz) (poW (wC X) (tC X) (aC X) X sz) (aA (aC X) sz)) args s 0 0 (aA (aC X) sz)) (F0 m 62 ls []) := by
        intro σ15 H locs ls Z hl h10
        rw [eK16] at h10
        refine lv_aload_n hx hb dX11_sides_62 rfl (lv_at hl 0 rfl) ?_
        refine g_0_1 B Z kf_RX11_21 dX11_sides_63 ?_
        obtain ⟨σ18, hc16, h11⟩ := db1_s h10
        clear h10
        refine cV_V [] [] B mx_yX7_begin (c_fSo_begin l X _ σ15 σ18 hc16) kl_RX11_193 mi_yX7_begin (rv_5 _ _) hcl_7 Z hl rfl rfl ⟨Nat.le_of_ble_eq_true rfl, Nat.le_of_ble_eq_true rfl⟩ rfl rfl (Nat.le_of_ble_eq_true rfl) dX11_sides_66 (fun H locs Z => ?_)
        clear hc16
        refine lv_aload_n hx hb dX11_sides_69 rfl (lv_at hl 0 rfl) ?_
        refine g_0_3 B Z kf_RX11_37 dX11_sides_70 ?_
        refine lv_iconst (v := (0 : Int32)) hx hb dX11_sides_73 (by decide) ?_
        refine lv_iconst (v := (0 : Int32)) hx hb dX11_sides_74 (by decide) ?_
        refine lv_iconst (v := (-1 : Int32)) hx hb dX11_sides_75 (by decide) ?_
        obtain ⟨r20, σ21, hc18, h12⟩ := db2_s h11
        clear h11
        refine cSN_I [.ref (X.2.1 24), .int (0 : Int32), .int (0 : Int32), .int (-1 : Int32)] [] B mx_yX6_count ((c_fSg_rec l X RDSG) _ (0 : Int32) (0 : Int32) (-1 : Int32) σ18 r20 σ21 hc18) kx_RX11_196 ks_yX6_count Z hl rfl rfl ⟨Nat.le_of_ble_eq_true rfl, Nat.le_of_ble_eq_true rfl⟩ rfl rfl (Nat.le_of_ble_eq_true rfl) dX11_sides_76 (fun H locs Z => ?_)
        clear hc18
        exact reI B Z rfl hz h12 dX11_sides_79
      clear eK16
      have lL33 : ∀ (n : Nat), ∀ (x13 : Int32) (σ14 : sT) (H : Heap) (locs : List Loc) (ls : Array Slot), Wd (wC X) (tC X) (aC X) X s σ14 H locs → lv_has ls 3 [(0, .ref (X.2.1 0)), (1, .int a1), (2, .int x13)] → fRM_sides_L33 a1 K16 n x13 σ14 = some (rz, σz) → W p l e rm_fRM_sides s m args below meth c H locs 0 0 (MQ below (va_Qi (fun a u => a = rz ∧ u = σz) (poW (wC X) (tC X) (aC X) X sz) (aA (aC X) sz)) args s 0 0 (aA (aC X) sz)) (F0 m 33 ls []) := by
        intro n
        induction n with
        | zero =>
          intro x13 σ14 H locs ls Z hl h
          exact nomatch (show (none : Option (Int32 × sT)) = some _ from h)
        | succ n22 ih17 =>
          intro x13 σ14 H locs ls Z hl h14
          unfold fRM_sides_L33 at h14
          refine lv_iload_n hx hb dX11_sides_33 rfl (lv_at hl 2 rfl) ?_
          refine lv_bipush (v := (12 : Int32)) hx hb dX11_sides_34 (by decide) ?_
          refine lv_icmp_ge (tgt := 62) hx hb dX11_sides_36 (by decide) (fun c23 => ?_) (fun c23 => ?_)
          · have h15 := dit h14 c23
            clear h14
            exact kK16 σ14 _ _ _ Z (lv_sub hl [0] rfl) h15
          · have h16 := dif h14 c23
            clear h14
            refine lv_iload_n hx hb dX11_sides_39 rfl (lv_at hl 1 rfl) ?_
            refine lv_iload_n hx hb dX11_sides_40 rfl (lv_at hl 2 rfl) ?_
            obtain ⟨r25, hc23, h17⟩ := db1_s h16
            clear h16
            refine cS_I [.int a1, .int x13] [] B mx_yX11_isIn (c_fRM_isIn l X _ a1 x13 σ14 r25 hc23) kl_RX11_150 ks_yX11_isIn Z hl rfl rfl ⟨Nat.le_of_ble_eq_true rfl, Nat.le_of_ble_eq_true rfl⟩ rfl rfl (Nat.le_of_ble_eq_true rfl) dX11_sides_41 (fun H locs Z => ?_)
            clear hc23
            refine lv_if_eq (tgt := 56) hx hb dX11_sides_44 (by decide) (fun c26 => ?_) (fun c26 => ?_)
            · have h18 := dit h17 c26
              clear h17
              refine lv_iinc (v := x13 + (1 : Int32)) (lv' := [(2, .int (x13 + (1 : Int32))), (0, .ref (X.2.1 0)), (1, .int a1)]) hx hb dX11_sides_56 hl (k := 2) rfl (by rfl) (by decide) rfl (fun ls hl => ?_)
              refine lv_goto (tgt := 33) hx hb dX11_sides_59 (by decide) ?_
              exact ih17 (x13 + (1 : Int32)) σ14 _ _ _ Z (lv_sub hl [1, 2, 0] rfl) h18
            · have h19 := dif h17 c26
              clear h17
              refine lv_aload_n hx hb dX11_sides_47 rfl (lv_at hl 0 rfl) ?_
              refine g_0_3 B Z kf_RX11_37 dX11_sides_48 ?_
              refine lv_iload_n hx hb dX11_sides_51 rfl (lv_at hl 2 rfl) ?_
              obtain ⟨r28, σ29, hc26, h20⟩ := db2_s h19
              clear h19
              refine cV_I [.int x13] [] B mx_yX6_slotOf (c_fSg_slotOf l X _ x13 σ14 r28 σ29 hc26) kl_RX11_190 mi_yX6_slotOf (rv_24 _ _) hcl_6 Z hl rfl rfl ⟨Nat.le_of_ble_eq_true rfl, Nat.le_of_ble_eq_true rfl⟩ rfl rfl (Nat.le_of_ble_eq_true rfl) dX11_sides_52 (fun H locs Z => ?_)
              clear hc26
              refine lv_pop hx hb dX11_sides_55 rfl ?_
              refine lv_iinc (v := x13 + (1 : Int32)) (lv' := [(2, .int (x13 + (1 : Int32))), (0, .ref (X.2.1 0)), (1, .int a1)]) hx hb dX11_sides_56 hl (k := 2) rfl (by rfl) (by decide) rfl (fun ls hl => ?_)
              refine lv_goto (tgt := 33) hx hb dX11_sides_59 (by decide) ?_
              exact ih17 (x13 + (1 : Int32)) σ29 _ _ _ Z (lv_sub hl [1, 2, 0] rfl) h20
      exact lL33 FU (0 : Int32) σ12 _ _ _ Z (lv_sub hl [1, 2, 0] rfl) h13
    · have h21 := dif h7 c10
      clear h7
      exact kJ3  _ _ _ Z (lv_sub hl [0] rfl) h21
theorem dX5_start_0 : decode cX5_start 0 = .ok (.aload_n 0, 1) := by decide +kernel
theorem dX5_start_1 : decode cX5_start 1 = .ok (.iconst 0, 1) := by decide +kernel
theorem dX5_start_2 : decode cX5_start 2 = .ok (.putfield 19, 3) := by decide +kernel
theorem dX5_start_5 : decode cX5_start 5 = .ok (.aload_n 0, 1) := by decide +kernel
theorem dX5_start_6 : decode cX5_start 6 = .ok (.iconst (-1), 1) := by decide +kernel
theorem dX5_start_7 : decode cX5_start 7 = .ok (.putfield 22, 3) := by decide +kernel
theorem dX5_start_10 : decode cX5_start 10 = .ok (.return_, 1) := by decide +kernel
def rm_fSc_start : Room := { frames := 1, cells := 0, slots := 0, locals := 60 }
set_option maxHeartbeats 4000000 in
set_option maxRecDepth 100000 in
theorem c_fSc_start (l : Launch) (X : eX) (sz : Nat)  (σ : sT) (σz : sT) (h0 : fSc_start σ = some σz) : ctV l yX5_start cX5_start 1 none rm_fSc_start [.ref (X.2.1 26)] (wC X) (tC X) (aC X) X sz σ σz := by
  refine ct_of (by decide +kernel) (Nat.le_of_ble_eq_true rfl) ?_
  intro p e s m args below meth c ls hz B hl Z
  have B : Bd p s m args meth c RX5 cX5_start 1 none := B
  have hl : lv_has ls 1 [(0, .ref (X.2.1 26))] := hl
  have hx := B.1
  have hb := B.2.1
  unfold fSc_start at h0
  refine lv_aload_n hx hb dX5_start_0 rfl (lv_at hl 0 rfl) ?_
  refine lv_iconst (v := (0 : Int32)) hx hb dX5_start_1 (by decide) ?_
  refine s_26_2 B Z kf_RX5_19 dX5_start_2 (fun H locs Z => ?_)
  obtain ⟨σ1, eσ1, h1⟩ := dlt_s h0
  clear h0
  replace Z := Wd.eq eσ1 Z
  clear eσ1
  refine lv_aload_n hx hb dX5_start_5 rfl (lv_at hl 0 rfl) ?_
  refine lv_iconst (v := (-1 : Int32)) hx hb dX5_start_6 (by decide) ?_
  refine s_26_3 B Z kf_RX5_22 dX5_start_7 (fun H locs Z => ?_)
  obtain ⟨σ2, eσ2, h2⟩ := dlt_s h1
  clear h1
  replace Z := Wd.eq eσ2 Z
  clear eσ2
  exact reV B Z hz h2 dX5_start_10
theorem dX5_hasFailed_0 : decode cX5_hasFailed 0 = .ok (.aload_n 0, 1) := by decide +kernel
theorem dX5_hasFailed_1 : decode cX5_hasFailed 1 = .ok (.getfield 22, 3) := by decide +kernel
theorem dX5_hasFailed_4 : decode cX5_hasFailed 4 = .ok (.ifCond .lt 7, 3) := by decide +kernel
theorem dX5_hasFailed_7 : decode cX5_hasFailed 7 = .ok (.iconst 1, 1) := by decide +kernel
theorem dX5_hasFailed_8 : decode cX5_hasFailed 8 = .ok (.goto 4, 3) := by decide +kernel
theorem dX5_hasFailed_11 : decode cX5_hasFailed 11 = .ok (.iconst 0, 1) := by decide +kernel
theorem dX5_hasFailed_12 : decode cX5_hasFailed 12 = .ok (.ireturn, 1) := by decide +kernel
def rm_fSc_hasFailed : Room := { frames := 1, cells := 0, slots := 0, locals := 60 }
set_option maxHeartbeats 4000000 in
set_option maxRecDepth 100000 in
theorem c_fSc_hasFailed (l : Launch) (X : eX) (sz : Nat)  (σ : sT) (rz : Int32) (h0 : fSc_hasFailed σ = some rz) : ctI l yX5_hasFailed cX5_hasFailed 1 (some .boolean) rm_fSc_hasFailed [.ref (X.2.1 26)] (wC X) (tC X) (aC X) X sz σ rz σ := by
  refine ct_of (by decide +kernel) (Nat.le_of_ble_eq_true rfl) ?_
  intro p e s m args below meth c ls hz B hl Z
  have B : Bd p s m args meth c RX5 cX5_hasFailed 1 (some .boolean) := B
  have hl : lv_has ls 1 [(0, .ref (X.2.1 26))] := hl
  have hx := B.1
  have hb := B.2.1
  unfold fSc_hasFailed at h0
  refine lv_aload_n hx hb dX5_hasFailed_0 rfl (lv_at hl 0 rfl) ?_
  refine g_26_3 B Z kf_RX5_22 dX5_hasFailed_1 ?_
  refine lv_if_lt (tgt := 11) hx hb dX5_hasFailed_4 (by decide) (fun c1 => ?_) (fun c1 => ?_)
  · have h1 := dit h0 c1
    clear h0
    refine lv_iconst (v := (0 : Int32)) hx hb dX5_hasFailed_11 (by decide) ?_
    exact reI B Z rfl hz (congrArg (Option.map (fun q => (q, σ))) h1) dX5_hasFailed_12
  · have h2 := dif h0 c1
    clear h0
    refine lv_iconst (v := (1 : Int32)) hx hb dX5_hasFailed_7 (by decide) ?_
    refine lv_goto (tgt := 12) hx hb dX5_hasFailed_8 (by decide) ?_
    exact reI B Z rfl hz (congrArg (Option.map (fun q => (q, σ))) h2) dX5_hasFailed_12
