theorem dX12_isWaiting_0 : decode cX12_isWaiting 0 = .ok (.aload_n 0, 1) := by decide +kernel
theorem dX12_isWaiting_1 : decode cX12_isWaiting 1 = .ok (.getfield 303, 3) := by decide +kernel
theorem dX12_isWaiting_4 : decode cX12_isWaiting 4 = .ok (.ifCond .le 22, 3) := by decide +kernel
theorem dX12_isWaiting_7 : decode cX12_isWaiting 7 = .ok (.aload_n 0, 1) := by decide +kernel
theorem dX12_isWaiting_8 : decode cX12_isWaiting 8 = .ok (.getfield 50, 3) := by decide +kernel
theorem dX12_isWaiting_11 : decode cX12_isWaiting 11 = .ok (.aload_n 0, 1) := by decide +kernel
theorem dX12_isWaiting_12 : decode cX12_isWaiting 12 = .ok (.getfield 303, 3) := by decide +kernel
theorem dX12_isWaiting_15 : decode cX12_isWaiting 15 = .ok (.iconst 1, 1) := by decide +kernel
theorem dX12_isWaiting_16 : decode cX12_isWaiting 16 = .ok (.isub, 1) := by decide +kernel
theorem dX12_isWaiting_17 : decode cX12_isWaiting 17 = .ok (.iaload, 1) := by decide +kernel
theorem dX12_isWaiting_18 : decode cX12_isWaiting 18 = .ok (.iload_n 1, 1) := by decide +kernel
theorem dX12_isWaiting_19 : decode cX12_isWaiting 19 = .ok (.if_icmp .ne 7, 3) := by decide +kernel
theorem dX12_isWaiting_22 : decode cX12_isWaiting 22 = .ok (.iconst 1, 1) := by decide +kernel
theorem dX12_isWaiting_23 : decode cX12_isWaiting 23 = .ok (.goto 4, 3) := by decide +kernel
theorem dX12_isWaiting_26 : decode cX12_isWaiting 26 = .ok (.iconst 0, 1) := by decide +kernel
theorem dX12_isWaiting_27 : decode cX12_isWaiting 27 = .ok (.ireturn, 1) := by decide +kernel
def rm_fMM_isWaiting : Room := { frames := 1, cells := 0, slots := 0, locals := 60 }
set_option maxHeartbeats 4000000 in
set_option maxRecDepth 100000 in
theorem c_fMM_isWaiting (l : Launch) (X : eX) (sz : Nat) (a1 : Int32) (σ : sT) (rz : Int32) (h0 : fMM_isWaiting a1 σ = some rz) : ctI l yX12_isWaiting cX12_isWaiting 2 (some .boolean) rm_fMM_isWaiting [.ref (X.2.1 33), .int a1] (wM X) (tM X) (aM X) X sz σ rz σ := by
  refine ct_of (by decide +kernel) (Nat.le_of_ble_eq_true rfl) ?_
  intro p e s m args below meth c ls hz B hl Z
  have B : Bd p s m args meth c RX12 cX12_isWaiting 2 (some .boolean) := B
  have hl : lv_has ls 2 [(0, .ref (X.2.1 33)), (1, .int a1)] := hl
  have hx := B.1
  have hb := B.2.1
  unfold fMM_isWaiting at h0
  refine lv_aload_n hx hb dX12_isWaiting_0 rfl (lv_at hl 0 rfl) ?_
  refine g_33_31 B Z kf_RX12_303 dX12_isWaiting_1 ?_
  refine lv_if_le (tgt := 26) hx hb dX12_isWaiting_4 (by decide) (fun c1 => ?_) (fun c1 => ?_)
  · have h1 := dit h0 c1
    clear h0
    refine lv_iconst (v := (0 : Int32)) hx hb dX12_isWaiting_26 (by decide) ?_
    exact reI B Z rfl hz (congrArg (Option.map (fun q => (q, σ))) h1) dX12_isWaiting_27
  · have h2 := dif h0 c1
    clear h0
    refine lv_aload_n hx hb dX12_isWaiting_7 rfl (lv_at hl 0 rfl) ?_
    refine g_33_30 B Z kf_RX12_50 dX12_isWaiting_8 ?_
    refine lv_aload_n hx hb dX12_isWaiting_11 rfl (lv_at hl 0 rfl) ?_
    refine g_33_31 B Z kf_RX12_303 dX12_isWaiting_12 ?_
    refine lv_iconst (v := (1 : Int32)) hx hb dX12_isWaiting_15 (by decide) ?_
    refine lv_isub hx hb dX12_isWaiting_16 ?_
    obtain ⟨z2, h3⟩ := dck_s h2
    clear h2
    refine ld_47 B Z z2 dX12_isWaiting_17 ?_
    refine lv_iload_n hx hb dX12_isWaiting_18 rfl (lv_at hl 1 rfl) ?_
    refine lv_icmp_ne (tgt := 26) hx hb dX12_isWaiting_19 (by decide) (fun c3 => ?_) (fun c3 => ?_)
    · have h4 := dif h3 c3
      clear h3
      refine lv_iconst (v := (0 : Int32)) hx hb dX12_isWaiting_26 (by decide) ?_
      exact reI B Z rfl hz (congrArg (Option.map (fun q => (q, σ))) h4) dX12_isWaiting_27
    · have h5 := dit h3 c3
      clear h3
      refine lv_iconst (v := (1 : Int32)) hx hb dX12_isWaiting_22 (by decide) ?_
      refine lv_goto (tgt := 27) hx hb dX12_isWaiting_23 (by decide) ?_
      exact reI B Z rfl hz (congrArg (Option.map (fun q => (q, σ))) h5) dX12_isWaiting_27
theorem dX12_saysNots_0 : decode cX12_saysNots 0 = .ok (.aload_n 0, 1) := by decide +kernel
theorem dX12_saysNots_1 : decode cX12_saysNots 1 = .ok (.bipush 33, 2) := by decide +kernel
theorem dX12_saysNots_3 : decode cX12_saysNots 3 = .ok (.invokevirtual 309, 3) := by decide +kernel
theorem dX12_saysNots_6 : decode cX12_saysNots 6 = .ok (.ifCond .eq 10, 3) := by decide +kernel
theorem dX12_saysNots_9 : decode cX12_saysNots 9 = .ok (.aload_n 0, 1) := by decide +kernel
theorem dX12_saysNots_10 : decode cX12_saysNots 10 = .ok (.invokevirtual 312, 3) := by decide +kernel
theorem dX12_saysNots_13 : decode cX12_saysNots 13 = .ok (.goto (-13), 3) := by decide +kernel
theorem dX12_saysNots_16 : decode cX12_saysNots 16 = .ok (.return_, 1) := by decide +kernel
def rm_fMM_saysNots : Room := { frames := 3, cells := 0, slots := 0, locals := 101 }
set_option maxHeartbeats 4000000 in
set_option maxRecDepth 100000 in
theorem c_fMM_saysNots (l : Launch) (X : eX) (sz : Nat)  (σ : sT) (σz : sT) (h0 : fMM_saysNots σ = some σz) : ctV l yX12_saysNots cX12_saysNots 1 none rm_fMM_saysNots [.ref (X.2.1 33)] (wM X) (tM X) (aM X) X sz σ σz := by
  refine ct_of (by decide +kernel) (Nat.le_of_ble_eq_true rfl) ?_
  intro p e s m args below meth c ls hz B hl Z
  have B : Bd p s m args meth c RX12 cX12_saysNots 1 none := B
  have hl : lv_has ls 1 [(0, .ref (X.2.1 33))] := hl
  have hx := B.1
  have hb := B.2.1
  unfold fMM_saysNots at h0
  have lL0 : ∀ (n : Nat), ∀ (σ1 : sT) (H : Heap) (locs : List Loc) (ls : Array Slot), Wd (wM X) (tM X) (aM X) X s σ1 H locs → lv_has ls 1 [(0, .ref (X.2.1 33))] → fMM_saysNots_L0 n σ1 = some σz → W p l e rm_fMM_saysNots s m args below meth c H locs 0 0 (MQ below (va_Qv (fun u => u = σz) (poW (wM X) (tM X) (aM X) X sz) (aA (aM X) sz)) args s 0 0 (aA (aM X) sz)) (F0 m 0 ls []) := by
    intro n
    induction n with
    | zero =>
      intro σ1 H locs ls Z hl h
      exact nomatch (show (none : Option (sT)) = some _ from h)
    | succ n2 ih0 =>
      intro σ1 H locs ls Z hl h1
      unfold fMM_saysNots_L0 at h1
      refine lv_aload_n hx hb dX12_saysNots_0 rfl (lv_at hl 0 rfl) ?_
      refine lv_bipush (v := (33 : Int32)) hx hb dX12_saysNots_1 (by decide) ?_
      obtain ⟨r4, hc2, h2⟩ := db1_s h1
      clear h1
      refine cV_I [.int (33 : Int32)] [] B mx_yX12_isWaiting (c_fMM_isWaiting l X _ (33 : Int32) σ1 r4 hc2) kl_RX12_309 mi_yX12_isWaiting (rv_33 _ _) hcl_12 Z hl rfl rfl ⟨Nat.le_of_ble_eq_true rfl, Nat.le_of_ble_eq_true rfl⟩ rfl rfl (Nat.le_of_ble_eq_true rfl) dX12_saysNots_3 (fun H locs Z => ?_)
      clear hc2
      refine lv_if_eq (tgt := 16) hx hb dX12_saysNots_6 (by decide) (fun c5 => ?_) (fun c5 => ?_)
      · have h3 := dit h2 c5
        clear h2
        exact reV B Z hz h3 dX12_saysNots_16
      · have h4 := dif h2 c5
        clear h2
        refine lv_aload_n hx hb dX12_saysNots_9 rfl (lv_at hl 0 rfl) ?_
        obtain ⟨σ7, hc5, h5⟩ := db1_s h4
        clear h4
        refine cV_V [] [] B mx_yX12_saysWaiting (c_fMM_saysWaiting l X _ σ1 σ7 hc5) kl_RX12_312 mi_yX12_saysWaiting (rv_33 _ _) hcl_12 Z hl rfl rfl ⟨Nat.le_of_ble_eq_true rfl, Nat.le_of_ble_eq_true rfl⟩ rfl rfl (Nat.le_of_ble_eq_true rfl) dX12_saysNots_10 (fun H locs Z => ?_)
        clear hc5
        refine lv_goto (tgt := 0) hx hb dX12_saysNots_13 (by decide) ?_
        exact ih0 σ7 _ _ _ Z (lv_sub hl [0] rfl) h5
  exact lL0 FU σ _ _ _ Z (lv_sub hl [0] rfl) h0
theorem dX12_takesSign_0 : decode cX12_takesSign 0 = .ok (.iload_n 1, 1) := by decide +kernel
theorem dX12_takesSign_1 : decode cX12_takesSign 1 = .ok (.bipush 41, 2) := by decide +kernel
theorem dX12_takesSign_3 : decode cX12_takesSign 3 = .ok (.if_icmp .ne 62, 3) := by decide +kernel
theorem dX12_takesSign_6 : decode cX12_takesSign 6 = .ok (.aload_n 0, 1) := by decide +kernel
theorem dX12_takesSign_7 : decode cX12_takesSign 7 = .ok (.getfield 335, 3) := by decide +kernel
theorem dX12_takesSign_10 : decode cX12_takesSign 10 = .ok (.ifCond .le 55, 3) := by decide +kernel
theorem dX12_takesSign_13 : decode cX12_takesSign 13 = .ok (.aload_n 0, 1) := by decide +kernel
theorem dX12_takesSign_14 : decode cX12_takesSign 14 = .ok (.bipush 40, 2) := by decide +kernel
theorem dX12_takesSign_16 : decode cX12_takesSign 16 = .ok (.invokevirtual 309, 3) := by decide +kernel
theorem dX12_takesSign_19 : decode cX12_takesSign 19 = .ok (.ifCond .ne 10, 3) := by decide +kernel
theorem dX12_takesSign_22 : decode cX12_takesSign 22 = .ok (.aload_n 0, 1) := by decide +kernel
theorem dX12_takesSign_23 : decode cX12_takesSign 23 = .ok (.invokevirtual 312, 3) := by decide +kernel
theorem dX12_takesSign_26 : decode cX12_takesSign 26 = .ok (.goto (-13), 3) := by decide +kernel
theorem dX12_takesSign_29 : decode cX12_takesSign 29 = .ok (.aload_n 0, 1) := by decide +kernel
theorem dX12_takesSign_30 : decode cX12_takesSign 30 = .ok (.dup, 1) := by decide +kernel
theorem dX12_takesSign_31 : decode cX12_takesSign 31 = .ok (.getfield 303, 3) := by decide +kernel
theorem dX12_takesSign_34 : decode cX12_takesSign 34 = .ok (.iconst 1, 1) := by decide +kernel
theorem dX12_takesSign_35 : decode cX12_takesSign 35 = .ok (.isub, 1) := by decide +kernel
theorem dX12_takesSign_36 : decode cX12_takesSign 36 = .ok (.putfield 303, 3) := by decide +kernel
theorem dX12_takesSign_39 : decode cX12_takesSign 39 = .ok (.aload_n 0, 1) := by decide +kernel
theorem dX12_takesSign_40 : decode cX12_takesSign 40 = .ok (.dup, 1) := by decide +kernel
theorem dX12_takesSign_41 : decode cX12_takesSign 41 = .ok (.getfield 335, 3) := by decide +kernel
theorem dX12_takesSign_44 : decode cX12_takesSign 44 = .ok (.iconst 1, 1) := by decide +kernel
theorem dX12_takesSign_45 : decode cX12_takesSign 45 = .ok (.isub, 1) := by decide +kernel
theorem dX12_takesSign_46 : decode cX12_takesSign 46 = .ok (.putfield 335, 3) := by decide +kernel
theorem dX12_takesSign_49 : decode cX12_takesSign 49 = .ok (.aload_n 0, 1) := by decide +kernel
theorem dX12_takesSign_50 : decode cX12_takesSign 50 = .ok (.invokevirtual 332, 3) := by decide +kernel
theorem dX12_takesSign_53 : decode cX12_takesSign 53 = .ok (.aload_n 0, 1) := by decide +kernel
theorem dX12_takesSign_54 : decode cX12_takesSign 54 = .ok (.dup, 1) := by decide +kernel
theorem dX12_takesSign_55 : decode cX12_takesSign 55 = .ok (.getfield 290, 3) := by decide +kernel
theorem dX12_takesSign_58 : decode cX12_takesSign 58 = .ok (.iconst 1, 1) := by decide +kernel
theorem dX12_takesSign_59 : decode cX12_takesSign 59 = .ok (.iadd, 1) := by decide +kernel
theorem dX12_takesSign_60 : decode cX12_takesSign 60 = .ok (.putfield 290, 3) := by decide +kernel
theorem dX12_takesSign_63 : decode cX12_takesSign 63 = .ok (.iconst 1, 1) := by decide +kernel
theorem dX12_takesSign_64 : decode cX12_takesSign 64 = .ok (.ireturn, 1) := by decide +kernel
theorem dX12_takesSign_65 : decode cX12_takesSign 65 = .ok (.iload_n 1, 1) := by decide +kernel
theorem dX12_takesSign_66 : decode cX12_takesSign 66 = .ok (.bipush 38, 2) := by decide +kernel
theorem dX12_takesSign_68 : decode cX12_takesSign 68 = .ok (.if_icmp .eq 11, 3) := by decide +kernel
theorem dX12_takesSign_71 : decode cX12_takesSign 71 = .ok (.iload_n 1, 1) := by decide +kernel
theorem dX12_takesSign_72 : decode cX12_takesSign 72 = .ok (.bipush 124, 2) := by decide +kernel
theorem dX12_takesSign_74 : decode cX12_takesSign 74 = .ok (.if_icmp .eq 5, 3) := by decide +kernel
theorem dX12_takesSign_77 : decode cX12_takesSign 77 = .ok (.iconst 0, 1) := by decide +kernel
theorem dX12_takesSign_78 : decode cX12_takesSign 78 = .ok (.ireturn, 1) := by decide +kernel
theorem dX12_takesSign_79 : decode cX12_takesSign 79 = .ok (.aload_n 0, 1) := by decide +kernel
theorem dX12_takesSign_80 : decode cX12_takesSign 80 = .ok (.bipush 38, 2) := by decide +kernel
theorem dX12_takesSign_82 : decode cX12_takesSign 82 = .ok (.invokevirtual 309, 3) := by decide +kernel
theorem dX12_takesSign_85 : decode cX12_takesSign 85 = .ok (.ifCond .ne 18, 3) := by decide +kernel
theorem dX12_takesSign_88 : decode cX12_takesSign 88 = .ok (.iload_n 1, 1) := by decide +kernel
theorem dX12_takesSign_89 : decode cX12_takesSign 89 = .ok (.bipush 124, 2) := by decide +kernel
theorem dX12_takesSign_91 : decode cX12_takesSign 91 = .ok (.if_icmp .ne 19, 3) := by decide +kernel
theorem dX12_takesSign_94 : decode cX12_takesSign 94 = .ok (.aload_n 0, 1) := by decide +kernel
theorem dX12_takesSign_95 : decode cX12_takesSign 95 = .ok (.bipush 124, 2) := by decide +kernel
theorem dX12_takesSign_97 : decode cX12_takesSign 97 = .ok (.invokevirtual 309, 3) := by decide +kernel
theorem dX12_takesSign_100 : decode cX12_takesSign 100 = .ok (.ifCond .eq 10, 3) := by decide +kernel
theorem dX12_takesSign_103 : decode cX12_takesSign 103 = .ok (.aload_n 0, 1) := by decide +kernel
theorem dX12_takesSign_104 : decode cX12_takesSign 104 = .ok (.invokevirtual 312, 3) := by decide +kernel
theorem dX12_takesSign_107 : decode cX12_takesSign 107 = .ok (.goto (-28), 3) := by decide +kernel
theorem dX12_takesSign_110 : decode cX12_takesSign 110 = .ok (.aload_n 0, 1) := by decide +kernel
theorem dX12_takesSign_111 : decode cX12_takesSign 111 = .ok (.iload_n 1, 1) := by decide +kernel
theorem dX12_takesSign_112 : decode cX12_takesSign 112 = .ok (.invokevirtual 338, 3) := by decide +kernel
theorem dX12_takesSign_115 : decode cX12_takesSign 115 = .ok (.aload_n 0, 1) := by decide +kernel
theorem dX12_takesSign_116 : decode cX12_takesSign 116 = .ok (.iconst 1, 1) := by decide +kernel
theorem dX12_takesSign_117 : decode cX12_takesSign 117 = .ok (.putfield 326, 3) := by decide +kernel
theorem dX12_takesSign_120 : decode cX12_takesSign 120 = .ok (.aload_n 0, 1) := by decide +kernel
theorem dX12_takesSign_121 : decode cX12_takesSign 121 = .ok (.dup, 1) := by decide +kernel
theorem dX12_takesSign_122 : decode cX12_takesSign 122 = .ok (.getfield 290, 3) := by decide +kernel
theorem dX12_takesSign_125 : decode cX12_takesSign 125 = .ok (.iconst 1, 1) := by decide +kernel
theorem dX12_takesSign_126 : decode cX12_takesSign 126 = .ok (.iadd, 1) := by decide +kernel
theorem dX12_takesSign_127 : decode cX12_takesSign 127 = .ok (.putfield 290, 3) := by decide +kernel
theorem dX12_takesSign_130 : decode cX12_takesSign 130 = .ok (.iconst 1, 1) := by decide +kernel
theorem dX12_takesSign_131 : decode cX12_takesSign 131 = .ok (.ireturn, 1) := by decide +kernel
def rm_fMM_takesSign : Room := { frames := 4, cells := 0, slots := 0, locals := 121 }
set_option maxHeartbeats 4000000 in
set_option maxRecDepth 100000 in
theorem c_fMM_takesSign (l : Launch) (X : eX) (sz : Nat) (a1 : Int32) (σ : sT) (rz : Int32) (σz : sT) (h0 : fMM_takesSign a1 σ = some (rz, σz)) : ctI l yX12_takesSign cX12_takesSign 2 (some .boolean) rm_fMM_takesSign [.ref (X.2.1 33), .int a1] (wM X) (tM X) (aM X) X sz σ rz σz := by
  refine ct_of (by decide +kernel) (Nat.le_of_ble_eq_true rfl) ?_
  intro p e s m args below meth c ls hz B hl Z
  have B : Bd p s m args meth c RX12 cX12_takesSign 2 (some .boolean) := B
  have hl : lv_has ls 2 [(0, .ref (X.2.1 33)), (1, .int a1)] := hl
  have hx := B.1
  have hb := B.2.1
  unfold fMM_takesSign at h0
  refine lv_iload_n hx hb dX12_takesSign_0 rfl (lv_at hl 1 rfl) ?_
  refine lv_bipush (v := (41 : Int32)) hx hb dX12_takesSign_1 (by decide) ?_
  obtain ⟨J1, eJ1, h25⟩ := dlt_s h0
  clear h0
  have kJ1 : ∀ (H : Heap) (locs : List Loc) (ls : Array Slot), Wd (wM X) (tM X) (aM X) X s σ H locs → lv_has ls 2 [(0, .ref (X.2.1 33)), (1, .int a1)] → J1 () = some (rz, σz) → W p l e rm_fMM_takesSign s m args below meth c H locs 0 0 (MQ below (va_Qi (fun a u => a = rz ∧ u = σz) (poW (wM X) (tM X) (aM X) X sz) (aA (aM X) sz)) args s 0 0 (aA (aM X) sz)) (F0 m 65 ls []) := by
    intro  H locs ls Z hl h1
    rw [eJ1] at h1
    refine lv_iload_n hx hb dX12_takesSign_65 rfl (lv_at hl 1 rfl) ?_
    refine lv_bipush (v := (38 : Int32)) hx hb dX12_takesSign_66 (by decide) ?_
    obtain ⟨J2, eJ2, h20⟩ := dlt_s h1
    clear h1
    have kJ2 : ∀ (H : Heap) (locs : List Loc) (ls : Array Slot), Wd (wM X) (tM X) (aM X) X s σ H locs → lv_has ls 2 [(0, .ref (X.2.1 33)), (1, .int a1)] → J2 () = some (rz, σz) → W p l e rm_fMM_takesSign s m args below meth c H locs 0 0 (MQ below (va_Qi (fun a u => a = rz ∧ u = σz) (poW (wM X) (tM X) (aM X) X sz) (aA (aM X) sz)) args s 0 0 (aA (aM X) sz)) (F0 m 79 ls []) := by
      intro  H locs ls Z hl h2
      rw [eJ2] at h2
      obtain ⟨K5, eK5, h7⟩ := dlt_s h2
      clear h2
      have kK5 : ∀ (σ4 : sT) (H : Heap) (locs : List Loc) (ls : Array Slot), Wd (wM X) (tM X) (aM X) X s σ4 H locs → lv_has ls 2 [(0, .ref (X.2.1 33)), (1, .int a1)] → K5 σ4 = some (rz, σz) → W p l e rm_fMM_takesSign s m args below meth c H locs 0 0 (MQ below (va_Qi (fun a u => a = rz ∧ u = σz) (poW (wM X) (tM X) (aM X) X sz) (aA (aM X) sz)) args s 0 0 (aA (aM X) sz)) (F0 m 110 ls []) := by
        intro σ4 H locs ls Z hl h3
        rw [eK5] at h3
        refine lv_aload_n hx hb dX12_takesSign_110 rfl (lv_at hl 0 rfl) ?_
        refine lv_iload_n hx hb dX12_takesSign_111 rfl (lv_at hl 1 rfl) ?_
        obtain ⟨σ7, hc5, h4⟩ := db1_s h3
        clear h3
        refine cV_V [.int a1] [] B mx_yX12_waitsFor (c_fMM_waitsFor l X _ a1 σ4 σ7 hc5) kl_RX12_338 mi_yX12_waitsFor (rv_33 _ _) hcl_12 Z hl rfl rfl ⟨Nat.le_of_ble_eq_true rfl, Nat.le_of_ble_eq_true rfl⟩ rfl rfl (Nat.le_of_ble_eq_true rfl) dX12_takesSign_112 (fun H locs Z => ?_)
        clear hc5
        refine lv_aload_n hx hb dX12_takesSign_115 rfl (lv_at hl 0 rfl) ?_
        refine lv_iconst (v := (1 : Int32)) hx hb dX12_takesSign_116 (by decide) ?_
        refine s_33_34 B Z (by decide) kf_RX12_326 dX12_takesSign_117 (fun H locs Z => ?_)
        obtain ⟨σ8, eσ8, h5⟩ := dlt_s h4
        clear h4
        replace Z := Wd.eq eσ8 Z
        clear eσ8
        refine lv_aload_n hx hb dX12_takesSign_120 rfl (lv_at hl 0 rfl) ?_
        refine lv_dup hx hb dX12_takesSign_121 rfl ?_
        refine g_33_27 B Z kf_RX12_290 dX12_takesSign_122 ?_
        refine lv_iconst (v := (1 : Int32)) hx hb dX12_takesSign_125 (by decide) ?_
        refine lv_iadd hx hb dX12_takesSign_126 ?_
        refine s_33_27 B Z kf_RX12_290 dX12_takesSign_127 (fun H locs Z => ?_)
        obtain ⟨σ9, eσ9, h6⟩ := dlt_s h5
        clear h5
        replace Z := Wd.eq eσ9 Z
        clear eσ9
        refine lv_iconst (v := (1 : Int32)) hx hb dX12_takesSign_130 (by decide) ?_
        exact reI B Z rfl hz h6 dX12_takesSign_131
      clear eK5
      have lL79 : ∀ (n : Nat), ∀ (σ3 : sT) (H : Heap) (locs : List Loc) (ls : Array Slot), Wd (wM X) (tM X) (aM X) X s σ3 H locs → lv_has ls 2 [(0, .ref (X.2.1 33)), (1, .int a1)] → fMM_takesSign_L79 a1 K5 n σ3 = some (rz, σz) → W p l e rm_fMM_takesSign s m args below meth c H locs 0 0 (MQ below (va_Qi (fun a u => a = rz ∧ u = σz) (poW (wM X) (tM X) (aM X) X sz) (aA (aM X) sz)) args s 0 0 (aA (aM X) sz)) (F0 m 79 ls []) := by
        intro n
        induction n with
        | zero =>
          intro σ3 H locs ls Z hl h
          exact nomatch (show (none : Option (Int32 × sT)) = some _ from h)
        | succ n10 ih43 =>
          intro σ3 H locs ls Z hl h8
          unfold fMM_takesSign_L79 at h8
          refine lv_aload_n hx hb dX12_takesSign_79 rfl (lv_at hl 0 rfl) ?_
          refine lv_bipush (v := (38 : Int32)) hx hb dX12_takesSign_80 (by decide) ?_
          obtain ⟨r12, hc10, h9⟩ := db1_s h8
          clear h8
          refine cV_I [.int (38 : Int32)] [] B mx_yX12_isWaiting (c_fMM_isWaiting l X _ (38 : Int32) σ3 r12 hc10) kl_RX12_309 mi_yX12_isWaiting (rv_33 _ _) hcl_12 Z hl rfl rfl ⟨Nat.le_of_ble_eq_true rfl, Nat.le_of_ble_eq_true rfl⟩ rfl rfl (Nat.le_of_ble_eq_true rfl) dX12_takesSign_82 (fun H locs Z => ?_)
          clear hc10
          obtain ⟨J13, eJ13, h12⟩ := dlt_s h9
          clear h9
          have kJ13 : ∀ (H : Heap) (locs : List Loc) (ls : Array Slot), Wd (wM X) (tM X) (aM X) X s σ3 H locs → lv_has ls 2 [(0, .ref (X.2.1 33)), (1, .int a1)] → J13 () = some (rz, σz) → W p l e rm_fMM_takesSign s m args below meth c H locs 0 0 (MQ below (va_Qi (fun a u => a = rz ∧ u = σz) (poW (wM X) (tM X) (aM X) X sz) (aA (aM X) sz)) args s 0 0 (aA (aM X) sz)) (F0 m 103 ls []) := by
            intro  H locs ls Z hl h10
            rw [eJ13] at h10
            refine lv_aload_n hx hb dX12_takesSign_103 rfl (lv_at hl 0 rfl) ?_
            obtain ⟨σ15, hc13, h11⟩ := db1_s h10
            clear h10
            refine cV_V [] [] B mx_yX12_saysWaiting (c_fMM_saysWaiting l X _ σ3 σ15 hc13) kl_RX12_312 mi_yX12_saysWaiting (rv_33 _ _) hcl_12 Z hl rfl rfl ⟨Nat.le_of_ble_eq_true rfl, Nat.le_of_ble_eq_true rfl⟩ rfl rfl (Nat.le_of_ble_eq_true rfl) dX12_takesSign_104 (fun H locs Z => ?_)
            clear hc13
            refine lv_goto (tgt := 79) hx hb dX12_takesSign_107 (by decide) ?_
            exact ih43 σ15 _ _ _ Z (lv_sub hl [0, 1] rfl) h11
          clear eJ13
          refine lv_if_ne (tgt := 103) hx hb dX12_takesSign_85 (by decide) (fun c16 => ?_) (fun c16 => ?_)
          · have h13 := dif h12 c16
            clear h12
            exact kJ13  _ _ _ Z (lv_sub hl [0, 1] rfl) h13
          · have h14 := dit h12 c16
            clear h12
            refine lv_iload_n hx hb dX12_takesSign_88 rfl (lv_at hl 1 rfl) ?_
            refine lv_bipush (v := (124 : Int32)) hx hb dX12_takesSign_89 (by decide) ?_
            refine lv_icmp_ne (tgt := 110) hx hb dX12_takesSign_91 (by decide) (fun c17 => ?_) (fun c17 => ?_)
            · have h15 := dif h14 c17
              clear h14
              exact kK5 σ3 _ _ _ Z (lv_sub hl [0, 1] rfl) h15
            · have h16 := dit h14 c17
              clear h14
              refine lv_aload_n hx hb dX12_takesSign_94 rfl (lv_at hl 0 rfl) ?_
              refine lv_bipush (v := (124 : Int32)) hx hb dX12_takesSign_95 (by decide) ?_
              obtain ⟨r19, hc17, h17⟩ := db1_s h16
              clear h16
              refine cV_I [.int (124 : Int32)] [] B mx_yX12_isWaiting (c_fMM_isWaiting l X _ (124 : Int32) σ3 r19 hc17) kl_RX12_309 mi_yX12_isWaiting (rv_33 _ _) hcl_12 Z hl rfl rfl ⟨Nat.le_of_ble_eq_true rfl, Nat.le_of_ble_eq_true rfl⟩ rfl rfl (Nat.le_of_ble_eq_true rfl) dX12_takesSign_97 (fun H locs Z => ?_)
              clear hc17
              refine lv_if_eq (tgt := 110) hx hb dX12_takesSign_100 (by decide) (fun c20 => ?_) (fun c20 => ?_)
              · have h18 := dit h17 c20
                clear h17
                exact kK5 σ3 _ _ _ Z (lv_sub hl [0, 1] rfl) h18
              · have h19 := dif h17 c20
                clear h17
                exact kJ13  _ _ _ Z (lv_sub hl [0, 1] rfl) h19
      exact lL79 FU σ _ _ _ Z (lv_sub hl [0, 1] rfl) h7
    clear eJ2
    refine lv_icmp_eq (tgt := 79) hx hb dX12_takesSign_68 (by decide) (fun c21 => ?_) (fun c21 => ?_)
    · have h21 := dit h20 c21
      clear h20
      exact kJ2  _ _ _ Z (lv_sub hl [0, 1] rfl) h21
    · have h22 := dif h20 c21
      clear h20
      refine lv_iload_n hx hb dX12_takesSign_71 rfl (lv_at hl 1 rfl) ?_
      refine lv_bipush (v := (124 : Int32)) hx hb dX12_takesSign_72 (by decide) ?_
      refine lv_icmp_eq (tgt := 79) hx hb dX12_takesSign_74 (by decide) (fun c22 => ?_) (fun c22 => ?_)
      · have h23 := dit h22 c22
        clear h22
        exact kJ2  _ _ _ Z (lv_sub hl [0, 1] rfl) h23
      · have h24 := dif h22 c22
        clear h22
        refine lv_iconst (v := (0 : Int32)) hx hb dX12_takesSign_77 (by decide) ?_
        exact reI B Z rfl hz h24 dX12_takesSign_78
  clear eJ1
  refine lv_icmp_ne (tgt := 65) hx hb dX12_takesSign_3 (by decide) (fun c23 => ?_) (fun c23 => ?_)
  · have h26 := dif h25 c23
    clear h25
    exact kJ1  _ _ _ Z (lv_sub hl [0, 1] rfl) h26
  · have h27 := dit h25 c23
    clear h25
    refine lv_aload_n hx hb dX12_takesSign_6 rfl (lv_at hl 0 rfl) ?_
    refine g_33_33 B Z kf_RX12_335 dX12_takesSign_7 ?_
    refine lv_if_le (tgt := 65) hx hb dX12_takesSign_10 (by decide) (fun c24 => ?_) (fun c24 => ?_)
    · have h28 := dit h27 c24
      clear h27
      exact kJ1  _ _ _ Z (lv_sub hl [0, 1] rfl) h28
    · have h29 := dif h27 c24
      clear h27
      obtain ⟨K27, eK27, h35⟩ := dlt_s h29
      clear h29
      have kK27 : ∀ (σ26 : sT) (H : Heap) (locs : List Loc) (ls : Array Slot), Wd (wM X) (tM X) (aM X) X s σ26 H locs → lv_has ls 2 [(0, .ref (X.2.1 33))] → K27 σ26 = some (rz, σz) → W p l e rm_fMM_takesSign s m args below meth c H locs 0 0 (MQ below (va_Qi (fun a u => a = rz ∧ u = σz) (poW (wM X) (tM X) (aM X) X sz) (aA (aM X) sz)) args s 0 0 (aA (aM X) sz)) (F0 m 29 ls []) := by
        intro σ26 H locs ls Z hl h30
        rw [eK27] at h30
        refine lv_aload_n hx hb dX12_takesSign_29 rfl (lv_at hl 0 rfl) ?_
        refine lv_dup hx hb dX12_takesSign_30 rfl ?_
        refine g_33_31 B Z kf_RX12_303 dX12_takesSign_31 ?_
        refine lv_iconst (v := (1 : Int32)) hx hb dX12_takesSign_34 (by decide) ?_
        refine lv_isub hx hb dX12_takesSign_35 ?_
        refine s_33_31 B Z kf_RX12_303 dX12_takesSign_36 (fun H locs Z => ?_)
        obtain ⟨σ28, eσ28, h31⟩ := dlt_s h30
        clear h30
        replace Z := Wd.eq eσ28 Z
        clear eσ28
        refine lv_aload_n hx hb dX12_takesSign_39 rfl (lv_at hl 0 rfl) ?_
        refine lv_dup hx hb dX12_takesSign_40 rfl ?_
        refine g_33_33 B Z kf_RX12_335 dX12_takesSign_41 ?_
        refine lv_iconst (v := (1 : Int32)) hx hb dX12_takesSign_44 (by decide) ?_
        refine lv_isub hx hb dX12_takesSign_45 ?_
        refine s_33_33 B Z kf_RX12_335 dX12_takesSign_46 (fun H locs Z => ?_)
        obtain ⟨σ29, eσ29, h32⟩ := dlt_s h31
        clear h31
        replace Z := Wd.eq eσ29 Z
        clear eσ29
        refine lv_aload_n hx hb dX12_takesSign_49 rfl (lv_at hl 0 rfl) ?_
        obtain ⟨σ31, hc29, h33⟩ := db1_s h32
        clear h32
        refine cV_V [] [] B mx_yX12_saysNots (c_fMM_saysNots l X _ σ29 σ31 hc29) kl_RX12_332 mi_yX12_saysNots (rv_33 _ _) hcl_12 Z hl rfl rfl ⟨Nat.le_of_ble_eq_true rfl, Nat.le_of_ble_eq_true rfl⟩ rfl rfl (Nat.le_of_ble_eq_true rfl) dX12_takesSign_50 (fun H locs Z => ?_)
        clear hc29
        refine lv_aload_n hx hb dX12_takesSign_53 rfl (lv_at hl 0 rfl) ?_
        refine lv_dup hx hb dX12_takesSign_54 rfl ?_
        refine g_33_27 B Z kf_RX12_290 dX12_takesSign_55 ?_
        refine lv_iconst (v := (1 : Int32)) hx hb dX12_takesSign_58 (by decide) ?_
        refine lv_iadd hx hb dX12_takesSign_59 ?_
        refine s_33_27 B Z kf_RX12_290 dX12_takesSign_60 (fun H locs Z => ?_)
        obtain ⟨σ32, eσ32, h34⟩ := dlt_s h33
        clear h33
        replace Z := Wd.eq eσ32 Z
        clear eσ32
        refine lv_iconst (v := (1 : Int32)) hx hb dX12_takesSign_63 (by decide) ?_
        exact reI B Z rfl hz h34 dX12_takesSign_64
      clear eK27
      have lL13 : ∀ (n : Nat), ∀ (σ25 : sT) (H : Heap) (locs : List Loc) (ls : Array Slot), Wd (wM X) (tM X) (aM X) X s σ25 H locs → lv_has ls 2 [(0, .ref (X.2.1 33))] → fMM_takesSign_L13 K27 n σ25 = some (rz, σz) → W p l e rm_fMM_takesSign s m args below meth c H locs 0 0 (MQ below (va_Qi (fun a u => a = rz ∧ u = σz) (poW (wM X) (tM X) (aM X) X sz) (aA (aM X) sz)) args s 0 0 (aA (aM X) sz)) (F0 m 13 ls []) := by
        intro n
        induction n with
        | zero =>
          intro σ25 H locs ls Z hl h
          exact nomatch (show (none : Option (Int32 × sT)) = some _ from h)
        | succ n33 ih6 =>
          intro σ25 H locs ls Z hl h36
          unfold fMM_takesSign_L13 at h36
          refine lv_aload_n hx hb dX12_takesSign_13 rfl (lv_at hl 0 rfl) ?_
          refine lv_bipush (v := (40 : Int32)) hx hb dX12_takesSign_14 (by decide) ?_
          obtain ⟨r35, hc33, h37⟩ := db1_s h36
          clear h36
          refine cV_I [.int (40 : Int32)] [] B mx_yX12_isWaiting (c_fMM_isWaiting l X _ (40 : Int32) σ25 r35 hc33) kl_RX12_309 mi_yX12_isWaiting (rv_33 _ _) hcl_12 Z hl rfl rfl ⟨Nat.le_of_ble_eq_true rfl, Nat.le_of_ble_eq_true rfl⟩ rfl rfl (Nat.le_of_ble_eq_true rfl) dX12_takesSign_16 (fun H locs Z => ?_)
          clear hc33
          refine lv_if_ne (tgt := 29) hx hb dX12_takesSign_19 (by decide) (fun c36 => ?_) (fun c36 => ?_)
          · have h38 := dif h37 c36
            clear h37
            exact kK27 σ25 _ _ _ Z (lv_sub hl [0] rfl) h38
          · have h39 := dit h37 c36
            clear h37
            refine lv_aload_n hx hb dX12_takesSign_22 rfl (lv_at hl 0 rfl) ?_
            obtain ⟨σ38, hc36, h40⟩ := db1_s h39
            clear h39
            refine cV_V [] [] B mx_yX12_saysWaiting (c_fMM_saysWaiting l X _ σ25 σ38 hc36) kl_RX12_312 mi_yX12_saysWaiting (rv_33 _ _) hcl_12 Z hl rfl rfl ⟨Nat.le_of_ble_eq_true rfl, Nat.le_of_ble_eq_true rfl⟩ rfl rfl (Nat.le_of_ble_eq_true rfl) dX12_takesSign_23 (fun H locs Z => ?_)
            clear hc36
            refine lv_goto (tgt := 13) hx hb dX12_takesSign_26 (by decide) ?_
            exact ih6 σ38 _ _ _ Z (lv_sub hl [0] rfl) h40
      exact lL13 FU σ _ _ _ Z (lv_sub hl [0] rfl) h35
theorem dX12_isFigure_0 : decode cX12_isFigure 0 = .ok (.iload_n 1, 1) := by decide +kernel
theorem dX12_isFigure_1 : decode cX12_isFigure 1 = .ok (.aload_n 0, 1) := by decide +kernel
theorem dX12_isFigure_2 : decode cX12_isFigure 2 = .ok (.getfield 293, 3) := by decide +kernel
theorem dX12_isFigure_5 : decode cX12_isFigure 5 = .ok (.if_icmp .ge 26, 3) := by decide +kernel
theorem dX12_isFigure_8 : decode cX12_isFigure 8 = .ok (.aload_n 0, 1) := by decide +kernel
theorem dX12_isFigure_9 : decode cX12_isFigure 9 = .ok (.getfield 44, 3) := by decide +kernel
theorem dX12_isFigure_12 : decode cX12_isFigure 12 = .ok (.iload_n 1, 1) := by decide +kernel
theorem dX12_isFigure_13 : decode cX12_isFigure 13 = .ok (.iaload, 1) := by decide +kernel
theorem dX12_isFigure_14 : decode cX12_isFigure 14 = .ok (.i2l, 1) := by decide +kernel
theorem dX12_isFigure_15 : decode cX12_isFigure 15 = .ok (.ldc2_w 296, 3) := by decide +kernel
theorem dX12_isFigure_18 : decode cX12_isFigure 18 = .ok (.ldc2_w 298, 3) := by decide +kernel
theorem dX12_isFigure_21 : decode cX12_isFigure 21 = .ok (.invokestatic 68, 3) := by decide +kernel
theorem dX12_isFigure_24 : decode cX12_isFigure 24 = .ok (.ifCond .eq 7, 3) := by decide +kernel
theorem dX12_isFigure_27 : decode cX12_isFigure 27 = .ok (.iconst 1, 1) := by decide +kernel
theorem dX12_isFigure_28 : decode cX12_isFigure 28 = .ok (.goto 4, 3) := by decide +kernel
theorem dX12_isFigure_31 : decode cX12_isFigure 31 = .ok (.iconst 0, 1) := by decide +kernel
theorem dX12_isFigure_32 : decode cX12_isFigure 32 = .ok (.ireturn, 1) := by decide +kernel
def rm_fMM_isFigure : Room := { frames := 2, cells := 0, slots := 0, locals := 85 }
set_option maxHeartbeats 4000000 in
set_option maxRecDepth 100000 in
theorem c_fMM_isFigure (l : Launch) (X : eX) (sz : Nat) (a1 : Int32) (σ : sT) (rz : Int32) (h0 : fMM_isFigure a1 σ = some rz) : ctI l yX12_isFigure cX12_isFigure 2 (some .boolean) rm_fMM_isFigure [.ref (X.2.1 33), .int a1] (wM X) (tM X) (aM X) X sz σ rz σ := by
  refine ct_of (by decide +kernel) (Nat.le_of_ble_eq_true rfl) ?_
  intro p e s m args below meth c ls hz B hl Z
  have B : Bd p s m args meth c RX12 cX12_isFigure 2 (some .boolean) := B
  have hl : lv_has ls 2 [(0, .ref (X.2.1 33)), (1, .int a1)] := hl
  have hx := B.1
  have hb := B.2.1
  unfold fMM_isFigure at h0
  refine lv_iload_n hx hb dX12_isFigure_0 rfl (lv_at hl 1 rfl) ?_
  refine lv_aload_n hx hb dX12_isFigure_1 rfl (lv_at hl 0 rfl) ?_
  refine g_33_26 B Z kf_RX12_293 dX12_isFigure_2 ?_
  refine lv_icmp_ge (tgt := 31) hx hb dX12_isFigure_5 (by decide) (fun c1 => ?_) (fun c1 => ?_)
  · have h1 := dit h0 c1
    clear h0
    refine lv_iconst (v := (0 : Int32)) hx hb dX12_isFigure_31 (by decide) ?_
    exact reI B Z rfl hz (congrArg (Option.map (fun q => (q, σ))) h1) dX12_isFigure_32
  · have h2 := dif h0 c1
    clear h0
    refine lv_aload_n hx hb dX12_isFigure_8 rfl (lv_at hl 0 rfl) ?_
    refine g_33_25 B Z kf_RX12_44 dX12_isFigure_9 ?_
    refine lv_iload_n hx hb dX12_isFigure_12 rfl (lv_at hl 1 rfl) ?_
    obtain ⟨z2, h3⟩ := dck_s h2
    clear h2
    refine ld_45 B Z z2 dX12_isFigure_13 ?_
    refine lv_i2l hx hb dX12_isFigure_14 rfl ?_
    refine lv_ldc2 hx hb B.2.2.2.1 (B.2.2.2.2.1 _ kc_RX12_296) dX12_isFigure_15 ?_
    refine lv_ldc2 hx hb B.2.2.2.1 (B.2.2.2.2.1 _ kc_RX12_298) dX12_isFigure_18 ?_
    obtain ⟨r4, hc2, h4⟩ := db1_s h3
    clear h3
    refine cS_I [.long ((σ.1 45 a1.toNatClampNeg).toInt64), .long (48 : Int64), .long (57 : Int64)] [] B mx_yX12_in (c_fMM_in l X _ ((σ.1 45 a1.toNatClampNeg).toInt64) (48 : Int64) (57 : Int64) σ r4 hc2) kl_RX12_68 ks_yX12_in Z hl rfl rfl ⟨Nat.le_of_ble_eq_true rfl, Nat.le_of_ble_eq_true rfl⟩ rfl rfl (Nat.le_of_ble_eq_true rfl) dX12_isFigure_21 (fun H locs Z => ?_)
    clear hc2
    refine lv_if_eq (tgt := 31) hx hb dX12_isFigure_24 (by decide) (fun c5 => ?_) (fun c5 => ?_)
    · have h5 := dit h4 c5
      clear h4
      refine lv_iconst (v := (0 : Int32)) hx hb dX12_isFigure_31 (by decide) ?_
      exact reI B Z rfl hz (congrArg (Option.map (fun q => (q, σ))) h5) dX12_isFigure_32
    · have h6 := dif h4 c5
      clear h4
      refine lv_iconst (v := (1 : Int32)) hx hb dX12_isFigure_27 (by decide) ?_
      refine lv_goto (tgt := 32) hx hb dX12_isFigure_28 (by decide) ?_
      exact reI B Z rfl hz (congrArg (Option.map (fun q => (q, σ))) h6) dX12_isFigure_32
theorem dX12_takesNumber_0 : decode cX12_takesNumber 0 = .ok (.iconst 0, 1) := by decide +kernel
theorem dX12_takesNumber_1 : decode cX12_takesNumber 1 = .ok (.istore_n 1, 1) := by decide +kernel
theorem dX12_takesNumber_2 : decode cX12_takesNumber 2 = .ok (.aload_n 0, 1) := by decide +kernel
theorem dX12_takesNumber_3 : decode cX12_takesNumber 3 = .ok (.iconst 0, 1) := by decide +kernel
theorem dX12_takesNumber_4 : decode cX12_takesNumber 4 = .ok (.putfield 315, 3) := by decide +kernel
theorem dX12_takesNumber_7 : decode cX12_takesNumber 7 = .ok (.aload_n 0, 1) := by decide +kernel
theorem dX12_takesNumber_8 : decode cX12_takesNumber 8 = .ok (.aload_n 0, 1) := by decide +kernel
theorem dX12_takesNumber_9 : decode cX12_takesNumber 9 = .ok (.getfield 290, 3) := by decide +kernel
theorem dX12_takesNumber_12 : decode cX12_takesNumber 12 = .ok (.invokevirtual 317, 3) := by decide +kernel
theorem dX12_takesNumber_15 : decode cX12_takesNumber 15 = .ok (.ifCond .eq 48, 3) := by decide +kernel
theorem dX12_takesNumber_18 : decode cX12_takesNumber 18 = .ok (.iload_n 1, 1) := by decide +kernel
theorem dX12_takesNumber_19 : decode cX12_takesNumber 19 = .ok (.iconst 2, 1) := by decide +kernel
theorem dX12_takesNumber_20 : decode cX12_takesNumber 20 = .ok (.if_icmp .ge 43, 3) := by decide +kernel
theorem dX12_takesNumber_23 : decode cX12_takesNumber 23 = .ok (.aload_n 0, 1) := by decide +kernel
theorem dX12_takesNumber_24 : decode cX12_takesNumber 24 = .ok (.bipush 10, 2) := by decide +kernel
theorem dX12_takesNumber_26 : decode cX12_takesNumber 26 = .ok (.aload_n 0, 1) := by decide +kernel
theorem dX12_takesNumber_27 : decode cX12_takesNumber 27 = .ok (.getfield 315, 3) := by decide +kernel
theorem dX12_takesNumber_30 : decode cX12_takesNumber 30 = .ok (.imul, 1) := by decide +kernel
theorem dX12_takesNumber_31 : decode cX12_takesNumber 31 = .ok (.aload_n 0, 1) := by decide +kernel
theorem dX12_takesNumber_32 : decode cX12_takesNumber 32 = .ok (.getfield 44, 3) := by decide +kernel
theorem dX12_takesNumber_35 : decode cX12_takesNumber 35 = .ok (.aload_n 0, 1) := by decide +kernel
theorem dX12_takesNumber_36 : decode cX12_takesNumber 36 = .ok (.getfield 290, 3) := by decide +kernel
theorem dX12_takesNumber_39 : decode cX12_takesNumber 39 = .ok (.iaload, 1) := by decide +kernel
theorem dX12_takesNumber_40 : decode cX12_takesNumber 40 = .ok (.iadd, 1) := by decide +kernel
theorem dX12_takesNumber_41 : decode cX12_takesNumber 41 = .ok (.bipush 48, 2) := by decide +kernel
theorem dX12_takesNumber_43 : decode cX12_takesNumber 43 = .ok (.isub, 1) := by decide +kernel
theorem dX12_takesNumber_44 : decode cX12_takesNumber 44 = .ok (.putfield 315, 3) := by decide +kernel
theorem dX12_takesNumber_47 : decode cX12_takesNumber 47 = .ok (.aload_n 0, 1) := by decide +kernel
theorem dX12_takesNumber_48 : decode cX12_takesNumber 48 = .ok (.dup, 1) := by decide +kernel
theorem dX12_takesNumber_49 : decode cX12_takesNumber 49 = .ok (.getfield 290, 3) := by decide +kernel
theorem dX12_takesNumber_52 : decode cX12_takesNumber 52 = .ok (.iconst 1, 1) := by decide +kernel
theorem dX12_takesNumber_53 : decode cX12_takesNumber 53 = .ok (.iadd, 1) := by decide +kernel
theorem dX12_takesNumber_54 : decode cX12_takesNumber 54 = .ok (.putfield 290, 3) := by decide +kernel
theorem dX12_takesNumber_57 : decode cX12_takesNumber 57 = .ok (.iinc 1 1, 3) := by decide +kernel
theorem dX12_takesNumber_60 : decode cX12_takesNumber 60 = .ok (.goto (-53), 3) := by decide +kernel
theorem dX12_takesNumber_63 : decode cX12_takesNumber 63 = .ok (.iload_n 1, 1) := by decide +kernel
theorem dX12_takesNumber_64 : decode cX12_takesNumber 64 = .ok (.ifCond .le 18, 3) := by decide +kernel
theorem dX12_takesNumber_67 : decode cX12_takesNumber 67 = .ok (.aload_n 0, 1) := by decide +kernel
theorem dX12_takesNumber_68 : decode cX12_takesNumber 68 = .ok (.aload_n 0, 1) := by decide +kernel
theorem dX12_takesNumber_69 : decode cX12_takesNumber 69 = .ok (.getfield 290, 3) := by decide +kernel
theorem dX12_takesNumber_72 : decode cX12_takesNumber 72 = .ok (.invokevirtual 317, 3) := by decide +kernel
theorem dX12_takesNumber_75 : decode cX12_takesNumber 75 = .ok (.ifCond .ne 7, 3) := by decide +kernel
theorem dX12_takesNumber_78 : decode cX12_takesNumber 78 = .ok (.iconst 1, 1) := by decide +kernel
theorem dX12_takesNumber_79 : decode cX12_takesNumber 79 = .ok (.goto 4, 3) := by decide +kernel
theorem dX12_takesNumber_82 : decode cX12_takesNumber 82 = .ok (.iconst 0, 1) := by decide +kernel
theorem dX12_takesNumber_83 : decode cX12_takesNumber 83 = .ok (.ireturn, 1) := by decide +kernel
def rm_fMM_takesNumber : Room := { frames := 3, cells := 0, slots := 0, locals := 106 }
set_option maxHeartbeats 4000000 in
set_option maxRecDepth 100000 in
theorem c_fMM_takesNumber (l : Launch) (X : eX) (sz : Nat)  (σ : sT) (rz : Int32) (σz : sT) (h0 : fMM_takesNumber σ = some (rz, σz)) : ctI l yX12_takesNumber cX12_takesNumber 2 (some .boolean) rm_fMM_takesNumber [.ref (X.2.1 33)] (wM X) (tM X) (aM X) X sz σ rz σz := by
  refine ct_of (by decide +kernel) (Nat.le_of_ble_eq_true rfl) ?_
  intro p e s m args below meth c ls hz B hl Z
  have B : Bd p s m args meth c RX12 cX12_takesNumber 2 (some .boolean) := B
  have hl : lv_has ls 2 [(0, .ref (X.2.1 33))] := hl
  have hx := B.1
  have hb := B.2.1
  unfold fMM_takesNumber at h0
  refine lv_iconst (v := (0 : Int32)) hx hb dX12_takesNumber_0 (by decide) ?_
  refine lv_istore_n (lv' := [(1, .int (0 : Int32)), (0, .ref (X.2.1 33))]) hx hb dX12_takesNumber_1 rfl hl (by decide) rfl (fun ls hl => ?_)
  refine lv_aload_n hx hb dX12_takesNumber_2 rfl (lv_at hl 1 rfl) ?_
  refine lv_iconst (v := (0 : Int32)) hx hb dX12_takesNumber_3 (by decide) ?_
  refine s_33_32 B Z kf_RX12_315 dX12_takesNumber_4 (fun H locs Z => ?_)
  obtain ⟨σ1, eσ1, h1⟩ := dlt_s h0
  clear h0
  replace Z := Wd.eq eσ1 Z
  clear eσ1
  obtain ⟨K6, eK6, h8⟩ := dlt_s h1
  clear h1
  have kK6 : ∀ (x4 : Int32) (σ5 : sT) (H : Heap) (locs : List Loc) (ls : Array Slot), Wd (wM X) (tM X) (aM X) X s σ5 H locs → lv_has ls 2 [(0, .ref (X.2.1 33)), (1, .int x4)] → K6 x4 σ5 = some (rz, σz) → W p l e rm_fMM_takesNumber s m args below meth c H locs 0 0 (MQ below (va_Qi (fun a u => a = rz ∧ u = σz) (poW (wM X) (tM X) (aM X) X sz) (aA (aM X) sz)) args s 0 0 (aA (aM X) sz)) (F0 m 63 ls []) := by
    intro x4 σ5 H locs ls Z hl h2
    rw [eK6] at h2
    refine lv_iload_n hx hb dX12_takesNumber_63 rfl (lv_at hl 1 rfl) ?_
    refine lv_if_le (tgt := 82) hx hb dX12_takesNumber_64 (by decide) (fun c7 => ?_) (fun c7 => ?_)
    · have h3 := dit h2 c7
      clear h2
      refine lv_iconst (v := (0 : Int32)) hx hb dX12_takesNumber_82 (by decide) ?_
      exact reI B Z rfl hz h3 dX12_takesNumber_83
    · have h4 := dif h2 c7
      clear h2
      refine lv_aload_n hx hb dX12_takesNumber_67 rfl (lv_at hl 0 rfl) ?_
      refine lv_aload_n hx hb dX12_takesNumber_68 rfl (lv_at hl 0 rfl) ?_
      refine g_33_27 B Z kf_RX12_290 dX12_takesNumber_69 ?_
      obtain ⟨r9, hc7, h5⟩ := db1_s h4
      clear h4
      refine cV_I [.int (σ5.1 33 27)] [] B mx_yX12_isFigure (c_fMM_isFigure l X _ (σ5.1 33 27) σ5 r9 hc7) kl_RX12_317 mi_yX12_isFigure (rv_33 _ _) hcl_12 Z hl rfl rfl ⟨Nat.le_of_ble_eq_true rfl, Nat.le_of_ble_eq_true rfl⟩ rfl rfl (Nat.le_of_ble_eq_true rfl) dX12_takesNumber_72 (fun H locs Z => ?_)
      clear hc7
      refine lv_if_ne (tgt := 82) hx hb dX12_takesNumber_75 (by decide) (fun c10 => ?_) (fun c10 => ?_)
      · have h6 := dif h5 c10
        clear h5
        refine lv_iconst (v := (0 : Int32)) hx hb dX12_takesNumber_82 (by decide) ?_
        exact reI B Z rfl hz h6 dX12_takesNumber_83
      · have h7 := dit h5 c10
        clear h5
        refine lv_iconst (v := (1 : Int32)) hx hb dX12_takesNumber_78 (by decide) ?_
        refine lv_goto (tgt := 83) hx hb dX12_takesNumber_79 (by decide) ?_
        exact reI B Z rfl hz h7 dX12_takesNumber_83
  clear eK6
  have lL7 : ∀ (n : Nat), ∀ (x2 : Int32) (σ3 : sT) (H : Heap) (locs : List Loc) (ls : Array Slot), Wd (wM X) (tM X) (aM X) X s σ3 H locs → lv_has ls 2 [(0, .ref (X.2.1 33)), (1, .int x2)] → fMM_takesNumber_L7 K6 n x2 σ3 = some (rz, σz) → W p l e rm_fMM_takesNumber s m args below meth c H locs 0 0 (MQ below (va_Qi (fun a u => a = rz ∧ u = σz) (poW (wM X) (tM X) (aM X) X sz) (aA (aM X) sz)) args s 0 0 (aA (aM X) sz)) (F0 m 7 ls []) := by
    intro n
    induction n with
    | zero =>
      intro x2 σ3 H locs ls Z hl h
      exact nomatch (show (none : Option (Int32 × sT)) = some _ from h)
    | succ n11 ih5 =>
      intro x2 σ3 H locs ls Z hl h9
      unfold fMM_takesNumber_L7 at h9
      refine lv_aload_n hx hb dX12_takesNumber_7 rfl (lv_at hl 0 rfl) ?_
      refine lv_aload_n hx hb dX12_takesNumber_8 rfl (lv_at hl 0 rfl) ?_
      refine g_33_27 B Z kf_RX12_290 dX12_takesNumber_9 ?_
      obtain ⟨r13, hc11, h10⟩ := db1_s h9
      clear h9
      refine cV_I [.int (σ3.1 33 27)] [] B mx_yX12_isFigure (c_fMM_isFigure l X _ (σ3.1 33 27) σ3 r13 hc11) kl_RX12_317 mi_yX12_isFigure (rv_33 _ _) hcl_12 Z hl rfl rfl ⟨Nat.le_of_ble_eq_true rfl, Nat.le_of_ble_eq_true rfl⟩ rfl rfl (Nat.le_of_ble_eq_true rfl) dX12_takesNumber_12 (fun H locs Z => ?_)
      clear hc11
      refine lv_if_eq (tgt := 63) hx hb dX12_takesNumber_15 (by decide) (fun c14 => ?_) (fun c14 => ?_)
      · have h11 := dit h10 c14
        clear h10
        exact kK6 x2 σ3 _ _ _ Z (lv_sub hl [0, 1] rfl) h11
      · have h12 := dif h10 c14
        clear h10
        refine lv_iload_n hx hb dX12_takesNumber_18 rfl (lv_at hl 1 rfl) ?_
        refine lv_iconst (v := (2 : Int32)) hx hb dX12_takesNumber_19 (by decide) ?_
        refine lv_icmp_ge (tgt := 63) hx hb dX12_takesNumber_20 (by decide) (fun c15 => ?_) (fun c15 => ?_)
        · have h13 := dit h12 c15
          clear h12
          exact kK6 x2 σ3 _ _ _ Z (lv_sub hl [0, 1] rfl) h13
        · have h14 := dif h12 c15
          clear h12
          refine lv_aload_n hx hb dX12_takesNumber_23 rfl (lv_at hl 0 rfl) ?_
          refine lv_bipush (v := (10 : Int32)) hx hb dX12_takesNumber_24 (by decide) ?_
          refine lv_aload_n hx hb dX12_takesNumber_26 rfl (lv_at hl 0 rfl) ?_
          refine g_33_32 B Z kf_RX12_315 dX12_takesNumber_27 ?_
          refine lv_imul hx hb dX12_takesNumber_30 ?_
          refine lv_aload_n hx hb dX12_takesNumber_31 rfl (lv_at hl 0 rfl) ?_
          refine g_33_25 B Z kf_RX12_44 dX12_takesNumber_32 ?_
          refine lv_aload_n hx hb dX12_takesNumber_35 rfl (lv_at hl 0 rfl) ?_
          refine g_33_27 B Z kf_RX12_290 dX12_takesNumber_36 ?_
          obtain ⟨z16, h15⟩ := dck_s h14
          clear h14
          refine ld_45 B Z z16 dX12_takesNumber_39 ?_
          refine lv_iadd hx hb dX12_takesNumber_40 ?_
          refine lv_bipush (v := (48 : Int32)) hx hb dX12_takesNumber_41 (by decide) ?_
          refine lv_isub hx hb dX12_takesNumber_43 ?_
          refine s_33_32 B Z kf_RX12_315 dX12_takesNumber_44 (fun H locs Z => ?_)
          obtain ⟨σ17, eσ17, h16⟩ := dlt_s h15
          clear h15
          replace Z := Wd.eq eσ17 Z
          clear eσ17
          refine lv_aload_n hx hb dX12_takesNumber_47 rfl (lv_at hl 0 rfl) ?_
          refine lv_dup hx hb dX12_takesNumber_48 rfl ?_
          refine g_33_27 B Z kf_RX12_290 dX12_takesNumber_49 ?_
          refine lv_iconst (v := (1 : Int32)) hx hb dX12_takesNumber_52 (by decide) ?_
          refine lv_iadd hx hb dX12_takesNumber_53 ?_
          refine s_33_27 B Z kf_RX12_290 dX12_takesNumber_54 (fun H locs Z => ?_)
          obtain ⟨σ18, eσ18, h17⟩ := dlt_s h16
          clear h16
          replace Z := Wd.eq eσ18 Z
          clear eσ18
          refine lv_iinc (v := x2 + (1 : Int32)) (lv' := [(1, .int (x2 + (1 : Int32))), (0, .ref (X.2.1 33))]) hx hb dX12_takesNumber_57 hl (k := 1) rfl (by rfl) (by decide) rfl (fun ls hl => ?_)
          refine lv_goto (tgt := 7) hx hb dX12_takesNumber_60 (by decide) ?_
          exact ih5 (x2 + (1 : Int32)) σ18 _ _ _ Z (lv_sub hl [1, 0] rfl) h17
  exact lL7 FU (0 : Int32) σ1 _ _ _ Z (lv_sub hl [1, 0] rfl) h8
theorem dX12_takesRow_0 : decode cX12_takesRow 0 = .ok (.aload_n 0, 1) := by decide +kernel
theorem dX12_takesRow_1 : decode cX12_takesRow 1 = .ok (.getfield 290, 3) := by decide +kernel
theorem dX12_takesRow_4 : decode cX12_takesRow 4 = .ok (.istore_n 1, 1) := by decide +kernel
theorem dX12_takesRow_5 : decode cX12_takesRow 5 = .ok (.aload_n 0, 1) := by decide +kernel
theorem dX12_takesRow_6 : decode cX12_takesRow 6 = .ok (.invokevirtual 320, 3) := by decide +kernel
theorem dX12_takesRow_9 : decode cX12_takesRow 9 = .ok (.ifCond .ne 5, 3) := by decide +kernel
theorem dX12_takesRow_12 : decode cX12_takesRow 12 = .ok (.iconst 0, 1) := by decide +kernel
theorem dX12_takesRow_13 : decode cX12_takesRow 13 = .ok (.ireturn, 1) := by decide +kernel
theorem dX12_takesRow_14 : decode cX12_takesRow 14 = .ok (.aload_n 0, 1) := by decide +kernel
theorem dX12_takesRow_15 : decode cX12_takesRow 15 = .ok (.aload_n 0, 1) := by decide +kernel
theorem dX12_takesRow_16 : decode cX12_takesRow 16 = .ok (.aload_n 0, 1) := by decide +kernel
theorem dX12_takesRow_17 : decode cX12_takesRow 17 = .ok (.getfield 315, 3) := by decide +kernel
theorem dX12_takesRow_20 : decode cX12_takesRow 20 = .ok (.invokevirtual 180, 3) := by decide +kernel
theorem dX12_takesRow_23 : decode cX12_takesRow 23 = .ok (.ifCond .eq 10, 3) := by decide +kernel
theorem dX12_takesRow_26 : decode cX12_takesRow 26 = .ok (.aload_n 0, 1) := by decide +kernel
theorem dX12_takesRow_27 : decode cX12_takesRow 27 = .ok (.getfield 290, 3) := by decide +kernel
theorem dX12_takesRow_30 : decode cX12_takesRow 30 = .ok (.goto 4, 3) := by decide +kernel
theorem dX12_takesRow_33 : decode cX12_takesRow 33 = .ok (.iload_n 1, 1) := by decide +kernel
theorem dX12_takesRow_34 : decode cX12_takesRow 34 = .ok (.putfield 290, 3) := by decide +kernel
theorem dX12_takesRow_37 : decode cX12_takesRow 37 = .ok (.aload_n 0, 1) := by decide +kernel
theorem dX12_takesRow_38 : decode cX12_takesRow 38 = .ok (.aload_n 0, 1) := by decide +kernel
theorem dX12_takesRow_39 : decode cX12_takesRow 39 = .ok (.getfield 315, 3) := by decide +kernel
theorem dX12_takesRow_42 : decode cX12_takesRow 42 = .ok (.invokevirtual 180, 3) := by decide +kernel
theorem dX12_takesRow_45 : decode cX12_takesRow 45 = .ok (.ireturn, 1) := by decide +kernel
def rm_fMM_takesRow : Room := { frames := 4, cells := 0, slots := 0, locals := 127 }
set_option maxHeartbeats 4000000 in
set_option maxRecDepth 100000 in
theorem c_fMM_takesRow (l : Launch) (X : eX) (sz : Nat)  (σ : sT) (rz : Int32) (σz : sT) (h0 : fMM_takesRow σ = some (rz, σz)) : ctI l yX12_takesRow cX12_takesRow 2 (some .boolean) rm_fMM_takesRow [.ref (X.2.1 33)] (wM X) (tM X) (aM X) X sz σ rz σz := by
  refine ct_of (by decide +kernel) (Nat.le_of_ble_eq_true rfl) ?_
  intro p e s m args below meth c ls hz B hl Z
  have B : Bd p s m args meth c RX12 cX12_takesRow 2 (some .boolean) := B
  have hl : lv_has ls 2 [(0, .ref (X.2.1 33))] := hl
  have hx := B.1
  have hb := B.2.1
  unfold fMM_takesRow at h0
  refine lv_aload_n hx hb dX12_takesRow_0 rfl (lv_at hl 0 rfl) ?_
  refine g_33_27 B Z kf_RX12_290 dX12_takesRow_1 ?_
  refine lv_topi (fun x1 ex1 => ?_)
  have h1 := dlt_e ex1 h0
  clear ex1 h0
  refine lv_istore_n (lv' := [(1, .int x1), (0, .ref (X.2.1 33))]) hx hb dX12_takesRow_4 rfl hl (by decide) rfl (fun ls hl => ?_)
  refine lv_aload_n hx hb dX12_takesRow_5 rfl (lv_at hl 1 rfl) ?_
  obtain ⟨r3, σ4, hc1, h2⟩ := db2_s h1
  clear h1
  refine cV_I [] [] B mx_yX12_takesNumber (c_fMM_takesNumber l X _ σ r3 σ4 hc1) kl_RX12_320 mi_yX12_takesNumber (rv_33 _ _) hcl_12 Z hl rfl rfl ⟨Nat.le_of_ble_eq_true rfl, Nat.le_of_ble_eq_true rfl⟩ rfl rfl (Nat.le_of_ble_eq_true rfl) dX12_takesRow_6 (fun H locs Z => ?_)
  clear hc1
  refine lv_if_ne (tgt := 14) hx hb dX12_takesRow_9 (by decide) (fun c5 => ?_) (fun c5 => ?_)
  · have h3 := dif h2 c5
    clear h2
    refine lv_aload_n hx hb dX12_takesRow_14 rfl (lv_at hl 1 rfl) ?_
    refine lv_aload_n hx hb dX12_takesRow_15 rfl (lv_at hl 1 rfl) ?_
    refine lv_aload_n hx hb dX12_takesRow_16 rfl (lv_at hl 1 rfl) ?_
    refine g_33_32 B Z kf_RX12_315 dX12_takesRow_17 ?_
    obtain ⟨r7, hc5, h4⟩ := db1_s h3
    clear h3
    refine cV_I [.int (σ4.1 33 32)] [.ref (X.2.1 33)] B mx_yX12_isRow (c_fMM_isRow l X _ (σ4.1 33 32) σ4 r7 hc5) kl_RX12_180 mi_yX12_isRow (rv_33 _ _) hcl_12 Z hl rfl rfl ⟨Nat.le_of_ble_eq_true rfl, Nat.le_of_ble_eq_true rfl⟩ rfl rfl (Nat.le_of_ble_eq_true rfl) dX12_takesRow_20 (fun H locs Z => ?_)
    clear hc5
    obtain ⟨J9, eJ9, h9⟩ := dlt_s h4
    clear h4
    have kJ9 : ∀ (x8 : Int32) (H : Heap) (locs : List Loc) (ls : Array Slot), Wd (wM X) (tM X) (aM X) X s σ4 H locs → lv_has ls 2 [(0, .ref (X.2.1 33))] → J9 x8 = some (rz, σz) → W p l e rm_fMM_takesRow s m args below meth c H locs 0 0 (MQ below (va_Qi (fun a u => a = rz ∧ u = σz) (poW (wM X) (tM X) (aM X) X sz) (aA (aM X) sz)) args s 0 0 (aA (aM X) sz)) (F0 m 34 ls [.int x8, .ref (X.2.1 33)]) := by
      intro x8 H locs ls Z hl h5
      rw [eJ9] at h5
      refine s_33_27 B Z kf_RX12_290 dX12_takesRow_34 (fun H locs Z => ?_)
      obtain ⟨σ10, eσ10, h6⟩ := dlt_s h5
      clear h5
      replace Z := Wd.eq eσ10 Z
      clear eσ10
      refine lv_aload_n hx hb dX12_takesRow_37 rfl (lv_at hl 0 rfl) ?_
      refine lv_aload_n hx hb dX12_takesRow_38 rfl (lv_at hl 0 rfl) ?_
      refine g_33_32 B Z kf_RX12_315 dX12_takesRow_39 ?_
      obtain ⟨r12, hc10, h7⟩ := db1_s h6
      clear h6
      refine cV_I [.int (σ10.1 33 32)] [] B mx_yX12_isRow (c_fMM_isRow l X _ (σ10.1 33 32) σ10 r12 hc10) kl_RX12_180 mi_yX12_isRow (rv_33 _ _) hcl_12 Z hl rfl rfl ⟨Nat.le_of_ble_eq_true rfl, Nat.le_of_ble_eq_true rfl⟩ rfl rfl (Nat.le_of_ble_eq_true rfl) dX12_takesRow_42 (fun H locs Z => ?_)
      clear hc10
      obtain ⟨z13, h8⟩ := dck_s h7
      clear h7
      exact reI B Z (okZ_n z13) hz h8 dX12_takesRow_45
    clear eJ9
    refine lv_if_eq (tgt := 33) hx hb dX12_takesRow_23 (by decide) (fun c14 => ?_) (fun c14 => ?_)
    · have h10 := dit h9 c14
      clear h9
      refine lv_iload_n hx hb dX12_takesRow_33 rfl (lv_at hl 0 rfl) ?_
      exact kJ9 x1 _ _ _ Z (lv_sub hl [1] rfl) h10
    · have h11 := dif h9 c14
      clear h9
      refine lv_aload_n hx hb dX12_takesRow_26 rfl (lv_at hl 1 rfl) ?_
      refine g_33_27 B Z kf_RX12_290 dX12_takesRow_27 ?_
      refine lv_goto (tgt := 34) hx hb dX12_takesRow_30 (by decide) ?_
      exact kJ9 (σ4.1 33 27) _ _ _ Z (lv_sub hl [1] rfl) h11
  · have h12 := dit h2 c5
    clear h2
    refine lv_iconst (v := (0 : Int32)) hx hb dX12_takesRow_12 (by decide) ?_
    exact reI B Z rfl hz h12 dX12_takesRow_13
theorem dX12_takesPart_0 : decode cX12_takesPart 0 = .ok (.aload_n 0, 1) := by decide +kernel
theorem dX12_takesPart_1 : decode cX12_takesPart 1 = .ok (.invokevirtual 323, 3) := by decide +kernel
theorem dX12_takesPart_4 : decode cX12_takesPart 4 = .ok (.istore_n 1, 1) := by decide +kernel
theorem dX12_takesPart_5 : decode cX12_takesPart 5 = .ok (.aload_n 0, 1) := by decide +kernel
theorem dX12_takesPart_6 : decode cX12_takesPart 6 = .ok (.getfield 326, 3) := by decide +kernel
theorem dX12_takesPart_9 : decode cX12_takesPart 9 = .ok (.ifCond .eq 113, 3) := by decide +kernel
theorem dX12_takesPart_12 : decode cX12_takesPart 12 = .ok (.iload_n 1, 1) := by decide +kernel
theorem dX12_takesPart_13 : decode cX12_takesPart 13 = .ok (.i2l, 1) := by decide +kernel
theorem dX12_takesPart_14 : decode cX12_takesPart 14 = .ok (.ldc2_w 296, 3) := by decide +kernel
theorem dX12_takesPart_17 : decode cX12_takesPart 17 = .ok (.ldc2_w 298, 3) := by decide +kernel
theorem dX12_takesPart_20 : decode cX12_takesPart 20 = .ok (.invokestatic 68, 3) := by decide +kernel
theorem dX12_takesPart_23 : decode cX12_takesPart 23 = .ok (.ifCond .eq 31, 3) := by decide +kernel
theorem dX12_takesPart_26 : decode cX12_takesPart 26 = .ok (.aload_n 0, 1) := by decide +kernel
theorem dX12_takesPart_27 : decode cX12_takesPart 27 = .ok (.invokevirtual 329, 3) := by decide +kernel
theorem dX12_takesPart_30 : decode cX12_takesPart 30 = .ok (.istore_n 2, 1) := by decide +kernel
theorem dX12_takesPart_31 : decode cX12_takesPart 31 = .ok (.iload_n 2, 1) := by decide +kernel
theorem dX12_takesPart_32 : decode cX12_takesPart 32 = .ok (.ifCond .eq 20, 3) := by decide +kernel
theorem dX12_takesPart_35 : decode cX12_takesPart 35 = .ok (.aload_n 0, 1) := by decide +kernel
theorem dX12_takesPart_36 : decode cX12_takesPart 36 = .ok (.aload_n 0, 1) := by decide +kernel
theorem dX12_takesPart_37 : decode cX12_takesPart 37 = .ok (.getfield 315, 3) := by decide +kernel
theorem dX12_takesPart_40 : decode cX12_takesPart 40 = .ok (.invokevirtual 306, 3) := by decide +kernel
theorem dX12_takesPart_43 : decode cX12_takesPart 43 = .ok (.aload_n 0, 1) := by decide +kernel
theorem dX12_takesPart_44 : decode cX12_takesPart 44 = .ok (.invokevirtual 332, 3) := by decide +kernel
theorem dX12_takesPart_47 : decode cX12_takesPart 47 = .ok (.aload_n 0, 1) := by decide +kernel
theorem dX12_takesPart_48 : decode cX12_takesPart 48 = .ok (.iconst 0, 1) := by decide +kernel
theorem dX12_takesPart_49 : decode cX12_takesPart 49 = .ok (.putfield 326, 3) := by decide +kernel
theorem dX12_takesPart_52 : decode cX12_takesPart 52 = .ok (.iload_n 2, 1) := by decide +kernel
theorem dX12_takesPart_53 : decode cX12_takesPart 53 = .ok (.ireturn, 1) := by decide +kernel
theorem dX12_takesPart_54 : decode cX12_takesPart 54 = .ok (.iload_n 1, 1) := by decide +kernel
theorem dX12_takesPart_55 : decode cX12_takesPart 55 = .ok (.bipush 33, 2) := by decide +kernel
theorem dX12_takesPart_57 : decode cX12_takesPart 57 = .ok (.if_icmp .eq 18, 3) := by decide +kernel
theorem dX12_takesPart_60 : decode cX12_takesPart 60 = .ok (.iload_n 1, 1) := by decide +kernel
theorem dX12_takesPart_61 : decode cX12_takesPart 61 = .ok (.bipush 40, 2) := by decide +kernel
theorem dX12_takesPart_63 : decode cX12_takesPart 63 = .ok (.if_icmp .ne 16, 3) := by decide +kernel
theorem dX12_takesPart_66 : decode cX12_takesPart 66 = .ok (.aload_n 0, 1) := by decide +kernel
theorem dX12_takesPart_67 : decode cX12_takesPart 67 = .ok (.getfield 335, 3) := by decide +kernel
theorem dX12_takesPart_70 : decode cX12_takesPart 70 = .ok (.bipush 8, 2) := by decide +kernel
theorem dX12_takesPart_72 : decode cX12_takesPart 72 = .ok (.if_icmp .ge 7, 3) := by decide +kernel
theorem dX12_takesPart_75 : decode cX12_takesPart 75 = .ok (.iconst 1, 1) := by decide +kernel
theorem dX12_takesPart_76 : decode cX12_takesPart 76 = .ok (.goto 4, 3) := by decide +kernel
theorem dX12_takesPart_79 : decode cX12_takesPart 79 = .ok (.iconst 0, 1) := by decide +kernel
theorem dX12_takesPart_80 : decode cX12_takesPart 80 = .ok (.istore_n 2, 1) := by decide +kernel
theorem dX12_takesPart_81 : decode cX12_takesPart 81 = .ok (.iload_n 2, 1) := by decide +kernel
theorem dX12_takesPart_82 : decode cX12_takesPart 82 = .ok (.ifCond .eq 38, 3) := by decide +kernel
theorem dX12_takesPart_85 : decode cX12_takesPart 85 = .ok (.aload_n 0, 1) := by decide +kernel
theorem dX12_takesPart_86 : decode cX12_takesPart 86 = .ok (.iload_n 1, 1) := by decide +kernel
theorem dX12_takesPart_87 : decode cX12_takesPart 87 = .ok (.invokevirtual 338, 3) := by decide +kernel
theorem dX12_takesPart_90 : decode cX12_takesPart 90 = .ok (.aload_n 0, 1) := by decide +kernel
theorem dX12_takesPart_91 : decode cX12_takesPart 91 = .ok (.dup, 1) := by decide +kernel
theorem dX12_takesPart_92 : decode cX12_takesPart 92 = .ok (.getfield 335, 3) := by decide +kernel
theorem dX12_takesPart_95 : decode cX12_takesPart 95 = .ok (.iload_n 1, 1) := by decide +kernel
theorem dX12_takesPart_96 : decode cX12_takesPart 96 = .ok (.bipush 40, 2) := by decide +kernel
theorem dX12_takesPart_98 : decode cX12_takesPart 98 = .ok (.if_icmp .ne 7, 3) := by decide +kernel
theorem dX12_takesPart_101 : decode cX12_takesPart 101 = .ok (.iconst 1, 1) := by decide +kernel
theorem dX12_takesPart_102 : decode cX12_takesPart 102 = .ok (.goto 4, 3) := by decide +kernel
theorem dX12_takesPart_105 : decode cX12_takesPart 105 = .ok (.iconst 0, 1) := by decide +kernel
theorem dX12_takesPart_106 : decode cX12_takesPart 106 = .ok (.iadd, 1) := by decide +kernel
theorem dX12_takesPart_107 : decode cX12_takesPart 107 = .ok (.putfield 335, 3) := by decide +kernel
theorem dX12_takesPart_110 : decode cX12_takesPart 110 = .ok (.aload_n 0, 1) := by decide +kernel
theorem dX12_takesPart_111 : decode cX12_takesPart 111 = .ok (.dup, 1) := by decide +kernel
theorem dX12_takesPart_112 : decode cX12_takesPart 112 = .ok (.getfield 290, 3) := by decide +kernel
theorem dX12_takesPart_115 : decode cX12_takesPart 115 = .ok (.iconst 1, 1) := by decide +kernel
theorem dX12_takesPart_116 : decode cX12_takesPart 116 = .ok (.iadd, 1) := by decide +kernel
theorem dX12_takesPart_117 : decode cX12_takesPart 117 = .ok (.putfield 290, 3) := by decide +kernel
theorem dX12_takesPart_120 : decode cX12_takesPart 120 = .ok (.iload_n 2, 1) := by decide +kernel
theorem dX12_takesPart_121 : decode cX12_takesPart 121 = .ok (.ireturn, 1) := by decide +kernel
theorem dX12_takesPart_122 : decode cX12_takesPart 122 = .ok (.aload_n 0, 1) := by decide +kernel
theorem dX12_takesPart_123 : decode cX12_takesPart 123 = .ok (.iload_n 1, 1) := by decide +kernel
theorem dX12_takesPart_124 : decode cX12_takesPart 124 = .ok (.invokevirtual 341, 3) := by decide +kernel
theorem dX12_takesPart_127 : decode cX12_takesPart 127 = .ok (.ireturn, 1) := by decide +kernel
def rm_fMM_takesPart : Room := { frames := 5, cells := 0, slots := 0, locals := 148 }
set_option maxHeartbeats 4000000 in
set_option maxRecDepth 100000 in
theorem c_fMM_takesPart (l : Launch) (X : eX) (sz : Nat)  (σ : sT) (rz : Int32) (σz : sT) (h0 : fMM_takesPart σ = some (rz, σz)) : ctI l yX12_takesPart cX12_takesPart 3 (some .boolean) rm_fMM_takesPart [.ref (X.2.1 33)] (wM X) (tM X) (aM X) X sz σ rz σz := by
  refine ct_of (by decide +kernel) (Nat.le_of_ble_eq_true rfl) ?_
  intro p e s m args below meth c ls hz B hl Z
  have B : Bd p s m args meth c RX12 cX12_takesPart 3 (some .boolean) := B
  have hl : lv_has ls 3 [(0, .ref (X.2.1 33))] := hl
  have hx := B.1
  have hb := B.2.1
  unfold fMM_takesPart at h0
  refine lv_aload_n hx hb dX12_takesPart_0 rfl (lv_at hl 0 rfl) ?_
  obtain ⟨r2, σ3, hc0, h1⟩ := db2_s h0
  clear h0
  refine cV_I [] [] B mx_yX12_here (c_fMM_here l X _ σ r2 σ3 hc0) kl_RX12_323 mi_yX12_here (rv_33 _ _) hcl_12 Z hl rfl rfl ⟨Nat.le_of_ble_eq_true rfl, Nat.le_of_ble_eq_true rfl⟩ rfl rfl (Nat.le_of_ble_eq_true rfl) dX12_takesPart_1 (fun H locs Z => ?_)
  clear hc0
  refine lv_istore_n (lv' := [(1, .int r2), (0, .ref (X.2.1 33))]) hx hb dX12_takesPart_4 rfl hl (by decide) rfl (fun ls hl => ?_)
  refine lv_aload_n hx hb dX12_takesPart_5 rfl (lv_at hl 1 rfl) ?_
  refine g_33_34 B Z kf_RX12_326 dX12_takesPart_6 ?_
  refine lv_if_eq (tgt := 122) hx hb dX12_takesPart_9 (by decide) (fun c4 => ?_) (fun c4 => ?_)
  · have h2 := dit h1 c4
    clear h1
    refine lv_aload_n hx hb dX12_takesPart_122 rfl (lv_at hl 1 rfl) ?_
    refine lv_iload_n hx hb dX12_takesPart_123 rfl (lv_at hl 0 rfl) ?_
    obtain ⟨r6, σ7, hc4, h3⟩ := db2_s h2
    clear h2
    refine cV_I [.int r2] [] B mx_yX12_takesSign (c_fMM_takesSign l X _ r2 σ3 r6 σ7 hc4) kl_RX12_341 mi_yX12_takesSign (rv_33 _ _) hcl_12 Z hl rfl rfl ⟨Nat.le_of_ble_eq_true rfl, Nat.le_of_ble_eq_true rfl⟩ rfl rfl (Nat.le_of_ble_eq_true rfl) dX12_takesPart_124 (fun H locs Z => ?_)
    clear hc4
    obtain ⟨z8, h4⟩ := dck_s h3
    clear h3
    exact reI B Z (okZ_n z8) hz h4 dX12_takesPart_127
  · have h5 := dif h1 c4
    clear h1
    refine lv_iload_n hx hb dX12_takesPart_12 rfl (lv_at hl 0 rfl) ?_
    refine lv_i2l hx hb dX12_takesPart_13 rfl ?_
    refine lv_ldc2 hx hb B.2.2.2.1 (B.2.2.2.2.1 _ kc_RX12_296) dX12_takesPart_14 ?_
    refine lv_ldc2 hx hb B.2.2.2.1 (B.2.2.2.2.1 _ kc_RX12_298) dX12_takesPart_17 ?_
    obtain ⟨r10, hc8, h6⟩ := db1_s h5
    clear h5
    refine cS_I [.long r2.toInt64, .long (48 : Int64), .long (57 : Int64)] [] B mx_yX12_in (c_fMM_in l X _ r2.toInt64 (48 : Int64) (57 : Int64) σ3 r10 hc8) kl_RX12_68 ks_yX12_in Z hl rfl rfl ⟨Nat.le_of_ble_eq_true rfl, Nat.le_of_ble_eq_true rfl⟩ rfl rfl (Nat.le_of_ble_eq_true rfl) dX12_takesPart_20 (fun H locs Z => ?_)
    clear hc8
    refine lv_if_eq (tgt := 54) hx hb dX12_takesPart_23 (by decide) (fun c11 => ?_) (fun c11 => ?_)
    · have h7 := dit h6 c11
      clear h6
      refine lv_iload_n hx hb dX12_takesPart_54 rfl (lv_at hl 0 rfl) ?_
      refine lv_bipush (v := (33 : Int32)) hx hb dX12_takesPart_55 (by decide) ?_
      obtain ⟨J13, eJ13, h20⟩ := dlt_s h7
      clear h7
      have kJ13 : ∀ (x12 : Int32) (H : Heap) (locs : List Loc) (ls : Array Slot), Wd (wM X) (tM X) (aM X) X s σ3 H locs → lv_has ls 3 [(0, .ref (X.2.1 33)), (1, .int r2)] → J13 x12 = some (rz, σz) → W p l e rm_fMM_takesPart s m args below meth c H locs 0 0 (MQ below (va_Qi (fun a u => a = rz ∧ u = σz) (poW (wM X) (tM X) (aM X) X sz) (aA (aM X) sz)) args s 0 0 (aA (aM X) sz)) (F0 m 80 ls [.int x12]) := by
        intro x12 H locs ls Z hl h8
        rw [eJ13] at h8
        refine lv_istore_n (lv' := [(2, .int x12), (0, .ref (X.2.1 33)), (1, .int r2)]) hx hb dX12_takesPart_80 rfl hl (by decide) rfl (fun ls hl => ?_)
        refine lv_iload_n hx hb dX12_takesPart_81 rfl (lv_at hl 0 rfl) ?_
        refine lv_if_eq (tgt := 120) hx hb dX12_takesPart_82 (by decide) (fun c14 => ?_) (fun c14 => ?_)
        · have h9 := dit h8 c14
          clear h8
          refine lv_iload_n hx hb dX12_takesPart_120 rfl (lv_at hl 0 rfl) ?_
          obtain ⟨z15, h10⟩ := dck_s h9
          clear h9
          exact reI B Z (okZ_n z15) hz h10 dX12_takesPart_121
        · have h11 := dif h8 c14
          clear h8
          refine lv_aload_n hx hb dX12_takesPart_85 rfl (lv_at hl 1 rfl) ?_
          refine lv_iload_n hx hb dX12_takesPart_86 rfl (lv_at hl 2 rfl) ?_
          obtain ⟨σ17, hc15, h12⟩ := db1_s h11
          clear h11
          refine cV_V [.int r2] [] B mx_yX12_waitsFor (c_fMM_waitsFor l X _ r2 σ3 σ17 hc15) kl_RX12_338 mi_yX12_waitsFor (rv_33 _ _) hcl_12 Z hl rfl rfl ⟨Nat.le_of_ble_eq_true rfl, Nat.le_of_ble_eq_true rfl⟩ rfl rfl (Nat.le_of_ble_eq_true rfl) dX12_takesPart_87 (fun H locs Z => ?_)
          clear hc15
          refine lv_aload_n hx hb dX12_takesPart_90 rfl (lv_at hl 1 rfl) ?_
          refine lv_dup hx hb dX12_takesPart_91 rfl ?_
          refine g_33_33 B Z kf_RX12_335 dX12_takesPart_92 ?_
          refine lv_iload_n hx hb dX12_takesPart_95 rfl (lv_at hl 2 rfl) ?_
          refine lv_bipush (v := (40 : Int32)) hx hb dX12_takesPart_96 (by decide) ?_
          obtain ⟨J20, eJ20, h17⟩ := dlt_s h12
          clear h12
          have kJ20 : ∀ (x18 : Int32) (x19 : Int32) (H : Heap) (locs : List Loc) (ls : Array Slot), Wd (wM X) (tM X) (aM X) X s σ17 H locs → lv_has ls 3 [(0, .ref (X.2.1 33)), (2, .int x12)] → J20 x18 x19 = some (rz, σz) → W p l e rm_fMM_takesPart s m args below meth c H locs 0 0 (MQ below (va_Qi (fun a u => a = rz ∧ u = σz) (poW (wM X) (tM X) (aM X) X sz) (aA (aM X) sz)) args s 0 0 (aA (aM X) sz)) (F0 m 106 ls [.int x19, .int x18, .ref (X.2.1 33)]) := by
            intro x18 x19 H locs ls Z hl h13
            rw [eJ20] at h13
            refine lv_iadd hx hb dX12_takesPart_106 ?_
            refine s_33_33 B Z kf_RX12_335 dX12_takesPart_107 (fun H locs Z => ?_)
            obtain ⟨σ21, eσ21, h14⟩ := dlt_s h13
            clear h13
            replace Z := Wd.eq eσ21 Z
            clear eσ21
            refine lv_aload_n hx hb dX12_takesPart_110 rfl (lv_at hl 0 rfl) ?_
            refine lv_dup hx hb dX12_takesPart_111 rfl ?_
            refine g_33_27 B Z kf_RX12_290 dX12_takesPart_112 ?_
            refine lv_iconst (v := (1 : Int32)) hx hb dX12_takesPart_115 (by decide) ?_
            refine lv_iadd hx hb dX12_takesPart_116 ?_
            refine s_33_27 B Z kf_RX12_290 dX12_takesPart_117 (fun H locs Z => ?_)
            obtain ⟨σ22, eσ22, h15⟩ := dlt_s h14
            clear h14
            replace Z := Wd.eq eσ22 Z
            clear eσ22
            refine lv_iload_n hx hb dX12_takesPart_120 rfl (lv_at hl 1 rfl) ?_
            obtain ⟨z23, h16⟩ := dck_s h15
            clear h15
            exact reI B Z (okZ_n z23) hz h16 dX12_takesPart_121
          clear eJ20
          refine lv_icmp_ne (tgt := 105) hx hb dX12_takesPart_98 (by decide) (fun c24 => ?_) (fun c24 => ?_)
          · have h18 := dif h17 c24
            clear h17
            refine lv_iconst (v := (0 : Int32)) hx hb dX12_takesPart_105 (by decide) ?_
            exact kJ20 (σ17.1 33 33) (0 : Int32) _ _ _ Z (lv_sub hl [1, 0] rfl) h18
          · have h19 := dit h17 c24
            clear h17
            refine lv_iconst (v := (1 : Int32)) hx hb dX12_takesPart_101 (by decide) ?_
            refine lv_goto (tgt := 106) hx hb dX12_takesPart_102 (by decide) ?_
            exact kJ20 (σ17.1 33 33) (1 : Int32) _ _ _ Z (lv_sub hl [1, 0] rfl) h19
      clear eJ13
      obtain ⟨J25, eJ25, h22⟩ := dlt_s h20
      clear h20
      have kJ25 : ∀ (H : Heap) (locs : List Loc) (ls : Array Slot), Wd (wM X) (tM X) (aM X) X s σ3 H locs → lv_has ls 3 [(0, .ref (X.2.1 33)), (1, .int r2)] → J25 () = some (rz, σz) → W p l e rm_fMM_takesPart s m args below meth c H locs 0 0 (MQ below (va_Qi (fun a u => a = rz ∧ u = σz) (poW (wM X) (tM X) (aM X) X sz) (aA (aM X) sz)) args s 0 0 (aA (aM X) sz)) (F0 m 75 ls []) := by
        intro  H locs ls Z hl h21
        rw [eJ25] at h21
        refine lv_iconst (v := (1 : Int32)) hx hb dX12_takesPart_75 (by decide) ?_
        refine lv_goto (tgt := 80) hx hb dX12_takesPart_76 (by decide) ?_
        exact kJ13 (1 : Int32) _ _ _ Z (lv_sub hl [0, 1] rfl) h21
      clear eJ25
      refine lv_icmp_eq (tgt := 75) hx hb dX12_takesPart_57 (by decide) (fun c26 => ?_) (fun c26 => ?_)
      · have h23 := dit h22 c26
        clear h22
        exact kJ25  _ _ _ Z (lv_sub hl [1, 0] rfl) h23
      · have h24 := dif h22 c26
        clear h22
        refine lv_iload_n hx hb dX12_takesPart_60 rfl (lv_at hl 0 rfl) ?_
        refine lv_bipush (v := (40 : Int32)) hx hb dX12_takesPart_61 (by decide) ?_
        obtain ⟨J27, eJ27, h26⟩ := dlt_s h24
        clear h24
        have kJ27 : ∀ (H : Heap) (locs : List Loc) (ls : Array Slot), Wd (wM X) (tM X) (aM X) X s σ3 H locs → lv_has ls 3 [(0, .ref (X.2.1 33)), (1, .int r2)] → J27 () = some (rz, σz) → W p l e rm_fMM_takesPart s m args below meth c H locs 0 0 (MQ below (va_Qi (fun a u => a = rz ∧ u = σz) (poW (wM X) (tM X) (aM X) X sz) (aA (aM X) sz)) args s 0 0 (aA (aM X) sz)) (F0 m 79 ls []) := by
          intro  H locs ls Z hl h25
          rw [eJ27] at h25
          refine lv_iconst (v := (0 : Int32)) hx hb dX12_takesPart_79 (by decide) ?_
          exact kJ13 (0 : Int32) _ _ _ Z (lv_sub hl [0, 1] rfl) h25
        clear eJ27
        refine lv_icmp_ne (tgt := 79) hx hb dX12_takesPart_63 (by decide) (fun c28 => ?_) (fun c28 => ?_)
        · have h27 := dif h26 c28
          clear h26
          exact kJ27  _ _ _ Z (lv_sub hl [1, 0] rfl) h27
        · have h28 := dit h26 c28
          clear h26
          refine lv_aload_n hx hb dX12_takesPart_66 rfl (lv_at hl 1 rfl) ?_
          refine g_33_33 B Z kf_RX12_335 dX12_takesPart_67 ?_
          refine lv_bipush (v := (8 : Int32)) hx hb dX12_takesPart_70 (by decide) ?_
          refine lv_icmp_ge (tgt := 79) hx hb dX12_takesPart_72 (by decide) (fun c29 => ?_) (fun c29 => ?_)
          · have h29 := dit h28 c29
            clear h28
            exact kJ27  _ _ _ Z (lv_sub hl [1, 0] rfl) h29
          · have h30 := dif h28 c29
            clear h28
            exact kJ25  _ _ _ Z (lv_sub hl [1, 0] rfl) h30
    · have h31 := dif h6 c11
      clear h6
      refine lv_aload_n hx hb dX12_takesPart_26 rfl (lv_at hl 1 rfl) ?_
      obtain ⟨r31, σ32, hc29, h32⟩ := db2_s h31
      clear h31
      refine cV_I [] [] B mx_yX12_takesRow (c_fMM_takesRow l X _ σ3 r31 σ32 hc29) kl_RX12_329 mi_yX12_takesRow (rv_33 _ _) hcl_12 Z hl rfl rfl ⟨Nat.le_of_ble_eq_true rfl, Nat.le_of_ble_eq_true rfl⟩ rfl rfl (Nat.le_of_ble_eq_true rfl) dX12_takesPart_27 (fun H locs Z => ?_)
      clear hc29
      refine lv_istore_n (lv' := [(2, .int r31), (1, .int r2), (0, .ref (X.2.1 33))]) hx hb dX12_takesPart_30 rfl hl (by decide) rfl (fun ls hl => ?_)
      refine lv_iload_n hx hb dX12_takesPart_31 rfl (lv_at hl 0 rfl) ?_
      refine lv_if_eq (tgt := 52) hx hb dX12_takesPart_32 (by decide) (fun c33 => ?_) (fun c33 => ?_)
      · have h33 := dit h32 c33
        clear h32
        refine lv_iload_n hx hb dX12_takesPart_52 rfl (lv_at hl 0 rfl) ?_
        obtain ⟨z34, h34⟩ := dck_s h33
        clear h33
        exact reI B Z (okZ_n z34) hz h34 dX12_takesPart_53
      · have h35 := dif h32 c33
        clear h32
        refine lv_aload_n hx hb dX12_takesPart_35 rfl (lv_at hl 2 rfl) ?_
        refine lv_aload_n hx hb dX12_takesPart_36 rfl (lv_at hl 2 rfl) ?_
        refine g_33_32 B Z kf_RX12_315 dX12_takesPart_37 ?_
        obtain ⟨σ36, hc34, h36⟩ := db1_s h35
        clear h35
        refine cV_V [.int (σ32.1 33 32)] [] B mx_yX12_says (c_fMM_says l X _ (σ32.1 33 32) σ32 σ36 hc34) kl_RX12_306 mi_yX12_says (rv_33 _ _) hcl_12 Z hl rfl rfl ⟨Nat.le_of_ble_eq_true rfl, Nat.le_of_ble_eq_true rfl⟩ rfl rfl (Nat.le_of_ble_eq_true rfl) dX12_takesPart_40 (fun H locs Z => ?_)
        clear hc34
        refine lv_aload_n hx hb dX12_takesPart_43 rfl (lv_at hl 2 rfl) ?_
        obtain ⟨σ38, hc36, h37⟩ := db1_s h36
        clear h36
        refine cV_V [] [] B mx_yX12_saysNots (c_fMM_saysNots l X _ σ36 σ38 hc36) kl_RX12_332 mi_yX12_saysNots (rv_33 _ _) hcl_12 Z hl rfl rfl ⟨Nat.le_of_ble_eq_true rfl, Nat.le_of_ble_eq_true rfl⟩ rfl rfl (Nat.le_of_ble_eq_true rfl) dX12_takesPart_44 (fun H locs Z => ?_)
        clear hc36
        refine lv_aload_n hx hb dX12_takesPart_47 rfl (lv_at hl 2 rfl) ?_
        refine lv_iconst (v := (0 : Int32)) hx hb dX12_takesPart_48 (by decide) ?_
        refine s_33_34 B Z (by decide) kf_RX12_326 dX12_takesPart_49 (fun H locs Z => ?_)
        obtain ⟨σ39, eσ39, h38⟩ := dlt_s h37
        clear h37
        replace Z := Wd.eq eσ39 Z
        clear eσ39
        refine lv_iload_n hx hb dX12_takesPart_52 rfl (lv_at hl 0 rfl) ?_
        obtain ⟨z40, h39⟩ := dck_s h38
        clear h38
        exact reI B Z (okZ_n z40) hz h39 dX12_takesPart_53
theorem dX12_readsFormula_0 : decode cX12_readsFormula 0 = .ok (.aload_n 0, 1) := by decide +kernel
theorem dX12_readsFormula_1 : decode cX12_readsFormula 1 = .ok (.iconst 0, 1) := by decide +kernel
theorem dX12_readsFormula_2 : decode cX12_readsFormula 2 = .ok (.putfield 290, 3) := by decide +kernel
theorem dX12_readsFormula_5 : decode cX12_readsFormula 5 = .ok (.aload_n 0, 1) := by decide +kernel
theorem dX12_readsFormula_6 : decode cX12_readsFormula 6 = .ok (.iconst 0, 1) := by decide +kernel
theorem dX12_readsFormula_7 : decode cX12_readsFormula 7 = .ok (.putfield 300, 3) := by decide +kernel
theorem dX12_readsFormula_10 : decode cX12_readsFormula 10 = .ok (.aload_n 0, 1) := by decide +kernel
theorem dX12_readsFormula_11 : decode cX12_readsFormula 11 = .ok (.iconst 0, 1) := by decide +kernel
theorem dX12_readsFormula_12 : decode cX12_readsFormula 12 = .ok (.putfield 303, 3) := by decide +kernel
theorem dX12_readsFormula_15 : decode cX12_readsFormula 15 = .ok (.aload_n 0, 1) := by decide +kernel
theorem dX12_readsFormula_16 : decode cX12_readsFormula 16 = .ok (.iconst 0, 1) := by decide +kernel
theorem dX12_readsFormula_17 : decode cX12_readsFormula 17 = .ok (.putfield 335, 3) := by decide +kernel
theorem dX12_readsFormula_20 : decode cX12_readsFormula 20 = .ok (.aload_n 0, 1) := by decide +kernel
theorem dX12_readsFormula_21 : decode cX12_readsFormula 21 = .ok (.iconst 1, 1) := by decide +kernel
theorem dX12_readsFormula_22 : decode cX12_readsFormula 22 = .ok (.putfield 326, 3) := by decide +kernel
theorem dX12_readsFormula_25 : decode cX12_readsFormula 25 = .ok (.iconst 1, 1) := by decide +kernel
theorem dX12_readsFormula_26 : decode cX12_readsFormula 26 = .ok (.istore_n 1, 1) := by decide +kernel
theorem dX12_readsFormula_27 : decode cX12_readsFormula 27 = .ok (.iload_n 1, 1) := by decide +kernel
theorem dX12_readsFormula_28 : decode cX12_readsFormula 28 = .ok (.ifCond .eq 49, 3) := by decide +kernel
theorem dX12_readsFormula_31 : decode cX12_readsFormula 31 = .ok (.aload_n 0, 1) := by decide +kernel
theorem dX12_readsFormula_32 : decode cX12_readsFormula 32 = .ok (.invokevirtual 323, 3) := by decide +kernel
theorem dX12_readsFormula_35 : decode cX12_readsFormula 35 = .ok (.iconst (-1), 1) := by decide +kernel
theorem dX12_readsFormula_36 : decode cX12_readsFormula 36 = .ok (.if_icmp .ne 17, 3) := by decide +kernel
theorem dX12_readsFormula_39 : decode cX12_readsFormula 39 = .ok (.aload_n 0, 1) := by decide +kernel
theorem dX12_readsFormula_40 : decode cX12_readsFormula 40 = .ok (.getfield 326, 3) := by decide +kernel
theorem dX12_readsFormula_43 : decode cX12_readsFormula 43 = .ok (.ifCond .ne 10, 3) := by decide +kernel
theorem dX12_readsFormula_46 : decode cX12_readsFormula 46 = .ok (.aload_n 0, 1) := by decide +kernel
theorem dX12_readsFormula_47 : decode cX12_readsFormula 47 = .ok (.getfield 335, 3) := by decide +kernel
theorem dX12_readsFormula_50 : decode cX12_readsFormula 50 = .ok (.ifCond .le 27, 3) := by decide +kernel
theorem dX12_readsFormula_53 : decode cX12_readsFormula 53 = .ok (.aload_n 0, 1) := by decide +kernel
theorem dX12_readsFormula_54 : decode cX12_readsFormula 54 = .ok (.invokevirtual 323, 3) := by decide +kernel
theorem dX12_readsFormula_57 : decode cX12_readsFormula 57 = .ok (.iconst (-1), 1) := by decide +kernel
theorem dX12_readsFormula_58 : decode cX12_readsFormula 58 = .ok (.if_icmp .eq 14, 3) := by decide +kernel
theorem dX12_readsFormula_61 : decode cX12_readsFormula 61 = .ok (.aload_n 0, 1) := by decide +kernel
theorem dX12_readsFormula_62 : decode cX12_readsFormula 62 = .ok (.invokevirtual 344, 3) := by decide +kernel
theorem dX12_readsFormula_65 : decode cX12_readsFormula 65 = .ok (.ifCond .eq 7, 3) := by decide +kernel
theorem dX12_readsFormula_68 : decode cX12_readsFormula 68 = .ok (.iconst 1, 1) := by decide +kernel
theorem dX12_readsFormula_69 : decode cX12_readsFormula 69 = .ok (.goto 4, 3) := by decide +kernel
theorem dX12_readsFormula_72 : decode cX12_readsFormula 72 = .ok (.iconst 0, 1) := by decide +kernel
theorem dX12_readsFormula_73 : decode cX12_readsFormula 73 = .ok (.istore_n 1, 1) := by decide +kernel
theorem dX12_readsFormula_74 : decode cX12_readsFormula 74 = .ok (.goto (-47), 3) := by decide +kernel
theorem dX12_readsFormula_77 : decode cX12_readsFormula 77 = .ok (.iload_n 1, 1) := by decide +kernel
theorem dX12_readsFormula_78 : decode cX12_readsFormula 78 = .ok (.ifCond .eq 17, 3) := by decide +kernel
theorem dX12_readsFormula_81 : decode cX12_readsFormula 81 = .ok (.aload_n 0, 1) := by decide +kernel
theorem dX12_readsFormula_82 : decode cX12_readsFormula 82 = .ok (.getfield 303, 3) := by decide +kernel
theorem dX12_readsFormula_85 : decode cX12_readsFormula 85 = .ok (.ifCond .le 10, 3) := by decide +kernel
theorem dX12_readsFormula_88 : decode cX12_readsFormula 88 = .ok (.aload_n 0, 1) := by decide +kernel
theorem dX12_readsFormula_89 : decode cX12_readsFormula 89 = .ok (.invokevirtual 312, 3) := by decide +kernel
theorem dX12_readsFormula_92 : decode cX12_readsFormula 92 = .ok (.goto (-15), 3) := by decide +kernel
theorem dX12_readsFormula_95 : decode cX12_readsFormula 95 = .ok (.iload_n 1, 1) := by decide +kernel
theorem dX12_readsFormula_96 : decode cX12_readsFormula 96 = .ok (.ireturn, 1) := by decide +kernel
def rm_fMM_readsFormula : Room := { frames := 6, cells := 0, slots := 0, locals := 170 }
set_option maxHeartbeats 4000000 in
set_option maxRecDepth 100000 in
theorem c_fMM_readsFormula (l : Launch) (X : eX) (sz : Nat)  (σ : sT) (rz : Int32) (σz : sT) (h0 : fMM_readsFormula σ = some (rz, σz)) : ctI l yX12_readsFormula cX12_readsFormula 2 (some .boolean) rm_fMM_readsFormula [.ref (X.2.1 33)] (wM X) (tM X) (aM X) X sz σ rz σz := by
  refine ct_of (by decide +kernel) (Nat.le_of_ble_eq_true rfl) ?_
  intro p e s m args below meth c ls hz B hl Z
  have B : Bd p s m args meth c RX12 cX12_readsFormula 2 (some .boolean) := B
  have hl : lv_has ls 2 [(0, .ref (X.2.1 33))] := hl
  have hx := B.1
  have hb := B.2.1
  unfold fMM_readsFormula at h0
  refine lv_aload_n hx hb dX12_readsFormula_0 rfl (lv_at hl 0 rfl) ?_
  refine lv_iconst (v := (0 : Int32)) hx hb dX12_readsFormula_1 (by decide) ?_
  refine s_33_27 B Z kf_RX12_290 dX12_readsFormula_2 (fun H locs Z => ?_)
  obtain ⟨σ1, eσ1, h1⟩ := dlt_s h0
  clear h0
  replace Z := Wd.eq eσ1 Z
  clear eσ1
  refine lv_aload_n hx hb dX12_readsFormula_5 rfl (lv_at hl 0 rfl) ?_
  refine lv_iconst (v := (0 : Int32)) hx hb dX12_readsFormula_6 (by decide) ?_
  refine s_33_29 B Z kf_RX12_300 dX12_readsFormula_7 (fun H locs Z => ?_)
  obtain ⟨σ2, eσ2, h2⟩ := dlt_s h1
  clear h1
  replace Z := Wd.eq eσ2 Z
  clear eσ2
  refine lv_aload_n hx hb dX12_readsFormula_10 rfl (lv_at hl 0 rfl) ?_
  refine lv_iconst (v := (0 : Int32)) hx hb dX12_readsFormula_11 (by decide) ?_
  refine s_33_31 B Z kf_RX12_303 dX12_readsFormula_12 (fun H locs Z => ?_)
  obtain ⟨σ3, eσ3, h3⟩ := dlt_s h2
  clear h2
  replace Z := Wd.eq eσ3 Z
  clear eσ3
  refine lv_aload_n hx hb dX12_readsFormula_15 rfl (lv_at hl 0 rfl) ?_
  refine lv_iconst (v := (0 : Int32)) hx hb dX12_readsFormula_16 (by decide) ?_
  refine s_33_33 B Z kf_RX12_335 dX12_readsFormula_17 (fun H locs Z => ?_)
  obtain ⟨σ4, eσ4, h4⟩ := dlt_s h3
  clear h3
  replace Z := Wd.eq eσ4 Z
  clear eσ4
  refine lv_aload_n hx hb dX12_readsFormula_20 rfl (lv_at hl 0 rfl) ?_
  refine lv_iconst (v := (1 : Int32)) hx hb dX12_readsFormula_21 (by decide) ?_
  refine s_33_34 B Z (by decide) kf_RX12_326 dX12_readsFormula_22 (fun H locs Z => ?_)
  obtain ⟨σ5, eσ5, h5⟩ := dlt_s h4
  clear h4
  replace Z := Wd.eq eσ5 Z
  clear eσ5
  refine lv_iconst (v := (1 : Int32)) hx hb dX12_readsFormula_25 (by decide) ?_
  refine lv_istore_n (lv' := [(1, .int (1 : Int32)), (0, .ref (X.2.1 33))]) hx hb dX12_readsFormula_26 rfl hl (by decide) rfl (fun ls hl => ?_)
  obtain ⟨K10, eK10, h15⟩ := dlt_s h5
  clear h5
  have kK10 : ∀ (x8 : Int32) (σ9 : sT) (H : Heap) (locs : List Loc) (ls : Array Slot), Wd (wM X) (tM X) (aM X) X s σ9 H locs → lv_has ls 2 [(0, .ref (X.2.1 33)), (1, .int x8)] → K10 x8 σ9 = some (rz, σz) → W p l e rm_fMM_readsFormula s m args below meth c H locs 0 0 (MQ below (va_Qi (fun a u => a = rz ∧ u = σz) (poW (wM X) (tM X) (aM X) X sz) (aA (aM X) sz)) args s 0 0 (aA (aM X) sz)) (F0 m 77 ls []) := by
    intro x8 σ9 H locs ls Z hl h6
    rw [eK10] at h6
    have lL77 : ∀ (n : Nat), ∀ (σ11 : sT) (H : Heap) (locs : List Loc) (ls : Array Slot), Wd (wM X) (tM X) (aM X) X s σ11 H locs → lv_has ls 2 [(0, .ref (X.2.1 33)), (1, .int x8)] → fMM_readsFormula_L77 x8 n σ11 = some (rz, σz) → W p l e rm_fMM_readsFormula s m args below meth c H locs 0 0 (MQ below (va_Qi (fun a u => a = rz ∧ u = σz) (poW (wM X) (tM X) (aM X) X sz) (aA (aM X) sz)) args s 0 0 (aA (aM X) sz)) (F0 m 77 ls []) := by
      intro n
      induction n with
      | zero =>
        intro σ11 H locs ls Z hl h
        exact nomatch (show (none : Option (Int32 × sT)) = some _ from h)
      | succ n12 ih41 =>
        intro σ11 H locs ls Z hl h7
        unfold fMM_readsFormula_L77 at h7
        refine lv_iload_n hx hb dX12_readsFormula_77 rfl (lv_at hl 1 rfl) ?_
        refine lv_if_eq (tgt := 95) hx hb dX12_readsFormula_78 (by decide) (fun c13 => ?_) (fun c13 => ?_)
        · have h8 := dit h7 c13
          clear h7
          refine lv_iload_n hx hb dX12_readsFormula_95 rfl (lv_at hl 1 rfl) ?_
          obtain ⟨z14, h9⟩ := dck_s h8
          clear h8
          exact reI B Z (okZ_n z14) hz h9 dX12_readsFormula_96
        · have h10 := dif h7 c13
          clear h7
          refine lv_aload_n hx hb dX12_readsFormula_81 rfl (lv_at hl 0 rfl) ?_
          refine g_33_31 B Z kf_RX12_303 dX12_readsFormula_82 ?_
          refine lv_if_le (tgt := 95) hx hb dX12_readsFormula_85 (by decide) (fun c15 => ?_) (fun c15 => ?_)
          · have h11 := dit h10 c15
            clear h10
            refine lv_iload_n hx hb dX12_readsFormula_95 rfl (lv_at hl 1 rfl) ?_
            obtain ⟨z16, h12⟩ := dck_s h11
            clear h11
            exact reI B Z (okZ_n z16) hz h12 dX12_readsFormula_96
          · have h13 := dif h10 c15
            clear h10
            refine lv_aload_n hx hb dX12_readsFormula_88 rfl (lv_at hl 0 rfl) ?_
            obtain ⟨σ18, hc16, h14⟩ := db1_s h13
            clear h13
            refine cV_V [] [] B mx_yX12_saysWaiting (c_fMM_saysWaiting l X _ σ11 σ18 hc16) kl_RX12_312 mi_yX12_saysWaiting (rv_33 _ _) hcl_12 Z hl rfl rfl ⟨Nat.le_of_ble_eq_true rfl, Nat.le_of_ble_eq_true rfl⟩ rfl rfl (Nat.le_of_ble_eq_true rfl) dX12_readsFormula_89 (fun H locs Z => ?_)
            clear hc16
            refine lv_goto (tgt := 77) hx hb dX12_readsFormula_92 (by decide) ?_
            exact ih41 σ18 _ _ _ Z (lv_sub hl [0, 1] rfl) h14
    exact lL77 FU σ9 _ _ _ Z (lv_sub hl [0, 1] rfl) h6
  clear eK10
  have lL27 : ∀ (n : Nat), ∀ (x6 : Int32) (σ7 : sT) (H : Heap) (locs : List Loc) (ls : Array Slot), Wd (wM X) (tM X) (aM X) X s σ7 H locs → lv_has ls 2 [(0, .ref (X.2.1 33)), (1, .int x6)] → fMM_readsFormula_L27 K10 n x6 σ7 = some (rz, σz) → W p l e rm_fMM_readsFormula s m args below meth c H locs 0 0 (MQ below (va_Qi (fun a u => a = rz ∧ u = σz) (poW (wM X) (tM X) (aM X) X sz) (aA (aM X) sz)) args s 0 0 (aA (aM X) sz)) (F0 m 27 ls []) := by
    intro n
    induction n with
    | zero =>
      intro x6 σ7 H locs ls Z hl h
      exact nomatch (show (none : Option (Int32 × sT)) = some _ from h)
    | succ n19 ih17 =>
      intro x6 σ7 H locs ls Z hl h16
      unfold fMM_readsFormula_L27 at h16
      refine lv_iload_n hx hb dX12_readsFormula_27 rfl (lv_at hl 1 rfl) ?_
      refine lv_if_eq (tgt := 77) hx hb dX12_readsFormula_28 (by decide) (fun c20 => ?_) (fun c20 => ?_)
      · have h17 := dit h16 c20
        clear h16
        exact kK10 x6 σ7 _ _ _ Z (lv_sub hl [0, 1] rfl) h17
      · have h18 := dif h16 c20
        clear h16
        refine lv_aload_n hx hb dX12_readsFormula_31 rfl (lv_at hl 0 rfl) ?_
        obtain ⟨r22, σ23, hc20, h19⟩ := db2_s h18
        clear h18
        refine cV_I [] [] B mx_yX12_here (c_fMM_here l X _ σ7 r22 σ23 hc20) kl_RX12_323 mi_yX12_here (rv_33 _ _) hcl_12 Z hl rfl rfl ⟨Nat.le_of_ble_eq_true rfl, Nat.le_of_ble_eq_true rfl⟩ rfl rfl (Nat.le_of_ble_eq_true rfl) dX12_readsFormula_32 (fun H locs Z => ?_)
        clear hc20
        refine lv_iconst (v := (-1 : Int32)) hx hb dX12_readsFormula_35 (by decide) ?_
        obtain ⟨J24, eJ24, h27⟩ := dlt_s h19
        clear h19
        have kJ24 : ∀ (H : Heap) (locs : List Loc) (ls : Array Slot), Wd (wM X) (tM X) (aM X) X s σ23 H locs → lv_has ls 2 [(0, .ref (X.2.1 33))] → J24 () = some (rz, σz) → W p l e rm_fMM_readsFormula s m args below meth c H locs 0 0 (MQ below (va_Qi (fun a u => a = rz ∧ u = σz) (poW (wM X) (tM X) (aM X) X sz) (aA (aM X) sz)) args s 0 0 (aA (aM X) sz)) (F0 m 53 ls []) := by
          intro  H locs ls Z hl h20
          rw [eJ24] at h20
          refine lv_aload_n hx hb dX12_readsFormula_53 rfl (lv_at hl 0 rfl) ?_
          obtain ⟨r26, σ27, hc24, h21⟩ := db2_s h20
          clear h20
          refine cV_I [] [] B mx_yX12_here (c_fMM_here l X _ σ23 r26 σ27 hc24) kl_RX12_323 mi_yX12_here (rv_33 _ _) hcl_12 Z hl rfl rfl ⟨Nat.le_of_ble_eq_true rfl, Nat.le_of_ble_eq_true rfl⟩ rfl rfl (Nat.le_of_ble_eq_true rfl) dX12_readsFormula_54 (fun H locs Z => ?_)
          clear hc24
          refine lv_iconst (v := (-1 : Int32)) hx hb dX12_readsFormula_57 (by decide) ?_
          refine lv_icmp_eq (tgt := 72) hx hb dX12_readsFormula_58 (by decide) (fun c28 => ?_) (fun c28 => ?_)
          · have h22 := dit h21 c28
            clear h21
            refine lv_iconst (v := (0 : Int32)) hx hb dX12_readsFormula_72 (by decide) ?_
            refine lv_istore_n (lv' := [(1, .int (0 : Int32)), (0, .ref (X.2.1 33))]) hx hb dX12_readsFormula_73 rfl hl (by decide) rfl (fun ls hl => ?_)
            refine lv_goto (tgt := 27) hx hb dX12_readsFormula_74 (by decide) ?_
            exact ih17 (0 : Int32) σ27 _ _ _ Z (lv_sub hl [1, 0] rfl) h22
          · have h23 := dif h21 c28
            clear h21
            refine lv_aload_n hx hb dX12_readsFormula_61 rfl (lv_at hl 0 rfl) ?_
            obtain ⟨r30, σ31, hc28, h24⟩ := db2_s h23
            clear h23
            refine cV_I [] [] B mx_yX12_takesPart (c_fMM_takesPart l X _ σ27 r30 σ31 hc28) kl_RX12_344 mi_yX12_takesPart (rv_33 _ _) hcl_12 Z hl rfl rfl ⟨Nat.le_of_ble_eq_true rfl, Nat.le_of_ble_eq_true rfl⟩ rfl rfl (Nat.le_of_ble_eq_true rfl) dX12_readsFormula_62 (fun H locs Z => ?_)
            clear hc28
            refine lv_if_eq (tgt := 72) hx hb dX12_readsFormula_65 (by decide) (fun c32 => ?_) (fun c32 => ?_)
            · have h25 := dit h24 c32
              clear h24
              refine lv_iconst (v := (0 : Int32)) hx hb dX12_readsFormula_72 (by decide) ?_
              refine lv_istore_n (lv' := [(1, .int (0 : Int32)), (0, .ref (X.2.1 33))]) hx hb dX12_readsFormula_73 rfl hl (by decide) rfl (fun ls hl => ?_)
              refine lv_goto (tgt := 27) hx hb dX12_readsFormula_74 (by decide) ?_
              exact ih17 (0 : Int32) σ31 _ _ _ Z (lv_sub hl [1, 0] rfl) h25
            · have h26 := dif h24 c32
              clear h24
              refine lv_iconst (v := (1 : Int32)) hx hb dX12_readsFormula_68 (by decide) ?_
              refine lv_goto (tgt := 73) hx hb dX12_readsFormula_69 (by decide) ?_
              refine lv_istore_n (lv' := [(1, .int (1 : Int32)), (0, .ref (X.2.1 33))]) hx hb dX12_readsFormula_73 rfl hl (by decide) rfl (fun ls hl => ?_)
              refine lv_goto (tgt := 27) hx hb dX12_readsFormula_74 (by decide) ?_
              exact ih17 (1 : Int32) σ31 _ _ _ Z (lv_sub hl [1, 0] rfl) h26
        clear eJ24
        refine lv_icmp_ne (tgt := 53) hx hb dX12_readsFormula_36 (by decide) (fun c33 => ?_) (fun c33 => ?_)
        · have h28 := dif h27 c33
          clear h27
          exact kJ24  _ _ _ Z (lv_sub hl [0] rfl) h28
        · have h29 := dit h27 c33
          clear h27
          refine lv_aload_n hx hb dX12_readsFormula_39 rfl (lv_at hl 0 rfl) ?_
          refine g_33_34 B Z kf_RX12_326 dX12_readsFormula_40 ?_
          refine lv_if_ne (tgt := 53) hx hb dX12_readsFormula_43 (by decide) (fun c34 => ?_) (fun c34 => ?_)
          · have h30 := dif h29 c34
            clear h29
            exact kJ24  _ _ _ Z (lv_sub hl [0] rfl) h30
          · have h31 := dit h29 c34
            clear h29
            refine lv_aload_n hx hb dX12_readsFormula_46 rfl (lv_at hl 0 rfl) ?_
            refine g_33_33 B Z kf_RX12_335 dX12_readsFormula_47 ?_
            refine lv_if_le (tgt := 77) hx hb dX12_readsFormula_50 (by decide) (fun c35 => ?_) (fun c35 => ?_)
            · have h32 := dit h31 c35
              clear h31
              exact kK10 x6 σ23 _ _ _ Z (lv_sub hl [0, 1] rfl) h32
            · have h33 := dif h31 c35
              clear h31
              exact kJ24  _ _ _ Z (lv_sub hl [0] rfl) h33
  exact lL27 FU (1 : Int32) σ5 _ _ _ Z (lv_sub hl [1, 0] rfl) h15
theorem dX12_named_0 : decode cX12_named 0 = .ok (.iconst 0, 1) := by decide +kernel
theorem dX12_named_1 : decode cX12_named 1 = .ok (.istore_n 1, 1) := by decide +kernel
theorem dX12_named_2 : decode cX12_named 2 = .ok (.iconst 0, 1) := by decide +kernel
theorem dX12_named_3 : decode cX12_named 3 = .ok (.istore_n 2, 1) := by decide +kernel
theorem dX12_named_4 : decode cX12_named 4 = .ok (.iload_n 2, 1) := by decide +kernel
theorem dX12_named_5 : decode cX12_named 5 = .ok (.aload_n 0, 1) := by decide +kernel
theorem dX12_named_6 : decode cX12_named 6 = .ok (.getfield 300, 3) := by decide +kernel
theorem dX12_named_9 : decode cX12_named 9 = .ok (.if_icmp .ge 33, 3) := by decide +kernel
theorem dX12_named_12 : decode cX12_named 12 = .ok (.iload_n 1, 1) := by decide +kernel
theorem dX12_named_13 : decode cX12_named 13 = .ok (.aload_n 0, 1) := by decide +kernel
theorem dX12_named_14 : decode cX12_named 14 = .ok (.getfield 47, 3) := by decide +kernel
theorem dX12_named_17 : decode cX12_named 17 = .ok (.iload_n 2, 1) := by decide +kernel
theorem dX12_named_18 : decode cX12_named 18 = .ok (.iaload, 1) := by decide +kernel
theorem dX12_named_19 : decode cX12_named 19 = .ok (.ifCond .lt 14, 3) := by decide +kernel
theorem dX12_named_22 : decode cX12_named 22 = .ok (.iconst 1, 1) := by decide +kernel
theorem dX12_named_23 : decode cX12_named 23 = .ok (.aload_n 0, 1) := by decide +kernel
theorem dX12_named_24 : decode cX12_named 24 = .ok (.getfield 47, 3) := by decide +kernel
theorem dX12_named_27 : decode cX12_named 27 = .ok (.iload_n 2, 1) := by decide +kernel
theorem dX12_named_28 : decode cX12_named 28 = .ok (.iaload, 1) := by decide +kernel
theorem dX12_named_29 : decode cX12_named 29 = .ok (.ishl, 1) := by decide +kernel
theorem dX12_named_30 : decode cX12_named 30 = .ok (.goto 4, 3) := by decide +kernel
theorem dX12_named_33 : decode cX12_named 33 = .ok (.iconst 0, 1) := by decide +kernel
theorem dX12_named_34 : decode cX12_named 34 = .ok (.ior, 1) := by decide +kernel
theorem dX12_named_35 : decode cX12_named 35 = .ok (.istore_n 1, 1) := by decide +kernel
theorem dX12_named_36 : decode cX12_named 36 = .ok (.iinc 2 1, 3) := by decide +kernel
theorem dX12_named_39 : decode cX12_named 39 = .ok (.goto (-35), 3) := by decide +kernel
theorem dX12_named_42 : decode cX12_named 42 = .ok (.iload_n 1, 1) := by decide +kernel
theorem dX12_named_43 : decode cX12_named 43 = .ok (.ireturn, 1) := by decide +kernel
def rm_fMM_named : Room := { frames := 1, cells := 0, slots := 0, locals := 60 }
set_option maxHeartbeats 4000000 in
set_option maxRecDepth 100000 in
theorem c_fMM_named (l : Launch) (X : eX) (sz : Nat)  (σ : sT) (rz : Int32) (h0 : fMM_named σ = some rz) : ctI l yX12_named cX12_named 3 (some .int) rm_fMM_named [.ref (X.2.1 33)] (wM X) (tM X) (aM X) X sz σ rz σ := by
  refine ct_of (by decide +kernel) (Nat.le_of_ble_eq_true rfl) ?_
  intro p e s m args below meth c ls hz B hl Z
  have B : Bd p s m args meth c RX12 cX12_named 3 (some .int) := B
  have hl : lv_has ls 3 [(0, .ref (X.2.1 33))] := hl
  have hx := B.1
  have hb := B.2.1
  unfold fMM_named at h0
  refine lv_iconst (v := (0 : Int32)) hx hb dX12_named_0 (by decide) ?_
  refine lv_istore_n (lv' := [(1, .int (0 : Int32)), (0, .ref (X.2.1 33))]) hx hb dX12_named_1 rfl hl (by decide) rfl (fun ls hl => ?_)
  refine lv_iconst (v := (0 : Int32)) hx hb dX12_named_2 (by decide) ?_
  refine lv_istore_n (lv' := [(2, .int (0 : Int32)), (1, .int (0 : Int32)), (0, .ref (X.2.1 33))]) hx hb dX12_named_3 rfl hl (by decide) rfl (fun ls hl => ?_)
  have lL4 : ∀ (n : Nat), ∀ (x1 : Int32) (x2 : Int32) (H : Heap) (locs : List Loc) (ls : Array Slot), Wd (wM X) (tM X) (aM X) X s σ H locs → lv_has ls 3 [(0, .ref (X.2.1 33)), (1, .int x1), (2, .int x2)] → fMM_named_L4 σ n x1 x2 = some rz → W p l e rm_fMM_named s m args below meth c H locs 0 0 (MQ below (va_Qi (fun a u => a = rz ∧ u = σ) (poW (wM X) (tM X) (aM X) X sz) (aA (aM X) sz)) args s 0 0 (aA (aM X) sz)) (F0 m 4 ls []) := by
    intro n
    induction n with
    | zero =>
      intro x1 x2 H locs ls Z hl h
      exact nomatch (show (none : Option (Int32)) = some _ from h)
    | succ n3 ih4 =>
      intro x1 x2 H locs ls Z hl h1
      unfold fMM_named_L4 at h1
      refine lv_iload_n hx hb dX12_named_4 rfl (lv_at hl 2 rfl) ?_
      refine lv_aload_n hx hb dX12_named_5 rfl (lv_at hl 0 rfl) ?_
      refine g_33_29 B Z kf_RX12_300 dX12_named_6 ?_
      refine lv_icmp_ge (tgt := 42) hx hb dX12_named_9 (by decide) (fun c4 => ?_) (fun c4 => ?_)
      · have h2 := dit h1 c4
        clear h1
        refine lv_iload_n hx hb dX12_named_42 rfl (lv_at hl 1 rfl) ?_
        exact reI B Z rfl hz (congrArg (Option.map (fun q => (q, σ))) h2) dX12_named_43
      · have h3 := dif h1 c4
        clear h1
        refine lv_iload_n hx hb dX12_named_12 rfl (lv_at hl 1 rfl) ?_
        refine lv_aload_n hx hb dX12_named_13 rfl (lv_at hl 0 rfl) ?_
        refine g_33_28 B Z kf_RX12_47 dX12_named_14 ?_
        refine lv_iload_n hx hb dX12_named_17 rfl (lv_at hl 2 rfl) ?_
        obtain ⟨z5, h4⟩ := dck_s h3
        clear h3
        refine ld_46 B Z z5 dX12_named_18 ?_
        refine lv_if_lt (tgt := 33) hx hb dX12_named_19 (by decide) (fun c6 => ?_) (fun c6 => ?_)
        · have h5 := dit h4 c6
          clear h4
          refine lv_iconst (v := (0 : Int32)) hx hb dX12_named_33 (by decide) ?_
          refine lv_ior hx hb dX12_named_34 ?_
          refine lv_topi (fun x7 ex7 => ?_)
          have h6 := dlt_e ex7 h5
          clear ex7 h5
          refine lv_istore_n (lv' := [(1, .int x7), (0, .ref (X.2.1 33)), (2, .int x2)]) hx hb dX12_named_35 rfl hl (by decide) rfl (fun ls hl => ?_)
          refine lv_iinc (v := x2 + (1 : Int32)) (lv' := [(2, .int (x2 + (1 : Int32))), (1, .int x7), (0, .ref (X.2.1 33))]) hx hb dX12_named_36 hl (k := 2) rfl (by rfl) (by decide) rfl (fun ls hl => ?_)
          refine lv_goto (tgt := 4) hx hb dX12_named_39 (by decide) ?_
          exact ih4 x7 (x2 + (1 : Int32)) _ _ _ Z (lv_sub hl [2, 1, 0] rfl) h6
        · have h7 := dif h4 c6
          clear h4
          refine lv_iconst (v := (1 : Int32)) hx hb dX12_named_22 (by decide) ?_
          refine lv_aload_n hx hb dX12_named_23 rfl (lv_at hl 0 rfl) ?_
          refine g_33_28 B Z kf_RX12_47 dX12_named_24 ?_
          refine lv_iload_n hx hb dX12_named_27 rfl (lv_at hl 2 rfl) ?_
          obtain ⟨z8, h8⟩ := dck_s h7
          clear h7
          refine ld_46 B Z z8 dX12_named_28 ?_
          refine lv_ishl hx hb dX12_named_29 ?_
          refine lv_goto (tgt := 34) hx hb dX12_named_30 (by decide) ?_
          refine lv_ior hx hb dX12_named_34 ?_
          refine lv_topi (fun x9 ex9 => ?_)
          have h9 := dlt_e ex9 h8
          clear ex9 h8
          refine lv_istore_n (lv' := [(1, .int x9), (0, .ref (X.2.1 33)), (2, .int x2)]) hx hb dX12_named_35 rfl hl (by decide) rfl (fun ls hl => ?_)
          refine lv_iinc (v := x2 + (1 : Int32)) (lv' := [(2, .int (x2 + (1 : Int32))), (1, .int x9), (0, .ref (X.2.1 33))]) hx hb dX12_named_36 hl (k := 2) rfl (by rfl) (by decide) rfl (fun ls hl => ?_)
          refine lv_goto (tgt := 4) hx hb dX12_named_39 (by decide) ?_
          exact ih4 x9 (x2 + (1 : Int32)) _ _ _ Z (lv_sub hl [2, 1, 0] rfl) h9
  exact lL4 FU (0 : Int32) (0 : Int32) _ _ _ Z (lv_sub hl [2, 1, 0] rfl) h0
theorem dX12_isTrue_0 : decode cX12_isTrue 0 = .ok (.iconst 0, 1) := by decide +kernel
theorem dX12_isTrue_1 : decode cX12_isTrue 1 = .ok (.istore_n 2, 1) := by decide +kernel
theorem dX12_isTrue_2 : decode cX12_isTrue 2 = .ok (.aload_n 0, 1) := by decide +kernel
theorem dX12_isTrue_3 : decode cX12_isTrue 3 = .ok (.getfield 38, 3) := by decide +kernel
theorem dX12_isTrue_6 : decode cX12_isTrue 6 = .ok (.iload_n 2, 1) := by decide +kernel
theorem dX12_isTrue_7 : decode cX12_isTrue 7 = .ok (.iaload, 1) := by decide +kernel
theorem dX12_isTrue_8 : decode cX12_isTrue 8 = .ok (.iload_n 1, 1) := by decide +kernel
theorem dX12_isTrue_9 : decode cX12_isTrue 9 = .ok (.if_icmp .eq 9, 3) := by decide +kernel
theorem dX12_isTrue_12 : decode cX12_isTrue 12 = .ok (.iinc 2 1, 3) := by decide +kernel
theorem dX12_isTrue_15 : decode cX12_isTrue 15 = .ok (.goto (-13), 3) := by decide +kernel
theorem dX12_isTrue_18 : decode cX12_isTrue 18 = .ok (.aload_n 0, 1) := by decide +kernel
theorem dX12_isTrue_19 : decode cX12_isTrue 19 = .ok (.iload_n 1, 1) := by decide +kernel
theorem dX12_isTrue_20 : decode cX12_isTrue 20 = .ok (.iconst 3, 1) := by decide +kernel
theorem dX12_isTrue_21 : decode cX12_isTrue 21 = .ok (.invokevirtual 87, 3) := by decide +kernel
theorem dX12_isTrue_24 : decode cX12_isTrue 24 = .ok (.istore_n 3, 1) := by decide +kernel
theorem dX12_isTrue_25 : decode cX12_isTrue 25 = .ok (.iload_n 3, 1) := by decide +kernel
theorem dX12_isTrue_26 : decode cX12_isTrue 26 = .ok (.ifCond .ne 20, 3) := by decide +kernel
theorem dX12_isTrue_29 : decode cX12_isTrue 29 = .ok (.aload_n 0, 1) := by decide +kernel
theorem dX12_isTrue_30 : decode cX12_isTrue 30 = .ok (.getfield 41, 3) := by decide +kernel
theorem dX12_isTrue_33 : decode cX12_isTrue 33 = .ok (.iload_n 2, 1) := by decide +kernel
theorem dX12_isTrue_34 : decode cX12_isTrue 34 = .ok (.iaload, 1) := by decide +kernel
theorem dX12_isTrue_35 : decode cX12_isTrue 35 = .ok (.ifCond .ge 7, 3) := by decide +kernel
theorem dX12_isTrue_38 : decode cX12_isTrue 38 = .ok (.iconst 1, 1) := by decide +kernel
theorem dX12_isTrue_39 : decode cX12_isTrue 39 = .ok (.goto 43, 3) := by decide +kernel
theorem dX12_isTrue_42 : decode cX12_isTrue 42 = .ok (.iconst 0, 1) := by decide +kernel
theorem dX12_isTrue_43 : decode cX12_isTrue 43 = .ok (.goto 39, 3) := by decide +kernel
theorem dX12_isTrue_46 : decode cX12_isTrue 46 = .ok (.iload_n 3, 1) := by decide +kernel
theorem dX12_isTrue_47 : decode cX12_isTrue 47 = .ok (.iconst 1, 1) := by decide +kernel
theorem dX12_isTrue_48 : decode cX12_isTrue 48 = .ok (.if_icmp .ne 20, 3) := by decide +kernel
theorem dX12_isTrue_51 : decode cX12_isTrue 51 = .ok (.aload_n 0, 1) := by decide +kernel
theorem dX12_isTrue_52 : decode cX12_isTrue 52 = .ok (.getfield 41, 3) := by decide +kernel
theorem dX12_isTrue_55 : decode cX12_isTrue 55 = .ok (.iload_n 2, 1) := by decide +kernel
theorem dX12_isTrue_56 : decode cX12_isTrue 56 = .ok (.iaload, 1) := by decide +kernel
theorem dX12_isTrue_57 : decode cX12_isTrue 57 = .ok (.ifCond .gt 7, 3) := by decide +kernel
theorem dX12_isTrue_60 : decode cX12_isTrue 60 = .ok (.iconst 1, 1) := by decide +kernel
theorem dX12_isTrue_61 : decode cX12_isTrue 61 = .ok (.goto 21, 3) := by decide +kernel
theorem dX12_isTrue_64 : decode cX12_isTrue 64 = .ok (.iconst 0, 1) := by decide +kernel
theorem dX12_isTrue_65 : decode cX12_isTrue 65 = .ok (.goto 17, 3) := by decide +kernel
theorem dX12_isTrue_68 : decode cX12_isTrue 68 = .ok (.aload_n 0, 1) := by decide +kernel
theorem dX12_isTrue_69 : decode cX12_isTrue 69 = .ok (.getfield 41, 3) := by decide +kernel
theorem dX12_isTrue_72 : decode cX12_isTrue 72 = .ok (.iload_n 2, 1) := by decide +kernel
theorem dX12_isTrue_73 : decode cX12_isTrue 73 = .ok (.iaload, 1) := by decide +kernel
theorem dX12_isTrue_74 : decode cX12_isTrue 74 = .ok (.ifCond .ne 7, 3) := by decide +kernel
theorem dX12_isTrue_77 : decode cX12_isTrue 77 = .ok (.iconst 1, 1) := by decide +kernel
theorem dX12_isTrue_78 : decode cX12_isTrue 78 = .ok (.goto 4, 3) := by decide +kernel
theorem dX12_isTrue_81 : decode cX12_isTrue 81 = .ok (.iconst 0, 1) := by decide +kernel
theorem dX12_isTrue_82 : decode cX12_isTrue 82 = .ok (.ireturn, 1) := by decide +kernel
def rm_fMM_isTrue : Room := { frames := 2, cells := 0, slots := 0, locals := 82 }
set_option maxHeartbeats 4000000 in
set_option maxRecDepth 100000 in
theorem c_fMM_isTrue (l : Launch) (X : eX) (sz : Nat) (a1 : Int32) (σ : sT) (rz : Int32) (h0 : fMM_isTrue a1 σ = some rz) : ctI l yX12_isTrue cX12_isTrue 4 (some .boolean) rm_fMM_isTrue [.ref (X.2.1 33), .int a1] (wM X) (tM X) (aM X) X sz σ rz σ := by
  refine ct_of (by decide +kernel) (Nat.le_of_ble_eq_true rfl) ?_
  intro p e s m args below meth c ls hz B hl Z
  have B : Bd p s m args meth c RX12 cX12_isTrue 4 (some .boolean) := B
  have hl : lv_has ls 4 [(0, .ref (X.2.1 33)), (1, .int a1)] := hl
  have hx := B.1
  have hb := B.2.1
  unfold fMM_isTrue at h0
  refine lv_iconst (v := (0 : Int32)) hx hb dX12_isTrue_0 (by decide) ?_
  refine lv_istore_n (lv' := [(2, .int (0 : Int32)), (0, .ref (X.2.1 33)), (1, .int a1)]) hx hb dX12_isTrue_1 rfl hl (by decide) rfl (fun ls hl => ?_)
  obtain ⟨K3, eK3, h16⟩ := dlt_s h0
  clear h0
  have kK3 : ∀ (x2 : Int32) (H : Heap) (locs : List Loc) (ls : Array Slot), Wd (wM X) (tM X) (aM X) X s σ H locs → lv_has ls 4 [(0, .ref (X.2.1 33)), (1, .int a1), (2, .int x2)] → K3 x2 = some rz → W p l e rm_fMM_isTrue s m args below meth c H locs 0 0 (MQ below (va_Qi (fun a u => a = rz ∧ u = σ) (poW (wM X) (tM X) (aM X) X sz) (aA (aM X) sz)) args s 0 0 (aA (aM X) sz)) (F0 m 18 ls []) := by
    intro x2 H locs ls Z hl h1
    rw [eK3] at h1
    refine lv_aload_n hx hb dX12_isTrue_18 rfl (lv_at hl 0 rfl) ?_
    refine lv_iload_n hx hb dX12_isTrue_19 rfl (lv_at hl 1 rfl) ?_
    refine lv_iconst (v := (3 : Int32)) hx hb dX12_isTrue_20 (by decide) ?_
    obtain ⟨r5, hc3, h2⟩ := db1_s h1
    clear h1
    refine cV_I [.int a1, .int (3 : Int32)] [] B mx_yX12_at (c_fMM_at l X _ a1 (3 : Int32) σ r5 hc3) kl_RX12_87 mi_yX12_at (rv_33 _ _) hcl_12 Z hl rfl rfl ⟨Nat.le_of_ble_eq_true rfl, Nat.le_of_ble_eq_true rfl⟩ rfl rfl (Nat.le_of_ble_eq_true rfl) dX12_isTrue_21 (fun H locs Z => ?_)
    clear hc3
    refine lv_istore_n (lv' := [(3, .int r5), (0, .ref (X.2.1 33)), (1, .int a1), (2, .int x2)]) hx hb dX12_isTrue_24 rfl hl (by decide) rfl (fun ls hl => ?_)
    refine lv_iload_n hx hb dX12_isTrue_25 rfl (lv_at hl 0 rfl) ?_
    refine lv_if_ne (tgt := 46) hx hb dX12_isTrue_26 (by decide) (fun c6 => ?_) (fun c6 => ?_)
    · have h3 := dif h2 c6
      clear h2
      refine lv_iload_n hx hb dX12_isTrue_46 rfl (lv_at hl 0 rfl) ?_
      refine lv_iconst (v := (1 : Int32)) hx hb dX12_isTrue_47 (by decide) ?_
      refine lv_icmp_ne (tgt := 68) hx hb dX12_isTrue_48 (by decide) (fun c7 => ?_) (fun c7 => ?_)
      · have h4 := dif h3 c7
        clear h3
        refine lv_aload_n hx hb dX12_isTrue_68 rfl (lv_at hl 1 rfl) ?_
        refine g_33_24 B Z kf_RX12_41 dX12_isTrue_69 ?_
        refine lv_iload_n hx hb dX12_isTrue_72 rfl (lv_at hl 3 rfl) ?_
        obtain ⟨z8, h5⟩ := dck_s h4
        clear h4
        refine ld_44 B Z z8 dX12_isTrue_73 ?_
        refine lv_if_ne (tgt := 81) hx hb dX12_isTrue_74 (by decide) (fun c9 => ?_) (fun c9 => ?_)
        · have h6 := dif h5 c9
          clear h5
          refine lv_iconst (v := (0 : Int32)) hx hb dX12_isTrue_81 (by decide) ?_
          exact reI B Z rfl hz (congrArg (Option.map (fun q => (q, σ))) h6) dX12_isTrue_82
        · have h7 := dit h5 c9
          clear h5
          refine lv_iconst (v := (1 : Int32)) hx hb dX12_isTrue_77 (by decide) ?_
          refine lv_goto (tgt := 82) hx hb dX12_isTrue_78 (by decide) ?_
          exact reI B Z rfl hz (congrArg (Option.map (fun q => (q, σ))) h7) dX12_isTrue_82
      · have h8 := dit h3 c7
        clear h3
        refine lv_aload_n hx hb dX12_isTrue_51 rfl (lv_at hl 1 rfl) ?_
        refine g_33_24 B Z kf_RX12_41 dX12_isTrue_52 ?_
        refine lv_iload_n hx hb dX12_isTrue_55 rfl (lv_at hl 3 rfl) ?_
        obtain ⟨z10, h9⟩ := dck_s h8
        clear h8
        refine ld_44 B Z z10 dX12_isTrue_56 ?_
        refine lv_if_gt (tgt := 64) hx hb dX12_isTrue_57 (by decide) (fun c11 => ?_) (fun c11 => ?_)
        · have h10 := dit h9 c11
          clear h9
          refine lv_iconst (v := (0 : Int32)) hx hb dX12_isTrue_64 (by decide) ?_
          refine lv_goto (tgt := 82) hx hb dX12_isTrue_65 (by decide) ?_
          exact reI B Z rfl hz (congrArg (Option.map (fun q => (q, σ))) h10) dX12_isTrue_82
        · have h11 := dif h9 c11
          clear h9
          refine lv_iconst (v := (1 : Int32)) hx hb dX12_isTrue_60 (by decide) ?_
          refine lv_goto (tgt := 82) hx hb dX12_isTrue_61 (by decide) ?_
          exact reI B Z rfl hz (congrArg (Option.map (fun q => (q, σ))) h11) dX12_isTrue_82
    · have h12 := dit h2 c6
      clear h2
      refine lv_aload_n hx hb dX12_isTrue_29 rfl (lv_at hl 1 rfl) ?_
      refine g_33_24 B Z kf_RX12_41 dX12_isTrue_30 ?_
      refine lv_iload_n hx hb dX12_isTrue_33 rfl (lv_at hl 3 rfl) ?_
      obtain ⟨z12, h13⟩ := dck_s h12
      clear h12
      refine ld_44 B Z z12 dX12_isTrue_34 ?_
      refine lv_if_ge (tgt := 42) hx hb dX12_isTrue_35 (by decide) (fun c13 => ?_) (fun c13 => ?_)
      · have h14 := dit h13 c13
        clear h13
        refine lv_iconst (v := (0 : Int32)) hx hb dX12_isTrue_42 (by decide) ?_
        refine lv_goto (tgt := 82) hx hb dX12_isTrue_43 (by decide) ?_
        exact reI B Z rfl hz (congrArg (Option.map (fun q => (q, σ))) h14) dX12_isTrue_82
      · have h15 := dif h13 c13
        clear h13
        refine lv_iconst (v := (1 : Int32)) hx hb dX12_isTrue_38 (by decide) ?_
        refine lv_goto (tgt := 82) hx hb dX12_isTrue_39 (by decide) ?_
        exact reI B Z rfl hz (congrArg (Option.map (fun q => (q, σ))) h15) dX12_isTrue_82
  clear eK3
  have lL2 : ∀ (n : Nat), ∀ (x1 : Int32) (H : Heap) (locs : List Loc) (ls : Array Slot), Wd (wM X) (tM X) (aM X) X s σ H locs → lv_has ls 4 [(0, .ref (X.2.1 33)), (1, .int a1), (2, .int x1)] → fMM_isTrue_L2 a1 σ K3 n x1 = some rz → W p l e rm_fMM_isTrue s m args below meth c H locs 0 0 (MQ below (va_Qi (fun a u => a = rz ∧ u = σ) (poW (wM X) (tM X) (aM X) X sz) (aA (aM X) sz)) args s 0 0 (aA (aM X) sz)) (F0 m 2 ls []) := by
    intro n
    induction n with
    | zero =>
      intro x1 H locs ls Z hl h
      exact nomatch (show (none : Option (Int32)) = some _ from h)
    | succ n14 ih2 =>
      intro x1 H locs ls Z hl h17
      unfold fMM_isTrue_L2 at h17
      refine lv_aload_n hx hb dX12_isTrue_2 rfl (lv_at hl 0 rfl) ?_
      refine g_33_22 B Z kf_RX12_38 dX12_isTrue_3 ?_
      refine lv_iload_n hx hb dX12_isTrue_6 rfl (lv_at hl 2 rfl) ?_
      obtain ⟨z15, h18⟩ := dck_s h17
      clear h17
      refine ld_43 B Z z15 dX12_isTrue_7 ?_
      refine lv_iload_n hx hb dX12_isTrue_8 rfl (lv_at hl 1 rfl) ?_
      refine lv_icmp_eq (tgt := 18) hx hb dX12_isTrue_9 (by decide) (fun c16 => ?_) (fun c16 => ?_)
      · have h19 := dit h18 c16
        clear h18
        exact kK3 x1 _ _ _ Z (lv_sub hl [0, 1, 2] rfl) h19
      · have h20 := dif h18 c16
        clear h18
        refine lv_iinc (v := x1 + (1 : Int32)) (lv' := [(2, .int (x1 + (1 : Int32))), (0, .ref (X.2.1 33)), (1, .int a1)]) hx hb dX12_isTrue_12 hl (k := 2) rfl (by rfl) (by decide) rfl (fun ls hl => ?_)
        refine lv_goto (tgt := 2) hx hb dX12_isTrue_15 (by decide) ?_
        exact ih2 (x1 + (1 : Int32)) _ _ _ Z (lv_sub hl [1, 2, 0] rfl) h20
  exact lL2 FU (0 : Int32) _ _ _ Z (lv_sub hl [1, 2, 0] rfl) h16
