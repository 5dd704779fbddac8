theorem dX9_turn_0 : decode cX9_turn 0 = .ok (.iconst 0, 1) := by decide +kernel
theorem dX9_turn_1 : decode cX9_turn 1 = .ok (.istore_n 1, 1) := by decide +kernel
theorem dX9_turn_2 : decode cX9_turn 2 = .ok (.iconst 0, 1) := by decide +kernel
theorem dX9_turn_3 : decode cX9_turn 3 = .ok (.istore_n 2, 1) := by decide +kernel
theorem dX9_turn_4 : decode cX9_turn 4 = .ok (.iconst 0, 1) := by decide +kernel
theorem dX9_turn_5 : decode cX9_turn 5 = .ok (.istore_n 3, 1) := by decide +kernel
theorem dX9_turn_6 : decode cX9_turn 6 = .ok (.iload_n 3, 1) := by decide +kernel
theorem dX9_turn_7 : decode cX9_turn 7 = .ok (.aload_n 0, 1) := by decide +kernel
theorem dX9_turn_8 : decode cX9_turn 8 = .ok (.getfield 25, 3) := by decide +kernel
theorem dX9_turn_11 : decode cX9_turn 11 = .ok (.if_icmp .ge 58, 3) := by decide +kernel
theorem dX9_turn_14 : decode cX9_turn 14 = .ok (.aload_n 0, 1) := by decide +kernel
theorem dX9_turn_15 : decode cX9_turn 15 = .ok (.getfield 21, 3) := by decide +kernel
theorem dX9_turn_18 : decode cX9_turn 18 = .ok (.aload_n 0, 1) := by decide +kernel
theorem dX9_turn_19 : decode cX9_turn 19 = .ok (.getfield 11, 3) := by decide +kernel
theorem dX9_turn_22 : decode cX9_turn 22 = .ok (.iload_n 3, 1) := by decide +kernel
theorem dX9_turn_23 : decode cX9_turn 23 = .ok (.iaload, 1) := by decide +kernel
theorem dX9_turn_24 : decode cX9_turn 24 = .ok (.iconst 3, 1) := by decide +kernel
theorem dX9_turn_25 : decode cX9_turn 25 = .ok (.invokevirtual 33, 3) := by decide +kernel
theorem dX9_turn_28 : decode cX9_turn 28 = .ok (.iconst 2, 1) := by decide +kernel
theorem dX9_turn_29 : decode cX9_turn 29 = .ok (.if_icmp .eq 10, 3) := by decide +kernel
theorem dX9_turn_32 : decode cX9_turn 32 = .ok (.aload_n 0, 1) := by decide +kernel
theorem dX9_turn_33 : decode cX9_turn 33 = .ok (.getfield 18, 3) := by decide +kernel
theorem dX9_turn_36 : decode cX9_turn 36 = .ok (.iload_n 3, 1) := by decide +kernel
theorem dX9_turn_37 : decode cX9_turn 37 = .ok (.iaload, 1) := by decide +kernel
theorem dX9_turn_38 : decode cX9_turn 38 = .ok (.istore_n 1, 1) := by decide +kernel
theorem dX9_turn_39 : decode cX9_turn 39 = .ok (.iload_n 2, 1) := by decide +kernel
theorem dX9_turn_40 : decode cX9_turn 40 = .ok (.aload_n 0, 1) := by decide +kernel
theorem dX9_turn_41 : decode cX9_turn 41 = .ok (.getfield 18, 3) := by decide +kernel
theorem dX9_turn_44 : decode cX9_turn 44 = .ok (.iload_n 3, 1) := by decide +kernel
theorem dX9_turn_45 : decode cX9_turn 45 = .ok (.iaload, 1) := by decide +kernel
theorem dX9_turn_46 : decode cX9_turn 46 = .ok (.aload_n 0, 1) := by decide +kernel
theorem dX9_turn_47 : decode cX9_turn 47 = .ok (.getfield 21, 3) := by decide +kernel
theorem dX9_turn_50 : decode cX9_turn 50 = .ok (.aload_n 0, 1) := by decide +kernel
theorem dX9_turn_51 : decode cX9_turn 51 = .ok (.getfield 11, 3) := by decide +kernel
theorem dX9_turn_54 : decode cX9_turn 54 = .ok (.iload_n 3, 1) := by decide +kernel
theorem dX9_turn_55 : decode cX9_turn 55 = .ok (.iaload, 1) := by decide +kernel
theorem dX9_turn_56 : decode cX9_turn 56 = .ok (.iconst 4, 1) := by decide +kernel
theorem dX9_turn_57 : decode cX9_turn 57 = .ok (.invokevirtual 33, 3) := by decide +kernel
theorem dX9_turn_60 : decode cX9_turn 60 = .ok (.imul, 1) := by decide +kernel
theorem dX9_turn_61 : decode cX9_turn 61 = .ok (.iadd, 1) := by decide +kernel
theorem dX9_turn_62 : decode cX9_turn 62 = .ok (.istore_n 2, 1) := by decide +kernel
theorem dX9_turn_63 : decode cX9_turn 63 = .ok (.iinc 3 1, 3) := by decide +kernel
theorem dX9_turn_66 : decode cX9_turn 66 = .ok (.goto (-60), 3) := by decide +kernel
theorem dX9_turn_69 : decode cX9_turn 69 = .ok (.iload_n 1, 1) := by decide +kernel
theorem dX9_turn_70 : decode cX9_turn 70 = .ok (.ifCond .lt 11, 3) := by decide +kernel
theorem dX9_turn_73 : decode cX9_turn 73 = .ok (.iload_n 1, 1) := by decide +kernel
theorem dX9_turn_74 : decode cX9_turn 74 = .ok (.ifCond .ne 11, 3) := by decide +kernel
theorem dX9_turn_77 : decode cX9_turn 77 = .ok (.iload_n 2, 1) := by decide +kernel
theorem dX9_turn_78 : decode cX9_turn 78 = .ok (.ifCond .le 7, 3) := by decide +kernel
theorem dX9_turn_81 : decode cX9_turn 81 = .ok (.iconst 1, 1) := by decide +kernel
theorem dX9_turn_82 : decode cX9_turn 82 = .ok (.goto 4, 3) := by decide +kernel
theorem dX9_turn_85 : decode cX9_turn 85 = .ok (.iconst 0, 1) := by decide +kernel
theorem dX9_turn_86 : decode cX9_turn 86 = .ok (.istore_n 3, 1) := by decide +kernel
theorem dX9_turn_87 : decode cX9_turn 87 = .ok (.iconst 0, 1) := by decide +kernel
theorem dX9_turn_88 : decode cX9_turn 88 = .ok (.istore 4, 2) := by decide +kernel
theorem dX9_turn_90 : decode cX9_turn 90 = .ok (.iload 4, 2) := by decide +kernel
theorem dX9_turn_92 : decode cX9_turn 92 = .ok (.aload_n 0, 1) := by decide +kernel
theorem dX9_turn_93 : decode cX9_turn 93 = .ok (.getfield 25, 3) := by decide +kernel
theorem dX9_turn_96 : decode cX9_turn 96 = .ok (.if_icmp .ge 28, 3) := by decide +kernel
theorem dX9_turn_99 : decode cX9_turn 99 = .ok (.iload_n 3, 1) := by decide +kernel
theorem dX9_turn_100 : decode cX9_turn 100 = .ok (.ifCond .eq 24, 3) := by decide +kernel
theorem dX9_turn_103 : decode cX9_turn 103 = .ok (.aload_n 0, 1) := by decide +kernel
theorem dX9_turn_104 : decode cX9_turn 104 = .ok (.getfield 18, 3) := by decide +kernel
theorem dX9_turn_107 : decode cX9_turn 107 = .ok (.iload 4, 2) := by decide +kernel
theorem dX9_turn_109 : decode cX9_turn 109 = .ok (.aload_n 0, 1) := by decide +kernel
theorem dX9_turn_110 : decode cX9_turn 110 = .ok (.getfield 18, 3) := by decide +kernel
theorem dX9_turn_113 : decode cX9_turn 113 = .ok (.iload 4, 2) := by decide +kernel
theorem dX9_turn_115 : decode cX9_turn 115 = .ok (.iaload, 1) := by decide +kernel
theorem dX9_turn_116 : decode cX9_turn 116 = .ok (.ineg, 1) := by decide +kernel
theorem dX9_turn_117 : decode cX9_turn 117 = .ok (.iastore, 1) := by decide +kernel
theorem dX9_turn_118 : decode cX9_turn 118 = .ok (.iinc 4 1, 3) := by decide +kernel
theorem dX9_turn_121 : decode cX9_turn 121 = .ok (.goto (-31), 3) := by decide +kernel
theorem dX9_turn_124 : decode cX9_turn 124 = .ok (.return_, 1) := by decide +kernel
def rm_fWt_turn : Room := { frames := 3, cells := 0, slots := 0, locals := 104 }
set_option maxHeartbeats 4000000 in
set_option maxRecDepth 100000 in
theorem c_fWt_turn (l : Launch) (X : eX) (sz : Nat)  (σ : sT) (σz : sT) (h0 : fWt_turn σ = some σz) : ctV l yX9_turn cX9_turn 5 none rm_fWt_turn [.ref (X.2.1 20)] (wC X) (tC X) (aC X) X sz σ σz := by
  refine ct_of (by decide +kernel) (Nat.le_of_ble_eq_true rfl) ?_
  intro p e s m args below meth c ls hz B hl Z
  have B : Bd p s m args meth c RX9 cX9_turn 5 none := B
  have hl : lv_has ls 5 [(0, .ref (X.2.1 20))] := hl
  have hx := B.1
  have hb := B.2.1
  unfold fWt_turn at h0
  refine lv_iconst (v := (0 : Int32)) hx hb dX9_turn_0 (by decide) ?_
  refine lv_istore_n (lv' := [(1, .int (0 : Int32)), (0, .ref (X.2.1 20))]) hx hb dX9_turn_1 rfl hl (by decide) rfl (fun ls hl => ?_)
  refine lv_iconst (v := (0 : Int32)) hx hb dX9_turn_2 (by decide) ?_
  refine lv_istore_n (lv' := [(2, .int (0 : Int32)), (1, .int (0 : Int32)), (0, .ref (X.2.1 20))]) hx hb dX9_turn_3 rfl hl (by decide) rfl (fun ls hl => ?_)
  refine lv_iconst (v := (0 : Int32)) hx hb dX9_turn_4 (by decide) ?_
  refine lv_istore_n (lv' := [(3, .int (0 : Int32)), (2, .int (0 : Int32)), (1, .int (0 : Int32)), (0, .ref (X.2.1 20))]) hx hb dX9_turn_5 rfl hl (by decide) rfl (fun ls hl => ?_)
  obtain ⟨K6, eK6, h22⟩ := dlt_s h0
  clear h0
  have kK6 : ∀ (x4 : Int32) (x5 : Int32) (H : Heap) (locs : List Loc) (ls : Array Slot), Wd (wC X) (tC X) (aC X) X s σ H locs → lv_has ls 5 [(0, .ref (X.2.1 20)), (1, .int x4), (2, .int x5)] → K6 x4 x5 = some σz → W p l e rm_fWt_turn s m args below meth c H locs 0 0 (MQ below (va_Qv (fun u => u = σz) (poW (wC X) (tC X) (aC X) X sz) (aA (aC X) sz)) args s 0 0 (aA (aC X) sz)) (F0 m 69 ls []) := by
    intro x4 x5 H locs ls Z hl h1
    rw [eK6] at h1
    refine lv_iload_n hx hb dX9_turn_69 rfl (lv_at hl 1 rfl) ?_
    obtain ⟨J8, eJ8, h11⟩ := dlt_s h1
    clear h1
    have kJ8 : ∀ (x7 : Int32) (H : Heap) (locs : List Loc) (ls : Array Slot), Wd (wC X) (tC X) (aC X) X s σ H locs → lv_has ls 5 [(0, .ref (X.2.1 20))] → J8 x7 = some σz → W p l e rm_fWt_turn s m args below meth c H locs 0 0 (MQ below (va_Qv (fun u => u = σz) (poW (wC X) (tC X) (aC X) X sz) (aA (aC X) sz)) args s 0 0 (aA (aC X) sz)) (F0 m 86 ls [.int x7]) := by
      intro x7 H locs ls Z hl h2
      rw [eJ8] at h2
      refine lv_istore_n (lv' := [(3, .int x7), (0, .ref (X.2.1 20))]) hx hb dX9_turn_86 rfl hl (by decide) rfl (fun ls hl => ?_)
      refine lv_iconst (v := (0 : Int32)) hx hb dX9_turn_87 (by decide) ?_
      refine lv_istore (lv' := [(4, .int (0 : Int32)), (3, .int x7), (0, .ref (X.2.1 20))]) hx hb dX9_turn_88 hl (by decide) rfl (fun ls hl => ?_)
      have lL90 : ∀ (n : Nat), ∀ (x9 : Int32) (σ10 : sT) (H : Heap) (locs : List Loc) (ls : Array Slot), Wd (wC X) (tC X) (aC X) X s σ10 H locs → lv_has ls 5 [(0, .ref (X.2.1 20)), (3, .int x7), (4, .int x9)] → fWt_turn_L90 x7 n x9 σ10 = some σz → W p l e rm_fWt_turn s m args below meth c H locs 0 0 (MQ below (va_Qv (fun u => u = σz) (poW (wC X) (tC X) (aC X) X sz) (aA (aC X) sz)) args s 0 0 (aA (aC X) sz)) (F0 m 90 ls []) := by
        intro n
        induction n with
        | zero =>
          intro x9 σ10 H locs ls Z hl h
          exact nomatch (show (none : Option (sT)) = some _ from h)
        | succ n11 ih55 =>
          intro x9 σ10 H locs ls Z hl h3
          unfold fWt_turn_L90 at h3
          refine lv_iload hx hb dX9_turn_90 (lv_at hl 2 rfl) ?_
          refine lv_aload_n hx hb dX9_turn_92 rfl (lv_at hl 0 rfl) ?_
          refine g_20_4 B Z kf_RX9_25 dX9_turn_93 ?_
          refine lv_icmp_ge (tgt := 124) hx hb dX9_turn_96 (by decide) (fun c12 => ?_) (fun c12 => ?_)
          · have h4 := dit h3 c12
            clear h3
            exact reV B Z hz h4 dX9_turn_124
          · have h5 := dif h3 c12
            clear h3
            refine lv_iload_n hx hb dX9_turn_99 rfl (lv_at hl 1 rfl) ?_
            refine lv_if_eq (tgt := 124) hx hb dX9_turn_100 (by decide) (fun c13 => ?_) (fun c13 => ?_)
            · have h6 := dit h5 c13
              clear h5
              exact reV B Z hz h6 dX9_turn_124
            · have h7 := dif h5 c13
              clear h5
              refine lv_aload_n hx hb dX9_turn_103 rfl (lv_at hl 0 rfl) ?_
              refine g_20_3 B Z kf_RX9_18 dX9_turn_104 ?_
              refine lv_iload hx hb dX9_turn_107 (lv_at hl 2 rfl) ?_
              refine lv_aload_n hx hb dX9_turn_109 rfl (lv_at hl 0 rfl) ?_
              refine g_20_3 B Z kf_RX9_18 dX9_turn_110 ?_
              refine lv_iload hx hb dX9_turn_113 (lv_at hl 2 rfl) ?_
              obtain ⟨z14, h8⟩ := dck_s h7
              clear h7
              refine ld_23 B Z z14 dX9_turn_115 ?_
              refine lv_ineg hx hb dX9_turn_116 ?_
              obtain ⟨z15, h9⟩ := dck_s h8
              clear h8
              refine st_23 B Z z15 dX9_turn_117 (fun H locs Z => ?_)
              obtain ⟨σ16, eσ16, h10⟩ := dlt_s h9
              clear h9
              replace Z := Wd.eq eσ16 Z
              clear eσ16
              refine lv_iinc (v := x9 + (1 : Int32)) (lv' := [(4, .int (x9 + (1 : Int32))), (0, .ref (X.2.1 20)), (3, .int x7)]) hx hb dX9_turn_118 hl (k := 2) rfl (by rfl) (by decide) rfl (fun ls hl => ?_)
              refine lv_goto (tgt := 90) hx hb dX9_turn_121 (by decide) ?_
              exact ih55 (x9 + (1 : Int32)) σ16 _ _ _ Z (lv_sub hl [1, 2, 0] rfl) h10
      exact lL90 FU (0 : Int32) σ _ _ _ Z (lv_sub hl [2, 1, 0] rfl) h2
    clear eJ8
    obtain ⟨J17, eJ17, h13⟩ := dlt_s h11
    clear h11
    have kJ17 : ∀ (H : Heap) (locs : List Loc) (ls : Array Slot), Wd (wC X) (tC X) (aC X) X s σ H locs → lv_has ls 5 [(0, .ref (X.2.1 20))] → J17 () = some σz → W p l e rm_fWt_turn s m args below meth c H locs 0 0 (MQ below (va_Qv (fun u => u = σz) (poW (wC X) (tC X) (aC X) X sz) (aA (aC X) sz)) args s 0 0 (aA (aC X) sz)) (F0 m 81 ls []) := by
      intro  H locs ls Z hl h12
      rw [eJ17] at h12
      refine lv_iconst (v := (1 : Int32)) hx hb dX9_turn_81 (by decide) ?_
      refine lv_goto (tgt := 86) hx hb dX9_turn_82 (by decide) ?_
      exact kJ8 (1 : Int32) _ _ _ Z (lv_sub hl [0] rfl) h12
    clear eJ17
    refine lv_if_lt (tgt := 81) hx hb dX9_turn_70 (by decide) (fun c18 => ?_) (fun c18 => ?_)
    · have h14 := dit h13 c18
      clear h13
      exact kJ17  _ _ _ Z (lv_sub hl [0] rfl) h14
    · have h15 := dif h13 c18
      clear h13
      refine lv_iload_n hx hb dX9_turn_73 rfl (lv_at hl 1 rfl) ?_
      obtain ⟨J19, eJ19, h17⟩ := dlt_s h15
      clear h15
      have kJ19 : ∀ (H : Heap) (locs : List Loc) (ls : Array Slot), Wd (wC X) (tC X) (aC X) X s σ H locs → lv_has ls 5 [(0, .ref (X.2.1 20))] → J19 () = some σz → W p l e rm_fWt_turn s m args below meth c H locs 0 0 (MQ below (va_Qv (fun u => u = σz) (poW (wC X) (tC X) (aC X) X sz) (aA (aC X) sz)) args s 0 0 (aA (aC X) sz)) (F0 m 85 ls []) := by
        intro  H locs ls Z hl h16
        rw [eJ19] at h16
        refine lv_iconst (v := (0 : Int32)) hx hb dX9_turn_85 (by decide) ?_
        exact kJ8 (0 : Int32) _ _ _ Z (lv_sub hl [0] rfl) h16
      clear eJ19
      refine lv_if_ne (tgt := 85) hx hb dX9_turn_74 (by decide) (fun c20 => ?_) (fun c20 => ?_)
      · have h18 := dif h17 c20
        clear h17
        exact kJ19  _ _ _ Z (lv_sub hl [0] rfl) h18
      · have h19 := dit h17 c20
        clear h17
        refine lv_iload_n hx hb dX9_turn_77 rfl (lv_at hl 2 rfl) ?_
        refine lv_if_le (tgt := 85) hx hb dX9_turn_78 (by decide) (fun c21 => ?_) (fun c21 => ?_)
        · have h20 := dit h19 c21
          clear h19
          exact kJ19  _ _ _ Z (lv_sub hl [0] rfl) h20
        · have h21 := dif h19 c21
          clear h19
          exact kJ17  _ _ _ Z (lv_sub hl [0] rfl) h21
  clear eK6
  have lL6 : ∀ (n : Nat), ∀ (x1 : Int32) (x2 : Int32) (x3 : Int32) (H : Heap) (locs : List Loc) (ls : Array Slot), Wd (wC X) (tC X) (aC X) X s σ H locs → lv_has ls 5 [(0, .ref (X.2.1 20)), (1, .int x1), (2, .int x2), (3, .int x3)] → fWt_turn_L6 σ K6 n x1 x2 x3 = some σz → W p l e rm_fWt_turn s m args below meth c H locs 0 0 (MQ below (va_Qv (fun u => u = σz) (poW (wC X) (tC X) (aC X) X sz) (aA (aC X) sz)) args s 0 0 (aA (aC X) sz)) (F0 m 6 ls []) := by
    intro n
    induction n with
    | zero =>
      intro x1 x2 x3 H locs ls Z hl h
      exact nomatch (show (none : Option (sT)) = some _ from h)
    | succ n22 ih6 =>
      intro x1 x2 x3 H locs ls Z hl h23
      unfold fWt_turn_L6 at h23
      refine lv_iload_n hx hb dX9_turn_6 rfl (lv_at hl 3 rfl) ?_
      refine lv_aload_n hx hb dX9_turn_7 rfl (lv_at hl 0 rfl) ?_
      refine g_20_4 B Z kf_RX9_25 dX9_turn_8 ?_
      refine lv_icmp_ge (tgt := 69) hx hb dX9_turn_11 (by decide) (fun c23 => ?_) (fun c23 => ?_)
      · have h24 := dit h23 c23
        clear h23
        exact kK6 x1 x2 _ _ _ Z (lv_sub hl [0, 1, 2] rfl) h24
      · have h25 := dif h23 c23
        clear h23
        refine lv_aload_n hx hb dX9_turn_14 rfl (lv_at hl 0 rfl) ?_
        refine g_20_0 B Z kf_RX9_21 dX9_turn_15 ?_
        refine lv_aload_n hx hb dX9_turn_18 rfl (lv_at hl 0 rfl) ?_
        refine g_20_1 B Z kf_RX9_11 dX9_turn_19 ?_
        refine lv_iload_n hx hb dX9_turn_22 rfl (lv_at hl 3 rfl) ?_
        obtain ⟨z24, h26⟩ := dck_s h25
        clear h25
        refine ld_21 B Z z24 dX9_turn_23 ?_
        refine lv_iconst (v := (3 : Int32)) hx hb dX9_turn_24 (by decide) ?_
        obtain ⟨r26, hc24, h27⟩ := db1_s h26
        clear h26
        refine cV_I [.int (σ.1 21 x3.toNatClampNeg), .int (3 : Int32)] [] B mx_yX0_get (c_fBk_get l X _ (σ.1 21 x3.toNatClampNeg) (3 : Int32) σ r26 hc24) kl_RX9_33 mi_yX0_get (rv_1 _ _) hcl_0 Z hl rfl rfl ⟨Nat.le_of_ble_eq_true rfl, Nat.le_of_ble_eq_true rfl⟩ rfl rfl (Nat.le_of_ble_eq_true rfl) dX9_turn_25 (fun H locs Z => ?_)
        clear hc24
        refine lv_iconst (v := (2 : Int32)) hx hb dX9_turn_28 (by decide) ?_
        obtain ⟨J28, eJ28, h33⟩ := dlt_s h27
        clear h27
        have kJ28 : ∀ (x27 : Int32) (H : Heap) (locs : List Loc) (ls : Array Slot), Wd (wC X) (tC X) (aC X) X s σ H locs → lv_has ls 5 [(0, .ref (X.2.1 20)), (1, .int x27), (2, .int x2), (3, .int x3)] → J28 x27 = some σz → W p l e rm_fWt_turn s m args below meth c H locs 0 0 (MQ below (va_Qv (fun u => u = σz) (poW (wC X) (tC X) (aC X) X sz) (aA (aC X) sz)) args s 0 0 (aA (aC X) sz)) (F0 m 39 ls []) := by
          intro x27 H locs ls Z hl h28
          rw [eJ28] at h28
          refine lv_iload_n hx hb dX9_turn_39 rfl (lv_at hl 2 rfl) ?_
          refine lv_aload_n hx hb dX9_turn_40 rfl (lv_at hl 0 rfl) ?_
          refine g_20_3 B Z kf_RX9_18 dX9_turn_41 ?_
          refine lv_iload_n hx hb dX9_turn_44 rfl (lv_at hl 3 rfl) ?_
          obtain ⟨z29, h29⟩ := dck_s h28
          clear h28
          refine ld_23 B Z z29 dX9_turn_45 ?_
          refine lv_aload_n hx hb dX9_turn_46 rfl (lv_at hl 0 rfl) ?_
          refine g_20_0 B Z kf_RX9_21 dX9_turn_47 ?_
          refine lv_aload_n hx hb dX9_turn_50 rfl (lv_at hl 0 rfl) ?_
          refine g_20_1 B Z kf_RX9_11 dX9_turn_51 ?_
          refine lv_iload_n hx hb dX9_turn_54 rfl (lv_at hl 3 rfl) ?_
          obtain ⟨z30, h30⟩ := dck_s h29
          clear h29
          refine ld_21 B Z z30 dX9_turn_55 ?_
          refine lv_iconst (v := (4 : Int32)) hx hb dX9_turn_56 (by decide) ?_
          obtain ⟨r32, hc30, h31⟩ := db1_s h30
          clear h30
          refine cV_I [.int (σ.1 21 x3.toNatClampNeg), .int (4 : Int32)] [.int (σ.1 23 x3.toNatClampNeg), .int x2] B mx_yX0_get (c_fBk_get l X _ (σ.1 21 x3.toNatClampNeg) (4 : Int32) σ r32 hc30) kl_RX9_33 mi_yX0_get (rv_1 _ _) hcl_0 Z hl rfl rfl ⟨Nat.le_of_ble_eq_true rfl, Nat.le_of_ble_eq_true rfl⟩ rfl rfl (Nat.le_of_ble_eq_true rfl) dX9_turn_57 (fun H locs Z => ?_)
          clear hc30
          refine lv_imul hx hb dX9_turn_60 ?_
          refine lv_iadd hx hb dX9_turn_61 ?_
          refine lv_topi (fun x33 ex33 => ?_)
          have h32 := dlt_e ex33 h31
          clear ex33 h31
          refine lv_istore_n (lv' := [(2, .int x33), (0, .ref (X.2.1 20)), (1, .int x27), (3, .int x3)]) hx hb dX9_turn_62 rfl hl (by decide) rfl (fun ls hl => ?_)
          refine lv_iinc (v := x3 + (1 : Int32)) (lv' := [(3, .int (x3 + (1 : Int32))), (2, .int x33), (0, .ref (X.2.1 20)), (1, .int x27)]) hx hb dX9_turn_63 hl (k := 3) rfl (by rfl) (by decide) rfl (fun ls hl => ?_)
          refine lv_goto (tgt := 6) hx hb dX9_turn_66 (by decide) ?_
          exact ih6 x27 x33 (x3 + (1 : Int32)) _ _ _ Z (lv_sub hl [2, 3, 1, 0] rfl) h32
        clear eJ28
        refine lv_icmp_eq (tgt := 39) hx hb dX9_turn_29 (by decide) (fun c34 => ?_) (fun c34 => ?_)
        · have h34 := dit h33 c34
          clear h33
          exact kJ28 x1 _ _ _ Z (lv_sub hl [0, 1, 2, 3] rfl) h34
        · have h35 := dif h33 c34
          clear h33
          refine lv_aload_n hx hb dX9_turn_32 rfl (lv_at hl 0 rfl) ?_
          refine g_20_3 B Z kf_RX9_18 dX9_turn_33 ?_
          refine lv_iload_n hx hb dX9_turn_36 rfl (lv_at hl 3 rfl) ?_
          obtain ⟨z35, h36⟩ := dck_s h35
          clear h35
          refine ld_23 B Z z35 dX9_turn_37 ?_
          refine lv_topi (fun x36 ex36 => ?_)
          have h37 := dlt_e ex36 h36
          clear ex36 h36
          refine lv_istore_n (lv' := [(1, .int x36), (0, .ref (X.2.1 20)), (2, .int x2), (3, .int x3)]) hx hb dX9_turn_38 rfl hl (by decide) rfl (fun ls hl => ?_)
          exact kJ28 x36 _ _ _ Z (lv_sub hl [1, 0, 2, 3] rfl) h37
  exact lL6 FU (0 : Int32) (0 : Int32) (0 : Int32) _ _ _ Z (lv_sub hl [3, 2, 1, 0] rfl) h22
theorem dJ6_bitCount_0f7a4_0 : decode cJ6_bitCount_0f7a4 0 = .ok (.iload_n 0, 1) := by decide +kernel
theorem dJ6_bitCount_0f7a4_1 : decode cJ6_bitCount_0f7a4 1 = .ok (.iload_n 0, 1) := by decide +kernel
theorem dJ6_bitCount_0f7a4_2 : decode cJ6_bitCount_0f7a4 2 = .ok (.iconst 1, 1) := by decide +kernel
theorem dJ6_bitCount_0f7a4_3 : decode cJ6_bitCount_0f7a4 3 = .ok (.iushr, 1) := by decide +kernel
theorem dJ6_bitCount_0f7a4_4 : decode cJ6_bitCount_0f7a4 4 = .ok (.ldc_w 265, 3) := by decide +kernel
theorem dJ6_bitCount_0f7a4_7 : decode cJ6_bitCount_0f7a4 7 = .ok (.iand, 1) := by decide +kernel
theorem dJ6_bitCount_0f7a4_8 : decode cJ6_bitCount_0f7a4 8 = .ok (.isub, 1) := by decide +kernel
theorem dJ6_bitCount_0f7a4_9 : decode cJ6_bitCount_0f7a4 9 = .ok (.istore_n 0, 1) := by decide +kernel
theorem dJ6_bitCount_0f7a4_10 : decode cJ6_bitCount_0f7a4 10 = .ok (.iload_n 0, 1) := by decide +kernel
theorem dJ6_bitCount_0f7a4_11 : decode cJ6_bitCount_0f7a4 11 = .ok (.ldc_w 266, 3) := by decide +kernel
theorem dJ6_bitCount_0f7a4_14 : decode cJ6_bitCount_0f7a4 14 = .ok (.iand, 1) := by decide +kernel
theorem dJ6_bitCount_0f7a4_15 : decode cJ6_bitCount_0f7a4 15 = .ok (.iload_n 0, 1) := by decide +kernel
theorem dJ6_bitCount_0f7a4_16 : decode cJ6_bitCount_0f7a4 16 = .ok (.iconst 2, 1) := by decide +kernel
theorem dJ6_bitCount_0f7a4_17 : decode cJ6_bitCount_0f7a4 17 = .ok (.iushr, 1) := by decide +kernel
theorem dJ6_bitCount_0f7a4_18 : decode cJ6_bitCount_0f7a4 18 = .ok (.ldc_w 266, 3) := by decide +kernel
theorem dJ6_bitCount_0f7a4_21 : decode cJ6_bitCount_0f7a4 21 = .ok (.iand, 1) := by decide +kernel
theorem dJ6_bitCount_0f7a4_22 : decode cJ6_bitCount_0f7a4 22 = .ok (.iadd, 1) := by decide +kernel
theorem dJ6_bitCount_0f7a4_23 : decode cJ6_bitCount_0f7a4 23 = .ok (.istore_n 0, 1) := by decide +kernel
theorem dJ6_bitCount_0f7a4_24 : decode cJ6_bitCount_0f7a4 24 = .ok (.iload_n 0, 1) := by decide +kernel
theorem dJ6_bitCount_0f7a4_25 : decode cJ6_bitCount_0f7a4 25 = .ok (.iload_n 0, 1) := by decide +kernel
theorem dJ6_bitCount_0f7a4_26 : decode cJ6_bitCount_0f7a4 26 = .ok (.iconst 4, 1) := by decide +kernel
theorem dJ6_bitCount_0f7a4_27 : decode cJ6_bitCount_0f7a4 27 = .ok (.iushr, 1) := by decide +kernel
theorem dJ6_bitCount_0f7a4_28 : decode cJ6_bitCount_0f7a4 28 = .ok (.iadd, 1) := by decide +kernel
theorem dJ6_bitCount_0f7a4_29 : decode cJ6_bitCount_0f7a4 29 = .ok (.ldc_w 267, 3) := by decide +kernel
theorem dJ6_bitCount_0f7a4_32 : decode cJ6_bitCount_0f7a4 32 = .ok (.iand, 1) := by decide +kernel
theorem dJ6_bitCount_0f7a4_33 : decode cJ6_bitCount_0f7a4 33 = .ok (.istore_n 0, 1) := by decide +kernel
theorem dJ6_bitCount_0f7a4_34 : decode cJ6_bitCount_0f7a4 34 = .ok (.iload_n 0, 1) := by decide +kernel
theorem dJ6_bitCount_0f7a4_35 : decode cJ6_bitCount_0f7a4 35 = .ok (.iload_n 0, 1) := by decide +kernel
theorem dJ6_bitCount_0f7a4_36 : decode cJ6_bitCount_0f7a4 36 = .ok (.bipush 8, 2) := by decide +kernel
theorem dJ6_bitCount_0f7a4_38 : decode cJ6_bitCount_0f7a4 38 = .ok (.iushr, 1) := by decide +kernel
theorem dJ6_bitCount_0f7a4_39 : decode cJ6_bitCount_0f7a4 39 = .ok (.iadd, 1) := by decide +kernel
theorem dJ6_bitCount_0f7a4_40 : decode cJ6_bitCount_0f7a4 40 = .ok (.istore_n 0, 1) := by decide +kernel
theorem dJ6_bitCount_0f7a4_41 : decode cJ6_bitCount_0f7a4 41 = .ok (.iload_n 0, 1) := by decide +kernel
theorem dJ6_bitCount_0f7a4_42 : decode cJ6_bitCount_0f7a4 42 = .ok (.iload_n 0, 1) := by decide +kernel
theorem dJ6_bitCount_0f7a4_43 : decode cJ6_bitCount_0f7a4 43 = .ok (.bipush 16, 2) := by decide +kernel
theorem dJ6_bitCount_0f7a4_45 : decode cJ6_bitCount_0f7a4 45 = .ok (.iushr, 1) := by decide +kernel
theorem dJ6_bitCount_0f7a4_46 : decode cJ6_bitCount_0f7a4 46 = .ok (.iadd, 1) := by decide +kernel
theorem dJ6_bitCount_0f7a4_47 : decode cJ6_bitCount_0f7a4 47 = .ok (.istore_n 0, 1) := by decide +kernel
theorem dJ6_bitCount_0f7a4_48 : decode cJ6_bitCount_0f7a4 48 = .ok (.iload_n 0, 1) := by decide +kernel
theorem dJ6_bitCount_0f7a4_49 : decode cJ6_bitCount_0f7a4 49 = .ok (.bipush 63, 2) := by decide +kernel
theorem dJ6_bitCount_0f7a4_51 : decode cJ6_bitCount_0f7a4 51 = .ok (.iand, 1) := by decide +kernel
theorem dJ6_bitCount_0f7a4_52 : decode cJ6_bitCount_0f7a4 52 = .ok (.ireturn, 1) := by decide +kernel
def rm_fJI_bitCount : Room := { frames := 1, cells := 0, slots := 0, locals := 60 }
set_option maxHeartbeats 4000000 in
set_option maxRecDepth 100000 in
theorem c_fJI_bitCount (l : Launch) (X : eX) (sz : Nat) (a1 : Int32) (σ : sT) (rz : Int32) (h0 : fJI_bitCount a1 = some rz) : ctI l yJ6_bitCount_0f7a4 cJ6_bitCount_0f7a4 1 (some .int) rm_fJI_bitCount [.int a1] (wC X) (tC X) (aC X) X sz σ rz σ := by
  refine ct_ofF (by decide +kernel) (Nat.le_of_ble_eq_true rfl) ?_
  intro p e s m args below meth c ls hz B hl Z
  have B : Bd p s m args meth c RJ6 cJ6_bitCount_0f7a4 1 (some .int) := B
  have hl : lv_has ls 1 [(0, .int a1)] := hl
  have hx := B.1
  have hb := B.2.1
  unfold fJI_bitCount at h0
  refine lv_iload_n hx hb dJ6_bitCount_0f7a4_0 rfl (lv_at hl 0 rfl) ?_
  refine lv_iload_n hx hb dJ6_bitCount_0f7a4_1 rfl (lv_at hl 0 rfl) ?_
  refine lv_iconst (v := (1 : Int32)) hx hb dJ6_bitCount_0f7a4_2 (by decide) ?_
  refine lv_iushr hx hb dJ6_bitCount_0f7a4_3 rfl ?_
  refine lv_ldcw hx hb B.2.2.2.1 (B.2.2.2.2.1 _ kc_RJ6_265) dJ6_bitCount_0f7a4_4 ?_
  refine lv_iand hx hb dJ6_bitCount_0f7a4_7 ?_
  refine lv_isub hx hb dJ6_bitCount_0f7a4_8 ?_
  refine lv_topi (fun x1 ex1 => ?_)
  have h1 := dlt_e ex1 h0
  clear ex1 h0
  refine lv_istore_n (lv' := [(0, .int x1)]) hx hb dJ6_bitCount_0f7a4_9 rfl hl (by decide) rfl (fun ls hl => ?_)
  refine lv_iload_n hx hb dJ6_bitCount_0f7a4_10 rfl (lv_at hl 0 rfl) ?_
  refine lv_ldcw hx hb B.2.2.2.1 (B.2.2.2.2.1 _ kc_RJ6_266) dJ6_bitCount_0f7a4_11 ?_
  refine lv_iand hx hb dJ6_bitCount_0f7a4_14 ?_
  refine lv_iload_n hx hb dJ6_bitCount_0f7a4_15 rfl (lv_at hl 0 rfl) ?_
  refine lv_iconst (v := (2 : Int32)) hx hb dJ6_bitCount_0f7a4_16 (by decide) ?_
  refine lv_iushr hx hb dJ6_bitCount_0f7a4_17 rfl ?_
  refine lv_ldcw hx hb B.2.2.2.1 (B.2.2.2.2.1 _ kc_RJ6_266) dJ6_bitCount_0f7a4_18 ?_
  refine lv_iand hx hb dJ6_bitCount_0f7a4_21 ?_
  refine lv_iadd hx hb dJ6_bitCount_0f7a4_22 ?_
  refine lv_topi (fun x2 ex2 => ?_)
  have h2 := dlt_e ex2 h1
  clear ex2 h1
  refine lv_istore_n (lv' := [(0, .int x2)]) hx hb dJ6_bitCount_0f7a4_23 rfl hl (by decide) rfl (fun ls hl => ?_)
  refine lv_iload_n hx hb dJ6_bitCount_0f7a4_24 rfl (lv_at hl 0 rfl) ?_
  refine lv_iload_n hx hb dJ6_bitCount_0f7a4_25 rfl (lv_at hl 0 rfl) ?_
  refine lv_iconst (v := (4 : Int32)) hx hb dJ6_bitCount_0f7a4_26 (by decide) ?_
  refine lv_iushr hx hb dJ6_bitCount_0f7a4_27 rfl ?_
  refine lv_iadd hx hb dJ6_bitCount_0f7a4_28 ?_
  refine lv_ldcw hx hb B.2.2.2.1 (B.2.2.2.2.1 _ kc_RJ6_267) dJ6_bitCount_0f7a4_29 ?_
  refine lv_iand hx hb dJ6_bitCount_0f7a4_32 ?_
  refine lv_topi (fun x3 ex3 => ?_)
  have h3 := dlt_e ex3 h2
  clear ex3 h2
  refine lv_istore_n (lv' := [(0, .int x3)]) hx hb dJ6_bitCount_0f7a4_33 rfl hl (by decide) rfl (fun ls hl => ?_)
  refine lv_iload_n hx hb dJ6_bitCount_0f7a4_34 rfl (lv_at hl 0 rfl) ?_
  refine lv_iload_n hx hb dJ6_bitCount_0f7a4_35 rfl (lv_at hl 0 rfl) ?_
  refine lv_bipush (v := (8 : Int32)) hx hb dJ6_bitCount_0f7a4_36 (by decide) ?_
  refine lv_iushr hx hb dJ6_bitCount_0f7a4_38 rfl ?_
  refine lv_iadd hx hb dJ6_bitCount_0f7a4_39 ?_
  refine lv_topi (fun x4 ex4 => ?_)
  have h4 := dlt_e ex4 h3
  clear ex4 h3
  refine lv_istore_n (lv' := [(0, .int x4)]) hx hb dJ6_bitCount_0f7a4_40 rfl hl (by decide) rfl (fun ls hl => ?_)
  refine lv_iload_n hx hb dJ6_bitCount_0f7a4_41 rfl (lv_at hl 0 rfl) ?_
  refine lv_iload_n hx hb dJ6_bitCount_0f7a4_42 rfl (lv_at hl 0 rfl) ?_
  refine lv_bipush (v := (16 : Int32)) hx hb dJ6_bitCount_0f7a4_43 (by decide) ?_
  refine lv_iushr hx hb dJ6_bitCount_0f7a4_45 rfl ?_
  refine lv_iadd hx hb dJ6_bitCount_0f7a4_46 ?_
  refine lv_topi (fun x5 ex5 => ?_)
  have h5 := dlt_e ex5 h4
  clear ex5 h4
  refine lv_istore_n (lv' := [(0, .int x5)]) hx hb dJ6_bitCount_0f7a4_47 rfl hl (by decide) rfl (fun ls hl => ?_)
  refine lv_iload_n hx hb dJ6_bitCount_0f7a4_48 rfl (lv_at hl 0 rfl) ?_
  refine lv_bipush (v := (63 : Int32)) hx hb dJ6_bitCount_0f7a4_49 (by decide) ?_
  refine lv_iand hx hb dJ6_bitCount_0f7a4_51 ?_
  exact reI B Z rfl hz (congrArg (Option.map (fun q => (q, σ))) h5) dJ6_bitCount_0f7a4_52
theorem dX9_determinant_0 : decode cX9_determinant 0 = .ok (.iload_n 1, 1) := by decide +kernel
theorem dX9_determinant_1 : decode cX9_determinant 1 = .ok (.iconst 3, 1) := by decide +kernel
theorem dX9_determinant_2 : decode cX9_determinant 2 = .ok (.imul, 1) := by decide +kernel
theorem dX9_determinant_3 : decode cX9_determinant 3 = .ok (.istore 4, 2) := by decide +kernel
theorem dX9_determinant_5 : decode cX9_determinant 5 = .ok (.iload_n 2, 1) := by decide +kernel
theorem dX9_determinant_6 : decode cX9_determinant 6 = .ok (.iconst 3, 1) := by decide +kernel
theorem dX9_determinant_7 : decode cX9_determinant 7 = .ok (.imul, 1) := by decide +kernel
theorem dX9_determinant_8 : decode cX9_determinant 8 = .ok (.istore 5, 2) := by decide +kernel
theorem dX9_determinant_10 : decode cX9_determinant 10 = .ok (.iload_n 3, 1) := by decide +kernel
theorem dX9_determinant_11 : decode cX9_determinant 11 = .ok (.iconst 3, 1) := by decide +kernel
theorem dX9_determinant_12 : decode cX9_determinant 12 = .ok (.imul, 1) := by decide +kernel
theorem dX9_determinant_13 : decode cX9_determinant 13 = .ok (.istore 6, 2) := by decide +kernel
theorem dX9_determinant_15 : decode cX9_determinant 15 = .ok (.aload_n 0, 1) := by decide +kernel
theorem dX9_determinant_16 : decode cX9_determinant 16 = .ok (.getfield 15, 3) := by decide +kernel
theorem dX9_determinant_19 : decode cX9_determinant 19 = .ok (.iload 4, 2) := by decide +kernel
theorem dX9_determinant_21 : decode cX9_determinant 21 = .ok (.iaload, 1) := by decide +kernel
theorem dX9_determinant_22 : decode cX9_determinant 22 = .ok (.aload_n 0, 1) := by decide +kernel
theorem dX9_determinant_23 : decode cX9_determinant 23 = .ok (.getfield 15, 3) := by decide +kernel
theorem dX9_determinant_26 : decode cX9_determinant 26 = .ok (.iload 5, 2) := by decide +kernel
theorem dX9_determinant_28 : decode cX9_determinant 28 = .ok (.iconst 1, 1) := by decide +kernel
theorem dX9_determinant_29 : decode cX9_determinant 29 = .ok (.iadd, 1) := by decide +kernel
theorem dX9_determinant_30 : decode cX9_determinant 30 = .ok (.iaload, 1) := by decide +kernel
theorem dX9_determinant_31 : decode cX9_determinant 31 = .ok (.aload_n 0, 1) := by decide +kernel
theorem dX9_determinant_32 : decode cX9_determinant 32 = .ok (.getfield 15, 3) := by decide +kernel
theorem dX9_determinant_35 : decode cX9_determinant 35 = .ok (.iload 6, 2) := by decide +kernel
theorem dX9_determinant_37 : decode cX9_determinant 37 = .ok (.iconst 2, 1) := by decide +kernel
theorem dX9_determinant_38 : decode cX9_determinant 38 = .ok (.iadd, 1) := by decide +kernel
theorem dX9_determinant_39 : decode cX9_determinant 39 = .ok (.iaload, 1) := by decide +kernel
theorem dX9_determinant_40 : decode cX9_determinant 40 = .ok (.imul, 1) := by decide +kernel
theorem dX9_determinant_41 : decode cX9_determinant 41 = .ok (.aload_n 0, 1) := by decide +kernel
theorem dX9_determinant_42 : decode cX9_determinant 42 = .ok (.getfield 15, 3) := by decide +kernel
theorem dX9_determinant_45 : decode cX9_determinant 45 = .ok (.iload 5, 2) := by decide +kernel
theorem dX9_determinant_47 : decode cX9_determinant 47 = .ok (.iconst 2, 1) := by decide +kernel
theorem dX9_determinant_48 : decode cX9_determinant 48 = .ok (.iadd, 1) := by decide +kernel
theorem dX9_determinant_49 : decode cX9_determinant 49 = .ok (.iaload, 1) := by decide +kernel
theorem dX9_determinant_50 : decode cX9_determinant 50 = .ok (.aload_n 0, 1) := by decide +kernel
theorem dX9_determinant_51 : decode cX9_determinant 51 = .ok (.getfield 15, 3) := by decide +kernel
theorem dX9_determinant_54 : decode cX9_determinant 54 = .ok (.iload 6, 2) := by decide +kernel
theorem dX9_determinant_56 : decode cX9_determinant 56 = .ok (.iconst 1, 1) := by decide +kernel
theorem dX9_determinant_57 : decode cX9_determinant 57 = .ok (.iadd, 1) := by decide +kernel
theorem dX9_determinant_58 : decode cX9_determinant 58 = .ok (.iaload, 1) := by decide +kernel
theorem dX9_determinant_59 : decode cX9_determinant 59 = .ok (.imul, 1) := by decide +kernel
theorem dX9_determinant_60 : decode cX9_determinant 60 = .ok (.isub, 1) := by decide +kernel
theorem dX9_determinant_61 : decode cX9_determinant 61 = .ok (.imul, 1) := by decide +kernel
theorem dX9_determinant_62 : decode cX9_determinant 62 = .ok (.aload_n 0, 1) := by decide +kernel
theorem dX9_determinant_63 : decode cX9_determinant 63 = .ok (.getfield 15, 3) := by decide +kernel
theorem dX9_determinant_66 : decode cX9_determinant 66 = .ok (.iload 4, 2) := by decide +kernel
theorem dX9_determinant_68 : decode cX9_determinant 68 = .ok (.iconst 1, 1) := by decide +kernel
theorem dX9_determinant_69 : decode cX9_determinant 69 = .ok (.iadd, 1) := by decide +kernel
theorem dX9_determinant_70 : decode cX9_determinant 70 = .ok (.iaload, 1) := by decide +kernel
theorem dX9_determinant_71 : decode cX9_determinant 71 = .ok (.aload_n 0, 1) := by decide +kernel
theorem dX9_determinant_72 : decode cX9_determinant 72 = .ok (.getfield 15, 3) := by decide +kernel
theorem dX9_determinant_75 : decode cX9_determinant 75 = .ok (.iload 5, 2) := by decide +kernel
theorem dX9_determinant_77 : decode cX9_determinant 77 = .ok (.iaload, 1) := by decide +kernel
theorem dX9_determinant_78 : decode cX9_determinant 78 = .ok (.aload_n 0, 1) := by decide +kernel
theorem dX9_determinant_79 : decode cX9_determinant 79 = .ok (.getfield 15, 3) := by decide +kernel
theorem dX9_determinant_82 : decode cX9_determinant 82 = .ok (.iload 6, 2) := by decide +kernel
theorem dX9_determinant_84 : decode cX9_determinant 84 = .ok (.iconst 2, 1) := by decide +kernel
theorem dX9_determinant_85 : decode cX9_determinant 85 = .ok (.iadd, 1) := by decide +kernel
theorem dX9_determinant_86 : decode cX9_determinant 86 = .ok (.iaload, 1) := by decide +kernel
theorem dX9_determinant_87 : decode cX9_determinant 87 = .ok (.imul, 1) := by decide +kernel
theorem dX9_determinant_88 : decode cX9_determinant 88 = .ok (.aload_n 0, 1) := by decide +kernel
theorem dX9_determinant_89 : decode cX9_determinant 89 = .ok (.getfield 15, 3) := by decide +kernel
theorem dX9_determinant_92 : decode cX9_determinant 92 = .ok (.iload 5, 2) := by decide +kernel
theorem dX9_determinant_94 : decode cX9_determinant 94 = .ok (.iconst 2, 1) := by decide +kernel
theorem dX9_determinant_95 : decode cX9_determinant 95 = .ok (.iadd, 1) := by decide +kernel
theorem dX9_determinant_96 : decode cX9_determinant 96 = .ok (.iaload, 1) := by decide +kernel
theorem dX9_determinant_97 : decode cX9_determinant 97 = .ok (.aload_n 0, 1) := by decide +kernel
theorem dX9_determinant_98 : decode cX9_determinant 98 = .ok (.getfield 15, 3) := by decide +kernel
theorem dX9_determinant_101 : decode cX9_determinant 101 = .ok (.iload 6, 2) := by decide +kernel
theorem dX9_determinant_103 : decode cX9_determinant 103 = .ok (.iaload, 1) := by decide +kernel
theorem dX9_determinant_104 : decode cX9_determinant 104 = .ok (.imul, 1) := by decide +kernel
theorem dX9_determinant_105 : decode cX9_determinant 105 = .ok (.isub, 1) := by decide +kernel
theorem dX9_determinant_106 : decode cX9_determinant 106 = .ok (.imul, 1) := by decide +kernel
theorem dX9_determinant_107 : decode cX9_determinant 107 = .ok (.isub, 1) := by decide +kernel
theorem dX9_determinant_108 : decode cX9_determinant 108 = .ok (.aload_n 0, 1) := by decide +kernel
theorem dX9_determinant_109 : decode cX9_determinant 109 = .ok (.getfield 15, 3) := by decide +kernel
theorem dX9_determinant_112 : decode cX9_determinant 112 = .ok (.iload 4, 2) := by decide +kernel
theorem dX9_determinant_114 : decode cX9_determinant 114 = .ok (.iconst 2, 1) := by decide +kernel
theorem dX9_determinant_115 : decode cX9_determinant 115 = .ok (.iadd, 1) := by decide +kernel
theorem dX9_determinant_116 : decode cX9_determinant 116 = .ok (.iaload, 1) := by decide +kernel
theorem dX9_determinant_117 : decode cX9_determinant 117 = .ok (.aload_n 0, 1) := by decide +kernel
theorem dX9_determinant_118 : decode cX9_determinant 118 = .ok (.getfield 15, 3) := by decide +kernel
theorem dX9_determinant_121 : decode cX9_determinant 121 = .ok (.iload 5, 2) := by decide +kernel
theorem dX9_determinant_123 : decode cX9_determinant 123 = .ok (.iaload, 1) := by decide +kernel
theorem dX9_determinant_124 : decode cX9_determinant 124 = .ok (.aload_n 0, 1) := by decide +kernel
theorem dX9_determinant_125 : decode cX9_determinant 125 = .ok (.getfield 15, 3) := by decide +kernel
theorem dX9_determinant_128 : decode cX9_determinant 128 = .ok (.iload 6, 2) := by decide +kernel
theorem dX9_determinant_130 : decode cX9_determinant 130 = .ok (.iconst 1, 1) := by decide +kernel
theorem dX9_determinant_131 : decode cX9_determinant 131 = .ok (.iadd, 1) := by decide +kernel
theorem dX9_determinant_132 : decode cX9_determinant 132 = .ok (.iaload, 1) := by decide +kernel
theorem dX9_determinant_133 : decode cX9_determinant 133 = .ok (.imul, 1) := by decide +kernel
theorem dX9_determinant_134 : decode cX9_determinant 134 = .ok (.aload_n 0, 1) := by decide +kernel
theorem dX9_determinant_135 : decode cX9_determinant 135 = .ok (.getfield 15, 3) := by decide +kernel
theorem dX9_determinant_138 : decode cX9_determinant 138 = .ok (.iload 5, 2) := by decide +kernel
theorem dX9_determinant_140 : decode cX9_determinant 140 = .ok (.iconst 1, 1) := by decide +kernel
theorem dX9_determinant_141 : decode cX9_determinant 141 = .ok (.iadd, 1) := by decide +kernel
theorem dX9_determinant_142 : decode cX9_determinant 142 = .ok (.iaload, 1) := by decide +kernel
theorem dX9_determinant_143 : decode cX9_determinant 143 = .ok (.aload_n 0, 1) := by decide +kernel
theorem dX9_determinant_144 : decode cX9_determinant 144 = .ok (.getfield 15, 3) := by decide +kernel
theorem dX9_determinant_147 : decode cX9_determinant 147 = .ok (.iload 6, 2) := by decide +kernel
theorem dX9_determinant_149 : decode cX9_determinant 149 = .ok (.iaload, 1) := by decide +kernel
theorem dX9_determinant_150 : decode cX9_determinant 150 = .ok (.imul, 1) := by decide +kernel
theorem dX9_determinant_151 : decode cX9_determinant 151 = .ok (.isub, 1) := by decide +kernel
theorem dX9_determinant_152 : decode cX9_determinant 152 = .ok (.imul, 1) := by decide +kernel
theorem dX9_determinant_153 : decode cX9_determinant 153 = .ok (.iadd, 1) := by decide +kernel
theorem dX9_determinant_154 : decode cX9_determinant 154 = .ok (.ireturn, 1) := by decide +kernel
def rm_fWt_determinant : Room := { frames := 1, cells := 0, slots := 0, locals := 60 }
set_option maxHeartbeats 4000000 in
set_option maxRecDepth 100000 in
theorem c_fWt_determinant (l : Launch) (X : eX) (sz : Nat) (a1 : Int32) (a2 : Int32) (a3 : Int32) (σ : sT) (rz : Int32) (h0 : fWt_determinant a1 a2 a3 σ = some rz) : ctI l yX9_determinant cX9_determinant 7 (some .int) rm_fWt_determinant [.ref (X.2.1 20), .int a1, .int a2, .int a3] (wC X) (tC X) (aC X) X sz σ rz σ := by
  refine ct_of (by decide +kernel) (Nat.le_of_ble_eq_true rfl) ?_
  intro p e s m args below meth c ls hz B hl Z
  have B : Bd p s m args meth c RX9 cX9_determinant 7 (some .int) := B
  have hl : lv_has ls 7 [(0, .ref (X.2.1 20)), (1, .int a1), (2, .int a2), (3, .int a3)] := hl
  have hx := B.1
  have hb := B.2.1
  unfold fWt_determinant at h0
  refine lv_iload_n hx hb dX9_determinant_0 rfl (lv_at hl 1 rfl) ?_
  refine lv_iconst (v := (3 : Int32)) hx hb dX9_determinant_1 (by decide) ?_
  refine lv_imul hx hb dX9_determinant_2 ?_
  refine lv_topi (fun x1 ex1 => ?_)
  have h1 := dlt_e ex1 h0
  clear ex1 h0
  refine lv_istore (lv' := [(4, .int x1), (0, .ref (X.2.1 20)), (1, .int a1), (2, .int a2), (3, .int a3)]) hx hb dX9_determinant_3 hl (by decide) rfl (fun ls hl => ?_)
  refine lv_iload_n hx hb dX9_determinant_5 rfl (lv_at hl 3 rfl) ?_
  refine lv_iconst (v := (3 : Int32)) hx hb dX9_determinant_6 (by decide) ?_
  refine lv_imul hx hb dX9_determinant_7 ?_
  refine lv_topi (fun x2 ex2 => ?_)
  have h2 := dlt_e ex2 h1
  clear ex2 h1
  refine lv_istore (lv' := [(5, .int x2), (4, .int x1), (0, .ref (X.2.1 20)), (1, .int a1), (2, .int a2), (3, .int a3)]) hx hb dX9_determinant_8 hl (by decide) rfl (fun ls hl => ?_)
  refine lv_iload_n hx hb dX9_determinant_10 rfl (lv_at hl 5 rfl) ?_
  refine lv_iconst (v := (3 : Int32)) hx hb dX9_determinant_11 (by decide) ?_
  refine lv_imul hx hb dX9_determinant_12 ?_
  refine lv_topi (fun x3 ex3 => ?_)
  have h3 := dlt_e ex3 h2
  clear ex3 h2
  refine lv_istore (lv' := [(6, .int x3), (5, .int x2), (4, .int x1), (0, .ref (X.2.1 20)), (1, .int a1), (2, .int a2), (3, .int a3)]) hx hb dX9_determinant_13 hl (by decide) rfl (fun ls hl => ?_)
  refine lv_aload_n hx hb dX9_determinant_15 rfl (lv_at hl 3 rfl) ?_
  refine g_20_2 B Z kf_RX9_15 dX9_determinant_16 ?_
  refine lv_iload hx hb dX9_determinant_19 (lv_at hl 2 rfl) ?_
  obtain ⟨z4, h4⟩ := dck_s h3
  clear h3
  refine ld_22 B Z z4 dX9_determinant_21 ?_
  refine lv_aload_n hx hb dX9_determinant_22 rfl (lv_at hl 3 rfl) ?_
  refine g_20_2 B Z kf_RX9_15 dX9_determinant_23 ?_
  refine lv_iload hx hb dX9_determinant_26 (lv_at hl 1 rfl) ?_
  refine lv_iconst (v := (1 : Int32)) hx hb dX9_determinant_28 (by decide) ?_
  refine lv_iadd hx hb dX9_determinant_29 ?_
  obtain ⟨z5, h5⟩ := dck_s h4
  clear h4
  refine ld_22 B Z z5 dX9_determinant_30 ?_
  refine lv_aload_n hx hb dX9_determinant_31 rfl (lv_at hl 3 rfl) ?_
  refine g_20_2 B Z kf_RX9_15 dX9_determinant_32 ?_
  refine lv_iload hx hb dX9_determinant_35 (lv_at hl 0 rfl) ?_
  refine lv_iconst (v := (2 : Int32)) hx hb dX9_determinant_37 (by decide) ?_
  refine lv_iadd hx hb dX9_determinant_38 ?_
  obtain ⟨z6, h6⟩ := dck_s h5
  clear h5
  refine ld_22 B Z z6 dX9_determinant_39 ?_
  refine lv_imul hx hb dX9_determinant_40 ?_
  refine lv_aload_n hx hb dX9_determinant_41 rfl (lv_at hl 3 rfl) ?_
  refine g_20_2 B Z kf_RX9_15 dX9_determinant_42 ?_
  refine lv_iload hx hb dX9_determinant_45 (lv_at hl 1 rfl) ?_
  refine lv_iconst (v := (2 : Int32)) hx hb dX9_determinant_47 (by decide) ?_
  refine lv_iadd hx hb dX9_determinant_48 ?_
  obtain ⟨z7, h7⟩ := dck_s h6
  clear h6
  refine ld_22 B Z z7 dX9_determinant_49 ?_
  refine lv_aload_n hx hb dX9_determinant_50 rfl (lv_at hl 3 rfl) ?_
  refine g_20_2 B Z kf_RX9_15 dX9_determinant_51 ?_
  refine lv_iload hx hb dX9_determinant_54 (lv_at hl 0 rfl) ?_
  refine lv_iconst (v := (1 : Int32)) hx hb dX9_determinant_56 (by decide) ?_
  refine lv_iadd hx hb dX9_determinant_57 ?_
  obtain ⟨z8, h8⟩ := dck_s h7
  clear h7
  refine ld_22 B Z z8 dX9_determinant_58 ?_
  refine lv_imul hx hb dX9_determinant_59 ?_
  refine lv_isub hx hb dX9_determinant_60 ?_
  refine lv_imul hx hb dX9_determinant_61 ?_
  refine lv_aload_n hx hb dX9_determinant_62 rfl (lv_at hl 3 rfl) ?_
  refine g_20_2 B Z kf_RX9_15 dX9_determinant_63 ?_
  refine lv_iload hx hb dX9_determinant_66 (lv_at hl 2 rfl) ?_
  refine lv_iconst (v := (1 : Int32)) hx hb dX9_determinant_68 (by decide) ?_
  refine lv_iadd hx hb dX9_determinant_69 ?_
  obtain ⟨z9, h9⟩ := dck_s h8
  clear h8
  refine ld_22 B Z z9 dX9_determinant_70 ?_
  refine lv_aload_n hx hb dX9_determinant_71 rfl (lv_at hl 3 rfl) ?_
  refine g_20_2 B Z kf_RX9_15 dX9_determinant_72 ?_
  refine lv_iload hx hb dX9_determinant_75 (lv_at hl 1 rfl) ?_
  obtain ⟨z10, h10⟩ := dck_s h9
  clear h9
  refine ld_22 B Z z10 dX9_determinant_77 ?_
  refine lv_aload_n hx hb dX9_determinant_78 rfl (lv_at hl 3 rfl) ?_
  refine g_20_2 B Z kf_RX9_15 dX9_determinant_79 ?_
  refine lv_iload hx hb dX9_determinant_82 (lv_at hl 0 rfl) ?_
  refine lv_iconst (v := (2 : Int32)) hx hb dX9_determinant_84 (by decide) ?_
  refine lv_iadd hx hb dX9_determinant_85 ?_
  obtain ⟨z11, h11⟩ := dck_s h10
  clear h10
  refine ld_22 B Z z11 dX9_determinant_86 ?_
  refine lv_imul hx hb dX9_determinant_87 ?_
  refine lv_aload_n hx hb dX9_determinant_88 rfl (lv_at hl 3 rfl) ?_
  refine g_20_2 B Z kf_RX9_15 dX9_determinant_89 ?_
  refine lv_iload hx hb dX9_determinant_92 (lv_at hl 1 rfl) ?_
  refine lv_iconst (v := (2 : Int32)) hx hb dX9_determinant_94 (by decide) ?_
  refine lv_iadd hx hb dX9_determinant_95 ?_
  obtain ⟨z12, h12⟩ := dck_s h11
  clear h11
  refine ld_22 B Z z12 dX9_determinant_96 ?_
  refine lv_aload_n hx hb dX9_determinant_97 rfl (lv_at hl 3 rfl) ?_
  refine g_20_2 B Z kf_RX9_15 dX9_determinant_98 ?_
  refine lv_iload hx hb dX9_determinant_101 (lv_at hl 0 rfl) ?_
  obtain ⟨z13, h13⟩ := dck_s h12
  clear h12
  refine ld_22 B Z z13 dX9_determinant_103 ?_
  refine lv_imul hx hb dX9_determinant_104 ?_
  refine lv_isub hx hb dX9_determinant_105 ?_
  refine lv_imul hx hb dX9_determinant_106 ?_
  refine lv_isub hx hb dX9_determinant_107 ?_
  refine lv_aload_n hx hb dX9_determinant_108 rfl (lv_at hl 3 rfl) ?_
  refine g_20_2 B Z kf_RX9_15 dX9_determinant_109 ?_
  refine lv_iload hx hb dX9_determinant_112 (lv_at hl 2 rfl) ?_
  refine lv_iconst (v := (2 : Int32)) hx hb dX9_determinant_114 (by decide) ?_
  refine lv_iadd hx hb dX9_determinant_115 ?_
  obtain ⟨z14, h14⟩ := dck_s h13
  clear h13
  refine ld_22 B Z z14 dX9_determinant_116 ?_
  refine lv_aload_n hx hb dX9_determinant_117 rfl (lv_at hl 3 rfl) ?_
  refine g_20_2 B Z kf_RX9_15 dX9_determinant_118 ?_
  refine lv_iload hx hb dX9_determinant_121 (lv_at hl 1 rfl) ?_
  obtain ⟨z15, h15⟩ := dck_s h14
  clear h14
  refine ld_22 B Z z15 dX9_determinant_123 ?_
  refine lv_aload_n hx hb dX9_determinant_124 rfl (lv_at hl 3 rfl) ?_
  refine g_20_2 B Z kf_RX9_15 dX9_determinant_125 ?_
  refine lv_iload hx hb dX9_determinant_128 (lv_at hl 0 rfl) ?_
  refine lv_iconst (v := (1 : Int32)) hx hb dX9_determinant_130 (by decide) ?_
  refine lv_iadd hx hb dX9_determinant_131 ?_
  obtain ⟨z16, h16⟩ := dck_s h15
  clear h15
  refine ld_22 B Z z16 dX9_determinant_132 ?_
  refine lv_imul hx hb dX9_determinant_133 ?_
  refine lv_aload_n hx hb dX9_determinant_134 rfl (lv_at hl 3 rfl) ?_
  refine g_20_2 B Z kf_RX9_15 dX9_determinant_135 ?_
  refine lv_iload hx hb dX9_determinant_138 (lv_at hl 1 rfl) ?_
  refine lv_iconst (v := (1 : Int32)) hx hb dX9_determinant_140 (by decide) ?_
  refine lv_iadd hx hb dX9_determinant_141 ?_
  obtain ⟨z17, h17⟩ := dck_s h16
  clear h16
  refine ld_22 B Z z17 dX9_determinant_142 ?_
  refine lv_aload_n hx hb dX9_determinant_143 rfl (lv_at hl 3 rfl) ?_
  refine g_20_2 B Z kf_RX9_15 dX9_determinant_144 ?_
  refine lv_iload hx hb dX9_determinant_147 (lv_at hl 0 rfl) ?_
  obtain ⟨z18, h18⟩ := dck_s h17
  clear h17
  refine ld_22 B Z z18 dX9_determinant_149 ?_
  refine lv_imul hx hb dX9_determinant_150 ?_
  refine lv_isub hx hb dX9_determinant_151 ?_
  refine lv_imul hx hb dX9_determinant_152 ?_
  refine lv_iadd hx hb dX9_determinant_153 ?_
  exact reI B Z rfl hz (congrArg (Option.map (fun q => (q, σ))) h18) dX9_determinant_154
theorem dX9_isSolvedWith_0 : decode cX9_isSolvedWith 0 = .ok (.aload_n 0, 1) := by decide +kernel
theorem dX9_isSolvedWith_1 : decode cX9_isSolvedWith 1 = .ok (.getfield 25, 3) := by decide +kernel
theorem dX9_isSolvedWith_4 : decode cX9_isSolvedWith 4 = .ok (.istore_n 2, 1) := by decide +kernel
theorem dX9_isSolvedWith_5 : decode cX9_isSolvedWith 5 = .ok (.iconst 0, 1) := by decide +kernel
theorem dX9_isSolvedWith_6 : decode cX9_isSolvedWith 6 = .ok (.istore_n 3, 1) := by decide +kernel
theorem dX9_isSolvedWith_7 : decode cX9_isSolvedWith 7 = .ok (.iload_n 3, 1) := by decide +kernel
theorem dX9_isSolvedWith_8 : decode cX9_isSolvedWith 8 = .ok (.iconst 3, 1) := by decide +kernel
theorem dX9_isSolvedWith_9 : decode cX9_isSolvedWith 9 = .ok (.if_icmp .ge 62, 3) := by decide +kernel
theorem dX9_isSolvedWith_12 : decode cX9_isSolvedWith 12 = .ok (.iload_n 1, 1) := by decide +kernel
theorem dX9_isSolvedWith_13 : decode cX9_isSolvedWith 13 = .ok (.iload_n 3, 1) := by decide +kernel
theorem dX9_isSolvedWith_14 : decode cX9_isSolvedWith 14 = .ok (.invokestatic 29, 3) := by decide +kernel
theorem dX9_isSolvedWith_17 : decode cX9_isSolvedWith 17 = .ok (.ifCond .eq 48, 3) := by decide +kernel
theorem dX9_isSolvedWith_20 : decode cX9_isSolvedWith 20 = .ok (.iload_n 2, 1) := by decide +kernel
theorem dX9_isSolvedWith_21 : decode cX9_isSolvedWith 21 = .ok (.iconst 4, 1) := by decide +kernel
theorem dX9_isSolvedWith_22 : decode cX9_isSolvedWith 22 = .ok (.if_icmp .ge 43, 3) := by decide +kernel
theorem dX9_isSolvedWith_25 : decode cX9_isSolvedWith 25 = .ok (.iconst 0, 1) := by decide +kernel
theorem dX9_isSolvedWith_26 : decode cX9_isSolvedWith 26 = .ok (.istore 4, 2) := by decide +kernel
theorem dX9_isSolvedWith_28 : decode cX9_isSolvedWith 28 = .ok (.iload 4, 2) := by decide +kernel
theorem dX9_isSolvedWith_30 : decode cX9_isSolvedWith 30 = .ok (.iconst 3, 1) := by decide +kernel
theorem dX9_isSolvedWith_31 : decode cX9_isSolvedWith 31 = .ok (.if_icmp .ge 31, 3) := by decide +kernel
theorem dX9_isSolvedWith_34 : decode cX9_isSolvedWith 34 = .ok (.aload_n 0, 1) := by decide +kernel
theorem dX9_isSolvedWith_35 : decode cX9_isSolvedWith 35 = .ok (.getfield 15, 3) := by decide +kernel
theorem dX9_isSolvedWith_38 : decode cX9_isSolvedWith 38 = .ok (.iload_n 2, 1) := by decide +kernel
theorem dX9_isSolvedWith_39 : decode cX9_isSolvedWith 39 = .ok (.iconst 3, 1) := by decide +kernel
theorem dX9_isSolvedWith_40 : decode cX9_isSolvedWith 40 = .ok (.imul, 1) := by decide +kernel
theorem dX9_isSolvedWith_41 : decode cX9_isSolvedWith 41 = .ok (.iload 4, 2) := by decide +kernel
theorem dX9_isSolvedWith_43 : decode cX9_isSolvedWith 43 = .ok (.iadd, 1) := by decide +kernel
theorem dX9_isSolvedWith_44 : decode cX9_isSolvedWith 44 = .ok (.iload 4, 2) := by decide +kernel
theorem dX9_isSolvedWith_46 : decode cX9_isSolvedWith 46 = .ok (.iload_n 3, 1) := by decide +kernel
theorem dX9_isSolvedWith_47 : decode cX9_isSolvedWith 47 = .ok (.if_icmp .ne 7, 3) := by decide +kernel
theorem dX9_isSolvedWith_50 : decode cX9_isSolvedWith 50 = .ok (.iconst 1, 1) := by decide +kernel
theorem dX9_isSolvedWith_51 : decode cX9_isSolvedWith 51 = .ok (.goto 4, 3) := by decide +kernel
theorem dX9_isSolvedWith_54 : decode cX9_isSolvedWith 54 = .ok (.iconst 0, 1) := by decide +kernel
theorem dX9_isSolvedWith_55 : decode cX9_isSolvedWith 55 = .ok (.iastore, 1) := by decide +kernel
theorem dX9_isSolvedWith_56 : decode cX9_isSolvedWith 56 = .ok (.iinc 4 1, 3) := by decide +kernel
theorem dX9_isSolvedWith_59 : decode cX9_isSolvedWith 59 = .ok (.goto (-31), 3) := by decide +kernel
theorem dX9_isSolvedWith_62 : decode cX9_isSolvedWith 62 = .ok (.iinc 2 1, 3) := by decide +kernel
theorem dX9_isSolvedWith_65 : decode cX9_isSolvedWith 65 = .ok (.iinc 3 1, 3) := by decide +kernel
theorem dX9_isSolvedWith_68 : decode cX9_isSolvedWith 68 = .ok (.goto (-61), 3) := by decide +kernel
theorem dX9_isSolvedWith_71 : decode cX9_isSolvedWith 71 = .ok (.iconst 0, 1) := by decide +kernel
theorem dX9_isSolvedWith_72 : decode cX9_isSolvedWith 72 = .ok (.istore_n 3, 1) := by decide +kernel
theorem dX9_isSolvedWith_73 : decode cX9_isSolvedWith 73 = .ok (.iconst 0, 1) := by decide +kernel
theorem dX9_isSolvedWith_74 : decode cX9_isSolvedWith 74 = .ok (.istore 4, 2) := by decide +kernel
theorem dX9_isSolvedWith_76 : decode cX9_isSolvedWith 76 = .ok (.iload 4, 2) := by decide +kernel
theorem dX9_isSolvedWith_78 : decode cX9_isSolvedWith 78 = .ok (.iconst 4, 1) := by decide +kernel
theorem dX9_isSolvedWith_79 : decode cX9_isSolvedWith 79 = .ok (.if_icmp .ge 84, 3) := by decide +kernel
theorem dX9_isSolvedWith_82 : decode cX9_isSolvedWith 82 = .ok (.aload_n 0, 1) := by decide +kernel
theorem dX9_isSolvedWith_83 : decode cX9_isSolvedWith 83 = .ok (.iload 4, 2) := by decide +kernel
theorem dX9_isSolvedWith_85 : decode cX9_isSolvedWith 85 = .ok (.ifCond .ne 7, 3) := by decide +kernel
theorem dX9_isSolvedWith_88 : decode cX9_isSolvedWith 88 = .ok (.iconst 1, 1) := by decide +kernel
theorem dX9_isSolvedWith_89 : decode cX9_isSolvedWith 89 = .ok (.goto 4, 3) := by decide +kernel
theorem dX9_isSolvedWith_92 : decode cX9_isSolvedWith 92 = .ok (.iconst 0, 1) := by decide +kernel
theorem dX9_isSolvedWith_93 : decode cX9_isSolvedWith 93 = .ok (.iload 4, 2) := by decide +kernel
theorem dX9_isSolvedWith_95 : decode cX9_isSolvedWith 95 = .ok (.iconst 1, 1) := by decide +kernel
theorem dX9_isSolvedWith_96 : decode cX9_isSolvedWith 96 = .ok (.if_icmp .gt 7, 3) := by decide +kernel
theorem dX9_isSolvedWith_99 : decode cX9_isSolvedWith 99 = .ok (.iconst 2, 1) := by decide +kernel
theorem dX9_isSolvedWith_100 : decode cX9_isSolvedWith 100 = .ok (.goto 4, 3) := by decide +kernel
theorem dX9_isSolvedWith_103 : decode cX9_isSolvedWith 103 = .ok (.iconst 1, 1) := by decide +kernel
theorem dX9_isSolvedWith_104 : decode cX9_isSolvedWith 104 = .ok (.iload 4, 2) := by decide +kernel
theorem dX9_isSolvedWith_106 : decode cX9_isSolvedWith 106 = .ok (.iconst 2, 1) := by decide +kernel
theorem dX9_isSolvedWith_107 : decode cX9_isSolvedWith 107 = .ok (.if_icmp .gt 7, 3) := by decide +kernel
theorem dX9_isSolvedWith_110 : decode cX9_isSolvedWith 110 = .ok (.iconst 3, 1) := by decide +kernel
theorem dX9_isSolvedWith_111 : decode cX9_isSolvedWith 111 = .ok (.goto 4, 3) := by decide +kernel
theorem dX9_isSolvedWith_114 : decode cX9_isSolvedWith 114 = .ok (.iconst 2, 1) := by decide +kernel
theorem dX9_isSolvedWith_115 : decode cX9_isSolvedWith 115 = .ok (.invokevirtual 55, 3) := by decide +kernel
theorem dX9_isSolvedWith_118 : decode cX9_isSolvedWith 118 = .ok (.istore 5, 2) := by decide +kernel
theorem dX9_isSolvedWith_120 : decode cX9_isSolvedWith 120 = .ok (.aload_n 0, 1) := by decide +kernel
theorem dX9_isSolvedWith_121 : decode cX9_isSolvedWith 121 = .ok (.getfield 18, 3) := by decide +kernel
theorem dX9_isSolvedWith_124 : decode cX9_isSolvedWith 124 = .ok (.iload 4, 2) := by decide +kernel
theorem dX9_isSolvedWith_126 : decode cX9_isSolvedWith 126 = .ok (.iload 4, 2) := by decide +kernel
theorem dX9_isSolvedWith_128 : decode cX9_isSolvedWith 128 = .ok (.iconst 2, 1) := by decide +kernel
theorem dX9_isSolvedWith_129 : decode cX9_isSolvedWith 129 = .ok (.irem, 1) := by decide +kernel
theorem dX9_isSolvedWith_130 : decode cX9_isSolvedWith 130 = .ok (.ifCond .ne 8, 3) := by decide +kernel
theorem dX9_isSolvedWith_133 : decode cX9_isSolvedWith 133 = .ok (.iload 5, 2) := by decide +kernel
theorem dX9_isSolvedWith_135 : decode cX9_isSolvedWith 135 = .ok (.goto 6, 3) := by decide +kernel
theorem dX9_isSolvedWith_138 : decode cX9_isSolvedWith 138 = .ok (.iload 5, 2) := by decide +kernel
theorem dX9_isSolvedWith_140 : decode cX9_isSolvedWith 140 = .ok (.ineg, 1) := by decide +kernel
theorem dX9_isSolvedWith_141 : decode cX9_isSolvedWith 141 = .ok (.iastore, 1) := by decide +kernel
theorem dX9_isSolvedWith_142 : decode cX9_isSolvedWith 142 = .ok (.iload_n 3, 1) := by decide +kernel
theorem dX9_isSolvedWith_143 : decode cX9_isSolvedWith 143 = .ok (.ifCond .ne 8, 3) := by decide +kernel
theorem dX9_isSolvedWith_146 : decode cX9_isSolvedWith 146 = .ok (.iload 5, 2) := by decide +kernel
theorem dX9_isSolvedWith_148 : decode cX9_isSolvedWith 148 = .ok (.ifCond .eq 7, 3) := by decide +kernel
theorem dX9_isSolvedWith_151 : decode cX9_isSolvedWith 151 = .ok (.iconst 1, 1) := by decide +kernel
theorem dX9_isSolvedWith_152 : decode cX9_isSolvedWith 152 = .ok (.goto 4, 3) := by decide +kernel
theorem dX9_isSolvedWith_155 : decode cX9_isSolvedWith 155 = .ok (.iconst 0, 1) := by decide +kernel
theorem dX9_isSolvedWith_156 : decode cX9_isSolvedWith 156 = .ok (.istore_n 3, 1) := by decide +kernel
theorem dX9_isSolvedWith_157 : decode cX9_isSolvedWith 157 = .ok (.iinc 4 1, 3) := by decide +kernel
theorem dX9_isSolvedWith_160 : decode cX9_isSolvedWith 160 = .ok (.goto (-84), 3) := by decide +kernel
theorem dX9_isSolvedWith_163 : decode cX9_isSolvedWith 163 = .ok (.iload_n 3, 1) := by decide +kernel
theorem dX9_isSolvedWith_164 : decode cX9_isSolvedWith 164 = .ok (.ireturn, 1) := by decide +kernel
def rm_fWt_isSolvedWith : Room := { frames := 2, cells := 0, slots := 0, locals := 86 }
set_option maxHeartbeats 4000000 in
set_option maxRecDepth 100000 in
theorem c_fWt_isSolvedWith (l : Launch) (X : eX) (sz : Nat) (a1 : Int32) (σ : sT) (rz : Int32) (σz : sT) (h0 : fWt_isSolvedWith a1 σ = some (rz, σz)) : ctI l yX9_isSolvedWith cX9_isSolvedWith 6 (some .boolean) rm_fWt_isSolvedWith [.ref (X.2.1 20), .int a1] (wC X) (tC X) (aC X) X sz σ rz σz := by
  refine ct_of (by decide +kernel) (Nat.le_of_ble_eq_true rfl) ?_
  intro p e s m args below meth c ls hz B hl Z
  have B : Bd p s m args meth c RX9 cX9_isSolvedWith 6 (some .boolean) := B
  have hl : lv_has ls 6 [(0, .ref (X.2.1 20)), (1, .int a1)] := hl
  have hx := B.1
  have hb := B.2.1
  unfold fWt_isSolvedWith at h0
  refine lv_aload_n hx hb dX9_isSolvedWith_0 rfl (lv_at hl 0 rfl) ?_
  refine g_20_4 B Z kf_RX9_25 dX9_isSolvedWith_1 ?_
  refine lv_topi (fun x1 ex1 => ?_)
  have h1 := dlt_e ex1 h0
  clear ex1 h0
  refine lv_istore_n (lv' := [(2, .int x1), (0, .ref (X.2.1 20)), (1, .int a1)]) hx hb dX9_isSolvedWith_4 rfl hl (by decide) rfl (fun ls hl => ?_)
  refine lv_iconst (v := (0 : Int32)) hx hb dX9_isSolvedWith_5 (by decide) ?_
  refine lv_istore_n (lv' := [(3, .int (0 : Int32)), (2, .int x1), (0, .ref (X.2.1 20)), (1, .int a1)]) hx hb dX9_isSolvedWith_6 rfl hl (by decide) rfl (fun ls hl => ?_)
  obtain ⟨K6, eK6, h30⟩ := dlt_s h1
  clear h1
  have kK6 : ∀ (σ5 : sT) (H : Heap) (locs : List Loc) (ls : Array Slot), Wd (wC X) (tC X) (aC X) X s σ5 H locs → lv_has ls 6 [(0, .ref (X.2.1 20))] → K6 σ5 = some (rz, σz) → W p l e rm_fWt_isSolvedWith s m args below meth c H locs 0 0 (MQ below (va_Qi (fun a u => a = rz ∧ u = σz) (poW (wC X) (tC X) (aC X) X sz) (aA (aC X) sz)) args s 0 0 (aA (aC X) sz)) (F0 m 71 ls []) := by
    intro σ5 H locs ls Z hl h2
    rw [eK6] at h2
    refine lv_iconst (v := (0 : Int32)) hx hb dX9_isSolvedWith_71 (by decide) ?_
    refine lv_istore_n (lv' := [(3, .int (0 : Int32)), (0, .ref (X.2.1 20))]) hx hb dX9_isSolvedWith_72 rfl hl (by decide) rfl (fun ls hl => ?_)
    refine lv_iconst (v := (0 : Int32)) hx hb dX9_isSolvedWith_73 (by decide) ?_
    refine lv_istore (lv' := [(4, .int (0 : Int32)), (3, .int (0 : Int32)), (0, .ref (X.2.1 20))]) hx hb dX9_isSolvedWith_74 hl (by decide) rfl (fun ls hl => ?_)
    have lL76 : ∀ (n : Nat), ∀ (x7 : Int32) (x8 : Int32) (σ9 : sT) (H : Heap) (locs : List Loc) (ls : Array Slot), Wd (wC X) (tC X) (aC X) X s σ9 H locs → lv_has ls 6 [(0, .ref (X.2.1 20)), (3, .int x7), (4, .int x8)] → fWt_isSolvedWith_L76 n x7 x8 σ9 = some (rz, σz) → W p l e rm_fWt_isSolvedWith s m args below meth c H locs 0 0 (MQ below (va_Qi (fun a u => a = rz ∧ u = σz) (poW (wC X) (tC X) (aC X) X sz) (aA (aC X) sz)) args s 0 0 (aA (aC X) sz)) (F0 m 76 ls []) := by
      intro n
      induction n with
      | zero =>
        intro x7 x8 σ9 H locs ls Z hl h
        exact nomatch (show (none : Option (Int32 × sT)) = some _ from h)
      | succ n10 ih43 =>
        intro x7 x8 σ9 H locs ls Z hl h3
        unfold fWt_isSolvedWith_L76 at h3
        refine lv_iload hx hb dX9_isSolvedWith_76 (lv_at hl 2 rfl) ?_
        refine lv_iconst (v := (4 : Int32)) hx hb dX9_isSolvedWith_78 (by decide) ?_
        refine lv_icmp_ge (tgt := 163) hx hb dX9_isSolvedWith_79 (by decide) (fun c11 => ?_) (fun c11 => ?_)
        · have h4 := dit h3 c11
          clear h3
          refine lv_iload_n hx hb dX9_isSolvedWith_163 rfl (lv_at hl 1 rfl) ?_
          obtain ⟨z12, h5⟩ := dck_s h4
          clear h4
          exact reI B Z (okZ_n z12) hz h5 dX9_isSolvedWith_164
        · have h6 := dif h3 c11
          clear h3
          refine lv_aload_n hx hb dX9_isSolvedWith_82 rfl (lv_at hl 0 rfl) ?_
          refine lv_iload hx hb dX9_isSolvedWith_83 (lv_at hl 2 rfl) ?_
          obtain ⟨J14, eJ14, h27⟩ := dlt_s h6
          clear h6
          have kJ14 : ∀ (x13 : Int32) (H : Heap) (locs : List Loc) (ls : Array Slot), Wd (wC X) (tC X) (aC X) X s σ9 H locs → lv_has ls 6 [(0, .ref (X.2.1 20)), (3, .int x7), (4, .int x8)] → J14 x13 = some (rz, σz) → W p l e rm_fWt_isSolvedWith s m args below meth c H locs 0 0 (MQ below (va_Qi (fun a u => a = rz ∧ u = σz) (poW (wC X) (tC X) (aC X) X sz) (aA (aC X) sz)) args s 0 0 (aA (aC X) sz)) (F0 m 93 ls [.int x13, .ref (X.2.1 20)]) := by
            intro x13 H locs ls Z hl h7
            rw [eJ14] at h7
            refine lv_iload hx hb dX9_isSolvedWith_93 (lv_at hl 2 rfl) ?_
            refine lv_iconst (v := (1 : Int32)) hx hb dX9_isSolvedWith_95 (by decide) ?_
            obtain ⟨J17, eJ17, h24⟩ := dlt_s h7
            clear h7
            have kJ17 : ∀ (x15 : Int32) (x16 : Int32) (H : Heap) (locs : List Loc) (ls : Array Slot), Wd (wC X) (tC X) (aC X) X s σ9 H locs → lv_has ls 6 [(0, .ref (X.2.1 20)), (3, .int x7), (4, .int x8)] → J17 x15 x16 = some (rz, σz) → W p l e rm_fWt_isSolvedWith s m args below meth c H locs 0 0 (MQ below (va_Qi (fun a u => a = rz ∧ u = σz) (poW (wC X) (tC X) (aC X) X sz) (aA (aC X) sz)) args s 0 0 (aA (aC X) sz)) (F0 m 104 ls [.int x16, .int x15, .ref (X.2.1 20)]) := by
              intro x15 x16 H locs ls Z hl h8
              rw [eJ17] at h8
              refine lv_iload hx hb dX9_isSolvedWith_104 (lv_at hl 2 rfl) ?_
              refine lv_iconst (v := (2 : Int32)) hx hb dX9_isSolvedWith_106 (by decide) ?_
              obtain ⟨J21, eJ21, h21⟩ := dlt_s h8
              clear h8
              have kJ21 : ∀ (x18 : Int32) (x19 : Int32) (x20 : Int32) (H : Heap) (locs : List Loc) (ls : Array Slot), Wd (wC X) (tC X) (aC X) X s σ9 H locs → lv_has ls 6 [(0, .ref (X.2.1 20)), (3, .int x7), (4, .int x8)] → J21 x18 x19 x20 = some (rz, σz) → W p l e rm_fWt_isSolvedWith s m args below meth c H locs 0 0 (MQ below (va_Qi (fun a u => a = rz ∧ u = σz) (poW (wC X) (tC X) (aC X) X sz) (aA (aC X) sz)) args s 0 0 (aA (aC X) sz)) (F0 m 115 ls [.int x20, .int x19, .int x18, .ref (X.2.1 20)]) := by
                intro x18 x19 x20 H locs ls Z hl h9
                rw [eJ21] at h9
                obtain ⟨r23, hc21, h10⟩ := db1_s h9
                clear h9
                refine cV_I [.int x18, .int x19, .int x20] [] B mx_yX9_determinant (c_fWt_determinant l X _ x18 x19 x20 σ9 r23 hc21) kl_RX9_55 mi_yX9_determinant (rv_20 _ _) hcl_9 Z hl rfl rfl ⟨Nat.le_of_ble_eq_true rfl, Nat.le_of_ble_eq_true rfl⟩ rfl rfl (Nat.le_of_ble_eq_true rfl) dX9_isSolvedWith_115 (fun H locs Z => ?_)
                clear hc21
                refine lv_istore (lv' := [(5, .int r23), (0, .ref (X.2.1 20)), (3, .int x7), (4, .int x8)]) hx hb dX9_isSolvedWith_118 hl (by decide) rfl (fun ls hl => ?_)
                refine lv_aload_n hx hb dX9_isSolvedWith_120 rfl (lv_at hl 1 rfl) ?_
                refine g_20_3 B Z kf_RX9_18 dX9_isSolvedWith_121 ?_
                refine lv_iload hx hb dX9_isSolvedWith_124 (lv_at hl 3 rfl) ?_
                refine lv_iload hx hb dX9_isSolvedWith_126 (lv_at hl 3 rfl) ?_
                refine lv_iconst (v := (2 : Int32)) hx hb dX9_isSolvedWith_128 (by decide) ?_
                refine lv_irem hx hb dX9_isSolvedWith_129 (by decide) ?_
                obtain ⟨J26, eJ26, h18⟩ := dlt_s h10
                clear h10
                have kJ26 : ∀ (x24 : Int32) (x25 : Int32) (H : Heap) (locs : List Loc) (ls : Array Slot), Wd (wC X) (tC X) (aC X) X s σ9 H locs → lv_has ls 6 [(0, .ref (X.2.1 20)), (3, .int x7), (4, .int x8), (5, .int r23)] → J26 x24 x25 = some (rz, σz) → W p l e rm_fWt_isSolvedWith s m args below meth c H locs 0 0 (MQ below (va_Qi (fun a u => a = rz ∧ u = σz) (poW (wC X) (tC X) (aC X) X sz) (aA (aC X) sz)) args s 0 0 (aA (aC X) sz)) (F0 m 141 ls [.int x25, .int x24, .ref (X.2.1 23)]) := by
                  intro x24 x25 H locs ls Z hl h11
                  rw [eJ26] at h11
                  obtain ⟨z27, h12⟩ := dck_s h11
                  clear h11
                  refine st_23 B Z z27 dX9_isSolvedWith_141 (fun H locs Z => ?_)
                  obtain ⟨σ28, eσ28, h13⟩ := dlt_s h12
                  clear h12
                  replace Z := Wd.eq eσ28 Z
                  clear eσ28
                  refine lv_iload_n hx hb dX9_isSolvedWith_142 rfl (lv_at hl 1 rfl) ?_
                  refine lv_if_ne (tgt := 151) hx hb dX9_isSolvedWith_143 (by decide) (fun c29 => ?_) (fun c29 => ?_)
                  · have h14 := dif h13 c29
                    clear h13
                    refine lv_iconst (v := (1 : Int32)) hx hb dX9_isSolvedWith_151 (by decide) ?_
                    refine lv_goto (tgt := 156) hx hb dX9_isSolvedWith_152 (by decide) ?_
                    refine lv_istore_n (lv' := [(3, .int (1 : Int32)), (0, .ref (X.2.1 20)), (4, .int x8), (5, .int r23)]) hx hb dX9_isSolvedWith_156 rfl hl (by decide) rfl (fun ls hl => ?_)
                    refine lv_iinc (v := x8 + (1 : Int32)) (lv' := [(4, .int (x8 + (1 : Int32))), (3, .int (1 : Int32)), (0, .ref (X.2.1 20)), (5, .int r23)]) hx hb dX9_isSolvedWith_157 hl (k := 2) rfl (by rfl) (by decide) rfl (fun ls hl => ?_)
                    refine lv_goto (tgt := 76) hx hb dX9_isSolvedWith_160 (by decide) ?_
                    exact ih43 (1 : Int32) (x8 + (1 : Int32)) σ28 _ _ _ Z (lv_sub hl [2, 1, 0] rfl) h14
                  · have h15 := dit h13 c29
                    clear h13
                    refine lv_iload hx hb dX9_isSolvedWith_146 (lv_at hl 3 rfl) ?_
                    refine lv_if_eq (tgt := 155) hx hb dX9_isSolvedWith_148 (by decide) (fun c30 => ?_) (fun c30 => ?_)
                    · have h16 := dit h15 c30
                      clear h15
                      refine lv_iconst (v := (0 : Int32)) hx hb dX9_isSolvedWith_155 (by decide) ?_
                      refine lv_istore_n (lv' := [(3, .int (0 : Int32)), (0, .ref (X.2.1 20)), (4, .int x8), (5, .int r23)]) hx hb dX9_isSolvedWith_156 rfl hl (by decide) rfl (fun ls hl => ?_)
                      refine lv_iinc (v := x8 + (1 : Int32)) (lv' := [(4, .int (x8 + (1 : Int32))), (3, .int (0 : Int32)), (0, .ref (X.2.1 20)), (5, .int r23)]) hx hb dX9_isSolvedWith_157 hl (k := 2) rfl (by rfl) (by decide) rfl (fun ls hl => ?_)
                      refine lv_goto (tgt := 76) hx hb dX9_isSolvedWith_160 (by decide) ?_
                      exact ih43 (0 : Int32) (x8 + (1 : Int32)) σ28 _ _ _ Z (lv_sub hl [2, 1, 0] rfl) h16
                    · have h17 := dif h15 c30
                      clear h15
                      refine lv_iconst (v := (1 : Int32)) hx hb dX9_isSolvedWith_151 (by decide) ?_
                      refine lv_goto (tgt := 156) hx hb dX9_isSolvedWith_152 (by decide) ?_
                      refine lv_istore_n (lv' := [(3, .int (1 : Int32)), (0, .ref (X.2.1 20)), (4, .int x8), (5, .int r23)]) hx hb dX9_isSolvedWith_156 rfl hl (by decide) rfl (fun ls hl => ?_)
                      refine lv_iinc (v := x8 + (1 : Int32)) (lv' := [(4, .int (x8 + (1 : Int32))), (3, .int (1 : Int32)), (0, .ref (X.2.1 20)), (5, .int r23)]) hx hb dX9_isSolvedWith_157 hl (k := 2) rfl (by rfl) (by decide) rfl (fun ls hl => ?_)
                      refine lv_goto (tgt := 76) hx hb dX9_isSolvedWith_160 (by decide) ?_
                      exact ih43 (1 : Int32) (x8 + (1 : Int32)) σ28 _ _ _ Z (lv_sub hl [2, 1, 0] rfl) h17
                clear eJ26
                refine lv_if_ne (tgt := 138) hx hb dX9_isSolvedWith_130 (by decide) (fun c31 => ?_) (fun c31 => ?_)
                · have h19 := dif h18 c31
                  clear h18
                  refine lv_iload hx hb dX9_isSolvedWith_138 (lv_at hl 0 rfl) ?_
                  refine lv_ineg hx hb dX9_isSolvedWith_140 ?_
                  exact kJ26 x8 (-r23) _ _ _ Z (lv_sub hl [1, 2, 3, 0] rfl) h19
                · have h20 := dit h18 c31
                  clear h18
                  refine lv_iload hx hb dX9_isSolvedWith_133 (lv_at hl 0 rfl) ?_
                  refine lv_goto (tgt := 141) hx hb dX9_isSolvedWith_135 (by decide) ?_
                  exact kJ26 x8 r23 _ _ _ Z (lv_sub hl [1, 2, 3, 0] rfl) h20
              clear eJ21
              refine lv_icmp_gt (tgt := 114) hx hb dX9_isSolvedWith_107 (by decide) (fun c32 => ?_) (fun c32 => ?_)
              · have h22 := dit h21 c32
                clear h21
                refine lv_iconst (v := (2 : Int32)) hx hb dX9_isSolvedWith_114 (by decide) ?_
                exact kJ21 x15 x16 (2 : Int32) _ _ _ Z (lv_sub hl [0, 1, 2] rfl) h22
              · have h23 := dif h21 c32
                clear h21
                refine lv_iconst (v := (3 : Int32)) hx hb dX9_isSolvedWith_110 (by decide) ?_
                refine lv_goto (tgt := 115) hx hb dX9_isSolvedWith_111 (by decide) ?_
                exact kJ21 x15 x16 (3 : Int32) _ _ _ Z (lv_sub hl [0, 1, 2] rfl) h23
            clear eJ17
            refine lv_icmp_gt (tgt := 103) hx hb dX9_isSolvedWith_96 (by decide) (fun c33 => ?_) (fun c33 => ?_)
            · have h25 := dit h24 c33
              clear h24
              refine lv_iconst (v := (1 : Int32)) hx hb dX9_isSolvedWith_103 (by decide) ?_
              exact kJ17 x13 (1 : Int32) _ _ _ Z (lv_sub hl [0, 1, 2] rfl) h25
            · have h26 := dif h24 c33
              clear h24
              refine lv_iconst (v := (2 : Int32)) hx hb dX9_isSolvedWith_99 (by decide) ?_
              refine lv_goto (tgt := 104) hx hb dX9_isSolvedWith_100 (by decide) ?_
              exact kJ17 x13 (2 : Int32) _ _ _ Z (lv_sub hl [0, 1, 2] rfl) h26
          clear eJ14
          refine lv_if_ne (tgt := 92) hx hb dX9_isSolvedWith_85 (by decide) (fun c34 => ?_) (fun c34 => ?_)
          · have h28 := dif h27 c34
            clear h27
            refine lv_iconst (v := (0 : Int32)) hx hb dX9_isSolvedWith_92 (by decide) ?_
            exact kJ14 (0 : Int32) _ _ _ Z (lv_sub hl [0, 1, 2] rfl) h28
          · have h29 := dit h27 c34
            clear h27
            refine lv_iconst (v := (1 : Int32)) hx hb dX9_isSolvedWith_88 (by decide) ?_
            refine lv_goto (tgt := 93) hx hb dX9_isSolvedWith_89 (by decide) ?_
            exact kJ14 (1 : Int32) _ _ _ Z (lv_sub hl [0, 1, 2] rfl) h29
    exact lL76 FU (0 : Int32) (0 : Int32) σ5 _ _ _ Z (lv_sub hl [2, 1, 0] rfl) h2
  clear eK6
  have lL7 : ∀ (n : Nat), ∀ (x2 : Int32) (x3 : Int32) (σ4 : sT) (H : Heap) (locs : List Loc) (ls : Array Slot), Wd (wC X) (tC X) (aC X) X s σ4 H locs → lv_has ls 6 [(0, .ref (X.2.1 20)), (1, .int a1), (2, .int x2), (3, .int x3)] → fWt_isSolvedWith_L7 a1 K6 n x2 x3 σ4 = some (rz, σz) → W p l e rm_fWt_isSolvedWith s m args below meth c H locs 0 0 (MQ below (va_Qi (fun a u => a = rz ∧ u = σz) (poW (wC X) (tC X) (aC X) X sz) (aA (aC X) sz)) args s 0 0 (aA (aC X) sz)) (F0 m 7 ls []) := by
    intro n
    induction n with
    | zero =>
      intro x2 x3 σ4 H locs ls Z hl h
      exact nomatch (show (none : Option (Int32 × sT)) = some _ from h)
    | succ n35 ih5 =>
      intro x2 x3 σ4 H locs ls Z hl h31
      unfold fWt_isSolvedWith_L7 at h31
      refine lv_iload_n hx hb dX9_isSolvedWith_7 rfl (lv_at hl 3 rfl) ?_
      refine lv_iconst (v := (3 : Int32)) hx hb dX9_isSolvedWith_8 (by decide) ?_
      refine lv_icmp_ge (tgt := 71) hx hb dX9_isSolvedWith_9 (by decide) (fun c36 => ?_) (fun c36 => ?_)
      · have h32 := dit h31 c36
        clear h31
        exact kK6 σ4 _ _ _ Z (lv_sub hl [0] rfl) h32
      · have h33 := dif h31 c36
        clear h31
        refine lv_iload_n hx hb dX9_isSolvedWith_12 rfl (lv_at hl 1 rfl) ?_
        refine lv_iload_n hx hb dX9_isSolvedWith_13 rfl (lv_at hl 3 rfl) ?_
        obtain ⟨r38, hc36, h34⟩ := db1_s h33
        clear h33
        refine cSN_I [.int a1, .int x3] [] B mx_yX11_isIn (c_fRM_isIn l X _ a1 x3 σ4 r38 hc36) kx_RX9_29 ks_yX11_isIn Z hl rfl rfl ⟨Nat.le_of_ble_eq_true rfl, Nat.le_of_ble_eq_true rfl⟩ rfl rfl (Nat.le_of_ble_eq_true rfl) dX9_isSolvedWith_14 (fun H locs Z => ?_)
        clear hc36
        refine lv_if_eq (tgt := 65) hx hb dX9_isSolvedWith_17 (by decide) (fun c39 => ?_) (fun c39 => ?_)
        · have h35 := dit h34 c39
          clear h34
          refine lv_iinc (v := x3 + (1 : Int32)) (lv' := [(3, .int (x3 + (1 : Int32))), (0, .ref (X.2.1 20)), (1, .int a1), (2, .int x2)]) hx hb dX9_isSolvedWith_65 hl (k := 3) rfl (by rfl) (by decide) rfl (fun ls hl => ?_)
          refine lv_goto (tgt := 7) hx hb dX9_isSolvedWith_68 (by decide) ?_
          exact ih5 x2 (x3 + (1 : Int32)) σ4 _ _ _ Z (lv_sub hl [1, 2, 3, 0] rfl) h35
        · have h36 := dif h34 c39
          clear h34
          refine lv_iload_n hx hb dX9_isSolvedWith_20 rfl (lv_at hl 2 rfl) ?_
          refine lv_iconst (v := (4 : Int32)) hx hb dX9_isSolvedWith_21 (by decide) ?_
          refine lv_icmp_ge (tgt := 65) hx hb dX9_isSolvedWith_22 (by decide) (fun c40 => ?_) (fun c40 => ?_)
          · have h37 := dit h36 c40
            clear h36
            refine lv_iinc (v := x3 + (1 : Int32)) (lv' := [(3, .int (x3 + (1 : Int32))), (0, .ref (X.2.1 20)), (1, .int a1), (2, .int x2)]) hx hb dX9_isSolvedWith_65 hl (k := 3) rfl (by rfl) (by decide) rfl (fun ls hl => ?_)
            refine lv_goto (tgt := 7) hx hb dX9_isSolvedWith_68 (by decide) ?_
            exact ih5 x2 (x3 + (1 : Int32)) σ4 _ _ _ Z (lv_sub hl [1, 2, 3, 0] rfl) h37
          · have h38 := dif h36 c40
            clear h36
            refine lv_iconst (v := (0 : Int32)) hx hb dX9_isSolvedWith_25 (by decide) ?_
            refine lv_istore (lv' := [(4, .int (0 : Int32)), (0, .ref (X.2.1 20)), (1, .int a1), (2, .int x2), (3, .int x3)]) hx hb dX9_isSolvedWith_26 hl (by decide) rfl (fun ls hl => ?_)
            obtain ⟨K44, eK44, h40⟩ := dlt_s h38
            clear h38
            have kK44 : ∀ (σ43 : sT) (H : Heap) (locs : List Loc) (ls : Array Slot), Wd (wC X) (tC X) (aC X) X s σ43 H locs → lv_has ls 6 [(0, .ref (X.2.1 20)), (1, .int a1), (2, .int x2), (3, .int x3)] → K44 σ43 = some (rz, σz) → W p l e rm_fWt_isSolvedWith s m args below meth c H locs 0 0 (MQ below (va_Qi (fun a u => a = rz ∧ u = σz) (poW (wC X) (tC X) (aC X) X sz) (aA (aC X) sz)) args s 0 0 (aA (aC X) sz)) (F0 m 62 ls []) := by
              intro σ43 H locs ls Z hl h39
              rw [eK44] at h39
              refine lv_iinc (v := x2 + (1 : Int32)) (lv' := [(2, .int (x2 + (1 : Int32))), (0, .ref (X.2.1 20)), (1, .int a1), (3, .int x3)]) hx hb dX9_isSolvedWith_62 hl (k := 2) rfl (by rfl) (by decide) rfl (fun ls hl => ?_)
              refine lv_iinc (v := x3 + (1 : Int32)) (lv' := [(3, .int (x3 + (1 : Int32))), (2, .int (x2 + (1 : Int32))), (0, .ref (X.2.1 20)), (1, .int a1)]) hx hb dX9_isSolvedWith_65 hl (k := 3) rfl (by rfl) (by decide) rfl (fun ls hl => ?_)
              refine lv_goto (tgt := 7) hx hb dX9_isSolvedWith_68 (by decide) ?_
              exact ih5 (x2 + (1 : Int32)) (x3 + (1 : Int32)) σ43 _ _ _ Z (lv_sub hl [2, 3, 1, 0] rfl) h39
            clear eK44
            have lL28 : ∀ (n : Nat), ∀ (x41 : Int32) (σ42 : sT) (H : Heap) (locs : List Loc) (ls : Array Slot), Wd (wC X) (tC X) (aC X) X s σ42 H locs → lv_has ls 6 [(0, .ref (X.2.1 20)), (1, .int a1), (2, .int x2), (3, .int x3), (4, .int x41)] → fWt_isSolvedWith_L28 x2 x3 K44 n x41 σ42 = some (rz, σz) → W p l e rm_fWt_isSolvedWith s m args below meth c H locs 0 0 (MQ below (va_Qi (fun a u => a = rz ∧ u = σz) (poW (wC X) (tC X) (aC X) X sz) (aA (aC X) sz)) args s 0 0 (aA (aC X) sz)) (F0 m 28 ls []) := by
              intro n
              induction n with
              | zero =>
                intro x41 σ42 H locs ls Z hl h
                exact nomatch (show (none : Option (Int32 × sT)) = some _ from h)
              | succ n45 ih17 =>
                intro x41 σ42 H locs ls Z hl h41
                unfold fWt_isSolvedWith_L28 at h41
                refine lv_iload hx hb dX9_isSolvedWith_28 (lv_at hl 4 rfl) ?_
                refine lv_iconst (v := (3 : Int32)) hx hb dX9_isSolvedWith_30 (by decide) ?_
                refine lv_icmp_ge (tgt := 62) hx hb dX9_isSolvedWith_31 (by decide) (fun c46 => ?_) (fun c46 => ?_)
                · have h42 := dit h41 c46
                  clear h41
                  exact kK44 σ42 _ _ _ Z (lv_sub hl [0, 1, 2, 3] rfl) h42
                · have h43 := dif h41 c46
                  clear h41
                  refine lv_aload_n hx hb dX9_isSolvedWith_34 rfl (lv_at hl 0 rfl) ?_
                  refine g_20_2 B Z kf_RX9_15 dX9_isSolvedWith_35 ?_
                  refine lv_iload_n hx hb dX9_isSolvedWith_38 rfl (lv_at hl 2 rfl) ?_
                  refine lv_iconst (v := (3 : Int32)) hx hb dX9_isSolvedWith_39 (by decide) ?_
                  refine lv_imul hx hb dX9_isSolvedWith_40 ?_
                  refine lv_iload hx hb dX9_isSolvedWith_41 (lv_at hl 4 rfl) ?_
                  refine lv_iadd hx hb dX9_isSolvedWith_43 ?_
                  refine lv_iload hx hb dX9_isSolvedWith_44 (lv_at hl 4 rfl) ?_
                  refine lv_iload_n hx hb dX9_isSolvedWith_46 rfl (lv_at hl 3 rfl) ?_
                  obtain ⟨J49, eJ49, h47⟩ := dlt_s h43
                  clear h43
                  have kJ49 : ∀ (x47 : Int32) (x48 : Int32) (H : Heap) (locs : List Loc) (ls : Array Slot), Wd (wC X) (tC X) (aC X) X s σ42 H locs → lv_has ls 6 [(0, .ref (X.2.1 20)), (1, .int a1), (2, .int x2), (3, .int x3), (4, .int x41)] → J49 x47 x48 = some (rz, σz) → W p l e rm_fWt_isSolvedWith s m args below meth c H locs 0 0 (MQ below (va_Qi (fun a u => a = rz ∧ u = σz) (poW (wC X) (tC X) (aC X) X sz) (aA (aC X) sz)) args s 0 0 (aA (aC X) sz)) (F0 m 55 ls [.int x48, .int x47, .ref (X.2.1 22)]) := by
                    intro x47 x48 H locs ls Z hl h44
                    rw [eJ49] at h44
                    obtain ⟨z50, h45⟩ := dck_s h44
                    clear h44
                    refine st_22 B Z z50 dX9_isSolvedWith_55 (fun H locs Z => ?_)
                    obtain ⟨σ51, eσ51, h46⟩ := dlt_s h45
                    clear h45
                    replace Z := Wd.eq eσ51 Z
                    clear eσ51
                    refine lv_iinc (v := x41 + (1 : Int32)) (lv' := [(4, .int (x41 + (1 : Int32))), (0, .ref (X.2.1 20)), (1, .int a1), (2, .int x2), (3, .int x3)]) hx hb dX9_isSolvedWith_56 hl (k := 4) rfl (by rfl) (by decide) rfl (fun ls hl => ?_)
                    refine lv_goto (tgt := 28) hx hb dX9_isSolvedWith_59 (by decide) ?_
                    exact ih17 (x41 + (1 : Int32)) σ51 _ _ _ Z (lv_sub hl [1, 2, 3, 4, 0] rfl) h46
                  clear eJ49
                  refine lv_icmp_ne (tgt := 54) hx hb dX9_isSolvedWith_47 (by decide) (fun c52 => ?_) (fun c52 => ?_)
                  · have h48 := dif h47 c52
                    clear h47
                    refine lv_iconst (v := (0 : Int32)) hx hb dX9_isSolvedWith_54 (by decide) ?_
                    exact kJ49 ((x2 * (3 : Int32)) + x41) (0 : Int32) _ _ _ Z (lv_sub hl [0, 1, 2, 3, 4] rfl) h48
                  · have h49 := dit h47 c52
                    clear h47
                    refine lv_iconst (v := (1 : Int32)) hx hb dX9_isSolvedWith_50 (by decide) ?_
                    refine lv_goto (tgt := 55) hx hb dX9_isSolvedWith_51 (by decide) ?_
                    exact kJ49 ((x2 * (3 : Int32)) + x41) (1 : Int32) _ _ _ Z (lv_sub hl [0, 1, 2, 3, 4] rfl) h49
            exact lL28 FU (0 : Int32) σ4 _ _ _ Z (lv_sub hl [1, 2, 3, 4, 0] rfl) h40
  exact lL7 FU x1 (0 : Int32) σ _ _ _ Z (lv_sub hl [2, 3, 1, 0] rfl) h30
theorem dX9_find_0 : decode cX9_find 0 = .ok (.aload_n 0, 1) := by decide +kernel
theorem dX9_find_1 : decode cX9_find 1 = .ok (.iconst 0, 1) := by decide +kernel
theorem dX9_find_2 : decode cX9_find 2 = .ok (.putfield 25, 3) := by decide +kernel
theorem dX9_find_5 : decode cX9_find 5 = .ok (.iconst 0, 1) := by decide +kernel
theorem dX9_find_6 : decode cX9_find 6 = .ok (.istore_n 2, 1) := by decide +kernel
theorem dX9_find_7 : decode cX9_find 7 = .ok (.iload_n 2, 1) := by decide +kernel
theorem dX9_find_8 : decode cX9_find 8 = .ok (.bipush 12, 2) := by decide +kernel
theorem dX9_find_10 : decode cX9_find 10 = .ok (.if_icmp .ge 80, 3) := by decide +kernel
theorem dX9_find_13 : decode cX9_find 13 = .ok (.iload_n 1, 1) := by decide +kernel
theorem dX9_find_14 : decode cX9_find 14 = .ok (.iload_n 2, 1) := by decide +kernel
theorem dX9_find_15 : decode cX9_find 15 = .ok (.invokestatic 29, 3) := by decide +kernel
theorem dX9_find_18 : decode cX9_find 18 = .ok (.ifCond .eq 66, 3) := by decide +kernel
theorem dX9_find_21 : decode cX9_find 21 = .ok (.aload_n 0, 1) := by decide +kernel
theorem dX9_find_22 : decode cX9_find 22 = .ok (.getfield 25, 3) := by decide +kernel
theorem dX9_find_25 : decode cX9_find 25 = .ok (.iconst 4, 1) := by decide +kernel
theorem dX9_find_26 : decode cX9_find 26 = .ok (.if_icmp .ge 58, 3) := by decide +kernel
theorem dX9_find_29 : decode cX9_find 29 = .ok (.aload_n 0, 1) := by decide +kernel
theorem dX9_find_30 : decode cX9_find 30 = .ok (.getfield 11, 3) := by decide +kernel
theorem dX9_find_33 : decode cX9_find 33 = .ok (.aload_n 0, 1) := by decide +kernel
theorem dX9_find_34 : decode cX9_find 34 = .ok (.getfield 25, 3) := by decide +kernel
theorem dX9_find_37 : decode cX9_find 37 = .ok (.iload_n 2, 1) := by decide +kernel
theorem dX9_find_38 : decode cX9_find 38 = .ok (.iastore, 1) := by decide +kernel
theorem dX9_find_39 : decode cX9_find 39 = .ok (.iconst 0, 1) := by decide +kernel
theorem dX9_find_40 : decode cX9_find 40 = .ok (.istore_n 3, 1) := by decide +kernel
theorem dX9_find_41 : decode cX9_find 41 = .ok (.iload_n 3, 1) := by decide +kernel
theorem dX9_find_42 : decode cX9_find 42 = .ok (.iconst 3, 1) := by decide +kernel
theorem dX9_find_43 : decode cX9_find 43 = .ok (.if_icmp .ge 31, 3) := by decide +kernel
theorem dX9_find_46 : decode cX9_find 46 = .ok (.aload_n 0, 1) := by decide +kernel
theorem dX9_find_47 : decode cX9_find 47 = .ok (.getfield 15, 3) := by decide +kernel
theorem dX9_find_50 : decode cX9_find 50 = .ok (.aload_n 0, 1) := by decide +kernel
theorem dX9_find_51 : decode cX9_find 51 = .ok (.getfield 25, 3) := by decide +kernel
theorem dX9_find_54 : decode cX9_find 54 = .ok (.iconst 3, 1) := by decide +kernel
theorem dX9_find_55 : decode cX9_find 55 = .ok (.imul, 1) := by decide +kernel
theorem dX9_find_56 : decode cX9_find 56 = .ok (.iload_n 3, 1) := by decide +kernel
theorem dX9_find_57 : decode cX9_find 57 = .ok (.iadd, 1) := by decide +kernel
theorem dX9_find_58 : decode cX9_find 58 = .ok (.aload_n 0, 1) := by decide +kernel
theorem dX9_find_59 : decode cX9_find 59 = .ok (.getfield 21, 3) := by decide +kernel
theorem dX9_find_62 : decode cX9_find 62 = .ok (.iload_n 2, 1) := by decide +kernel
theorem dX9_find_63 : decode cX9_find 63 = .ok (.iload_n 3, 1) := by decide +kernel
theorem dX9_find_64 : decode cX9_find 64 = .ok (.invokevirtual 33, 3) := by decide +kernel
theorem dX9_find_67 : decode cX9_find 67 = .ok (.iastore, 1) := by decide +kernel
theorem dX9_find_68 : decode cX9_find 68 = .ok (.iinc 3 1, 3) := by decide +kernel
theorem dX9_find_71 : decode cX9_find 71 = .ok (.goto (-30), 3) := by decide +kernel
theorem dX9_find_74 : decode cX9_find 74 = .ok (.aload_n 0, 1) := by decide +kernel
theorem dX9_find_75 : decode cX9_find 75 = .ok (.dup, 1) := by decide +kernel
theorem dX9_find_76 : decode cX9_find 76 = .ok (.getfield 25, 3) := by decide +kernel
theorem dX9_find_79 : decode cX9_find 79 = .ok (.iconst 1, 1) := by decide +kernel
theorem dX9_find_80 : decode cX9_find 80 = .ok (.iadd, 1) := by decide +kernel
theorem dX9_find_81 : decode cX9_find 81 = .ok (.putfield 25, 3) := by decide +kernel
theorem dX9_find_84 : decode cX9_find 84 = .ok (.iinc 2 1, 3) := by decide +kernel
theorem dX9_find_87 : decode cX9_find 87 = .ok (.goto (-80), 3) := by decide +kernel
theorem dX9_find_90 : decode cX9_find 90 = .ok (.iconst 0, 1) := by decide +kernel
theorem dX9_find_91 : decode cX9_find 91 = .ok (.istore_n 2, 1) := by decide +kernel
theorem dX9_find_92 : decode cX9_find 92 = .ok (.iconst 0, 1) := by decide +kernel
theorem dX9_find_93 : decode cX9_find 93 = .ok (.istore_n 3, 1) := by decide +kernel
theorem dX9_find_94 : decode cX9_find 94 = .ok (.iload_n 3, 1) := by decide +kernel
theorem dX9_find_95 : decode cX9_find 95 = .ok (.bipush 8, 2) := by decide +kernel
theorem dX9_find_97 : decode cX9_find 97 = .ok (.if_icmp .ge 40, 3) := by decide +kernel
theorem dX9_find_100 : decode cX9_find 100 = .ok (.iload_n 2, 1) := by decide +kernel
theorem dX9_find_101 : decode cX9_find 101 = .ok (.ifCond .ne 36, 3) := by decide +kernel
theorem dX9_find_104 : decode cX9_find 104 = .ok (.iload_n 3, 1) := by decide +kernel
theorem dX9_find_105 : decode cX9_find 105 = .ok (.invokestatic 39, 3) := by decide +kernel
theorem dX9_find_108 : decode cX9_find 108 = .ok (.iconst 4, 1) := by decide +kernel
theorem dX9_find_109 : decode cX9_find 109 = .ok (.aload_n 0, 1) := by decide +kernel
theorem dX9_find_110 : decode cX9_find 110 = .ok (.getfield 25, 3) := by decide +kernel
theorem dX9_find_113 : decode cX9_find 113 = .ok (.isub, 1) := by decide +kernel
theorem dX9_find_114 : decode cX9_find 114 = .ok (.if_icmp .ne 15, 3) := by decide +kernel
theorem dX9_find_117 : decode cX9_find 117 = .ok (.aload_n 0, 1) := by decide +kernel
theorem dX9_find_118 : decode cX9_find 118 = .ok (.iload_n 3, 1) := by decide +kernel
theorem dX9_find_119 : decode cX9_find 119 = .ok (.invokevirtual 45, 3) := by decide +kernel
theorem dX9_find_122 : decode cX9_find 122 = .ok (.ifCond .eq 7, 3) := by decide +kernel
theorem dX9_find_125 : decode cX9_find 125 = .ok (.iconst 1, 1) := by decide +kernel
theorem dX9_find_126 : decode cX9_find 126 = .ok (.goto 4, 3) := by decide +kernel
theorem dX9_find_129 : decode cX9_find 129 = .ok (.iconst 0, 1) := by decide +kernel
theorem dX9_find_130 : decode cX9_find 130 = .ok (.istore_n 2, 1) := by decide +kernel
theorem dX9_find_131 : decode cX9_find 131 = .ok (.iinc 3 1, 3) := by decide +kernel
theorem dX9_find_134 : decode cX9_find 134 = .ok (.goto (-40), 3) := by decide +kernel
theorem dX9_find_137 : decode cX9_find 137 = .ok (.aload_n 0, 1) := by decide +kernel
theorem dX9_find_138 : decode cX9_find 138 = .ok (.invokevirtual 49, 3) := by decide +kernel
theorem dX9_find_141 : decode cX9_find 141 = .ok (.aload_n 0, 1) := by decide +kernel
theorem dX9_find_142 : decode cX9_find 142 = .ok (.invokevirtual 52, 3) := by decide +kernel
theorem dX9_find_145 : decode cX9_find 145 = .ok (.return_, 1) := by decide +kernel
def rm_fWt_find : Room := { frames := 4, cells := 0, slots := 0, locals := 128 }
set_option maxHeartbeats 4000000 in
set_option maxRecDepth 100000 in
theorem c_fWt_find (l : Launch) (X : eX) (sz : Nat) (a1 : Int32) (σ : sT) (σz : sT) (h0 : fWt_find a1 σ = some σz) : ctV l yX9_find cX9_find 4 none rm_fWt_find [.ref (X.2.1 20), .int a1] (wC X) (tC X) (aC X) X sz σ σz := by
  refine ct_of (by decide +kernel) (Nat.le_of_ble_eq_true rfl) ?_
  intro p e s m args below meth c ls hz B hl Z
  have B : Bd p s m args meth c RX9 cX9_find 4 none := B
  have hl : lv_has ls 4 [(0, .ref (X.2.1 20)), (1, .int a1)] := hl
  have hx := B.1
  have hb := B.2.1
  unfold fWt_find at h0
  refine lv_aload_n hx hb dX9_find_0 rfl (lv_at hl 0 rfl) ?_
  refine lv_iconst (v := (0 : Int32)) hx hb dX9_find_1 (by decide) ?_
  refine s_20_4 B Z kf_RX9_25 dX9_find_2 (fun H locs Z => ?_)
  obtain ⟨σ1, eσ1, h1⟩ := dlt_s h0
  clear h0
  replace Z := Wd.eq eσ1 Z
  clear eσ1
  refine lv_iconst (v := (0 : Int32)) hx hb dX9_find_5 (by decide) ?_
  refine lv_istore_n (lv' := [(2, .int (0 : Int32)), (0, .ref (X.2.1 20)), (1, .int a1)]) hx hb dX9_find_6 rfl hl (by decide) rfl (fun ls hl => ?_)
  obtain ⟨K5, eK5, h18⟩ := dlt_s h1
  clear h1
  have kK5 : ∀ (σ4 : sT) (H : Heap) (locs : List Loc) (ls : Array Slot), Wd (wC X) (tC X) (aC X) X s σ4 H locs → lv_has ls 4 [(0, .ref (X.2.1 20))] → K5 σ4 = some σz → W p l e rm_fWt_find s m args below meth c H locs 0 0 (MQ below (va_Qv (fun u => u = σz) (poW (wC X) (tC X) (aC X) X sz) (aA (aC X) sz)) args s 0 0 (aA (aC X) sz)) (F0 m 90 ls []) := by
    intro σ4 H locs ls Z hl h2
    rw [eK5] at h2
    refine lv_iconst (v := (0 : Int32)) hx hb dX9_find_90 (by decide) ?_
    refine lv_istore_n (lv' := [(2, .int (0 : Int32)), (0, .ref (X.2.1 20))]) hx hb dX9_find_91 rfl hl (by decide) rfl (fun ls hl => ?_)
    refine lv_iconst (v := (0 : Int32)) hx hb dX9_find_92 (by decide) ?_
    refine lv_istore_n (lv' := [(3, .int (0 : Int32)), (2, .int (0 : Int32)), (0, .ref (X.2.1 20))]) hx hb dX9_find_93 rfl hl (by decide) rfl (fun ls hl => ?_)
    obtain ⟨K10, eK10, h6⟩ := dlt_s h2
    clear h2
    have kK10 : ∀ (σ9 : sT) (H : Heap) (locs : List Loc) (ls : Array Slot), Wd (wC X) (tC X) (aC X) X s σ9 H locs → lv_has ls 4 [(0, .ref (X.2.1 20))] → K10 σ9 = some σz → W p l e rm_fWt_find s m args below meth c H locs 0 0 (MQ below (va_Qv (fun u => u = σz) (poW (wC X) (tC X) (aC X) X sz) (aA (aC X) sz)) args s 0 0 (aA (aC X) sz)) (F0 m 137 ls []) := by
      intro σ9 H locs ls Z hl h3
      rw [eK10] at h3
      refine lv_aload_n hx hb dX9_find_137 rfl (lv_at hl 0 rfl) ?_
      obtain ⟨σ12, hc10, h4⟩ := db1_s h3
      clear h3
      refine cV_V [] [] B mx_yX9_shorten (c_fWt_shorten l X _ σ9 σ12 hc10) kl_RX9_49 mi_yX9_shorten (rv_20 _ _) hcl_9 Z hl rfl rfl ⟨Nat.le_of_ble_eq_true rfl, Nat.le_of_ble_eq_true rfl⟩ rfl rfl (Nat.le_of_ble_eq_true rfl) dX9_find_138 (fun H locs Z => ?_)
      clear hc10
      refine lv_aload_n hx hb dX9_find_141 rfl (lv_at hl 0 rfl) ?_
      obtain ⟨σ14, hc12, h5⟩ := db1_s h4
      clear h4
      refine cV_V [] [] B mx_yX9_turn (c_fWt_turn l X _ σ12 σ14 hc12) kl_RX9_52 mi_yX9_turn (rv_20 _ _) hcl_9 Z hl rfl rfl ⟨Nat.le_of_ble_eq_true rfl, Nat.le_of_ble_eq_true rfl⟩ rfl rfl (Nat.le_of_ble_eq_true rfl) dX9_find_142 (fun H locs Z => ?_)
      clear hc12
      exact reV B Z hz h5 dX9_find_145
    clear eK10
    have lL94 : ∀ (n : Nat), ∀ (x6 : Int32) (x7 : Int32) (σ8 : sT) (H : Heap) (locs : List Loc) (ls : Array Slot), Wd (wC X) (tC X) (aC X) X s σ8 H locs → lv_has ls 4 [(0, .ref (X.2.1 20)), (2, .int x6), (3, .int x7)] → fWt_find_L94 K10 n x6 x7 σ8 = some σz → W p l e rm_fWt_find s m args below meth c H locs 0 0 (MQ below (va_Qv (fun u => u = σz) (poW (wC X) (tC X) (aC X) X sz) (aA (aC X) sz)) args s 0 0 (aA (aC X) sz)) (F0 m 94 ls []) := by
      intro n
      induction n with
      | zero =>
        intro x6 x7 σ8 H locs ls Z hl h
        exact nomatch (show (none : Option (sT)) = some _ from h)
      | succ n15 ih55 =>
        intro x6 x7 σ8 H locs ls Z hl h7
        unfold fWt_find_L94 at h7
        refine lv_iload_n hx hb dX9_find_94 rfl (lv_at hl 2 rfl) ?_
        refine lv_bipush (v := (8 : Int32)) hx hb dX9_find_95 (by decide) ?_
        refine lv_icmp_ge (tgt := 137) hx hb dX9_find_97 (by decide) (fun c16 => ?_) (fun c16 => ?_)
        · have h8 := dit h7 c16
          clear h7
          exact kK10 σ8 _ _ _ Z (lv_sub hl [0] rfl) h8
        · have h9 := dif h7 c16
          clear h7
          refine lv_iload_n hx hb dX9_find_100 rfl (lv_at hl 1 rfl) ?_
          refine lv_if_ne (tgt := 137) hx hb dX9_find_101 (by decide) (fun c17 => ?_) (fun c17 => ?_)
          · have h10 := dif h9 c17
            clear h9
            exact kK10 σ8 _ _ _ Z (lv_sub hl [0] rfl) h10
          · have h11 := dit h9 c17
            clear h9
            refine lv_iload_n hx hb dX9_find_104 rfl (lv_at hl 2 rfl) ?_
            obtain ⟨r19, hc17, h12⟩ := db1_s h11
            clear h11
            refine cS_I [.int x7] [] B mx_yJ6_bitCount_0f7a4 (c_fJI_bitCount l X _ x7 σ8 r19 hc17) kl_RX9_39 ks_yJ6_bitCount_0f7a4 Z hl rfl rfl ⟨Nat.le_of_ble_eq_true rfl, Nat.le_of_ble_eq_true rfl⟩ rfl rfl (Nat.le_of_ble_eq_true rfl) dX9_find_105 (fun H locs Z => ?_)
            clear hc17
            refine lv_iconst (v := (4 : Int32)) hx hb dX9_find_108 (by decide) ?_
            refine lv_aload_n hx hb dX9_find_109 rfl (lv_at hl 0 rfl) ?_
            refine g_20_4 B Z kf_RX9_25 dX9_find_110 ?_
            refine lv_isub hx hb dX9_find_113 ?_
            refine lv_icmp_ne (tgt := 129) hx hb dX9_find_114 (by decide) (fun c20 => ?_) (fun c20 => ?_)
            · have h13 := dif h12 c20
              clear h12
              refine lv_iconst (v := (0 : Int32)) hx hb dX9_find_129 (by decide) ?_
              refine lv_istore_n (lv' := [(2, .int (0 : Int32)), (0, .ref (X.2.1 20)), (3, .int x7)]) hx hb dX9_find_130 rfl hl (by decide) rfl (fun ls hl => ?_)
              refine lv_iinc (v := x7 + (1 : Int32)) (lv' := [(3, .int (x7 + (1 : Int32))), (2, .int (0 : Int32)), (0, .ref (X.2.1 20))]) hx hb dX9_find_131 hl (k := 2) rfl (by rfl) (by decide) rfl (fun ls hl => ?_)
              refine lv_goto (tgt := 94) hx hb dX9_find_134 (by decide) ?_
              exact ih55 (0 : Int32) (x7 + (1 : Int32)) σ8 _ _ _ Z (lv_sub hl [2, 1, 0] rfl) h13
            · have h14 := dit h12 c20
              clear h12
              refine lv_aload_n hx hb dX9_find_117 rfl (lv_at hl 0 rfl) ?_
              refine lv_iload_n hx hb dX9_find_118 rfl (lv_at hl 2 rfl) ?_
              obtain ⟨r22, σ23, hc20, h15⟩ := db2_s h14
              clear h14
              refine cV_I [.int x7] [] B mx_yX9_isSolvedWith (c_fWt_isSolvedWith l X _ x7 σ8 r22 σ23 hc20) kl_RX9_45 mi_yX9_isSolvedWith (rv_20 _ _) hcl_9 Z hl rfl rfl ⟨Nat.le_of_ble_eq_true rfl, Nat.le_of_ble_eq_true rfl⟩ rfl rfl (Nat.le_of_ble_eq_true rfl) dX9_find_119 (fun H locs Z => ?_)
              clear hc20
              refine lv_if_eq (tgt := 129) hx hb dX9_find_122 (by decide) (fun c24 => ?_) (fun c24 => ?_)
              · have h16 := dit h15 c24
                clear h15
                refine lv_iconst (v := (0 : Int32)) hx hb dX9_find_129 (by decide) ?_
                refine lv_istore_n (lv' := [(2, .int (0 : Int32)), (0, .ref (X.2.1 20)), (3, .int x7)]) hx hb dX9_find_130 rfl hl (by decide) rfl (fun ls hl => ?_)
                refine lv_iinc (v := x7 + (1 : Int32)) (lv' := [(3, .int (x7 + (1 : Int32))), (2, .int (0 : Int32)), (0, .ref (X.2.1 20))]) hx hb dX9_find_131 hl (k := 2) rfl (by rfl) (by decide) rfl (fun ls hl => ?_)
                refine lv_goto (tgt := 94) hx hb dX9_find_134 (by decide) ?_
                exact ih55 (0 : Int32) (x7 + (1 : Int32)) σ23 _ _ _ Z (lv_sub hl [2, 1, 0] rfl) h16
              · have h17 := dif h15 c24
                clear h15
                refine lv_iconst (v := (1 : Int32)) hx hb dX9_find_125 (by decide) ?_
                refine lv_goto (tgt := 130) hx hb dX9_find_126 (by decide) ?_
                refine lv_istore_n (lv' := [(2, .int (1 : Int32)), (0, .ref (X.2.1 20)), (3, .int x7)]) hx hb dX9_find_130 rfl hl (by decide) rfl (fun ls hl => ?_)
                refine lv_iinc (v := x7 + (1 : Int32)) (lv' := [(3, .int (x7 + (1 : Int32))), (2, .int (1 : Int32)), (0, .ref (X.2.1 20))]) hx hb dX9_find_131 hl (k := 2) rfl (by rfl) (by decide) rfl (fun ls hl => ?_)
                refine lv_goto (tgt := 94) hx hb dX9_find_134 (by decide) ?_
                exact ih55 (1 : Int32) (x7 + (1 : Int32)) σ23 _ _ _ Z (lv_sub hl [2, 1, 0] rfl) h17
    exact lL94 FU (0 : Int32) (0 : Int32) σ4 _ _ _ Z (lv_sub hl [2, 1, 0] rfl) h6
  clear eK5
  have lL7 : ∀ (n : Nat), ∀ (x2 : Int32) (σ3 : sT) (H : Heap) (locs : List Loc) (ls : Array Slot), Wd (wC X) (tC X) (aC X) X s σ3 H locs → lv_has ls 4 [(0, .ref (X.2.1 20)), (1, .int a1), (2, .int x2)] → fWt_find_L7 a1 K5 n x2 σ3 = some σz → W p l e rm_fWt_find s m args below meth c H locs 0 0 (MQ below (va_Qv (fun u => u = σz) (poW (wC X) (tC X) (aC X) X sz) (aA (aC X) sz)) args s 0 0 (aA (aC X) sz)) (F0 m 7 ls []) := by
    intro n
    induction n with
    | zero =>
      intro x2 σ3 H locs ls Z hl h
      exact nomatch (show (none : Option (sT)) = some _ from h)
    | succ n25 ih5 =>
      intro x2 σ3 H locs ls Z hl h19
      unfold fWt_find_L7 at h19
      refine lv_iload_n hx hb dX9_find_7 rfl (lv_at hl 2 rfl) ?_
      refine lv_bipush (v := (12 : Int32)) hx hb dX9_find_8 (by decide) ?_
      refine lv_icmp_ge (tgt := 90) hx hb dX9_find_10 (by decide) (fun c26 => ?_) (fun c26 => ?_)
      · have h20 := dit h19 c26
        clear h19
        exact kK5 σ3 _ _ _ Z (lv_sub hl [0] rfl) h20
      · have h21 := dif h19 c26
        clear h19
        refine lv_iload_n hx hb dX9_find_13 rfl (lv_at hl 1 rfl) ?_
        refine lv_iload_n hx hb dX9_find_14 rfl (lv_at hl 2 rfl) ?_
        obtain ⟨r28, hc26, h22⟩ := db1_s h21
        clear h21
        refine cSN_I [.int a1, .int x2] [] B mx_yX11_isIn (c_fRM_isIn l X _ a1 x2 σ3 r28 hc26) kx_RX9_29 ks_yX11_isIn Z hl rfl rfl ⟨Nat.le_of_ble_eq_true rfl, Nat.le_of_ble_eq_true rfl⟩ rfl rfl (Nat.le_of_ble_eq_true rfl) dX9_find_15 (fun H locs Z => ?_)
        clear hc26
        refine lv_if_eq (tgt := 84) hx hb dX9_find_18 (by decide) (fun c29 => ?_) (fun c29 => ?_)
        · have h23 := dit h22 c29
          clear h22
          refine lv_iinc (v := x2 + (1 : Int32)) (lv' := [(2, .int (x2 + (1 : Int32))), (0, .ref (X.2.1 20)), (1, .int a1)]) hx hb dX9_find_84 hl (k := 2) rfl (by rfl) (by decide) rfl (fun ls hl => ?_)
          refine lv_goto (tgt := 7) hx hb dX9_find_87 (by decide) ?_
          exact ih5 (x2 + (1 : Int32)) σ3 _ _ _ Z (lv_sub hl [1, 2, 0] rfl) h23
        · have h24 := dif h22 c29
          clear h22
          refine lv_aload_n hx hb dX9_find_21 rfl (lv_at hl 0 rfl) ?_
          refine g_20_4 B Z kf_RX9_25 dX9_find_22 ?_
          refine lv_iconst (v := (4 : Int32)) hx hb dX9_find_25 (by decide) ?_
          refine lv_icmp_ge (tgt := 84) hx hb dX9_find_26 (by decide) (fun c30 => ?_) (fun c30 => ?_)
          · have h25 := dit h24 c30
            clear h24
            refine lv_iinc (v := x2 + (1 : Int32)) (lv' := [(2, .int (x2 + (1 : Int32))), (0, .ref (X.2.1 20)), (1, .int a1)]) hx hb dX9_find_84 hl (k := 2) rfl (by rfl) (by decide) rfl (fun ls hl => ?_)
            refine lv_goto (tgt := 7) hx hb dX9_find_87 (by decide) ?_
            exact ih5 (x2 + (1 : Int32)) σ3 _ _ _ Z (lv_sub hl [1, 2, 0] rfl) h25
          · have h26 := dif h24 c30
            clear h24
            refine lv_aload_n hx hb dX9_find_29 rfl (lv_at hl 0 rfl) ?_
            refine g_20_1 B Z kf_RX9_11 dX9_find_30 ?_
            refine lv_aload_n hx hb dX9_find_33 rfl (lv_at hl 0 rfl) ?_
            refine g_20_4 B Z kf_RX9_25 dX9_find_34 ?_
            refine lv_iload_n hx hb dX9_find_37 rfl (lv_at hl 2 rfl) ?_
            obtain ⟨z31, h27⟩ := dck_s h26
            clear h26
            refine st_21 B Z z31 dX9_find_38 (fun H locs Z => ?_)
            obtain ⟨σ32, eσ32, h28⟩ := dlt_s h27
            clear h27
            replace Z := Wd.eq eσ32 Z
            clear eσ32
            refine lv_iconst (v := (0 : Int32)) hx hb dX9_find_39 (by decide) ?_
            refine lv_istore_n (lv' := [(3, .int (0 : Int32)), (0, .ref (X.2.1 20)), (1, .int a1), (2, .int x2)]) hx hb dX9_find_40 rfl hl (by decide) rfl (fun ls hl => ?_)
            obtain ⟨K36, eK36, h31⟩ := dlt_s h28
            clear h28
            have kK36 : ∀ (σ35 : sT) (H : Heap) (locs : List Loc) (ls : Array Slot), Wd (wC X) (tC X) (aC X) X s σ35 H locs → lv_has ls 4 [(0, .ref (X.2.1 20)), (1, .int a1), (2, .int x2)] → K36 σ35 = some σz → W p l e rm_fWt_find s m args below meth c H locs 0 0 (MQ below (va_Qv (fun u => u = σz) (poW (wC X) (tC X) (aC X) X sz) (aA (aC X) sz)) args s 0 0 (aA (aC X) sz)) (F0 m 74 ls []) := by
              intro σ35 H locs ls Z hl h29
              rw [eK36] at h29
              refine lv_aload_n hx hb dX9_find_74 rfl (lv_at hl 0 rfl) ?_
              refine lv_dup hx hb dX9_find_75 rfl ?_
              refine g_20_4 B Z kf_RX9_25 dX9_find_76 ?_
              refine lv_iconst (v := (1 : Int32)) hx hb dX9_find_79 (by decide) ?_
              refine lv_iadd hx hb dX9_find_80 ?_
              refine s_20_4 B Z kf_RX9_25 dX9_find_81 (fun H locs Z => ?_)
              obtain ⟨σ37, eσ37, h30⟩ := dlt_s h29
              clear h29
              replace Z := Wd.eq eσ37 Z
              clear eσ37
              refine lv_iinc (v := x2 + (1 : Int32)) (lv' := [(2, .int (x2 + (1 : Int32))), (0, .ref (X.2.1 20)), (1, .int a1)]) hx hb dX9_find_84 hl (k := 2) rfl (by rfl) (by decide) rfl (fun ls hl => ?_)
              refine lv_goto (tgt := 7) hx hb dX9_find_87 (by decide) ?_
              exact ih5 (x2 + (1 : Int32)) σ37 _ _ _ Z (lv_sub hl [1, 2, 0] rfl) h30
            clear eK36
            have lL41 : ∀ (n : Nat), ∀ (x33 : Int32) (σ34 : sT) (H : Heap) (locs : List Loc) (ls : Array Slot), Wd (wC X) (tC X) (aC X) X s σ34 H locs → lv_has ls 4 [(0, .ref (X.2.1 20)), (1, .int a1), (2, .int x2), (3, .int x33)] → fWt_find_L41 x2 K36 n x33 σ34 = some σz → W p l e rm_fWt_find s m args below meth c H locs 0 0 (MQ below (va_Qv (fun u => u = σz) (poW (wC X) (tC X) (aC X) X sz) (aA (aC X) sz)) args s 0 0 (aA (aC X) sz)) (F0 m 41 ls []) := by
              intro n
              induction n with
              | zero =>
                intro x33 σ34 H locs ls Z hl h
                exact nomatch (show (none : Option (sT)) = some _ from h)
              | succ n38 ih24 =>
                intro x33 σ34 H locs ls Z hl h32
                unfold fWt_find_L41 at h32
                refine lv_iload_n hx hb dX9_find_41 rfl (lv_at hl 3 rfl) ?_
                refine lv_iconst (v := (3 : Int32)) hx hb dX9_find_42 (by decide) ?_
                refine lv_icmp_ge (tgt := 74) hx hb dX9_find_43 (by decide) (fun c39 => ?_) (fun c39 => ?_)
                · have h33 := dit h32 c39
                  clear h32
                  exact kK36 σ34 _ _ _ Z (lv_sub hl [0, 1, 2] rfl) h33
                · have h34 := dif h32 c39
                  clear h32
                  refine lv_aload_n hx hb dX9_find_46 rfl (lv_at hl 0 rfl) ?_
                  refine g_20_2 B Z kf_RX9_15 dX9_find_47 ?_
                  refine lv_aload_n hx hb dX9_find_50 rfl (lv_at hl 0 rfl) ?_
                  refine g_20_4 B Z kf_RX9_25 dX9_find_51 ?_
                  refine lv_iconst (v := (3 : Int32)) hx hb dX9_find_54 (by decide) ?_
                  refine lv_imul hx hb dX9_find_55 ?_
                  refine lv_iload_n hx hb dX9_find_56 rfl (lv_at hl 3 rfl) ?_
                  refine lv_iadd hx hb dX9_find_57 ?_
                  refine lv_aload_n hx hb dX9_find_58 rfl (lv_at hl 0 rfl) ?_
                  refine g_20_0 B Z kf_RX9_21 dX9_find_59 ?_
                  refine lv_iload_n hx hb dX9_find_62 rfl (lv_at hl 2 rfl) ?_
                  refine lv_iload_n hx hb dX9_find_63 rfl (lv_at hl 3 rfl) ?_
                  obtain ⟨r41, hc39, h35⟩ := db1_s h34
                  clear h34
                  refine cV_I [.int x2, .int x33] [.int (((σ34.1 20 4) * (3 : Int32)) + x33), .ref (X.2.1 22)] B mx_yX0_get (c_fBk_get l X _ x2 x33 σ34 r41 hc39) kl_RX9_33 mi_yX0_get (rv_1 _ _) hcl_0 Z hl rfl rfl ⟨Nat.le_of_ble_eq_true rfl, Nat.le_of_ble_eq_true rfl⟩ rfl rfl (Nat.le_of_ble_eq_true rfl) dX9_find_64 (fun H locs Z => ?_)
                  clear hc39
                  obtain ⟨z42, h36⟩ := dck_s h35
                  clear h35
                  refine st_22 B Z z42 dX9_find_67 (fun H locs Z => ?_)
                  obtain ⟨σ43, eσ43, h37⟩ := dlt_s h36
                  clear h36
                  replace Z := Wd.eq eσ43 Z
                  clear eσ43
                  refine lv_iinc (v := x33 + (1 : Int32)) (lv' := [(3, .int (x33 + (1 : Int32))), (0, .ref (X.2.1 20)), (1, .int a1), (2, .int x2)]) hx hb dX9_find_68 hl (k := 3) rfl (by rfl) (by decide) rfl (fun ls hl => ?_)
                  refine lv_goto (tgt := 41) hx hb dX9_find_71 (by decide) ?_
                  exact ih24 (x33 + (1 : Int32)) σ43 _ _ _ Z (lv_sub hl [1, 2, 3, 0] rfl) h37
            exact lL41 FU (0 : Int32) σ32 _ _ _ Z (lv_sub hl [1, 2, 3, 0] rfl) h31
  exact lL7 FU (0 : Int32) σ1 _ _ _ Z (lv_sub hl [1, 2, 0] rfl) h18
theorem dX9_weightOf_0 : decode cX9_weightOf 0 = .ok (.iconst 0, 1) := by decide +kernel
theorem dX9_weightOf_1 : decode cX9_weightOf 1 = .ok (.istore_n 2, 1) := by decide +kernel
theorem dX9_weightOf_2 : decode cX9_weightOf 2 = .ok (.iload_n 2, 1) := by decide +kernel
theorem dX9_weightOf_3 : decode cX9_weightOf 3 = .ok (.aload_n 0, 1) := by decide +kernel
theorem dX9_weightOf_4 : decode cX9_weightOf 4 = .ok (.getfield 25, 3) := by decide +kernel
theorem dX9_weightOf_7 : decode cX9_weightOf 7 = .ok (.if_icmp .ge 26, 3) := by decide +kernel
theorem dX9_weightOf_10 : decode cX9_weightOf 10 = .ok (.aload_n 0, 1) := by decide +kernel
theorem dX9_weightOf_11 : decode cX9_weightOf 11 = .ok (.getfield 11, 3) := by decide +kernel
theorem dX9_weightOf_14 : decode cX9_weightOf 14 = .ok (.iload_n 2, 1) := by decide +kernel
theorem dX9_weightOf_15 : decode cX9_weightOf 15 = .ok (.iaload, 1) := by decide +kernel
theorem dX9_weightOf_16 : decode cX9_weightOf 16 = .ok (.iload_n 1, 1) := by decide +kernel
theorem dX9_weightOf_17 : decode cX9_weightOf 17 = .ok (.if_icmp .ne 10, 3) := by decide +kernel
theorem dX9_weightOf_20 : decode cX9_weightOf 20 = .ok (.aload_n 0, 1) := by decide +kernel
theorem dX9_weightOf_21 : decode cX9_weightOf 21 = .ok (.getfield 18, 3) := by decide +kernel
theorem dX9_weightOf_24 : decode cX9_weightOf 24 = .ok (.iload_n 2, 1) := by decide +kernel
theorem dX9_weightOf_25 : decode cX9_weightOf 25 = .ok (.iaload, 1) := by decide +kernel
theorem dX9_weightOf_26 : decode cX9_weightOf 26 = .ok (.ireturn, 1) := by decide +kernel
theorem dX9_weightOf_27 : decode cX9_weightOf 27 = .ok (.iinc 2 1, 3) := by decide +kernel
theorem dX9_weightOf_30 : decode cX9_weightOf 30 = .ok (.goto (-28), 3) := by decide +kernel
theorem dX9_weightOf_33 : decode cX9_weightOf 33 = .ok (.iconst 0, 1) := by decide +kernel
theorem dX9_weightOf_34 : decode cX9_weightOf 34 = .ok (.ireturn, 1) := by decide +kernel
def rm_fWt_weightOf : Room := { frames := 1, cells := 0, slots := 0, locals := 60 }
set_option maxHeartbeats 4000000 in
set_option maxRecDepth 100000 in
theorem c_fWt_weightOf (l : Launch) (X : eX) (sz : Nat) (a1 : Int32) (σ : sT) (rz : Int32) (h0 : fWt_weightOf a1 σ = some rz) : ctI l yX9_weightOf cX9_weightOf 3 (some .int) rm_fWt_weightOf [.ref (X.2.1 20), .int a1] (wC X) (tC X) (aC X) X sz σ rz σ := by
  refine ct_of (by decide +kernel) (Nat.le_of_ble_eq_true rfl) ?_
  intro p e s m args below meth c ls hz B hl Z
  have B : Bd p s m args meth c RX9 cX9_weightOf 3 (some .int) := B
  have hl : lv_has ls 3 [(0, .ref (X.2.1 20)), (1, .int a1)] := hl
  have hx := B.1
  have hb := B.2.1
  unfold fWt_weightOf at h0
  refine lv_iconst (v := (0 : Int32)) hx hb dX9_weightOf_0 (by decide) ?_
  refine lv_istore_n (lv' := [(2, .int (0 : Int32)), (0, .ref (X.2.1 20)), (1, .int a1)]) hx hb dX9_weightOf_1 rfl hl (by decide) rfl (fun ls hl => ?_)
  have lL2 : ∀ (n : Nat), ∀ (x1 : Int32) (H : Heap) (locs : List Loc) (ls : Array Slot), Wd (wC X) (tC X) (aC X) X s σ H locs → lv_has ls 3 [(0, .ref (X.2.1 20)), (1, .int a1), (2, .int x1)] → fWt_weightOf_L2 a1 σ n x1 = some rz → W p l e rm_fWt_weightOf s m args below meth c H locs 0 0 (MQ below (va_Qi (fun a u => a = rz ∧ u = σ) (poW (wC X) (tC X) (aC X) X sz) (aA (aC X) sz)) args s 0 0 (aA (aC X) sz)) (F0 m 2 ls []) := by
    intro n
    induction n with
    | zero =>
      intro x1 H locs ls Z hl h
      exact nomatch (show (none : Option (Int32)) = some _ from h)
    | succ n2 ih2 =>
      intro x1 H locs ls Z hl h1
      unfold fWt_weightOf_L2 at h1
      refine lv_iload_n hx hb dX9_weightOf_2 rfl (lv_at hl 2 rfl) ?_
      refine lv_aload_n hx hb dX9_weightOf_3 rfl (lv_at hl 0 rfl) ?_
      refine g_20_4 B Z kf_RX9_25 dX9_weightOf_4 ?_
      refine lv_icmp_ge (tgt := 33) hx hb dX9_weightOf_7 (by decide) (fun c3 => ?_) (fun c3 => ?_)
      · have h2 := dit h1 c3
        clear h1
        refine lv_iconst (v := (0 : Int32)) hx hb dX9_weightOf_33 (by decide) ?_
        exact reI B Z rfl hz (congrArg (Option.map (fun q => (q, σ))) h2) dX9_weightOf_34
      · have h3 := dif h1 c3
        clear h1
        refine lv_aload_n hx hb dX9_weightOf_10 rfl (lv_at hl 0 rfl) ?_
        refine g_20_1 B Z kf_RX9_11 dX9_weightOf_11 ?_
        refine lv_iload_n hx hb dX9_weightOf_14 rfl (lv_at hl 2 rfl) ?_
        obtain ⟨z4, h4⟩ := dck_s h3
        clear h3
        refine ld_21 B Z z4 dX9_weightOf_15 ?_
        refine lv_iload_n hx hb dX9_weightOf_16 rfl (lv_at hl 1 rfl) ?_
        refine lv_icmp_ne (tgt := 27) hx hb dX9_weightOf_17 (by decide) (fun c5 => ?_) (fun c5 => ?_)
        · have h5 := dif h4 c5
          clear h4
          refine lv_iinc (v := x1 + (1 : Int32)) (lv' := [(2, .int (x1 + (1 : Int32))), (0, .ref (X.2.1 20)), (1, .int a1)]) hx hb dX9_weightOf_27 hl (k := 2) rfl (by rfl) (by decide) rfl (fun ls hl => ?_)
          refine lv_goto (tgt := 2) hx hb dX9_weightOf_30 (by decide) ?_
          exact ih2 (x1 + (1 : Int32)) _ _ _ Z (lv_sub hl [1, 2, 0] rfl) h5
        · have h6 := dit h4 c5
          clear h4
          refine lv_aload_n hx hb dX9_weightOf_20 rfl (lv_at hl 0 rfl) ?_
          refine g_20_3 B Z kf_RX9_18 dX9_weightOf_21 ?_
          refine lv_iload_n hx hb dX9_weightOf_24 rfl (lv_at hl 2 rfl) ?_
          obtain ⟨z6, h7⟩ := dck_s h6
          clear h6
          refine ld_23 B Z z6 dX9_weightOf_25 ?_
          exact reI B Z rfl hz (congrArg (Option.map (fun q => (q, σ))) h7) dX9_weightOf_26
  exact lL2 FU (0 : Int32) _ _ _ Z (lv_sub hl [1, 2, 0] rfl) h0
