theorem dX12_holds_0 : decode cX12_holds 0 = .ok (.iconst 0, 1) := by decide +kernel
theorem dX12_holds_1 : decode cX12_holds 1 = .ok (.istore_n 1, 1) := by decide +kernel
theorem dX12_holds_2 : decode cX12_holds 2 = .ok (.iconst 0, 1) := by decide +kernel
theorem dX12_holds_3 : decode cX12_holds 3 = .ok (.istore_n 2, 1) := by decide +kernel
theorem dX12_holds_4 : decode cX12_holds 4 = .ok (.iload_n 2, 1) := by decide +kernel
theorem dX12_holds_5 : decode cX12_holds 5 = .ok (.aload_n 0, 1) := by decide +kernel
theorem dX12_holds_6 : decode cX12_holds 6 = .ok (.getfield 300, 3) := by decide +kernel
theorem dX12_holds_9 : decode cX12_holds 9 = .ok (.if_icmp .ge 140, 3) := by decide +kernel
theorem dX12_holds_12 : decode cX12_holds 12 = .ok (.aload_n 0, 1) := by decide +kernel
theorem dX12_holds_13 : decode cX12_holds 13 = .ok (.getfield 47, 3) := by decide +kernel
theorem dX12_holds_16 : decode cX12_holds 16 = .ok (.iload_n 2, 1) := by decide +kernel
theorem dX12_holds_17 : decode cX12_holds 17 = .ok (.iaload, 1) := by decide +kernel
theorem dX12_holds_18 : decode cX12_holds 18 = .ok (.istore_n 3, 1) := by decide +kernel
theorem dX12_holds_19 : decode cX12_holds 19 = .ok (.iload_n 3, 1) := by decide +kernel
theorem dX12_holds_20 : decode cX12_holds 20 = .ok (.ifCond .lt 20, 3) := by decide +kernel
theorem dX12_holds_23 : decode cX12_holds 23 = .ok (.aload_n 0, 1) := by decide +kernel
theorem dX12_holds_24 : decode cX12_holds 24 = .ok (.getfield 53, 3) := by decide +kernel
theorem dX12_holds_27 : decode cX12_holds 27 = .ok (.iload_n 1, 1) := by decide +kernel
theorem dX12_holds_28 : decode cX12_holds 28 = .ok (.aload_n 0, 1) := by decide +kernel
theorem dX12_holds_29 : decode cX12_holds 29 = .ok (.iload_n 3, 1) := by decide +kernel
theorem dX12_holds_30 : decode cX12_holds 30 = .ok (.invokevirtual 347, 3) := by decide +kernel
theorem dX12_holds_33 : decode cX12_holds 33 = .ok (.bastore, 1) := by decide +kernel
theorem dX12_holds_34 : decode cX12_holds 34 = .ok (.iinc 1 1, 3) := by decide +kernel
theorem dX12_holds_37 : decode cX12_holds 37 = .ok (.goto 106, 3) := by decide +kernel
theorem dX12_holds_40 : decode cX12_holds 40 = .ok (.iload_n 3, 1) := by decide +kernel
theorem dX12_holds_41 : decode cX12_holds 41 = .ok (.bipush (-33), 2) := by decide +kernel
theorem dX12_holds_43 : decode cX12_holds 43 = .ok (.if_icmp .ne 30, 3) := by decide +kernel
theorem dX12_holds_46 : decode cX12_holds 46 = .ok (.aload_n 0, 1) := by decide +kernel
theorem dX12_holds_47 : decode cX12_holds 47 = .ok (.getfield 53, 3) := by decide +kernel
theorem dX12_holds_50 : decode cX12_holds 50 = .ok (.iload_n 1, 1) := by decide +kernel
theorem dX12_holds_51 : decode cX12_holds 51 = .ok (.iconst 1, 1) := by decide +kernel
theorem dX12_holds_52 : decode cX12_holds 52 = .ok (.isub, 1) := by decide +kernel
theorem dX12_holds_53 : decode cX12_holds 53 = .ok (.aload_n 0, 1) := by decide +kernel
theorem dX12_holds_54 : decode cX12_holds 54 = .ok (.getfield 53, 3) := by decide +kernel
theorem dX12_holds_57 : decode cX12_holds 57 = .ok (.iload_n 1, 1) := by decide +kernel
theorem dX12_holds_58 : decode cX12_holds 58 = .ok (.iconst 1, 1) := by decide +kernel
theorem dX12_holds_59 : decode cX12_holds 59 = .ok (.isub, 1) := by decide +kernel
theorem dX12_holds_60 : decode cX12_holds 60 = .ok (.baload, 1) := by decide +kernel
theorem dX12_holds_61 : decode cX12_holds 61 = .ok (.ifCond .ne 7, 3) := by decide +kernel
theorem dX12_holds_64 : decode cX12_holds 64 = .ok (.iconst 1, 1) := by decide +kernel
theorem dX12_holds_65 : decode cX12_holds 65 = .ok (.goto 4, 3) := by decide +kernel
theorem dX12_holds_68 : decode cX12_holds 68 = .ok (.iconst 0, 1) := by decide +kernel
theorem dX12_holds_69 : decode cX12_holds 69 = .ok (.bastore, 1) := by decide +kernel
theorem dX12_holds_70 : decode cX12_holds 70 = .ok (.goto 73, 3) := by decide +kernel
theorem dX12_holds_73 : decode cX12_holds 73 = .ok (.iinc 1 (-1), 3) := by decide +kernel
theorem dX12_holds_76 : decode cX12_holds 76 = .ok (.aload_n 0, 1) := by decide +kernel
theorem dX12_holds_77 : decode cX12_holds 77 = .ok (.getfield 53, 3) := by decide +kernel
theorem dX12_holds_80 : decode cX12_holds 80 = .ok (.iload_n 1, 1) := by decide +kernel
theorem dX12_holds_81 : decode cX12_holds 81 = .ok (.iconst 1, 1) := by decide +kernel
theorem dX12_holds_82 : decode cX12_holds 82 = .ok (.isub, 1) := by decide +kernel
theorem dX12_holds_83 : decode cX12_holds 83 = .ok (.iload_n 3, 1) := by decide +kernel
theorem dX12_holds_84 : decode cX12_holds 84 = .ok (.bipush (-38), 2) := by decide +kernel
theorem dX12_holds_86 : decode cX12_holds 86 = .ok (.if_icmp .ne 31, 3) := by decide +kernel
theorem dX12_holds_89 : decode cX12_holds 89 = .ok (.aload_n 0, 1) := by decide +kernel
theorem dX12_holds_90 : decode cX12_holds 90 = .ok (.getfield 53, 3) := by decide +kernel
theorem dX12_holds_93 : decode cX12_holds 93 = .ok (.iload_n 1, 1) := by decide +kernel
theorem dX12_holds_94 : decode cX12_holds 94 = .ok (.iconst 1, 1) := by decide +kernel
theorem dX12_holds_95 : decode cX12_holds 95 = .ok (.isub, 1) := by decide +kernel
theorem dX12_holds_96 : decode cX12_holds 96 = .ok (.baload, 1) := by decide +kernel
theorem dX12_holds_97 : decode cX12_holds 97 = .ok (.ifCond .eq 16, 3) := by decide +kernel
theorem dX12_holds_100 : decode cX12_holds 100 = .ok (.aload_n 0, 1) := by decide +kernel
theorem dX12_holds_101 : decode cX12_holds 101 = .ok (.getfield 53, 3) := by decide +kernel
theorem dX12_holds_104 : decode cX12_holds 104 = .ok (.iload_n 1, 1) := by decide +kernel
theorem dX12_holds_105 : decode cX12_holds 105 = .ok (.baload, 1) := by decide +kernel
theorem dX12_holds_106 : decode cX12_holds 106 = .ok (.ifCond .eq 7, 3) := by decide +kernel
theorem dX12_holds_109 : decode cX12_holds 109 = .ok (.iconst 1, 1) := by decide +kernel
theorem dX12_holds_110 : decode cX12_holds 110 = .ok (.goto 32, 3) := by decide +kernel
theorem dX12_holds_113 : decode cX12_holds 113 = .ok (.iconst 0, 1) := by decide +kernel
theorem dX12_holds_114 : decode cX12_holds 114 = .ok (.goto 28, 3) := by decide +kernel
theorem dX12_holds_117 : decode cX12_holds 117 = .ok (.aload_n 0, 1) := by decide +kernel
theorem dX12_holds_118 : decode cX12_holds 118 = .ok (.getfield 53, 3) := by decide +kernel
theorem dX12_holds_121 : decode cX12_holds 121 = .ok (.iload_n 1, 1) := by decide +kernel
theorem dX12_holds_122 : decode cX12_holds 122 = .ok (.iconst 1, 1) := by decide +kernel
theorem dX12_holds_123 : decode cX12_holds 123 = .ok (.isub, 1) := by decide +kernel
theorem dX12_holds_124 : decode cX12_holds 124 = .ok (.baload, 1) := by decide +kernel
theorem dX12_holds_125 : decode cX12_holds 125 = .ok (.ifCond .ne 12, 3) := by decide +kernel
theorem dX12_holds_128 : decode cX12_holds 128 = .ok (.aload_n 0, 1) := by decide +kernel
theorem dX12_holds_129 : decode cX12_holds 129 = .ok (.getfield 53, 3) := by decide +kernel
theorem dX12_holds_132 : decode cX12_holds 132 = .ok (.iload_n 1, 1) := by decide +kernel
theorem dX12_holds_133 : decode cX12_holds 133 = .ok (.baload, 1) := by decide +kernel
theorem dX12_holds_134 : decode cX12_holds 134 = .ok (.ifCond .eq 7, 3) := by decide +kernel
theorem dX12_holds_137 : decode cX12_holds 137 = .ok (.iconst 1, 1) := by decide +kernel
theorem dX12_holds_138 : decode cX12_holds 138 = .ok (.goto 4, 3) := by decide +kernel
theorem dX12_holds_141 : decode cX12_holds 141 = .ok (.iconst 0, 1) := by decide +kernel
theorem dX12_holds_142 : decode cX12_holds 142 = .ok (.bastore, 1) := by decide +kernel
theorem dX12_holds_143 : decode cX12_holds 143 = .ok (.iinc 2 1, 3) := by decide +kernel
theorem dX12_holds_146 : decode cX12_holds 146 = .ok (.goto (-142), 3) := by decide +kernel
theorem dX12_holds_149 : decode cX12_holds 149 = .ok (.aload_n 0, 1) := by decide +kernel
theorem dX12_holds_150 : decode cX12_holds 150 = .ok (.getfield 53, 3) := by decide +kernel
theorem dX12_holds_153 : decode cX12_holds 153 = .ok (.iconst 0, 1) := by decide +kernel
theorem dX12_holds_154 : decode cX12_holds 154 = .ok (.baload, 1) := by decide +kernel
theorem dX12_holds_155 : decode cX12_holds 155 = .ok (.ireturn, 1) := by decide +kernel
def rm_fMM_holds : Room := { frames := 3, cells := 0, slots := 0, locals := 105 }
set_option maxHeartbeats 4000000 in
set_option maxRecDepth 100000 in
theorem c_fMM_holds (l : Launch) (X : eX) (sz : Nat)  (σ : sT) (rz : Int32) (σz : sT) (h0 : fMM_holds σ = some (rz, σz)) : ctI l yX12_holds cX12_holds 4 (some .boolean) rm_fMM_holds [.ref (X.2.1 33)] (wM X) (tM X) (aM X) X sz σ rz σz := by
  refine ct_of (by decide +kernel) (Nat.le_of_ble_eq_true rfl) ?_
  intro p e s m args below meth c ls hz B hl Z
  have B : Bd p s m args meth c RX12 cX12_holds 4 (some .boolean) := B
  have hl : lv_has ls 4 [(0, .ref (X.2.1 33))] := hl
  have hx := B.1
  have hb := B.2.1
  unfold fMM_holds at h0
  refine lv_iconst (v := (0 : Int32)) hx hb dX12_holds_0 (by decide) ?_
  refine lv_istore_n (lv' := [(1, .int (0 : Int32)), (0, .ref (X.2.1 33))]) hx hb dX12_holds_1 rfl hl (by decide) rfl (fun ls hl => ?_)
  refine lv_iconst (v := (0 : Int32)) hx hb dX12_holds_2 (by decide) ?_
  refine lv_istore_n (lv' := [(2, .int (0 : Int32)), (1, .int (0 : Int32)), (0, .ref (X.2.1 33))]) hx hb dX12_holds_3 rfl hl (by decide) rfl (fun ls hl => ?_)
  have lL4 : ∀ (n : Nat), ∀ (x1 : Int32) (x2 : Int32) (σ3 : sT) (H : Heap) (locs : List Loc) (ls : Array Slot), Wd (wM X) (tM X) (aM X) X s σ3 H locs → lv_has ls 4 [(0, .ref (X.2.1 33)), (1, .int x1), (2, .int x2)] → fMM_holds_L4 n x1 x2 σ3 = some (rz, σz) → W p l e rm_fMM_holds s m args below meth c H locs 0 0 (MQ below (va_Qi (fun a u => a = rz ∧ u = σz) (poW (wM X) (tM X) (aM X) X sz) (aA (aM X) sz)) args s 0 0 (aA (aM X) sz)) (F0 m 4 ls []) := by
    intro n
    induction n with
    | zero =>
      intro x1 x2 σ3 H locs ls Z hl h
      exact nomatch (show (none : Option (Int32 × sT)) = some _ from h)
    | succ n4 ih4 =>
      intro x1 x2 σ3 H locs ls Z hl h1
      unfold fMM_holds_L4 at h1
      refine lv_iload_n hx hb dX12_holds_4 rfl (lv_at hl 2 rfl) ?_
      refine lv_aload_n hx hb dX12_holds_5 rfl (lv_at hl 0 rfl) ?_
      refine g_33_29 B Z kf_RX12_300 dX12_holds_6 ?_
      refine lv_icmp_ge (tgt := 149) hx hb dX12_holds_9 (by decide) (fun c5 => ?_) (fun c5 => ?_)
      · have h2 := dit h1 c5
        clear h1
        refine lv_aload_n hx hb dX12_holds_149 rfl (lv_at hl 0 rfl) ?_
        refine g_33_35 B Z kf_RX12_53 dX12_holds_150 ?_
        refine lv_iconst (v := (0 : Int32)) hx hb dX12_holds_153 (by decide) ?_
        obtain ⟨z6, h3⟩ := dck_s h2
        clear h2
        refine ld_48 B Z z6 dX12_holds_154 ?_
        obtain ⟨z7, h4⟩ := dck_s h3
        clear h3
        exact reI B Z (okZ_n z7) hz h4 dX12_holds_155
      · have h5 := dif h1 c5
        clear h1
        refine lv_aload_n hx hb dX12_holds_12 rfl (lv_at hl 0 rfl) ?_
        refine g_33_28 B Z kf_RX12_47 dX12_holds_13 ?_
        refine lv_iload_n hx hb dX12_holds_16 rfl (lv_at hl 2 rfl) ?_
        obtain ⟨z8, h6⟩ := dck_s h5
        clear h5
        refine ld_46 B Z z8 dX12_holds_17 ?_
        refine lv_topi (fun x9 ex9 => ?_)
        have h7 := dlt_e ex9 h6
        clear ex9 h6
        refine lv_istore_n (lv' := [(3, .int x9), (0, .ref (X.2.1 33)), (1, .int x1), (2, .int x2)]) hx hb dX12_holds_18 rfl hl (by decide) rfl (fun ls hl => ?_)
        refine lv_iload_n hx hb dX12_holds_19 rfl (lv_at hl 0 rfl) ?_
        refine lv_if_lt (tgt := 40) hx hb dX12_holds_20 (by decide) (fun c10 => ?_) (fun c10 => ?_)
        · have h8 := dit h7 c10
          clear h7
          refine lv_iload_n hx hb dX12_holds_40 rfl (lv_at hl 0 rfl) ?_
          refine lv_bipush (v := (-33 : Int32)) hx hb dX12_holds_41 (by decide) ?_
          refine lv_icmp_ne (tgt := 73) hx hb dX12_holds_43 (by decide) (fun c11 => ?_) (fun c11 => ?_)
          · have h9 := dif h8 c11
            clear h8
            refine lv_iinc (v := x1 + (-1 : Int32)) (lv' := [(1, .int (x1 + (-1 : Int32))), (3, .int x9), (0, .ref (X.2.1 33)), (2, .int x2)]) hx hb dX12_holds_73 hl (k := 2) rfl (by rfl) (by decide) rfl (fun ls hl => ?_)
            refine lv_aload_n hx hb dX12_holds_76 rfl (lv_at hl 2 rfl) ?_
            refine g_33_35 B Z kf_RX12_53 dX12_holds_77 ?_
            refine lv_iload_n hx hb dX12_holds_80 rfl (lv_at hl 0 rfl) ?_
            refine lv_iconst (v := (1 : Int32)) hx hb dX12_holds_81 (by decide) ?_
            refine lv_isub hx hb dX12_holds_82 ?_
            refine lv_iload_n hx hb dX12_holds_83 rfl (lv_at hl 1 rfl) ?_
            refine lv_bipush (v := (-38 : Int32)) hx hb dX12_holds_84 (by decide) ?_
            obtain ⟨J14, eJ14, h13⟩ := dlt_s h9
            clear h9
            have kJ14 : ∀ (x12 : Int32) (x13 : Int32) (H : Heap) (locs : List Loc) (ls : Array Slot), Wd (wM X) (tM X) (aM X) X s σ3 H locs → lv_has ls 4 [(0, .ref (X.2.1 33)), (1, .int (x1 + (-1 : Int32))), (2, .int x2)] → J14 x12 x13 = some (rz, σz) → W p l e rm_fMM_holds s m args below meth c H locs 0 0 (MQ below (va_Qi (fun a u => a = rz ∧ u = σz) (poW (wM X) (tM X) (aM X) X sz) (aA (aM X) sz)) args s 0 0 (aA (aM X) sz)) (F0 m 142 ls [.int x13, .int x12, .ref (X.2.1 48)]) := by
              intro x12 x13 H locs ls Z hl h10
              rw [eJ14] at h10
              obtain ⟨z15, h11⟩ := dck_s h10
              clear h10
              refine st_48 B Z z15 dX12_holds_142 (fun H locs Z => ?_)
              obtain ⟨σ16, eσ16, h12⟩ := dlt_s h11
              clear h11
              replace Z := Wd.eq eσ16 Z
              clear eσ16
              refine lv_iinc (v := x2 + (1 : Int32)) (lv' := [(2, .int (x2 + (1 : Int32))), (0, .ref (X.2.1 33)), (1, .int (x1 + (-1 : Int32)))]) hx hb dX12_holds_143 hl (k := 2) rfl (by rfl) (by decide) rfl (fun ls hl => ?_)
              refine lv_goto (tgt := 4) hx hb dX12_holds_146 (by decide) ?_
              exact ih4 (x1 + (-1 : Int32)) (x2 + (1 : Int32)) σ16 _ _ _ Z (lv_sub hl [1, 2, 0] rfl) h12
            clear eJ14
            refine lv_icmp_ne (tgt := 117) hx hb dX12_holds_86 (by decide) (fun c17 => ?_) (fun c17 => ?_)
            · have h14 := dif h13 c17
              clear h13
              refine lv_aload_n hx hb dX12_holds_117 rfl (lv_at hl 2 rfl) ?_
              refine g_33_35 B Z kf_RX12_53 dX12_holds_118 ?_
              refine lv_iload_n hx hb dX12_holds_121 rfl (lv_at hl 0 rfl) ?_
              refine lv_iconst (v := (1 : Int32)) hx hb dX12_holds_122 (by decide) ?_
              refine lv_isub hx hb dX12_holds_123 ?_
              obtain ⟨z18, h15⟩ := dck_s h14
              clear h14
              refine ld_48 B Z z18 dX12_holds_124 ?_
              obtain ⟨J20, eJ20, h17⟩ := dlt_s h15
              clear h15
              have kJ20 : ∀ (x19 : Int32) (H : Heap) (locs : List Loc) (ls : Array Slot), Wd (wM X) (tM X) (aM X) X s σ3 H locs → lv_has ls 4 [(0, .ref (X.2.1 33)), (1, .int (x1 + (-1 : Int32))), (2, .int x2)] → J20 x19 = some (rz, σz) → W p l e rm_fMM_holds s m args below meth c H locs 0 0 (MQ below (va_Qi (fun a u => a = rz ∧ u = σz) (poW (wM X) (tM X) (aM X) X sz) (aA (aM X) sz)) args s 0 0 (aA (aM X) sz)) (F0 m 137 ls [.int x19, .ref (X.2.1 48)]) := by
                intro x19 H locs ls Z hl h16
                rw [eJ20] at h16
                refine lv_iconst (v := (1 : Int32)) hx hb dX12_holds_137 (by decide) ?_
                refine lv_goto (tgt := 142) hx hb dX12_holds_138 (by decide) ?_
                exact kJ14 x19 (1 : Int32) _ _ _ Z (lv_sub hl [0, 1, 2] rfl) h16
              clear eJ20
              refine lv_if_ne (tgt := 137) hx hb dX12_holds_125 (by decide) (fun c21 => ?_) (fun c21 => ?_)
              · have h18 := dif h17 c21
                clear h17
                exact kJ20 ((x1 + (-1 : Int32)) - (1 : Int32)) _ _ _ Z (lv_sub hl [2, 0, 3] rfl) h18
              · have h19 := dit h17 c21
                clear h17
                refine lv_aload_n hx hb dX12_holds_128 rfl (lv_at hl 2 rfl) ?_
                refine g_33_35 B Z kf_RX12_53 dX12_holds_129 ?_
                refine lv_iload_n hx hb dX12_holds_132 rfl (lv_at hl 0 rfl) ?_
                obtain ⟨z22, h20⟩ := dck_s h19
                clear h19
                refine ld_48 B Z z22 dX12_holds_133 ?_
                refine lv_if_eq (tgt := 141) hx hb dX12_holds_134 (by decide) (fun c23 => ?_) (fun c23 => ?_)
                · have h21 := dit h20 c23
                  clear h20
                  refine lv_iconst (v := (0 : Int32)) hx hb dX12_holds_141 (by decide) ?_
                  exact kJ14 ((x1 + (-1 : Int32)) - (1 : Int32)) (0 : Int32) _ _ _ Z (lv_sub hl [2, 0, 3] rfl) h21
                · have h22 := dif h20 c23
                  clear h20
                  exact kJ20 ((x1 + (-1 : Int32)) - (1 : Int32)) _ _ _ Z (lv_sub hl [2, 0, 3] rfl) h22
            · have h23 := dit h13 c17
              clear h13
              refine lv_aload_n hx hb dX12_holds_89 rfl (lv_at hl 2 rfl) ?_
              refine g_33_35 B Z kf_RX12_53 dX12_holds_90 ?_
              refine lv_iload_n hx hb dX12_holds_93 rfl (lv_at hl 0 rfl) ?_
              refine lv_iconst (v := (1 : Int32)) hx hb dX12_holds_94 (by decide) ?_
              refine lv_isub hx hb dX12_holds_95 ?_
              obtain ⟨z24, h24⟩ := dck_s h23
              clear h23
              refine ld_48 B Z z24 dX12_holds_96 ?_
              obtain ⟨J26, eJ26, h26⟩ := dlt_s h24
              clear h24
              have kJ26 : ∀ (x25 : Int32) (H : Heap) (locs : List Loc) (ls : Array Slot), Wd (wM X) (tM X) (aM X) X s σ3 H locs → lv_has ls 4 [(0, .ref (X.2.1 33)), (1, .int (x1 + (-1 : Int32))), (2, .int x2)] → J26 x25 = some (rz, σz) → W p l e rm_fMM_holds s m args below meth c H locs 0 0 (MQ below (va_Qi (fun a u => a = rz ∧ u = σz) (poW (wM X) (tM X) (aM X) X sz) (aA (aM X) sz)) args s 0 0 (aA (aM X) sz)) (F0 m 113 ls [.int x25, .ref (X.2.1 48)]) := by
                intro x25 H locs ls Z hl h25
                rw [eJ26] at h25
                refine lv_iconst (v := (0 : Int32)) hx hb dX12_holds_113 (by decide) ?_
                refine lv_goto (tgt := 142) hx hb dX12_holds_114 (by decide) ?_
                exact kJ14 x25 (0 : Int32) _ _ _ Z (lv_sub hl [0, 1, 2] rfl) h25
              clear eJ26
              refine lv_if_eq (tgt := 113) hx hb dX12_holds_97 (by decide) (fun c27 => ?_) (fun c27 => ?_)
              · have h27 := dit h26 c27
                clear h26
                exact kJ26 ((x1 + (-1 : Int32)) - (1 : Int32)) _ _ _ Z (lv_sub hl [2, 0, 3] rfl) h27
              · have h28 := dif h26 c27
                clear h26
                refine lv_aload_n hx hb dX12_holds_100 rfl (lv_at hl 2 rfl) ?_
                refine g_33_35 B Z kf_RX12_53 dX12_holds_101 ?_
                refine lv_iload_n hx hb dX12_holds_104 rfl (lv_at hl 0 rfl) ?_
                obtain ⟨z28, h29⟩ := dck_s h28
                clear h28
                refine ld_48 B Z z28 dX12_holds_105 ?_
                refine lv_if_eq (tgt := 113) hx hb dX12_holds_106 (by decide) (fun c29 => ?_) (fun c29 => ?_)
                · have h30 := dit h29 c29
                  clear h29
                  exact kJ26 ((x1 + (-1 : Int32)) - (1 : Int32)) _ _ _ Z (lv_sub hl [2, 0, 3] rfl) h30
                · have h31 := dif h29 c29
                  clear h29
                  refine lv_iconst (v := (1 : Int32)) hx hb dX12_holds_109 (by decide) ?_
                  refine lv_goto (tgt := 142) hx hb dX12_holds_110 (by decide) ?_
                  exact kJ14 ((x1 + (-1 : Int32)) - (1 : Int32)) (1 : Int32) _ _ _ Z (lv_sub hl [2, 0, 3] rfl) h31
          · have h32 := dit h8 c11
            clear h8
            refine lv_aload_n hx hb dX12_holds_46 rfl (lv_at hl 1 rfl) ?_
            refine g_33_35 B Z kf_RX12_53 dX12_holds_47 ?_
            refine lv_iload_n hx hb dX12_holds_50 rfl (lv_at hl 2 rfl) ?_
            refine lv_iconst (v := (1 : Int32)) hx hb dX12_holds_51 (by decide) ?_
            refine lv_isub hx hb dX12_holds_52 ?_
            refine lv_aload_n hx hb dX12_holds_53 rfl (lv_at hl 1 rfl) ?_
            refine g_33_35 B Z kf_RX12_53 dX12_holds_54 ?_
            refine lv_iload_n hx hb dX12_holds_57 rfl (lv_at hl 2 rfl) ?_
            refine lv_iconst (v := (1 : Int32)) hx hb dX12_holds_58 (by decide) ?_
            refine lv_isub hx hb dX12_holds_59 ?_
            obtain ⟨z30, h33⟩ := dck_s h32
            clear h32
            refine ld_48 B Z z30 dX12_holds_60 ?_
            obtain ⟨J33, eJ33, h37⟩ := dlt_s h33
            clear h33
            have kJ33 : ∀ (x31 : Int32) (x32 : Int32) (H : Heap) (locs : List Loc) (ls : Array Slot), Wd (wM X) (tM X) (aM X) X s σ3 H locs → lv_has ls 4 [(0, .ref (X.2.1 33)), (1, .int x1), (2, .int x2)] → J33 x31 x32 = some (rz, σz) → W p l e rm_fMM_holds s m args below meth c H locs 0 0 (MQ below (va_Qi (fun a u => a = rz ∧ u = σz) (poW (wM X) (tM X) (aM X) X sz) (aA (aM X) sz)) args s 0 0 (aA (aM X) sz)) (F0 m 69 ls [.int x32, .int x31, .ref (X.2.1 48)]) := by
              intro x31 x32 H locs ls Z hl h34
              rw [eJ33] at h34
              obtain ⟨z34, h35⟩ := dck_s h34
              clear h34
              refine st_48 B Z z34 dX12_holds_69 (fun H locs Z => ?_)
              obtain ⟨σ35, eσ35, h36⟩ := dlt_s h35
              clear h35
              replace Z := Wd.eq eσ35 Z
              clear eσ35
              refine lv_goto (tgt := 143) hx hb dX12_holds_70 (by decide) ?_
              refine lv_iinc (v := x2 + (1 : Int32)) (lv' := [(2, .int (x2 + (1 : Int32))), (0, .ref (X.2.1 33)), (1, .int x1)]) hx hb dX12_holds_143 hl (k := 2) rfl (by rfl) (by decide) rfl (fun ls hl => ?_)
              refine lv_goto (tgt := 4) hx hb dX12_holds_146 (by decide) ?_
              exact ih4 x1 (x2 + (1 : Int32)) σ35 _ _ _ Z (lv_sub hl [1, 2, 0] rfl) h36
            clear eJ33
            refine lv_if_ne (tgt := 68) hx hb dX12_holds_61 (by decide) (fun c36 => ?_) (fun c36 => ?_)
            · have h38 := dif h37 c36
              clear h37
              refine lv_iconst (v := (0 : Int32)) hx hb dX12_holds_68 (by decide) ?_
              exact kJ33 (x1 - (1 : Int32)) (0 : Int32) _ _ _ Z (lv_sub hl [1, 2, 3] rfl) h38
            · have h39 := dit h37 c36
              clear h37
              refine lv_iconst (v := (1 : Int32)) hx hb dX12_holds_64 (by decide) ?_
              refine lv_goto (tgt := 69) hx hb dX12_holds_65 (by decide) ?_
              exact kJ33 (x1 - (1 : Int32)) (1 : Int32) _ _ _ Z (lv_sub hl [1, 2, 3] rfl) h39
        · have h40 := dif h7 c10
          clear h7
          refine lv_aload_n hx hb dX12_holds_23 rfl (lv_at hl 1 rfl) ?_
          refine g_33_35 B Z kf_RX12_53 dX12_holds_24 ?_
          refine lv_iload_n hx hb dX12_holds_27 rfl (lv_at hl 2 rfl) ?_
          refine lv_aload_n hx hb dX12_holds_28 rfl (lv_at hl 1 rfl) ?_
          refine lv_iload_n hx hb dX12_holds_29 rfl (lv_at hl 0 rfl) ?_
          obtain ⟨r38, hc36, h41⟩ := db1_s h40
          clear h40
          refine cV_I [.int x9] [.int x1, .ref (X.2.1 48)] B mx_yX12_isTrue (c_fMM_isTrue l X _ x9 σ3 r38 hc36) kl_RX12_347 mi_yX12_isTrue (rv_33 _ _) hcl_12 Z hl rfl rfl ⟨Nat.le_of_ble_eq_true rfl, Nat.le_of_ble_eq_true rfl⟩ rfl rfl (Nat.le_of_ble_eq_true rfl) dX12_holds_30 (fun H locs Z => ?_)
          clear hc36
          obtain ⟨z39, h42⟩ := dck_s h41
          clear h41
          refine st_48 B Z z39 dX12_holds_33 (fun H locs Z => ?_)
          obtain ⟨σ40, eσ40, h43⟩ := dlt_s h42
          clear h42
          replace Z := Wd.eq eσ40 Z
          clear eσ40
          refine lv_iinc (v := x1 + (1 : Int32)) (lv' := [(1, .int (x1 + (1 : Int32))), (3, .int x9), (0, .ref (X.2.1 33)), (2, .int x2)]) hx hb dX12_holds_34 hl (k := 2) rfl (by rfl) (by decide) rfl (fun ls hl => ?_)
          refine lv_goto (tgt := 143) hx hb dX12_holds_37 (by decide) ?_
          refine lv_iinc (v := x2 + (1 : Int32)) (lv' := [(2, .int (x2 + (1 : Int32))), (1, .int (x1 + (1 : Int32))), (3, .int x9), (0, .ref (X.2.1 33))]) hx hb dX12_holds_143 hl (k := 3) rfl (by rfl) (by decide) rfl (fun ls hl => ?_)
          refine lv_goto (tgt := 4) hx hb dX12_holds_146 (by decide) ?_
          exact ih4 (x1 + (1 : Int32)) (x2 + (1 : Int32)) σ40 _ _ _ Z (lv_sub hl [3, 1, 0] rfl) h43
  exact lL4 FU (0 : Int32) (0 : Int32) σ _ _ _ Z (lv_sub hl [2, 1, 0] rfl) h0
theorem dX12_formulaOf_0 : decode cX12_formulaOf 0 = .ok (.iconst 0, 1) := by decide +kernel
theorem dX12_formulaOf_1 : decode cX12_formulaOf 1 = .ok (.istore_n 2, 1) := by decide +kernel
theorem dX12_formulaOf_2 : decode cX12_formulaOf 2 = .ok (.iconst 0, 1) := by decide +kernel
theorem dX12_formulaOf_3 : decode cX12_formulaOf 3 = .ok (.istore_n 3, 1) := by decide +kernel
theorem dX12_formulaOf_4 : decode cX12_formulaOf 4 = .ok (.iload_n 3, 1) := by decide +kernel
theorem dX12_formulaOf_5 : decode cX12_formulaOf 5 = .ok (.aload_n 0, 1) := by decide +kernel
theorem dX12_formulaOf_6 : decode cX12_formulaOf 6 = .ok (.invokevirtual 284, 3) := by decide +kernel
theorem dX12_formulaOf_9 : decode cX12_formulaOf 9 = .ok (.if_icmp .ge 37, 3) := by decide +kernel
theorem dX12_formulaOf_12 : decode cX12_formulaOf 12 = .ok (.iload_n 2, 1) := by decide +kernel
theorem dX12_formulaOf_13 : decode cX12_formulaOf 13 = .ok (.aload_n 0, 1) := by decide +kernel
theorem dX12_formulaOf_14 : decode cX12_formulaOf 14 = .ok (.iload_n 3, 1) := by decide +kernel
theorem dX12_formulaOf_15 : decode cX12_formulaOf 15 = .ok (.invokevirtual 287, 3) := by decide +kernel
theorem dX12_formulaOf_18 : decode cX12_formulaOf 18 = .ok (.ifCond .eq 19, 3) := by decide +kernel
theorem dX12_formulaOf_21 : decode cX12_formulaOf 21 = .ok (.iload_n 1, 1) := by decide +kernel
theorem dX12_formulaOf_22 : decode cX12_formulaOf 22 = .ok (.iconst 1, 1) := by decide +kernel
theorem dX12_formulaOf_23 : decode cX12_formulaOf 23 = .ok (.if_icmp .eq 10, 3) := by decide +kernel
theorem dX12_formulaOf_26 : decode cX12_formulaOf 26 = .ok (.aload_n 0, 1) := by decide +kernel
theorem dX12_formulaOf_27 : decode cX12_formulaOf 27 = .ok (.invokevirtual 350, 3) := by decide +kernel
theorem dX12_formulaOf_30 : decode cX12_formulaOf 30 = .ok (.ifCond .eq 7, 3) := by decide +kernel
theorem dX12_formulaOf_33 : decode cX12_formulaOf 33 = .ok (.iconst 1, 1) := by decide +kernel
theorem dX12_formulaOf_34 : decode cX12_formulaOf 34 = .ok (.goto 4, 3) := by decide +kernel
theorem dX12_formulaOf_37 : decode cX12_formulaOf 37 = .ok (.iconst 0, 1) := by decide +kernel
theorem dX12_formulaOf_38 : decode cX12_formulaOf 38 = .ok (.iadd, 1) := by decide +kernel
theorem dX12_formulaOf_39 : decode cX12_formulaOf 39 = .ok (.istore_n 2, 1) := by decide +kernel
theorem dX12_formulaOf_40 : decode cX12_formulaOf 40 = .ok (.iinc 3 1, 3) := by decide +kernel
theorem dX12_formulaOf_43 : decode cX12_formulaOf 43 = .ok (.goto (-39), 3) := by decide +kernel
theorem dX12_formulaOf_46 : decode cX12_formulaOf 46 = .ok (.iload_n 2, 1) := by decide +kernel
theorem dX12_formulaOf_47 : decode cX12_formulaOf 47 = .ok (.ireturn, 1) := by decide +kernel
def rm_fMM_formulaOf : Room := { frames := 6, cells := 0, slots := 0, locals := 192 }
set_option maxHeartbeats 4000000 in
set_option maxRecDepth 100000 in
theorem c_fMM_formulaOf (l : Launch) (X : eX) (sz : Nat) (a1 : Int32) (σ : sT) (rz : Int32) (σz : sT) (h0 : fMM_formulaOf a1 σ = some (rz, σz)) : ctI l yX12_formulaOf cX12_formulaOf 4 (some .int) rm_fMM_formulaOf [.ref (X.2.1 33), .int a1] (wM X) (tM X) (aM X) X sz σ rz σz := by
  refine ct_of (by decide +kernel) (Nat.le_of_ble_eq_true rfl) ?_
  intro p e s m args below meth c ls hz B hl Z
  have B : Bd p s m args meth c RX12 cX12_formulaOf 4 (some .int) := B
  have hl : lv_has ls 4 [(0, .ref (X.2.1 33)), (1, .int a1)] := hl
  have hx := B.1
  have hb := B.2.1
  unfold fMM_formulaOf at h0
  refine lv_iconst (v := (0 : Int32)) hx hb dX12_formulaOf_0 (by decide) ?_
  refine lv_istore_n (lv' := [(2, .int (0 : Int32)), (0, .ref (X.2.1 33)), (1, .int a1)]) hx hb dX12_formulaOf_1 rfl hl (by decide) rfl (fun ls hl => ?_)
  refine lv_iconst (v := (0 : Int32)) hx hb dX12_formulaOf_2 (by decide) ?_
  refine lv_istore_n (lv' := [(3, .int (0 : Int32)), (2, .int (0 : Int32)), (0, .ref (X.2.1 33)), (1, .int a1)]) hx hb dX12_formulaOf_3 rfl hl (by decide) rfl (fun ls hl => ?_)
  have lL4 : ∀ (n : Nat), ∀ (x1 : Int32) (x2 : Int32) (σ3 : sT) (H : Heap) (locs : List Loc) (ls : Array Slot), Wd (wM X) (tM X) (aM X) X s σ3 H locs → lv_has ls 4 [(0, .ref (X.2.1 33)), (1, .int a1), (2, .int x1), (3, .int x2)] → fMM_formulaOf_L4 a1 n x1 x2 σ3 = some (rz, σz) → W p l e rm_fMM_formulaOf s m args below meth c H locs 0 0 (MQ below (va_Qi (fun a u => a = rz ∧ u = σz) (poW (wM X) (tM X) (aM X) X sz) (aA (aM X) sz)) args s 0 0 (aA (aM X) sz)) (F0 m 4 ls []) := by
    intro n
    induction n with
    | zero =>
      intro x1 x2 σ3 H locs ls Z hl h
      exact nomatch (show (none : Option (Int32 × sT)) = some _ from h)
    | succ n4 ih4 =>
      intro x1 x2 σ3 H locs ls Z hl h1
      unfold fMM_formulaOf_L4 at h1
      refine lv_iload_n hx hb dX12_formulaOf_4 rfl (lv_at hl 3 rfl) ?_
      refine lv_aload_n hx hb dX12_formulaOf_5 rfl (lv_at hl 0 rfl) ?_
      obtain ⟨r6, hc4, h2⟩ := db1_s h1
      clear h1
      refine cV_I [] [.int x2] B mx_yX12_many (c_fMM_many l X _ σ3 r6 hc4) kl_RX12_284 mi_yX12_many (rv_33 _ _) hcl_12 Z hl rfl rfl ⟨Nat.le_of_ble_eq_true rfl, Nat.le_of_ble_eq_true rfl⟩ rfl rfl (Nat.le_of_ble_eq_true rfl) dX12_formulaOf_6 (fun H locs Z => ?_)
      clear hc4
      refine lv_icmp_ge (tgt := 46) hx hb dX12_formulaOf_9 (by decide) (fun c7 => ?_) (fun c7 => ?_)
      · have h3 := dit h2 c7
        clear h2
        refine lv_iload_n hx hb dX12_formulaOf_46 rfl (lv_at hl 2 rfl) ?_
        exact reI B Z rfl hz h3 dX12_formulaOf_47
      · have h4 := dif h2 c7
        clear h2
        refine lv_iload_n hx hb dX12_formulaOf_12 rfl (lv_at hl 2 rfl) ?_
        refine lv_aload_n hx hb dX12_formulaOf_13 rfl (lv_at hl 0 rfl) ?_
        refine lv_iload_n hx hb dX12_formulaOf_14 rfl (lv_at hl 3 rfl) ?_
        obtain ⟨r9, σ10, hc7, h5⟩ := db2_s h4
        clear h4
        refine cV_I [.int x2] [.int x1] B mx_yX12_canSides (c_fMM_canSides l X _ x2 σ3 r9 σ10 hc7) kl_RX12_287 mi_yX12_canSides (rv_33 _ _) hcl_12 Z hl rfl rfl ⟨Nat.le_of_ble_eq_true rfl, Nat.le_of_ble_eq_true rfl⟩ rfl rfl (Nat.le_of_ble_eq_true rfl) dX12_formulaOf_15 (fun H locs Z => ?_)
        clear hc7
        refine lv_if_eq (tgt := 37) hx hb dX12_formulaOf_18 (by decide) (fun c11 => ?_) (fun c11 => ?_)
        · have h6 := dit h5 c11
          clear h5
          refine lv_iconst (v := (0 : Int32)) hx hb dX12_formulaOf_37 (by decide) ?_
          refine lv_iadd hx hb dX12_formulaOf_38 ?_
          refine lv_topi (fun x12 ex12 => ?_)
          have h7 := dlt_e ex12 h6
          clear ex12 h6
          refine lv_istore_n (lv' := [(2, .int x12), (0, .ref (X.2.1 33)), (1, .int a1), (3, .int x2)]) hx hb dX12_formulaOf_39 rfl hl (by decide) rfl (fun ls hl => ?_)
          refine lv_iinc (v := x2 + (1 : Int32)) (lv' := [(3, .int (x2 + (1 : Int32))), (2, .int x12), (0, .ref (X.2.1 33)), (1, .int a1)]) hx hb dX12_formulaOf_40 hl (k := 3) rfl (by rfl) (by decide) rfl (fun ls hl => ?_)
          refine lv_goto (tgt := 4) hx hb dX12_formulaOf_43 (by decide) ?_
          exact ih4 x12 (x2 + (1 : Int32)) σ10 _ _ _ Z (lv_sub hl [2, 3, 1, 0] rfl) h7
        · have h8 := dif h5 c11
          clear h5
          refine lv_iload_n hx hb dX12_formulaOf_21 rfl (lv_at hl 1 rfl) ?_
          refine lv_iconst (v := (1 : Int32)) hx hb dX12_formulaOf_22 (by decide) ?_
          refine lv_icmp_eq (tgt := 33) hx hb dX12_formulaOf_23 (by decide) (fun c13 => ?_) (fun c13 => ?_)
          · have h9 := dit h8 c13
            clear h8
            refine lv_iconst (v := (1 : Int32)) hx hb dX12_formulaOf_33 (by decide) ?_
            refine lv_goto (tgt := 38) hx hb dX12_formulaOf_34 (by decide) ?_
            refine lv_iadd hx hb dX12_formulaOf_38 ?_
            refine lv_topi (fun x14 ex14 => ?_)
            have h10 := dlt_e ex14 h9
            clear ex14 h9
            refine lv_istore_n (lv' := [(2, .int x14), (0, .ref (X.2.1 33)), (1, .int a1), (3, .int x2)]) hx hb dX12_formulaOf_39 rfl hl (by decide) rfl (fun ls hl => ?_)
            refine lv_iinc (v := x2 + (1 : Int32)) (lv' := [(3, .int (x2 + (1 : Int32))), (2, .int x14), (0, .ref (X.2.1 33)), (1, .int a1)]) hx hb dX12_formulaOf_40 hl (k := 3) rfl (by rfl) (by decide) rfl (fun ls hl => ?_)
            refine lv_goto (tgt := 4) hx hb dX12_formulaOf_43 (by decide) ?_
            exact ih4 x14 (x2 + (1 : Int32)) σ10 _ _ _ Z (lv_sub hl [2, 3, 1, 0] rfl) h10
          · have h11 := dif h8 c13
            clear h8
            refine lv_aload_n hx hb dX12_formulaOf_26 rfl (lv_at hl 0 rfl) ?_
            obtain ⟨r16, σ17, hc14, h12⟩ := db2_s h11
            clear h11
            refine cV_I [] [.int x1] B mx_yX12_holds (c_fMM_holds l X _ σ10 r16 σ17 hc14) kl_RX12_350 mi_yX12_holds (rv_33 _ _) hcl_12 Z hl rfl rfl ⟨Nat.le_of_ble_eq_true rfl, Nat.le_of_ble_eq_true rfl⟩ rfl rfl (Nat.le_of_ble_eq_true rfl) dX12_formulaOf_27 (fun H locs Z => ?_)
            clear hc14
            refine lv_if_eq (tgt := 37) hx hb dX12_formulaOf_30 (by decide) (fun c18 => ?_) (fun c18 => ?_)
            · have h13 := dit h12 c18
              clear h12
              refine lv_iconst (v := (0 : Int32)) hx hb dX12_formulaOf_37 (by decide) ?_
              refine lv_iadd hx hb dX12_formulaOf_38 ?_
              refine lv_topi (fun x19 ex19 => ?_)
              have h14 := dlt_e ex19 h13
              clear ex19 h13
              refine lv_istore_n (lv' := [(2, .int x19), (0, .ref (X.2.1 33)), (1, .int a1), (3, .int x2)]) hx hb dX12_formulaOf_39 rfl hl (by decide) rfl (fun ls hl => ?_)
              refine lv_iinc (v := x2 + (1 : Int32)) (lv' := [(3, .int (x2 + (1 : Int32))), (2, .int x19), (0, .ref (X.2.1 33)), (1, .int a1)]) hx hb dX12_formulaOf_40 hl (k := 3) rfl (by rfl) (by decide) rfl (fun ls hl => ?_)
              refine lv_goto (tgt := 4) hx hb dX12_formulaOf_43 (by decide) ?_
              exact ih4 x19 (x2 + (1 : Int32)) σ17 _ _ _ Z (lv_sub hl [2, 3, 1, 0] rfl) h14
            · have h15 := dif h12 c18
              clear h12
              refine lv_iconst (v := (1 : Int32)) hx hb dX12_formulaOf_33 (by decide) ?_
              refine lv_goto (tgt := 38) hx hb dX12_formulaOf_34 (by decide) ?_
              refine lv_iadd hx hb dX12_formulaOf_38 ?_
              refine lv_topi (fun x20 ex20 => ?_)
              have h16 := dlt_e ex20 h15
              clear ex20 h15
              refine lv_istore_n (lv' := [(2, .int x20), (0, .ref (X.2.1 33)), (1, .int a1), (3, .int x2)]) hx hb dX12_formulaOf_39 rfl hl (by decide) rfl (fun ls hl => ?_)
              refine lv_iinc (v := x2 + (1 : Int32)) (lv' := [(3, .int (x2 + (1 : Int32))), (2, .int x20), (0, .ref (X.2.1 33)), (1, .int a1)]) hx hb dX12_formulaOf_40 hl (k := 3) rfl (by rfl) (by decide) rfl (fun ls hl => ?_)
              refine lv_goto (tgt := 4) hx hb dX12_formulaOf_43 (by decide) ?_
              exact ih4 x20 (x2 + (1 : Int32)) σ17 _ _ _ Z (lv_sub hl [2, 3, 1, 0] rfl) h16
  exact lL4 FU (0 : Int32) (0 : Int32) σ _ _ _ Z (lv_sub hl [2, 3, 1, 0] rfl) h0
theorem dX12_formula_0 : decode cX12_formula 0 = .ok (.iload_n 1, 1) := by decide +kernel
theorem dX12_formula_1 : decode cX12_formula 1 = .ok (.i2l, 1) := by decide +kernel
theorem dX12_formula_2 : decode cX12_formula 2 = .ok (.lconst 0, 1) := by decide +kernel
theorem dX12_formula_3 : decode cX12_formula 3 = .ok (.ldc2_w 162, 3) := by decide +kernel
theorem dX12_formula_6 : decode cX12_formula 6 = .ok (.invokestatic 68, 3) := by decide +kernel
theorem dX12_formula_9 : decode cX12_formula 9 = .ok (.ifCond .ne 10, 3) := by decide +kernel
theorem dX12_formula_12 : decode cX12_formula 12 = .ok (.aload_n 0, 1) := by decide +kernel
theorem dX12_formula_13 : decode cX12_formula 13 = .ok (.ldc 63, 2) := by decide +kernel
theorem dX12_formula_15 : decode cX12_formula 15 = .ok (.invokevirtual 168, 3) := by decide +kernel
theorem dX12_formula_18 : decode cX12_formula 18 = .ok (.ireturn, 1) := by decide +kernel
theorem dX12_formula_19 : decode cX12_formula 19 = .ok (.aload_n 0, 1) := by decide +kernel
theorem dX12_formula_20 : decode cX12_formula 20 = .ok (.invokevirtual 353, 3) := by decide +kernel
theorem dX12_formula_23 : decode cX12_formula 23 = .ok (.ifCond .ne 11, 3) := by decide +kernel
theorem dX12_formula_26 : decode cX12_formula 26 = .ok (.bipush (-10), 2) := by decide +kernel
theorem dX12_formula_28 : decode cX12_formula 28 = .ok (.aload_n 0, 1) := by decide +kernel
theorem dX12_formula_29 : decode cX12_formula 29 = .ok (.getfield 290, 3) := by decide +kernel
theorem dX12_formula_32 : decode cX12_formula 32 = .ok (.isub, 1) := by decide +kernel
theorem dX12_formula_33 : decode cX12_formula 33 = .ok (.ireturn, 1) := by decide +kernel
theorem dX12_formula_34 : decode cX12_formula 34 = .ok (.aload_n 0, 1) := by decide +kernel
theorem dX12_formula_35 : decode cX12_formula 35 = .ok (.invokevirtual 356, 3) := by decide +kernel
theorem dX12_formula_38 : decode cX12_formula 38 = .ok (.istore_n 2, 1) := by decide +kernel
theorem dX12_formula_39 : decode cX12_formula 39 = .ok (.iload_n 2, 1) := by decide +kernel
theorem dX12_formula_40 : decode cX12_formula 40 = .ok (.invokestatic 278, 3) := by decide +kernel
theorem dX12_formula_43 : decode cX12_formula 43 = .ok (.iconst 5, 1) := by decide +kernel
theorem dX12_formula_44 : decode cX12_formula 44 = .ok (.if_icmp .le 10, 3) := by decide +kernel
theorem dX12_formula_47 : decode cX12_formula 47 = .ok (.aload_n 0, 1) := by decide +kernel
theorem dX12_formula_48 : decode cX12_formula 48 = .ok (.ldc 201, 2) := by decide +kernel
theorem dX12_formula_50 : decode cX12_formula 50 = .ok (.invokevirtual 168, 3) := by decide +kernel
theorem dX12_formula_53 : decode cX12_formula 53 = .ok (.ireturn, 1) := by decide +kernel
theorem dX12_formula_54 : decode cX12_formula 54 = .ok (.aload_n 0, 1) := by decide +kernel
theorem dX12_formula_55 : decode cX12_formula 55 = .ok (.iload_n 2, 1) := by decide +kernel
theorem dX12_formula_56 : decode cX12_formula 56 = .ok (.invokevirtual 281, 3) := by decide +kernel
theorem dX12_formula_59 : decode cX12_formula 59 = .ok (.iload_n 1, 1) := by decide +kernel
theorem dX12_formula_60 : decode cX12_formula 60 = .ok (.iconst 2, 1) := by decide +kernel
theorem dX12_formula_61 : decode cX12_formula 61 = .ok (.if_icmp .ne 7, 3) := by decide +kernel
theorem dX12_formula_64 : decode cX12_formula 64 = .ok (.iload_n 2, 1) := by decide +kernel
theorem dX12_formula_65 : decode cX12_formula 65 = .ok (.goto 8, 3) := by decide +kernel
theorem dX12_formula_68 : decode cX12_formula 68 = .ok (.aload_n 0, 1) := by decide +kernel
theorem dX12_formula_69 : decode cX12_formula 69 = .ok (.iload_n 1, 1) := by decide +kernel
theorem dX12_formula_70 : decode cX12_formula 70 = .ok (.invokevirtual 359, 3) := by decide +kernel
theorem dX12_formula_73 : decode cX12_formula 73 = .ok (.ireturn, 1) := by decide +kernel
def rm_fMM_formula : Room := { frames := 7, cells := 0, slots := 0, locals := 215 }
set_option maxHeartbeats 4000000 in
set_option maxRecDepth 100000 in
theorem c_fMM_formula (l : Launch) (X : eX) (sz : Nat) (a1 : Int32) (σ : sT) (rz : Int32) (σz : sT) (h0 : fMM_formula a1 σ = some (rz, σz)) : ctI l yX12_formula cX12_formula 3 (some .int) rm_fMM_formula [.ref (X.2.1 33), .int a1] (wM X) (tM X) (aM X) X sz σ rz σz := by
  refine ct_of (by decide +kernel) (Nat.le_of_ble_eq_true rfl) ?_
  intro p e s m args below meth c ls hz B hl Z
  have B : Bd p s m args meth c RX12 cX12_formula 3 (some .int) := B
  have hl : lv_has ls 3 [(0, .ref (X.2.1 33)), (1, .int a1)] := hl
  have hx := B.1
  have hb := B.2.1
  unfold fMM_formula at h0
  refine lv_iload_n hx hb dX12_formula_0 rfl (lv_at hl 1 rfl) ?_
  refine lv_i2l hx hb dX12_formula_1 rfl ?_
  refine lv_lconst (v := (0 : Int64)) hx hb dX12_formula_2 (by decide) ?_
  refine lv_ldc2 hx hb B.2.2.2.1 (B.2.2.2.2.1 _ kc_RX12_162) dX12_formula_3 ?_
  obtain ⟨r2, hc0, h1⟩ := db1_s h0
  clear h0
  refine cS_I [.long a1.toInt64, .long (0 : Int64), .long (2 : Int64)] [] B mx_yX12_in (c_fMM_in l X _ a1.toInt64 (0 : Int64) (2 : Int64) σ r2 hc0) kl_RX12_68 ks_yX12_in Z hl rfl rfl ⟨Nat.le_of_ble_eq_true rfl, Nat.le_of_ble_eq_true rfl⟩ rfl rfl (Nat.le_of_ble_eq_true rfl) dX12_formula_6 (fun H locs Z => ?_)
  clear hc0
  refine lv_if_ne (tgt := 19) hx hb dX12_formula_9 (by decide) (fun c3 => ?_) (fun c3 => ?_)
  · have h2 := dif h1 c3
    clear h1
    refine lv_aload_n hx hb dX12_formula_19 rfl (lv_at hl 0 rfl) ?_
    obtain ⟨r5, σ6, hc3, h3⟩ := db2_s h2
    clear h2
    refine cV_I [] [] B mx_yX12_readsFormula (c_fMM_readsFormula l X _ σ r5 σ6 hc3) kl_RX12_353 mi_yX12_readsFormula (rv_33 _ _) hcl_12 Z hl rfl rfl ⟨Nat.le_of_ble_eq_true rfl, Nat.le_of_ble_eq_true rfl⟩ rfl rfl (Nat.le_of_ble_eq_true rfl) dX12_formula_20 (fun H locs Z => ?_)
    clear hc3
    refine lv_if_ne (tgt := 34) hx hb dX12_formula_23 (by decide) (fun c7 => ?_) (fun c7 => ?_)
    · have h4 := dif h3 c7
      clear h3
      refine lv_aload_n hx hb dX12_formula_34 rfl (lv_at hl 0 rfl) ?_
      obtain ⟨r9, hc7, h5⟩ := db1_s h4
      clear h4
      refine cV_I [] [] B mx_yX12_named (c_fMM_named l X _ σ6 r9 hc7) kl_RX12_356 mi_yX12_named (rv_33 _ _) hcl_12 Z hl rfl rfl ⟨Nat.le_of_ble_eq_true rfl, Nat.le_of_ble_eq_true rfl⟩ rfl rfl (Nat.le_of_ble_eq_true rfl) dX12_formula_35 (fun H locs Z => ?_)
      clear hc7
      refine lv_istore_n (lv' := [(2, .int r9), (0, .ref (X.2.1 33)), (1, .int a1)]) hx hb dX12_formula_38 rfl hl (by decide) rfl (fun ls hl => ?_)
      refine lv_iload_n hx hb dX12_formula_39 rfl (lv_at hl 0 rfl) ?_
      obtain ⟨r11, hc9, h6⟩ := db1_s h5
      clear h5
      refine cS_I [.int r9] [] B mx_yX12_ones (c_fMM_ones l X _ r9 σ6 r11 hc9) kl_RX12_278 ks_yX12_ones Z hl rfl rfl ⟨Nat.le_of_ble_eq_true rfl, Nat.le_of_ble_eq_true rfl⟩ rfl rfl (Nat.le_of_ble_eq_true rfl) dX12_formula_40 (fun H locs Z => ?_)
      clear hc9
      refine lv_iconst (v := (5 : Int32)) hx hb dX12_formula_43 (by decide) ?_
      refine lv_icmp_le (tgt := 54) hx hb dX12_formula_44 (by decide) (fun c12 => ?_) (fun c12 => ?_)
      · have h7 := dit h6 c12
        clear h6
        refine lv_aload_n hx hb dX12_formula_54 rfl (lv_at hl 1 rfl) ?_
        refine lv_iload_n hx hb dX12_formula_55 rfl (lv_at hl 0 rfl) ?_
        obtain ⟨σ14, hc12, h8⟩ := db1_s h7
        clear h7
        refine cV_V [.int r9] [] B mx_yX12_laysSides (c_fMM_laysSides l X _ r9 σ6 σ14 hc12) kl_RX12_281 mi_yX12_laysSides (rv_33 _ _) hcl_12 Z hl rfl rfl ⟨Nat.le_of_ble_eq_true rfl, Nat.le_of_ble_eq_true rfl⟩ rfl rfl (Nat.le_of_ble_eq_true rfl) dX12_formula_56 (fun H locs Z => ?_)
        clear hc12
        refine lv_iload_n hx hb dX12_formula_59 rfl (lv_at hl 2 rfl) ?_
        refine lv_iconst (v := (2 : Int32)) hx hb dX12_formula_60 (by decide) ?_
        refine lv_icmp_ne (tgt := 68) hx hb dX12_formula_61 (by decide) (fun c15 => ?_) (fun c15 => ?_)
        · have h9 := dif h8 c15
          clear h8
          refine lv_aload_n hx hb dX12_formula_68 rfl (lv_at hl 1 rfl) ?_
          refine lv_iload_n hx hb dX12_formula_69 rfl (lv_at hl 2 rfl) ?_
          obtain ⟨r17, σ18, hc15, h10⟩ := db2_s h9
          clear h9
          refine cV_I [.int a1] [] B mx_yX12_formulaOf (c_fMM_formulaOf l X _ a1 σ14 r17 σ18 hc15) kl_RX12_359 mi_yX12_formulaOf (rv_33 _ _) hcl_12 Z hl rfl rfl ⟨Nat.le_of_ble_eq_true rfl, Nat.le_of_ble_eq_true rfl⟩ rfl rfl (Nat.le_of_ble_eq_true rfl) dX12_formula_70 (fun H locs Z => ?_)
          clear hc15
          exact reI B Z rfl hz h10 dX12_formula_73
        · have h11 := dit h8 c15
          clear h8
          refine lv_iload_n hx hb dX12_formula_64 rfl (lv_at hl 0 rfl) ?_
          refine lv_goto (tgt := 73) hx hb dX12_formula_65 (by decide) ?_
          exact reI B Z rfl hz h11 dX12_formula_73
      · have h12 := dif h6 c12
        clear h6
        refine lv_aload_n hx hb dX12_formula_47 rfl (lv_at hl 1 rfl) ?_
        refine lv_ldc hx hb B.2.2.2.1 (B.2.2.2.2.1 _ kc_RX12_201) dX12_formula_48 ?_
        obtain ⟨r20, σ21, hc18, h13⟩ := db2_s h12
        clear h12
        refine cV_I [.int (-1000003 : Int32)] [] B mx_yX12_refuses (c_fMM_refuses l X _ (-1000003 : Int32) σ6 r20 σ21 hc18) kl_RX12_168 mi_yX12_refuses (rv_33 _ _) hcl_12 Z hl rfl rfl ⟨Nat.le_of_ble_eq_true rfl, Nat.le_of_ble_eq_true rfl⟩ rfl rfl (Nat.le_of_ble_eq_true rfl) dX12_formula_50 (fun H locs Z => ?_)
        clear hc18
        exact reI B Z rfl hz h13 dX12_formula_53
    · have h14 := dit h3 c7
      clear h3
      refine lv_bipush (v := (-10 : Int32)) hx hb dX12_formula_26 (by decide) ?_
      refine lv_aload_n hx hb dX12_formula_28 rfl (lv_at hl 0 rfl) ?_
      refine g_33_27 B Z kf_RX12_290 dX12_formula_29 ?_
      refine lv_isub hx hb dX12_formula_32 ?_
      exact reI B Z rfl hz h14 dX12_formula_33
  · have h15 := dit h1 c3
    clear h1
    refine lv_aload_n hx hb dX12_formula_12 rfl (lv_at hl 0 rfl) ?_
    refine lv_ldc hx hb B.2.2.2.1 (B.2.2.2.2.1 _ kc_RX12_63) dX12_formula_13 ?_
    obtain ⟨r23, σ24, hc21, h16⟩ := db2_s h15
    clear h15
    refine cV_I [.int (-1000002 : Int32)] [] B mx_yX12_refuses (c_fMM_refuses l X _ (-1000002 : Int32) σ r23 σ24 hc21) kl_RX12_168 mi_yX12_refuses (rv_33 _ _) hcl_12 Z hl rfl rfl ⟨Nat.le_of_ble_eq_true rfl, Nat.le_of_ble_eq_true rfl⟩ rfl rfl (Nat.le_of_ble_eq_true rfl) dX12_formula_15 (fun H locs Z => ?_)
    clear hc21
    exact reI B Z rfl hz h16 dX12_formula_18
theorem dX12_type_0 : decode cX12_type 0 = .ok (.iload_n 1, 1) := by decide +kernel
theorem dX12_type_1 : decode cX12_type 1 = .ok (.i2l, 1) := by decide +kernel
theorem dX12_type_2 : decode cX12_type 2 = .ok (.lconst 0, 1) := by decide +kernel
theorem dX12_type_3 : decode cX12_type 3 = .ok (.ldc2_w 362, 3) := by decide +kernel
theorem dX12_type_6 : decode cX12_type 6 = .ok (.invokestatic 68, 3) := by decide +kernel
theorem dX12_type_9 : decode cX12_type 9 = .ok (.ifCond .ne 10, 3) := by decide +kernel
theorem dX12_type_12 : decode cX12_type 12 = .ok (.aload_n 0, 1) := by decide +kernel
theorem dX12_type_13 : decode cX12_type 13 = .ok (.ldc 63, 2) := by decide +kernel
theorem dX12_type_15 : decode cX12_type 15 = .ok (.invokevirtual 168, 3) := by decide +kernel
theorem dX12_type_18 : decode cX12_type 18 = .ok (.ireturn, 1) := by decide +kernel
theorem dX12_type_19 : decode cX12_type 19 = .ok (.aload_n 0, 1) := by decide +kernel
theorem dX12_type_20 : decode cX12_type 20 = .ok (.getfield 293, 3) := by decide +kernel
theorem dX12_type_23 : decode cX12_type 23 = .ok (.bipush 80, 2) := by decide +kernel
theorem dX12_type_25 : decode cX12_type 25 = .ok (.if_icmp .ne 10, 3) := by decide +kernel
theorem dX12_type_28 : decode cX12_type 28 = .ok (.aload_n 0, 1) := by decide +kernel
theorem dX12_type_29 : decode cX12_type 29 = .ok (.ldc 172, 2) := by decide +kernel
theorem dX12_type_31 : decode cX12_type 31 = .ok (.invokevirtual 168, 3) := by decide +kernel
theorem dX12_type_34 : decode cX12_type 34 = .ok (.ireturn, 1) := by decide +kernel
theorem dX12_type_35 : decode cX12_type 35 = .ok (.aload_n 0, 1) := by decide +kernel
theorem dX12_type_36 : decode cX12_type 36 = .ok (.getfield 44, 3) := by decide +kernel
theorem dX12_type_39 : decode cX12_type 39 = .ok (.aload_n 0, 1) := by decide +kernel
theorem dX12_type_40 : decode cX12_type 40 = .ok (.getfield 293, 3) := by decide +kernel
theorem dX12_type_43 : decode cX12_type 43 = .ok (.iload_n 1, 1) := by decide +kernel
theorem dX12_type_44 : decode cX12_type 44 = .ok (.iastore, 1) := by decide +kernel
theorem dX12_type_45 : decode cX12_type 45 = .ok (.aload_n 0, 1) := by decide +kernel
theorem dX12_type_46 : decode cX12_type 46 = .ok (.dup, 1) := by decide +kernel
theorem dX12_type_47 : decode cX12_type 47 = .ok (.getfield 293, 3) := by decide +kernel
theorem dX12_type_50 : decode cX12_type 50 = .ok (.iconst 1, 1) := by decide +kernel
theorem dX12_type_51 : decode cX12_type 51 = .ok (.iadd, 1) := by decide +kernel
theorem dX12_type_52 : decode cX12_type 52 = .ok (.putfield 293, 3) := by decide +kernel
theorem dX12_type_55 : decode cX12_type 55 = .ok (.aload_n 0, 1) := by decide +kernel
theorem dX12_type_56 : decode cX12_type 56 = .ok (.getfield 293, 3) := by decide +kernel
theorem dX12_type_59 : decode cX12_type 59 = .ok (.ireturn, 1) := by decide +kernel
def rm_fMM_type : Room := { frames := 2, cells := 0, slots := 0, locals := 85 }
set_option maxHeartbeats 4000000 in
set_option maxRecDepth 100000 in
theorem c_fMM_type (l : Launch) (X : eX) (sz : Nat) (a1 : Int32) (σ : sT) (rz : Int32) (σz : sT) (h0 : fMM_type a1 σ = some (rz, σz)) : ctI l yX12_type cX12_type 2 (some .int) rm_fMM_type [.ref (X.2.1 33), .int a1] (wM X) (tM X) (aM X) X sz σ rz σz := by
  refine ct_of (by decide +kernel) (Nat.le_of_ble_eq_true rfl) ?_
  intro p e s m args below meth c ls hz B hl Z
  have B : Bd p s m args meth c RX12 cX12_type 2 (some .int) := B
  have hl : lv_has ls 2 [(0, .ref (X.2.1 33)), (1, .int a1)] := hl
  have hx := B.1
  have hb := B.2.1
  unfold fMM_type at h0
  refine lv_iload_n hx hb dX12_type_0 rfl (lv_at hl 1 rfl) ?_
  refine lv_i2l hx hb dX12_type_1 rfl ?_
  refine lv_lconst (v := (0 : Int64)) hx hb dX12_type_2 (by decide) ?_
  refine lv_ldc2 hx hb B.2.2.2.1 (B.2.2.2.2.1 _ kc_RX12_362) dX12_type_3 ?_
  obtain ⟨r2, hc0, h1⟩ := db1_s h0
  clear h0
  refine cS_I [.long a1.toInt64, .long (0 : Int64), .long (127 : Int64)] [] B mx_yX12_in (c_fMM_in l X _ a1.toInt64 (0 : Int64) (127 : Int64) σ r2 hc0) kl_RX12_68 ks_yX12_in Z hl rfl rfl ⟨Nat.le_of_ble_eq_true rfl, Nat.le_of_ble_eq_true rfl⟩ rfl rfl (Nat.le_of_ble_eq_true rfl) dX12_type_6 (fun H locs Z => ?_)
  clear hc0
  refine lv_if_ne (tgt := 19) hx hb dX12_type_9 (by decide) (fun c3 => ?_) (fun c3 => ?_)
  · have h2 := dif h1 c3
    clear h1
    refine lv_aload_n hx hb dX12_type_19 rfl (lv_at hl 0 rfl) ?_
    refine g_33_26 B Z kf_RX12_293 dX12_type_20 ?_
    refine lv_bipush (v := (80 : Int32)) hx hb dX12_type_23 (by decide) ?_
    refine lv_icmp_ne (tgt := 35) hx hb dX12_type_25 (by decide) (fun c4 => ?_) (fun c4 => ?_)
    · have h3 := dif h2 c4
      clear h2
      refine lv_aload_n hx hb dX12_type_35 rfl (lv_at hl 0 rfl) ?_
      refine g_33_25 B Z kf_RX12_44 dX12_type_36 ?_
      refine lv_aload_n hx hb dX12_type_39 rfl (lv_at hl 0 rfl) ?_
      refine g_33_26 B Z kf_RX12_293 dX12_type_40 ?_
      refine lv_iload_n hx hb dX12_type_43 rfl (lv_at hl 1 rfl) ?_
      obtain ⟨z5, h4⟩ := dck_s h3
      clear h3
      refine st_45 B Z z5 dX12_type_44 (fun H locs Z => ?_)
      obtain ⟨σ6, eσ6, h5⟩ := dlt_s h4
      clear h4
      replace Z := Wd.eq eσ6 Z
      clear eσ6
      refine lv_aload_n hx hb dX12_type_45 rfl (lv_at hl 0 rfl) ?_
      refine lv_dup hx hb dX12_type_46 rfl ?_
      refine g_33_26 B Z kf_RX12_293 dX12_type_47 ?_
      refine lv_iconst (v := (1 : Int32)) hx hb dX12_type_50 (by decide) ?_
      refine lv_iadd hx hb dX12_type_51 ?_
      refine s_33_26 B Z kf_RX12_293 dX12_type_52 (fun H locs Z => ?_)
      obtain ⟨σ7, eσ7, h6⟩ := dlt_s h5
      clear h5
      replace Z := Wd.eq eσ7 Z
      clear eσ7
      refine lv_aload_n hx hb dX12_type_55 rfl (lv_at hl 0 rfl) ?_
      refine g_33_26 B Z kf_RX12_293 dX12_type_56 ?_
      exact reI B Z rfl hz h6 dX12_type_59
    · have h7 := dit h2 c4
      clear h2
      refine lv_aload_n hx hb dX12_type_28 rfl (lv_at hl 0 rfl) ?_
      refine lv_ldc hx hb B.2.2.2.1 (B.2.2.2.2.1 _ kc_RX12_172) dX12_type_29 ?_
      obtain ⟨r9, σ10, hc7, h8⟩ := db2_s h7
      clear h7
      refine cV_I [.int (-1000004 : Int32)] [] B mx_yX12_refuses (c_fMM_refuses l X _ (-1000004 : Int32) σ r9 σ10 hc7) kl_RX12_168 mi_yX12_refuses (rv_33 _ _) hcl_12 Z hl rfl rfl ⟨Nat.le_of_ble_eq_true rfl, Nat.le_of_ble_eq_true rfl⟩ rfl rfl (Nat.le_of_ble_eq_true rfl) dX12_type_31 (fun H locs Z => ?_)
      clear hc7
      exact reI B Z rfl hz h8 dX12_type_34
  · have h9 := dit h1 c3
    clear h1
    refine lv_aload_n hx hb dX12_type_12 rfl (lv_at hl 0 rfl) ?_
    refine lv_ldc hx hb B.2.2.2.1 (B.2.2.2.2.1 _ kc_RX12_63) dX12_type_13 ?_
    obtain ⟨r12, σ13, hc10, h10⟩ := db2_s h9
    clear h9
    refine cV_I [.int (-1000002 : Int32)] [] B mx_yX12_refuses (c_fMM_refuses l X _ (-1000002 : Int32) σ r12 σ13 hc10) kl_RX12_168 mi_yX12_refuses (rv_33 _ _) hcl_12 Z hl rfl rfl ⟨Nat.le_of_ble_eq_true rfl, Nat.le_of_ble_eq_true rfl⟩ rfl rfl (Nat.le_of_ble_eq_true rfl) dX12_type_15 (fun H locs Z => ?_)
    clear hc10
    exact reI B Z rfl hz h10 dX12_type_18
theorem dX12_clear_0 : decode cX12_clear 0 = .ok (.aload_n 0, 1) := by decide +kernel
theorem dX12_clear_1 : decode cX12_clear 1 = .ok (.getfield 293, 3) := by decide +kernel
theorem dX12_clear_4 : decode cX12_clear 4 = .ok (.istore_n 1, 1) := by decide +kernel
theorem dX12_clear_5 : decode cX12_clear 5 = .ok (.aload_n 0, 1) := by decide +kernel
theorem dX12_clear_6 : decode cX12_clear 6 = .ok (.iconst 0, 1) := by decide +kernel
theorem dX12_clear_7 : decode cX12_clear 7 = .ok (.putfield 293, 3) := by decide +kernel
theorem dX12_clear_10 : decode cX12_clear 10 = .ok (.iload_n 1, 1) := by decide +kernel
theorem dX12_clear_11 : decode cX12_clear 11 = .ok (.ireturn, 1) := by decide +kernel
def rm_fMM_clear : Room := { frames := 1, cells := 0, slots := 0, locals := 60 }
set_option maxHeartbeats 4000000 in
set_option maxRecDepth 100000 in
theorem c_fMM_clear (l : Launch) (X : eX) (sz : Nat)  (σ : sT) (rz : Int32) (σz : sT) (h0 : fMM_clear σ = some (rz, σz)) : ctI l yX12_clear cX12_clear 2 (some .int) rm_fMM_clear [.ref (X.2.1 33)] (wM X) (tM X) (aM X) X sz σ rz σz := by
  refine ct_of (by decide +kernel) (Nat.le_of_ble_eq_true rfl) ?_
  intro p e s m args below meth c ls hz B hl Z
  have B : Bd p s m args meth c RX12 cX12_clear 2 (some .int) := B
  have hl : lv_has ls 2 [(0, .ref (X.2.1 33))] := hl
  have hx := B.1
  have hb := B.2.1
  unfold fMM_clear at h0
  refine lv_aload_n hx hb dX12_clear_0 rfl (lv_at hl 0 rfl) ?_
  refine g_33_26 B Z kf_RX12_293 dX12_clear_1 ?_
  refine lv_topi (fun x1 ex1 => ?_)
  have h1 := dlt_e ex1 h0
  clear ex1 h0
  refine lv_istore_n (lv' := [(1, .int x1), (0, .ref (X.2.1 33))]) hx hb dX12_clear_4 rfl hl (by decide) rfl (fun ls hl => ?_)
  refine lv_aload_n hx hb dX12_clear_5 rfl (lv_at hl 1 rfl) ?_
  refine lv_iconst (v := (0 : Int32)) hx hb dX12_clear_6 (by decide) ?_
  refine s_33_26 B Z kf_RX12_293 dX12_clear_7 (fun H locs Z => ?_)
  obtain ⟨σ2, eσ2, h2⟩ := dlt_s h1
  clear h1
  replace Z := Wd.eq eσ2 Z
  clear eσ2
  refine lv_iload_n hx hb dX12_clear_10 rfl (lv_at hl 0 rfl) ?_
  exact reI B Z rfl hz h2 dX12_clear_11
theorem dX12_takesTerm_0 : decode cX12_takesTerm 0 = .ok (.aload_n 0, 1) := by decide +kernel
theorem dX12_takesTerm_1 : decode cX12_takesTerm 1 = .ok (.invokevirtual 323, 3) := by decide +kernel
theorem dX12_takesTerm_4 : decode cX12_takesTerm 4 = .ok (.istore_n 2, 1) := by decide +kernel
theorem dX12_takesTerm_5 : decode cX12_takesTerm 5 = .ok (.iload_n 2, 1) := by decide +kernel
theorem dX12_takesTerm_6 : decode cX12_takesTerm 6 = .ok (.bipush 45, 2) := by decide +kernel
theorem dX12_takesTerm_8 : decode cX12_takesTerm 8 = .ok (.if_icmp .eq 13, 3) := by decide +kernel
theorem dX12_takesTerm_11 : decode cX12_takesTerm 11 = .ok (.iload_n 2, 1) := by decide +kernel
theorem dX12_takesTerm_12 : decode cX12_takesTerm 12 = .ok (.bipush 43, 2) := by decide +kernel
theorem dX12_takesTerm_14 : decode cX12_takesTerm 14 = .ok (.if_icmp .ne 11, 3) := by decide +kernel
theorem dX12_takesTerm_17 : decode cX12_takesTerm 17 = .ok (.iload_n 1, 1) := by decide +kernel
theorem dX12_takesTerm_18 : decode cX12_takesTerm 18 = .ok (.ifCond .ne 7, 3) := by decide +kernel
theorem dX12_takesTerm_21 : decode cX12_takesTerm 21 = .ok (.iconst 1, 1) := by decide +kernel
theorem dX12_takesTerm_22 : decode cX12_takesTerm 22 = .ok (.goto 4, 3) := by decide +kernel
theorem dX12_takesTerm_25 : decode cX12_takesTerm 25 = .ok (.iconst 0, 1) := by decide +kernel
theorem dX12_takesTerm_26 : decode cX12_takesTerm 26 = .ok (.istore_n 3, 1) := by decide +kernel
theorem dX12_takesTerm_27 : decode cX12_takesTerm 27 = .ok (.iload_n 3, 1) := by decide +kernel
theorem dX12_takesTerm_28 : decode cX12_takesTerm 28 = .ok (.ifCond .ne 9, 3) := by decide +kernel
theorem dX12_takesTerm_31 : decode cX12_takesTerm 31 = .ok (.iload_n 1, 1) := by decide +kernel
theorem dX12_takesTerm_32 : decode cX12_takesTerm 32 = .ok (.ifCond .ne 5, 3) := by decide +kernel
theorem dX12_takesTerm_35 : decode cX12_takesTerm 35 = .ok (.iconst 0, 1) := by decide +kernel
theorem dX12_takesTerm_36 : decode cX12_takesTerm 36 = .ok (.ireturn, 1) := by decide +kernel
theorem dX12_takesTerm_37 : decode cX12_takesTerm 37 = .ok (.aload_n 0, 1) := by decide +kernel
theorem dX12_takesTerm_38 : decode cX12_takesTerm 38 = .ok (.dup, 1) := by decide +kernel
theorem dX12_takesTerm_39 : decode cX12_takesTerm 39 = .ok (.getfield 290, 3) := by decide +kernel
theorem dX12_takesTerm_42 : decode cX12_takesTerm 42 = .ok (.iload_n 3, 1) := by decide +kernel
theorem dX12_takesTerm_43 : decode cX12_takesTerm 43 = .ok (.ifCond .eq 7, 3) := by decide +kernel
theorem dX12_takesTerm_46 : decode cX12_takesTerm 46 = .ok (.iconst 1, 1) := by decide +kernel
theorem dX12_takesTerm_47 : decode cX12_takesTerm 47 = .ok (.goto 4, 3) := by decide +kernel
theorem dX12_takesTerm_50 : decode cX12_takesTerm 50 = .ok (.iconst 0, 1) := by decide +kernel
theorem dX12_takesTerm_51 : decode cX12_takesTerm 51 = .ok (.iadd, 1) := by decide +kernel
theorem dX12_takesTerm_52 : decode cX12_takesTerm 52 = .ok (.putfield 290, 3) := by decide +kernel
theorem dX12_takesTerm_55 : decode cX12_takesTerm 55 = .ok (.aload_n 0, 1) := by decide +kernel
theorem dX12_takesTerm_56 : decode cX12_takesTerm 56 = .ok (.invokevirtual 323, 3) := by decide +kernel
theorem dX12_takesTerm_59 : decode cX12_takesTerm 59 = .ok (.istore 4, 2) := by decide +kernel
theorem dX12_takesTerm_61 : decode cX12_takesTerm 61 = .ok (.iload 4, 2) := by decide +kernel
theorem dX12_takesTerm_63 : decode cX12_takesTerm 63 = .ok (.i2l, 1) := by decide +kernel
theorem dX12_takesTerm_64 : decode cX12_takesTerm 64 = .ok (.ldc2_w 364, 3) := by decide +kernel
theorem dX12_takesTerm_67 : decode cX12_takesTerm 67 = .ok (.ldc2_w 366, 3) := by decide +kernel
theorem dX12_takesTerm_70 : decode cX12_takesTerm 70 = .ok (.invokestatic 68, 3) := by decide +kernel
theorem dX12_takesTerm_73 : decode cX12_takesTerm 73 = .ok (.istore 5, 2) := by decide +kernel
theorem dX12_takesTerm_75 : decode cX12_takesTerm 75 = .ok (.aload_n 0, 1) := by decide +kernel
theorem dX12_takesTerm_76 : decode cX12_takesTerm 76 = .ok (.dup, 1) := by decide +kernel
theorem dX12_takesTerm_77 : decode cX12_takesTerm 77 = .ok (.getfield 290, 3) := by decide +kernel
theorem dX12_takesTerm_80 : decode cX12_takesTerm 80 = .ok (.iload 5, 2) := by decide +kernel
theorem dX12_takesTerm_82 : decode cX12_takesTerm 82 = .ok (.ifCond .eq 7, 3) := by decide +kernel
theorem dX12_takesTerm_85 : decode cX12_takesTerm 85 = .ok (.iconst 1, 1) := by decide +kernel
theorem dX12_takesTerm_86 : decode cX12_takesTerm 86 = .ok (.goto 4, 3) := by decide +kernel
theorem dX12_takesTerm_89 : decode cX12_takesTerm 89 = .ok (.iconst 0, 1) := by decide +kernel
theorem dX12_takesTerm_90 : decode cX12_takesTerm 90 = .ok (.iadd, 1) := by decide +kernel
theorem dX12_takesTerm_91 : decode cX12_takesTerm 91 = .ok (.putfield 290, 3) := by decide +kernel
theorem dX12_takesTerm_94 : decode cX12_takesTerm 94 = .ok (.aload_n 0, 1) := by decide +kernel
theorem dX12_takesTerm_95 : decode cX12_takesTerm 95 = .ok (.invokevirtual 323, 3) := by decide +kernel
theorem dX12_takesTerm_98 : decode cX12_takesTerm 98 = .ok (.bipush 120, 2) := by decide +kernel
theorem dX12_takesTerm_100 : decode cX12_takesTerm 100 = .ok (.isub, 1) := by decide +kernel
theorem dX12_takesTerm_101 : decode cX12_takesTerm 101 = .ok (.istore 6, 2) := by decide +kernel
theorem dX12_takesTerm_103 : decode cX12_takesTerm 103 = .ok (.iload 6, 2) := by decide +kernel
theorem dX12_takesTerm_105 : decode cX12_takesTerm 105 = .ok (.i2l, 1) := by decide +kernel
theorem dX12_takesTerm_106 : decode cX12_takesTerm 106 = .ok (.lconst 0, 1) := by decide +kernel
theorem dX12_takesTerm_107 : decode cX12_takesTerm 107 = .ok (.ldc2_w 162, 3) := by decide +kernel
theorem dX12_takesTerm_110 : decode cX12_takesTerm 110 = .ok (.invokestatic 68, 3) := by decide +kernel
theorem dX12_takesTerm_113 : decode cX12_takesTerm 113 = .ok (.ifCond .eq 13, 3) := by decide +kernel
theorem dX12_takesTerm_116 : decode cX12_takesTerm 116 = .ok (.aload_n 0, 1) := by decide +kernel
theorem dX12_takesTerm_117 : decode cX12_takesTerm 117 = .ok (.getfield 57, 3) := by decide +kernel
theorem dX12_takesTerm_120 : decode cX12_takesTerm 120 = .ok (.iload 6, 2) := by decide +kernel
theorem dX12_takesTerm_122 : decode cX12_takesTerm 122 = .ok (.iaload, 1) := by decide +kernel
theorem dX12_takesTerm_123 : decode cX12_takesTerm 123 = .ok (.ifCond .eq 5, 3) := by decide +kernel
theorem dX12_takesTerm_126 : decode cX12_takesTerm 126 = .ok (.iconst 0, 1) := by decide +kernel
theorem dX12_takesTerm_127 : decode cX12_takesTerm 127 = .ok (.ireturn, 1) := by decide +kernel
theorem dX12_takesTerm_128 : decode cX12_takesTerm 128 = .ok (.aload_n 0, 1) := by decide +kernel
theorem dX12_takesTerm_129 : decode cX12_takesTerm 129 = .ok (.dup, 1) := by decide +kernel
theorem dX12_takesTerm_130 : decode cX12_takesTerm 130 = .ok (.getfield 290, 3) := by decide +kernel
theorem dX12_takesTerm_133 : decode cX12_takesTerm 133 = .ok (.iconst 1, 1) := by decide +kernel
theorem dX12_takesTerm_134 : decode cX12_takesTerm 134 = .ok (.iadd, 1) := by decide +kernel
theorem dX12_takesTerm_135 : decode cX12_takesTerm 135 = .ok (.putfield 290, 3) := by decide +kernel
theorem dX12_takesTerm_138 : decode cX12_takesTerm 138 = .ok (.iload 5, 2) := by decide +kernel
theorem dX12_takesTerm_140 : decode cX12_takesTerm 140 = .ok (.ifCond .eq 11, 3) := by decide +kernel
theorem dX12_takesTerm_143 : decode cX12_takesTerm 143 = .ok (.iload 4, 2) := by decide +kernel
theorem dX12_takesTerm_145 : decode cX12_takesTerm 145 = .ok (.bipush 48, 2) := by decide +kernel
theorem dX12_takesTerm_147 : decode cX12_takesTerm 147 = .ok (.isub, 1) := by decide +kernel
theorem dX12_takesTerm_148 : decode cX12_takesTerm 148 = .ok (.goto 4, 3) := by decide +kernel
theorem dX12_takesTerm_151 : decode cX12_takesTerm 151 = .ok (.iconst 1, 1) := by decide +kernel
theorem dX12_takesTerm_152 : decode cX12_takesTerm 152 = .ok (.istore 7, 2) := by decide +kernel
theorem dX12_takesTerm_154 : decode cX12_takesTerm 154 = .ok (.aload_n 0, 1) := by decide +kernel
theorem dX12_takesTerm_155 : decode cX12_takesTerm 155 = .ok (.getfield 57, 3) := by decide +kernel
theorem dX12_takesTerm_158 : decode cX12_takesTerm 158 = .ok (.iload 6, 2) := by decide +kernel
theorem dX12_takesTerm_160 : decode cX12_takesTerm 160 = .ok (.iload_n 2, 1) := by decide +kernel
theorem dX12_takesTerm_161 : decode cX12_takesTerm 161 = .ok (.bipush 45, 2) := by decide +kernel
theorem dX12_takesTerm_163 : decode cX12_takesTerm 163 = .ok (.if_icmp .ne 9, 3) := by decide +kernel
theorem dX12_takesTerm_166 : decode cX12_takesTerm 166 = .ok (.iload 7, 2) := by decide +kernel
theorem dX12_takesTerm_168 : decode cX12_takesTerm 168 = .ok (.ineg, 1) := by decide +kernel
theorem dX12_takesTerm_169 : decode cX12_takesTerm 169 = .ok (.goto 5, 3) := by decide +kernel
theorem dX12_takesTerm_172 : decode cX12_takesTerm 172 = .ok (.iload 7, 2) := by decide +kernel
theorem dX12_takesTerm_174 : decode cX12_takesTerm 174 = .ok (.iastore, 1) := by decide +kernel
theorem dX12_takesTerm_175 : decode cX12_takesTerm 175 = .ok (.iconst 1, 1) := by decide +kernel
theorem dX12_takesTerm_176 : decode cX12_takesTerm 176 = .ok (.ireturn, 1) := by decide +kernel
def rm_fMM_takesTerm : Room := { frames := 2, cells := 0, slots := 0, locals := 85 }
set_option maxHeartbeats 4000000 in
set_option maxRecDepth 100000 in
theorem c_fMM_takesTerm (l : Launch) (X : eX) (sz : Nat) (a1 : Int32) (σ : sT) (rz : Int32) (σz : sT) (h0 : fMM_takesTerm a1 σ = some (rz, σz)) : ctI l yX12_takesTerm cX12_takesTerm 8 (some .boolean) rm_fMM_takesTerm [.ref (X.2.1 33), .int a1] (wM X) (tM X) (aM X) X sz σ rz σz := by
  refine ct_of (by decide +kernel) (Nat.le_of_ble_eq_true rfl) ?_
  intro p e s m args below meth c ls hz B hl Z
  have B : Bd p s m args meth c RX12 cX12_takesTerm 8 (some .boolean) := B
  have hl : lv_has ls 8 [(0, .ref (X.2.1 33)), (1, .int a1)] := hl
  have hx := B.1
  have hb := B.2.1
  unfold fMM_takesTerm at h0
  refine lv_aload_n hx hb dX12_takesTerm_0 rfl (lv_at hl 0 rfl) ?_
  obtain ⟨r2, σ3, hc0, h1⟩ := db2_s h0
  clear h0
  refine cV_I [] [] B mx_yX12_here (c_fMM_here l X _ σ r2 σ3 hc0) kl_RX12_323 mi_yX12_here (rv_33 _ _) hcl_12 Z hl rfl rfl ⟨Nat.le_of_ble_eq_true rfl, Nat.le_of_ble_eq_true rfl⟩ rfl rfl (Nat.le_of_ble_eq_true rfl) dX12_takesTerm_1 (fun H locs Z => ?_)
  clear hc0
  refine lv_istore_n (lv' := [(2, .int r2), (0, .ref (X.2.1 33)), (1, .int a1)]) hx hb dX12_takesTerm_4 rfl hl (by decide) rfl (fun ls hl => ?_)
  refine lv_iload_n hx hb dX12_takesTerm_5 rfl (lv_at hl 0 rfl) ?_
  refine lv_bipush (v := (45 : Int32)) hx hb dX12_takesTerm_6 (by decide) ?_
  obtain ⟨J5, eJ5, h40⟩ := dlt_s h1
  clear h1
  have kJ5 : ∀ (x4 : Int32) (H : Heap) (locs : List Loc) (ls : Array Slot), Wd (wM X) (tM X) (aM X) X s σ3 H locs → lv_has ls 8 [(0, .ref (X.2.1 33)), (1, .int a1), (2, .int r2)] → J5 x4 = some (rz, σz) → W p l e rm_fMM_takesTerm s m args below meth c H locs 0 0 (MQ below (va_Qi (fun a u => a = rz ∧ u = σz) (poW (wM X) (tM X) (aM X) X sz) (aA (aM X) sz)) args s 0 0 (aA (aM X) sz)) (F0 m 26 ls [.int x4]) := by
    intro x4 H locs ls Z hl h2
    rw [eJ5] at h2
    refine lv_istore_n (lv' := [(3, .int x4), (0, .ref (X.2.1 33)), (1, .int a1), (2, .int r2)]) hx hb dX12_takesTerm_26 rfl hl (by decide) rfl (fun ls hl => ?_)
    refine lv_iload_n hx hb dX12_takesTerm_27 rfl (lv_at hl 0 rfl) ?_
    obtain ⟨J6, eJ6, h35⟩ := dlt_s h2
    clear h2
    have kJ6 : ∀ (H : Heap) (locs : List Loc) (ls : Array Slot), Wd (wM X) (tM X) (aM X) X s σ3 H locs → lv_has ls 8 [(0, .ref (X.2.1 33)), (2, .int r2), (3, .int x4)] → J6 () = some (rz, σz) → W p l e rm_fMM_takesTerm s m args below meth c H locs 0 0 (MQ below (va_Qi (fun a u => a = rz ∧ u = σz) (poW (wM X) (tM X) (aM X) X sz) (aA (aM X) sz)) args s 0 0 (aA (aM X) sz)) (F0 m 37 ls []) := by
      intro  H locs ls Z hl h3
      rw [eJ6] at h3
      refine lv_aload_n hx hb dX12_takesTerm_37 rfl (lv_at hl 0 rfl) ?_
      refine lv_dup hx hb dX12_takesTerm_38 rfl ?_
      refine g_33_27 B Z kf_RX12_290 dX12_takesTerm_39 ?_
      refine lv_iload_n hx hb dX12_takesTerm_42 rfl (lv_at hl 2 rfl) ?_
      obtain ⟨J9, eJ9, h32⟩ := dlt_s h3
      clear h3
      have kJ9 : ∀ (x7 : Int32) (x8 : Int32) (H : Heap) (locs : List Loc) (ls : Array Slot), Wd (wM X) (tM X) (aM X) X s σ3 H locs → lv_has ls 8 [(0, .ref (X.2.1 33)), (2, .int r2)] → J9 x7 x8 = some (rz, σz) → W p l e rm_fMM_takesTerm s m args below meth c H locs 0 0 (MQ below (va_Qi (fun a u => a = rz ∧ u = σz) (poW (wM X) (tM X) (aM X) X sz) (aA (aM X) sz)) args s 0 0 (aA (aM X) sz)) (F0 m 51 ls [.int x8, .int x7, .ref (X.2.1 33)]) := by
        intro x7 x8 H locs ls Z hl h4
        rw [eJ9] at h4
        refine lv_iadd hx hb dX12_takesTerm_51 ?_
        refine s_33_27 B Z kf_RX12_290 dX12_takesTerm_52 (fun H locs Z => ?_)
        obtain ⟨σ10, eσ10, h5⟩ := dlt_s h4
        clear h4
        replace Z := Wd.eq eσ10 Z
        clear eσ10
        refine lv_aload_n hx hb dX12_takesTerm_55 rfl (lv_at hl 0 rfl) ?_
        obtain ⟨r12, σ13, hc10, h6⟩ := db2_s h5
        clear h5
        refine cV_I [] [] B mx_yX12_here (c_fMM_here l X _ σ10 r12 σ13 hc10) kl_RX12_323 mi_yX12_here (rv_33 _ _) hcl_12 Z hl rfl rfl ⟨Nat.le_of_ble_eq_true rfl, Nat.le_of_ble_eq_true rfl⟩ rfl rfl (Nat.le_of_ble_eq_true rfl) dX12_takesTerm_56 (fun H locs Z => ?_)
        clear hc10
        refine lv_istore (lv' := [(4, .int r12), (0, .ref (X.2.1 33)), (2, .int r2)]) hx hb dX12_takesTerm_59 hl (by decide) rfl (fun ls hl => ?_)
        refine lv_iload hx hb dX12_takesTerm_61 (lv_at hl 0 rfl) ?_
        refine lv_i2l hx hb dX12_takesTerm_63 rfl ?_
        refine lv_ldc2 hx hb B.2.2.2.1 (B.2.2.2.2.1 _ kc_RX12_364) dX12_takesTerm_64 ?_
        refine lv_ldc2 hx hb B.2.2.2.1 (B.2.2.2.2.1 _ kc_RX12_366) dX12_takesTerm_67 ?_
        obtain ⟨r15, hc13, h7⟩ := db1_s h6
        clear h6
        refine cS_I [.long r12.toInt64, .long (49 : Int64), .long (53 : Int64)] [] B mx_yX12_in (c_fMM_in l X _ r12.toInt64 (49 : Int64) (53 : Int64) σ13 r15 hc13) kl_RX12_68 ks_yX12_in Z hl rfl rfl ⟨Nat.le_of_ble_eq_true rfl, Nat.le_of_ble_eq_true rfl⟩ rfl rfl (Nat.le_of_ble_eq_true rfl) dX12_takesTerm_70 (fun H locs Z => ?_)
        clear hc13
        refine lv_istore (lv' := [(5, .int r15), (4, .int r12), (0, .ref (X.2.1 33)), (2, .int r2)]) hx hb dX12_takesTerm_73 hl (by decide) rfl (fun ls hl => ?_)
        refine lv_aload_n hx hb dX12_takesTerm_75 rfl (lv_at hl 2 rfl) ?_
        refine lv_dup hx hb dX12_takesTerm_76 rfl ?_
        refine g_33_27 B Z kf_RX12_290 dX12_takesTerm_77 ?_
        refine lv_iload hx hb dX12_takesTerm_80 (lv_at hl 0 rfl) ?_
        obtain ⟨J18, eJ18, h29⟩ := dlt_s h7
        clear h7
        have kJ18 : ∀ (x16 : Int32) (x17 : Int32) (H : Heap) (locs : List Loc) (ls : Array Slot), Wd (wM X) (tM X) (aM X) X s σ13 H locs → lv_has ls 8 [(0, .ref (X.2.1 33)), (2, .int r2), (4, .int r12), (5, .int r15)] → J18 x16 x17 = some (rz, σz) → W p l e rm_fMM_takesTerm s m args below meth c H locs 0 0 (MQ below (va_Qi (fun a u => a = rz ∧ u = σz) (poW (wM X) (tM X) (aM X) X sz) (aA (aM X) sz)) args s 0 0 (aA (aM X) sz)) (F0 m 90 ls [.int x17, .int x16, .ref (X.2.1 33)]) := by
          intro x16 x17 H locs ls Z hl h8
          rw [eJ18] at h8
          refine lv_iadd hx hb dX12_takesTerm_90 ?_
          refine s_33_27 B Z kf_RX12_290 dX12_takesTerm_91 (fun H locs Z => ?_)
          obtain ⟨σ19, eσ19, h9⟩ := dlt_s h8
          clear h8
          replace Z := Wd.eq eσ19 Z
          clear eσ19
          refine lv_aload_n hx hb dX12_takesTerm_94 rfl (lv_at hl 0 rfl) ?_
          obtain ⟨r21, σ22, hc19, h10⟩ := db2_s h9
          clear h9
          refine cV_I [] [] B mx_yX12_here (c_fMM_here l X _ σ19 r21 σ22 hc19) kl_RX12_323 mi_yX12_here (rv_33 _ _) hcl_12 Z hl rfl rfl ⟨Nat.le_of_ble_eq_true rfl, Nat.le_of_ble_eq_true rfl⟩ rfl rfl (Nat.le_of_ble_eq_true rfl) dX12_takesTerm_95 (fun H locs Z => ?_)
          clear hc19
          refine lv_bipush (v := (120 : Int32)) hx hb dX12_takesTerm_98 (by decide) ?_
          refine lv_isub hx hb dX12_takesTerm_100 ?_
          refine lv_topi (fun x23 ex23 => ?_)
          have h11 := dlt_e ex23 h10
          clear ex23 h10
          refine lv_istore (lv' := [(6, .int x23), (0, .ref (X.2.1 33)), (2, .int r2), (4, .int r12), (5, .int r15)]) hx hb dX12_takesTerm_101 hl (by decide) rfl (fun ls hl => ?_)
          refine lv_iload hx hb dX12_takesTerm_103 (lv_at hl 0 rfl) ?_
          refine lv_i2l hx hb dX12_takesTerm_105 rfl ?_
          refine lv_lconst (v := (0 : Int64)) hx hb dX12_takesTerm_106 (by decide) ?_
          refine lv_ldc2 hx hb B.2.2.2.1 (B.2.2.2.2.1 _ kc_RX12_162) dX12_takesTerm_107 ?_
          obtain ⟨r25, hc23, h12⟩ := db1_s h11
          clear h11
          refine cS_I [.long x23.toInt64, .long (0 : Int64), .long (2 : Int64)] [] B mx_yX12_in (c_fMM_in l X _ x23.toInt64 (0 : Int64) (2 : Int64) σ22 r25 hc23) kl_RX12_68 ks_yX12_in Z hl rfl rfl ⟨Nat.le_of_ble_eq_true rfl, Nat.le_of_ble_eq_true rfl⟩ rfl rfl (Nat.le_of_ble_eq_true rfl) dX12_takesTerm_110 (fun H locs Z => ?_)
          clear hc23
          refine lv_if_eq (tgt := 126) hx hb dX12_takesTerm_113 (by decide) (fun c26 => ?_) (fun c26 => ?_)
          · have h13 := dit h12 c26
            clear h12
            refine lv_iconst (v := (0 : Int32)) hx hb dX12_takesTerm_126 (by decide) ?_
            exact reI B Z rfl hz h13 dX12_takesTerm_127
          · have h14 := dif h12 c26
            clear h12
            refine lv_aload_n hx hb dX12_takesTerm_116 rfl (lv_at hl 1 rfl) ?_
            refine g_33_36 B Z kf_RX12_57 dX12_takesTerm_117 ?_
            refine lv_iload hx hb dX12_takesTerm_120 (lv_at hl 0 rfl) ?_
            obtain ⟨z27, h15⟩ := dck_s h14
            clear h14
            refine ld_49 B Z z27 dX12_takesTerm_122 ?_
            refine lv_if_eq (tgt := 128) hx hb dX12_takesTerm_123 (by decide) (fun c28 => ?_) (fun c28 => ?_)
            · have h16 := dit h15 c28
              clear h15
              refine lv_aload_n hx hb dX12_takesTerm_128 rfl (lv_at hl 1 rfl) ?_
              refine lv_dup hx hb dX12_takesTerm_129 rfl ?_
              refine g_33_27 B Z kf_RX12_290 dX12_takesTerm_130 ?_
              refine lv_iconst (v := (1 : Int32)) hx hb dX12_takesTerm_133 (by decide) ?_
              refine lv_iadd hx hb dX12_takesTerm_134 ?_
              refine s_33_27 B Z kf_RX12_290 dX12_takesTerm_135 (fun H locs Z => ?_)
              obtain ⟨σ29, eσ29, h17⟩ := dlt_s h16
              clear h16
              replace Z := Wd.eq eσ29 Z
              clear eσ29
              refine lv_iload hx hb dX12_takesTerm_138 (lv_at hl 4 rfl) ?_
              obtain ⟨J31, eJ31, h25⟩ := dlt_s h17
              clear h17
              have kJ31 : ∀ (x30 : Int32) (H : Heap) (locs : List Loc) (ls : Array Slot), Wd (wM X) (tM X) (aM X) X s σ29 H locs → lv_has ls 8 [(0, .ref (X.2.1 33)), (2, .int r2), (6, .int x23)] → J31 x30 = some (rz, σz) → W p l e rm_fMM_takesTerm s m args below meth c H locs 0 0 (MQ below (va_Qi (fun a u => a = rz ∧ u = σz) (poW (wM X) (tM X) (aM X) X sz) (aA (aM X) sz)) args s 0 0 (aA (aM X) sz)) (F0 m 152 ls [.int x30]) := by
                intro x30 H locs ls Z hl h18
                rw [eJ31] at h18
                refine lv_istore (lv' := [(7, .int x30), (0, .ref (X.2.1 33)), (2, .int r2), (6, .int x23)]) hx hb dX12_takesTerm_152 hl (by decide) rfl (fun ls hl => ?_)
                refine lv_aload_n hx hb dX12_takesTerm_154 rfl (lv_at hl 1 rfl) ?_
                refine g_33_36 B Z kf_RX12_57 dX12_takesTerm_155 ?_
                refine lv_iload hx hb dX12_takesTerm_158 (lv_at hl 3 rfl) ?_
                refine lv_iload_n hx hb dX12_takesTerm_160 rfl (lv_at hl 2 rfl) ?_
                refine lv_bipush (v := (45 : Int32)) hx hb dX12_takesTerm_161 (by decide) ?_
                obtain ⟨J34, eJ34, h22⟩ := dlt_s h18
                clear h18
                have kJ34 : ∀ (x32 : Int32) (x33 : Int32) (H : Heap) (locs : List Loc) (ls : Array Slot), Wd (wM X) (tM X) (aM X) X s σ29 H locs → lv_has ls 8 [] → J34 x32 x33 = some (rz, σz) → W p l e rm_fMM_takesTerm s m args below meth c H locs 0 0 (MQ below (va_Qi (fun a u => a = rz ∧ u = σz) (poW (wM X) (tM X) (aM X) X sz) (aA (aM X) sz)) args s 0 0 (aA (aM X) sz)) (F0 m 174 ls [.int x33, .int x32, .ref (X.2.1 49)]) := by
                  intro x32 x33 H locs ls Z hl h19
                  rw [eJ34] at h19
                  obtain ⟨z35, h20⟩ := dck_s h19
                  clear h19
                  refine st_49 B Z z35 dX12_takesTerm_174 (fun H locs Z => ?_)
                  obtain ⟨σ36, eσ36, h21⟩ := dlt_s h20
                  clear h20
                  replace Z := Wd.eq eσ36 Z
                  clear eσ36
                  refine lv_iconst (v := (1 : Int32)) hx hb dX12_takesTerm_175 (by decide) ?_
                  exact reI B Z rfl hz h21 dX12_takesTerm_176
                clear eJ34
                refine lv_icmp_ne (tgt := 172) hx hb dX12_takesTerm_163 (by decide) (fun c37 => ?_) (fun c37 => ?_)
                · have h23 := dif h22 c37
                  clear h22
                  refine lv_iload hx hb dX12_takesTerm_172 (lv_at hl 0 rfl) ?_
                  exact kJ34 x23 x30 _ _ _ Z (lv_sub hl [] rfl) h23
                · have h24 := dit h22 c37
                  clear h22
                  refine lv_iload hx hb dX12_takesTerm_166 (lv_at hl 0 rfl) ?_
                  refine lv_ineg hx hb dX12_takesTerm_168 ?_
                  refine lv_goto (tgt := 174) hx hb dX12_takesTerm_169 (by decide) ?_
                  exact kJ34 x23 (-x30) _ _ _ Z (lv_sub hl [] rfl) h24
              clear eJ31
              refine lv_if_eq (tgt := 151) hx hb dX12_takesTerm_140 (by decide) (fun c38 => ?_) (fun c38 => ?_)
              · have h26 := dit h25 c38
                clear h25
                refine lv_iconst (v := (1 : Int32)) hx hb dX12_takesTerm_151 (by decide) ?_
                exact kJ31 (1 : Int32) _ _ _ Z (lv_sub hl [1, 2, 0] rfl) h26
              · have h27 := dif h25 c38
                clear h25
                refine lv_iload hx hb dX12_takesTerm_143 (lv_at hl 3 rfl) ?_
                refine lv_bipush (v := (48 : Int32)) hx hb dX12_takesTerm_145 (by decide) ?_
                refine lv_isub hx hb dX12_takesTerm_147 ?_
                refine lv_goto (tgt := 152) hx hb dX12_takesTerm_148 (by decide) ?_
                exact kJ31 (r12 - (48 : Int32)) _ _ _ Z (lv_sub hl [1, 2, 0] rfl) h27
            · have h28 := dif h15 c28
              clear h15
              refine lv_iconst (v := (0 : Int32)) hx hb dX12_takesTerm_126 (by decide) ?_
              exact reI B Z rfl hz h28 dX12_takesTerm_127
        clear eJ18
        refine lv_if_eq (tgt := 89) hx hb dX12_takesTerm_82 (by decide) (fun c39 => ?_) (fun c39 => ?_)
        · have h30 := dit h29 c39
          clear h29
          refine lv_iconst (v := (0 : Int32)) hx hb dX12_takesTerm_89 (by decide) ?_
          exact kJ18 (σ13.1 33 27) (0 : Int32) _ _ _ Z (lv_sub hl [2, 3, 1, 0] rfl) h30
        · have h31 := dif h29 c39
          clear h29
          refine lv_iconst (v := (1 : Int32)) hx hb dX12_takesTerm_85 (by decide) ?_
          refine lv_goto (tgt := 90) hx hb dX12_takesTerm_86 (by decide) ?_
          exact kJ18 (σ13.1 33 27) (1 : Int32) _ _ _ Z (lv_sub hl [2, 3, 1, 0] rfl) h31
      clear eJ9
      refine lv_if_eq (tgt := 50) hx hb dX12_takesTerm_43 (by decide) (fun c40 => ?_) (fun c40 => ?_)
      · have h33 := dit h32 c40
        clear h32
        refine lv_iconst (v := (0 : Int32)) hx hb dX12_takesTerm_50 (by decide) ?_
        exact kJ9 (σ3.1 33 27) (0 : Int32) _ _ _ Z (lv_sub hl [0, 1] rfl) h33
      · have h34 := dif h32 c40
        clear h32
        refine lv_iconst (v := (1 : Int32)) hx hb dX12_takesTerm_46 (by decide) ?_
        refine lv_goto (tgt := 51) hx hb dX12_takesTerm_47 (by decide) ?_
        exact kJ9 (σ3.1 33 27) (1 : Int32) _ _ _ Z (lv_sub hl [0, 1] rfl) h34
    clear eJ6
    refine lv_if_ne (tgt := 37) hx hb dX12_takesTerm_28 (by decide) (fun c41 => ?_) (fun c41 => ?_)
    · have h36 := dif h35 c41
      clear h35
      exact kJ6  _ _ _ Z (lv_sub hl [1, 3, 0] rfl) h36
    · have h37 := dit h35 c41
      clear h35
      refine lv_iload_n hx hb dX12_takesTerm_31 rfl (lv_at hl 2 rfl) ?_
      refine lv_if_ne (tgt := 37) hx hb dX12_takesTerm_32 (by decide) (fun c42 => ?_) (fun c42 => ?_)
      · have h38 := dif h37 c42
        clear h37
        exact kJ6  _ _ _ Z (lv_sub hl [1, 3, 0] rfl) h38
      · have h39 := dit h37 c42
        clear h37
        refine lv_iconst (v := (0 : Int32)) hx hb dX12_takesTerm_35 (by decide) ?_
        exact reI B Z rfl hz h39 dX12_takesTerm_36
  clear eJ5
  obtain ⟨J43, eJ43, h42⟩ := dlt_s h40
  clear h40
  have kJ43 : ∀ (H : Heap) (locs : List Loc) (ls : Array Slot), Wd (wM X) (tM X) (aM X) X s σ3 H locs → lv_has ls 8 [(0, .ref (X.2.1 33)), (1, .int a1), (2, .int r2)] → J43 () = some (rz, σz) → W p l e rm_fMM_takesTerm s m args below meth c H locs 0 0 (MQ below (va_Qi (fun a u => a = rz ∧ u = σz) (poW (wM X) (tM X) (aM X) X sz) (aA (aM X) sz)) args s 0 0 (aA (aM X) sz)) (F0 m 21 ls []) := by
    intro  H locs ls Z hl h41
    rw [eJ43] at h41
    refine lv_iconst (v := (1 : Int32)) hx hb dX12_takesTerm_21 (by decide) ?_
    refine lv_goto (tgt := 26) hx hb dX12_takesTerm_22 (by decide) ?_
    exact kJ5 (1 : Int32) _ _ _ Z (lv_sub hl [0, 1, 2] rfl) h41
  clear eJ43
  refine lv_icmp_eq (tgt := 21) hx hb dX12_takesTerm_8 (by decide) (fun c44 => ?_) (fun c44 => ?_)
  · have h43 := dit h42 c44
    clear h42
    exact kJ43  _ _ _ Z (lv_sub hl [1, 2, 0] rfl) h43
  · have h44 := dif h42 c44
    clear h42
    refine lv_iload_n hx hb dX12_takesTerm_11 rfl (lv_at hl 0 rfl) ?_
    refine lv_bipush (v := (43 : Int32)) hx hb dX12_takesTerm_12 (by decide) ?_
    obtain ⟨J45, eJ45, h46⟩ := dlt_s h44
    clear h44
    have kJ45 : ∀ (H : Heap) (locs : List Loc) (ls : Array Slot), Wd (wM X) (tM X) (aM X) X s σ3 H locs → lv_has ls 8 [(0, .ref (X.2.1 33)), (1, .int a1), (2, .int r2)] → J45 () = some (rz, σz) → W p l e rm_fMM_takesTerm s m args below meth c H locs 0 0 (MQ below (va_Qi (fun a u => a = rz ∧ u = σz) (poW (wM X) (tM X) (aM X) X sz) (aA (aM X) sz)) args s 0 0 (aA (aM X) sz)) (F0 m 25 ls []) := by
      intro  H locs ls Z hl h45
      rw [eJ45] at h45
      refine lv_iconst (v := (0 : Int32)) hx hb dX12_takesTerm_25 (by decide) ?_
      exact kJ5 (0 : Int32) _ _ _ Z (lv_sub hl [0, 1, 2] rfl) h45
    clear eJ45
    refine lv_icmp_ne (tgt := 25) hx hb dX12_takesTerm_14 (by decide) (fun c46 => ?_) (fun c46 => ?_)
    · have h47 := dif h46 c46
      clear h46
      exact kJ45  _ _ _ Z (lv_sub hl [1, 2, 0] rfl) h47
    · have h48 := dit h46 c46
      clear h46
      refine lv_iload_n hx hb dX12_takesTerm_17 rfl (lv_at hl 2 rfl) ?_
      refine lv_if_ne (tgt := 25) hx hb dX12_takesTerm_18 (by decide) (fun c47 => ?_) (fun c47 => ?_)
      · have h49 := dif h48 c47
        clear h48
        exact kJ45  _ _ _ Z (lv_sub hl [1, 2, 0] rfl) h49
      · have h50 := dit h48 c47
        clear h48
        exact kJ43  _ _ _ Z (lv_sub hl [1, 2, 0] rfl) h50
theorem dX12_takesTerms_0 : decode cX12_takesTerms 0 = .ok (.aload_n 0, 1) := by decide +kernel
theorem dX12_takesTerms_1 : decode cX12_takesTerms 1 = .ok (.invokevirtual 323, 3) := by decide +kernel
theorem dX12_takesTerms_4 : decode cX12_takesTerms 4 = .ok (.bipush 48, 2) := by decide +kernel
theorem dX12_takesTerms_6 : decode cX12_takesTerms 6 = .ok (.if_icmp .ne 15, 3) := by decide +kernel
theorem dX12_takesTerms_9 : decode cX12_takesTerms 9 = .ok (.aload_n 0, 1) := by decide +kernel
theorem dX12_takesTerms_10 : decode cX12_takesTerms 10 = .ok (.dup, 1) := by decide +kernel
theorem dX12_takesTerms_11 : decode cX12_takesTerms 11 = .ok (.getfield 290, 3) := by decide +kernel
theorem dX12_takesTerms_14 : decode cX12_takesTerms 14 = .ok (.iconst 1, 1) := by decide +kernel
theorem dX12_takesTerms_15 : decode cX12_takesTerms 15 = .ok (.iadd, 1) := by decide +kernel
theorem dX12_takesTerms_16 : decode cX12_takesTerms 16 = .ok (.putfield 290, 3) := by decide +kernel
theorem dX12_takesTerms_19 : decode cX12_takesTerms 19 = .ok (.iconst 1, 1) := by decide +kernel
theorem dX12_takesTerms_20 : decode cX12_takesTerms 20 = .ok (.ireturn, 1) := by decide +kernel
theorem dX12_takesTerms_21 : decode cX12_takesTerms 21 = .ok (.aload_n 0, 1) := by decide +kernel
theorem dX12_takesTerms_22 : decode cX12_takesTerms 22 = .ok (.iconst 1, 1) := by decide +kernel
theorem dX12_takesTerms_23 : decode cX12_takesTerms 23 = .ok (.invokevirtual 368, 3) := by decide +kernel
theorem dX12_takesTerms_26 : decode cX12_takesTerms 26 = .ok (.istore_n 1, 1) := by decide +kernel
theorem dX12_takesTerms_27 : decode cX12_takesTerms 27 = .ok (.iload_n 1, 1) := by decide +kernel
theorem dX12_takesTerms_28 : decode cX12_takesTerms 28 = .ok (.ifCond .eq 30, 3) := by decide +kernel
theorem dX12_takesTerms_31 : decode cX12_takesTerms 31 = .ok (.aload_n 0, 1) := by decide +kernel
theorem dX12_takesTerms_32 : decode cX12_takesTerms 32 = .ok (.invokevirtual 323, 3) := by decide +kernel
theorem dX12_takesTerms_35 : decode cX12_takesTerms 35 = .ok (.bipush 60, 2) := by decide +kernel
theorem dX12_takesTerms_37 : decode cX12_takesTerms 37 = .ok (.if_icmp .eq 21, 3) := by decide +kernel
theorem dX12_takesTerms_40 : decode cX12_takesTerms 40 = .ok (.aload_n 0, 1) := by decide +kernel
theorem dX12_takesTerms_41 : decode cX12_takesTerms 41 = .ok (.invokevirtual 323, 3) := by decide +kernel
theorem dX12_takesTerms_44 : decode cX12_takesTerms 44 = .ok (.bipush 61, 2) := by decide +kernel
theorem dX12_takesTerms_46 : decode cX12_takesTerms 46 = .ok (.if_icmp .eq 12, 3) := by decide +kernel
theorem dX12_takesTerms_49 : decode cX12_takesTerms 49 = .ok (.aload_n 0, 1) := by decide +kernel
theorem dX12_takesTerms_50 : decode cX12_takesTerms 50 = .ok (.iconst 0, 1) := by decide +kernel
theorem dX12_takesTerms_51 : decode cX12_takesTerms 51 = .ok (.invokevirtual 368, 3) := by decide +kernel
theorem dX12_takesTerms_54 : decode cX12_takesTerms 54 = .ok (.istore_n 1, 1) := by decide +kernel
theorem dX12_takesTerms_55 : decode cX12_takesTerms 55 = .ok (.goto (-28), 3) := by decide +kernel
theorem dX12_takesTerms_58 : decode cX12_takesTerms 58 = .ok (.iload_n 1, 1) := by decide +kernel
theorem dX12_takesTerms_59 : decode cX12_takesTerms 59 = .ok (.ireturn, 1) := by decide +kernel
def rm_fMM_takesTerms : Room := { frames := 3, cells := 0, slots := 0, locals := 112 }
set_option maxHeartbeats 4000000 in
set_option maxRecDepth 100000 in
theorem c_fMM_takesTerms (l : Launch) (X : eX) (sz : Nat)  (σ : sT) (rz : Int32) (σz : sT) (h0 : fMM_takesTerms σ = some (rz, σz)) : ctI l yX12_takesTerms cX12_takesTerms 2 (some .boolean) rm_fMM_takesTerms [.ref (X.2.1 33)] (wM X) (tM X) (aM X) X sz σ rz σz := by
  refine ct_of (by decide +kernel) (Nat.le_of_ble_eq_true rfl) ?_
  intro p e s m args below meth c ls hz B hl Z
  have B : Bd p s m args meth c RX12 cX12_takesTerms 2 (some .boolean) := B
  have hl : lv_has ls 2 [(0, .ref (X.2.1 33))] := hl
  have hx := B.1
  have hb := B.2.1
  unfold fMM_takesTerms at h0
  refine lv_aload_n hx hb dX12_takesTerms_0 rfl (lv_at hl 0 rfl) ?_
  obtain ⟨r2, σ3, hc0, h1⟩ := db2_s h0
  clear h0
  refine cV_I [] [] B mx_yX12_here (c_fMM_here l X _ σ r2 σ3 hc0) kl_RX12_323 mi_yX12_here (rv_33 _ _) hcl_12 Z hl rfl rfl ⟨Nat.le_of_ble_eq_true rfl, Nat.le_of_ble_eq_true rfl⟩ rfl rfl (Nat.le_of_ble_eq_true rfl) dX12_takesTerms_1 (fun H locs Z => ?_)
  clear hc0
  refine lv_bipush (v := (48 : Int32)) hx hb dX12_takesTerms_4 (by decide) ?_
  refine lv_icmp_ne (tgt := 21) hx hb dX12_takesTerms_6 (by decide) (fun c4 => ?_) (fun c4 => ?_)
  · have h2 := dif h1 c4
    clear h1
    refine lv_aload_n hx hb dX12_takesTerms_21 rfl (lv_at hl 0 rfl) ?_
    refine lv_iconst (v := (1 : Int32)) hx hb dX12_takesTerms_22 (by decide) ?_
    obtain ⟨r6, σ7, hc4, h3⟩ := db2_s h2
    clear h2
    refine cV_I [.int (1 : Int32)] [] B mx_yX12_takesTerm (c_fMM_takesTerm l X _ (1 : Int32) σ3 r6 σ7 hc4) kl_RX12_368 mi_yX12_takesTerm (rv_33 _ _) hcl_12 Z hl rfl rfl ⟨Nat.le_of_ble_eq_true rfl, Nat.le_of_ble_eq_true rfl⟩ rfl rfl (Nat.le_of_ble_eq_true rfl) dX12_takesTerms_23 (fun H locs Z => ?_)
    clear hc4
    refine lv_istore_n (lv' := [(1, .int r6), (0, .ref (X.2.1 33))]) hx hb dX12_takesTerms_26 rfl hl (by decide) rfl (fun ls hl => ?_)
    have lL27 : ∀ (n : Nat), ∀ (x8 : Int32) (σ9 : sT) (H : Heap) (locs : List Loc) (ls : Array Slot), Wd (wM X) (tM X) (aM X) X s σ9 H locs → lv_has ls 2 [(0, .ref (X.2.1 33)), (1, .int x8)] → fMM_takesTerms_L27 n x8 σ9 = some (rz, σz) → W p l e rm_fMM_takesTerms s m args below meth c H locs 0 0 (MQ below (va_Qi (fun a u => a = rz ∧ u = σz) (poW (wM X) (tM X) (aM X) X sz) (aA (aM X) sz)) args s 0 0 (aA (aM X) sz)) (F0 m 27 ls []) := by
      intro n
      induction n with
      | zero =>
        intro x8 σ9 H locs ls Z hl h
        exact nomatch (show (none : Option (Int32 × sT)) = some _ from h)
      | succ n10 ih16 =>
        intro x8 σ9 H locs ls Z hl h4
        unfold fMM_takesTerms_L27 at h4
        refine lv_iload_n hx hb dX12_takesTerms_27 rfl (lv_at hl 1 rfl) ?_
        refine lv_if_eq (tgt := 58) hx hb dX12_takesTerms_28 (by decide) (fun c11 => ?_) (fun c11 => ?_)
        · have h5 := dit h4 c11
          clear h4
          refine lv_iload_n hx hb dX12_takesTerms_58 rfl (lv_at hl 1 rfl) ?_
          obtain ⟨z12, h6⟩ := dck_s h5
          clear h5
          exact reI B Z (okZ_n z12) hz h6 dX12_takesTerms_59
        · have h7 := dif h4 c11
          clear h4
          refine lv_aload_n hx hb dX12_takesTerms_31 rfl (lv_at hl 0 rfl) ?_
          obtain ⟨r14, σ15, hc12, h8⟩ := db2_s h7
          clear h7
          refine cV_I [] [] B mx_yX12_here (c_fMM_here l X _ σ9 r14 σ15 hc12) kl_RX12_323 mi_yX12_here (rv_33 _ _) hcl_12 Z hl rfl rfl ⟨Nat.le_of_ble_eq_true rfl, Nat.le_of_ble_eq_true rfl⟩ rfl rfl (Nat.le_of_ble_eq_true rfl) dX12_takesTerms_32 (fun H locs Z => ?_)
          clear hc12
          refine lv_bipush (v := (60 : Int32)) hx hb dX12_takesTerms_35 (by decide) ?_
          refine lv_icmp_eq (tgt := 58) hx hb dX12_takesTerms_37 (by decide) (fun c16 => ?_) (fun c16 => ?_)
          · have h9 := dit h8 c16
            clear h8
            refine lv_iload_n hx hb dX12_takesTerms_58 rfl (lv_at hl 1 rfl) ?_
            obtain ⟨z17, h10⟩ := dck_s h9
            clear h9
            exact reI B Z (okZ_n z17) hz h10 dX12_takesTerms_59
          · have h11 := dif h8 c16
            clear h8
            refine lv_aload_n hx hb dX12_takesTerms_40 rfl (lv_at hl 0 rfl) ?_
            obtain ⟨r19, σ20, hc17, h12⟩ := db2_s h11
            clear h11
            refine cV_I [] [] B mx_yX12_here (c_fMM_here l X _ σ15 r19 σ20 hc17) kl_RX12_323 mi_yX12_here (rv_33 _ _) hcl_12 Z hl rfl rfl ⟨Nat.le_of_ble_eq_true rfl, Nat.le_of_ble_eq_true rfl⟩ rfl rfl (Nat.le_of_ble_eq_true rfl) dX12_takesTerms_41 (fun H locs Z => ?_)
            clear hc17
            refine lv_bipush (v := (61 : Int32)) hx hb dX12_takesTerms_44 (by decide) ?_
            refine lv_icmp_eq (tgt := 58) hx hb dX12_takesTerms_46 (by decide) (fun c21 => ?_) (fun c21 => ?_)
            · have h13 := dit h12 c21
              clear h12
              refine lv_iload_n hx hb dX12_takesTerms_58 rfl (lv_at hl 1 rfl) ?_
              obtain ⟨z22, h14⟩ := dck_s h13
              clear h13
              exact reI B Z (okZ_n z22) hz h14 dX12_takesTerms_59
            · have h15 := dif h12 c21
              clear h12
              refine lv_aload_n hx hb dX12_takesTerms_49 rfl (lv_at hl 0 rfl) ?_
              refine lv_iconst (v := (0 : Int32)) hx hb dX12_takesTerms_50 (by decide) ?_
              obtain ⟨r24, σ25, hc22, h16⟩ := db2_s h15
              clear h15
              refine cV_I [.int (0 : Int32)] [] B mx_yX12_takesTerm (c_fMM_takesTerm l X _ (0 : Int32) σ20 r24 σ25 hc22) kl_RX12_368 mi_yX12_takesTerm (rv_33 _ _) hcl_12 Z hl rfl rfl ⟨Nat.le_of_ble_eq_true rfl, Nat.le_of_ble_eq_true rfl⟩ rfl rfl (Nat.le_of_ble_eq_true rfl) dX12_takesTerms_51 (fun H locs Z => ?_)
              clear hc22
              refine lv_istore_n (lv' := [(1, .int r24), (0, .ref (X.2.1 33))]) hx hb dX12_takesTerms_54 rfl hl (by decide) rfl (fun ls hl => ?_)
              refine lv_goto (tgt := 27) hx hb dX12_takesTerms_55 (by decide) ?_
              exact ih16 r24 σ25 _ _ _ Z (lv_sub hl [1, 0] rfl) h16
    exact lL27 FU r6 σ7 _ _ _ Z (lv_sub hl [1, 0] rfl) h3
  · have h17 := dit h1 c4
    clear h1
    refine lv_aload_n hx hb dX12_takesTerms_9 rfl (lv_at hl 0 rfl) ?_
    refine lv_dup hx hb dX12_takesTerms_10 rfl ?_
    refine g_33_27 B Z kf_RX12_290 dX12_takesTerms_11 ?_
    refine lv_iconst (v := (1 : Int32)) hx hb dX12_takesTerms_14 (by decide) ?_
    refine lv_iadd hx hb dX12_takesTerms_15 ?_
    refine s_33_27 B Z kf_RX12_290 dX12_takesTerms_16 (fun H locs Z => ?_)
    obtain ⟨σ26, eσ26, h18⟩ := dlt_s h17
    clear h17
    replace Z := Wd.eq eσ26 Z
    clear eσ26
    refine lv_iconst (v := (1 : Int32)) hx hb dX12_takesTerms_19 (by decide) ?_
    exact reI B Z rfl hz h18 dX12_takesTerms_20
theorem dX12_takesKind_0 : decode cX12_takesKind 0 = .ok (.aload_n 0, 1) := by decide +kernel
theorem dX12_takesKind_1 : decode cX12_takesKind 1 = .ok (.invokevirtual 323, 3) := by decide +kernel
theorem dX12_takesKind_4 : decode cX12_takesKind 4 = .ok (.istore_n 1, 1) := by decide +kernel
theorem dX12_takesKind_5 : decode cX12_takesKind 5 = .ok (.iload_n 1, 1) := by decide +kernel
theorem dX12_takesKind_6 : decode cX12_takesKind 6 = .ok (.bipush 60, 2) := by decide +kernel
theorem dX12_takesKind_8 : decode cX12_takesKind 8 = .ok (.if_icmp .eq 11, 3) := by decide +kernel
theorem dX12_takesKind_11 : decode cX12_takesKind 11 = .ok (.iload_n 1, 1) := by decide +kernel
theorem dX12_takesKind_12 : decode cX12_takesKind 12 = .ok (.bipush 61, 2) := by decide +kernel
theorem dX12_takesKind_14 : decode cX12_takesKind 14 = .ok (.if_icmp .eq 5, 3) := by decide +kernel
theorem dX12_takesKind_17 : decode cX12_takesKind 17 = .ok (.iconst 0, 1) := by decide +kernel
theorem dX12_takesKind_18 : decode cX12_takesKind 18 = .ok (.ireturn, 1) := by decide +kernel
theorem dX12_takesKind_19 : decode cX12_takesKind 19 = .ok (.aload_n 0, 1) := by decide +kernel
theorem dX12_takesKind_20 : decode cX12_takesKind 20 = .ok (.dup, 1) := by decide +kernel
theorem dX12_takesKind_21 : decode cX12_takesKind 21 = .ok (.getfield 290, 3) := by decide +kernel
theorem dX12_takesKind_24 : decode cX12_takesKind 24 = .ok (.iconst 1, 1) := by decide +kernel
theorem dX12_takesKind_25 : decode cX12_takesKind 25 = .ok (.iadd, 1) := by decide +kernel
theorem dX12_takesKind_26 : decode cX12_takesKind 26 = .ok (.putfield 290, 3) := by decide +kernel
theorem dX12_takesKind_29 : decode cX12_takesKind 29 = .ok (.iload_n 1, 1) := by decide +kernel
theorem dX12_takesKind_30 : decode cX12_takesKind 30 = .ok (.bipush 60, 2) := by decide +kernel
theorem dX12_takesKind_32 : decode cX12_takesKind 32 = .ok (.if_icmp .ne 32, 3) := by decide +kernel
theorem dX12_takesKind_35 : decode cX12_takesKind 35 = .ok (.aload_n 0, 1) := by decide +kernel
theorem dX12_takesKind_36 : decode cX12_takesKind 36 = .ok (.getfield 290, 3) := by decide +kernel
theorem dX12_takesKind_39 : decode cX12_takesKind 39 = .ok (.aload_n 0, 1) := by decide +kernel
theorem dX12_takesKind_40 : decode cX12_takesKind 40 = .ok (.getfield 293, 3) := by decide +kernel
theorem dX12_takesKind_43 : decode cX12_takesKind 43 = .ok (.if_icmp .ge 21, 3) := by decide +kernel
theorem dX12_takesKind_46 : decode cX12_takesKind 46 = .ok (.aload_n 0, 1) := by decide +kernel
theorem dX12_takesKind_47 : decode cX12_takesKind 47 = .ok (.getfield 44, 3) := by decide +kernel
theorem dX12_takesKind_50 : decode cX12_takesKind 50 = .ok (.aload_n 0, 1) := by decide +kernel
theorem dX12_takesKind_51 : decode cX12_takesKind 51 = .ok (.getfield 290, 3) := by decide +kernel
theorem dX12_takesKind_54 : decode cX12_takesKind 54 = .ok (.iaload, 1) := by decide +kernel
theorem dX12_takesKind_55 : decode cX12_takesKind 55 = .ok (.bipush 61, 2) := by decide +kernel
theorem dX12_takesKind_57 : decode cX12_takesKind 57 = .ok (.if_icmp .ne 7, 3) := by decide +kernel
theorem dX12_takesKind_60 : decode cX12_takesKind 60 = .ok (.iconst 1, 1) := by decide +kernel
theorem dX12_takesKind_61 : decode cX12_takesKind 61 = .ok (.goto 4, 3) := by decide +kernel
theorem dX12_takesKind_64 : decode cX12_takesKind 64 = .ok (.iconst 0, 1) := by decide +kernel
theorem dX12_takesKind_65 : decode cX12_takesKind 65 = .ok (.istore_n 2, 1) := by decide +kernel
theorem dX12_takesKind_66 : decode cX12_takesKind 66 = .ok (.aload_n 0, 1) := by decide +kernel
theorem dX12_takesKind_67 : decode cX12_takesKind 67 = .ok (.dup, 1) := by decide +kernel
theorem dX12_takesKind_68 : decode cX12_takesKind 68 = .ok (.getfield 290, 3) := by decide +kernel
theorem dX12_takesKind_71 : decode cX12_takesKind 71 = .ok (.iload_n 2, 1) := by decide +kernel
theorem dX12_takesKind_72 : decode cX12_takesKind 72 = .ok (.ifCond .eq 7, 3) := by decide +kernel
theorem dX12_takesKind_75 : decode cX12_takesKind 75 = .ok (.iconst 1, 1) := by decide +kernel
theorem dX12_takesKind_76 : decode cX12_takesKind 76 = .ok (.goto 4, 3) := by decide +kernel
theorem dX12_takesKind_79 : decode cX12_takesKind 79 = .ok (.iconst 0, 1) := by decide +kernel
theorem dX12_takesKind_80 : decode cX12_takesKind 80 = .ok (.iadd, 1) := by decide +kernel
theorem dX12_takesKind_81 : decode cX12_takesKind 81 = .ok (.putfield 290, 3) := by decide +kernel
theorem dX12_takesKind_84 : decode cX12_takesKind 84 = .ok (.aload_n 0, 1) := by decide +kernel
theorem dX12_takesKind_85 : decode cX12_takesKind 85 = .ok (.getfield 57, 3) := by decide +kernel
theorem dX12_takesKind_88 : decode cX12_takesKind 88 = .ok (.iconst 3, 1) := by decide +kernel
theorem dX12_takesKind_89 : decode cX12_takesKind 89 = .ok (.iload_n 1, 1) := by decide +kernel
theorem dX12_takesKind_90 : decode cX12_takesKind 90 = .ok (.bipush 61, 2) := by decide +kernel
theorem dX12_takesKind_92 : decode cX12_takesKind 92 = .ok (.if_icmp .ne 7, 3) := by decide +kernel
theorem dX12_takesKind_95 : decode cX12_takesKind 95 = .ok (.iconst 2, 1) := by decide +kernel
theorem dX12_takesKind_96 : decode cX12_takesKind 96 = .ok (.goto 12, 3) := by decide +kernel
theorem dX12_takesKind_99 : decode cX12_takesKind 99 = .ok (.iload_n 2, 1) := by decide +kernel
theorem dX12_takesKind_100 : decode cX12_takesKind 100 = .ok (.ifCond .eq 7, 3) := by decide +kernel
theorem dX12_takesKind_103 : decode cX12_takesKind 103 = .ok (.iconst 1, 1) := by decide +kernel
theorem dX12_takesKind_104 : decode cX12_takesKind 104 = .ok (.goto 4, 3) := by decide +kernel
theorem dX12_takesKind_107 : decode cX12_takesKind 107 = .ok (.iconst 0, 1) := by decide +kernel
theorem dX12_takesKind_108 : decode cX12_takesKind 108 = .ok (.iastore, 1) := by decide +kernel
theorem dX12_takesKind_109 : decode cX12_takesKind 109 = .ok (.iconst 1, 1) := by decide +kernel
theorem dX12_takesKind_110 : decode cX12_takesKind 110 = .ok (.ireturn, 1) := by decide +kernel
def rm_fMM_takesKind : Room := { frames := 2, cells := 0, slots := 0, locals := 80 }
set_option maxHeartbeats 4000000 in
set_option maxRecDepth 100000 in
theorem c_fMM_takesKind (l : Launch) (X : eX) (sz : Nat)  (σ : sT) (rz : Int32) (σz : sT) (h0 : fMM_takesKind σ = some (rz, σz)) : ctI l yX12_takesKind cX12_takesKind 3 (some .boolean) rm_fMM_takesKind [.ref (X.2.1 33)] (wM X) (tM X) (aM X) X sz σ rz σz := by
  refine ct_of (by decide +kernel) (Nat.le_of_ble_eq_true rfl) ?_
  intro p e s m args below meth c ls hz B hl Z
  have B : Bd p s m args meth c RX12 cX12_takesKind 3 (some .boolean) := B
  have hl : lv_has ls 3 [(0, .ref (X.2.1 33))] := hl
  have hx := B.1
  have hb := B.2.1
  unfold fMM_takesKind at h0
  refine lv_aload_n hx hb dX12_takesKind_0 rfl (lv_at hl 0 rfl) ?_
  obtain ⟨r2, σ3, hc0, h1⟩ := db2_s h0
  clear h0
  refine cV_I [] [] B mx_yX12_here (c_fMM_here l X _ σ r2 σ3 hc0) kl_RX12_323 mi_yX12_here (rv_33 _ _) hcl_12 Z hl rfl rfl ⟨Nat.le_of_ble_eq_true rfl, Nat.le_of_ble_eq_true rfl⟩ rfl rfl (Nat.le_of_ble_eq_true rfl) dX12_takesKind_1 (fun H locs Z => ?_)
  clear hc0
  refine lv_istore_n (lv' := [(1, .int r2), (0, .ref (X.2.1 33))]) hx hb dX12_takesKind_4 rfl hl (by decide) rfl (fun ls hl => ?_)
  refine lv_iload_n hx hb dX12_takesKind_5 rfl (lv_at hl 0 rfl) ?_
  refine lv_bipush (v := (60 : Int32)) hx hb dX12_takesKind_6 (by decide) ?_
  obtain ⟨J4, eJ4, h28⟩ := dlt_s h1
  clear h1
  have kJ4 : ∀ (H : Heap) (locs : List Loc) (ls : Array Slot), Wd (wM X) (tM X) (aM X) X s σ3 H locs → lv_has ls 3 [(0, .ref (X.2.1 33)), (1, .int r2)] → J4 () = some (rz, σz) → W p l e rm_fMM_takesKind s m args below meth c H locs 0 0 (MQ below (va_Qi (fun a u => a = rz ∧ u = σz) (poW (wM X) (tM X) (aM X) X sz) (aA (aM X) sz)) args s 0 0 (aA (aM X) sz)) (F0 m 19 ls []) := by
    intro  H locs ls Z hl h2
    rw [eJ4] at h2
    refine lv_aload_n hx hb dX12_takesKind_19 rfl (lv_at hl 0 rfl) ?_
    refine lv_dup hx hb dX12_takesKind_20 rfl ?_
    refine g_33_27 B Z kf_RX12_290 dX12_takesKind_21 ?_
    refine lv_iconst (v := (1 : Int32)) hx hb dX12_takesKind_24 (by decide) ?_
    refine lv_iadd hx hb dX12_takesKind_25 ?_
    refine s_33_27 B Z kf_RX12_290 dX12_takesKind_26 (fun H locs Z => ?_)
    obtain ⟨σ5, eσ5, h3⟩ := dlt_s h2
    clear h2
    replace Z := Wd.eq eσ5 Z
    clear eσ5
    refine lv_iload_n hx hb dX12_takesKind_29 rfl (lv_at hl 1 rfl) ?_
    refine lv_bipush (v := (60 : Int32)) hx hb dX12_takesKind_30 (by decide) ?_
    obtain ⟨J7, eJ7, h18⟩ := dlt_s h3
    clear h3
    have kJ7 : ∀ (x6 : Int32) (H : Heap) (locs : List Loc) (ls : Array Slot), Wd (wM X) (tM X) (aM X) X s σ5 H locs → lv_has ls 3 [(0, .ref (X.2.1 33)), (1, .int r2)] → J7 x6 = some (rz, σz) → W p l e rm_fMM_takesKind s m args below meth c H locs 0 0 (MQ below (va_Qi (fun a u => a = rz ∧ u = σz) (poW (wM X) (tM X) (aM X) X sz) (aA (aM X) sz)) args s 0 0 (aA (aM X) sz)) (F0 m 65 ls [.int x6]) := by
      intro x6 H locs ls Z hl h4
      rw [eJ7] at h4
      refine lv_istore_n (lv' := [(2, .int x6), (0, .ref (X.2.1 33)), (1, .int r2)]) hx hb dX12_takesKind_65 rfl hl (by decide) rfl (fun ls hl => ?_)
      refine lv_aload_n hx hb dX12_takesKind_66 rfl (lv_at hl 1 rfl) ?_
      refine lv_dup hx hb dX12_takesKind_67 rfl ?_
      refine g_33_27 B Z kf_RX12_290 dX12_takesKind_68 ?_
      refine lv_iload_n hx hb dX12_takesKind_71 rfl (lv_at hl 0 rfl) ?_
      obtain ⟨J10, eJ10, h15⟩ := dlt_s h4
      clear h4
      have kJ10 : ∀ (x8 : Int32) (x9 : Int32) (H : Heap) (locs : List Loc) (ls : Array Slot), Wd (wM X) (tM X) (aM X) X s σ5 H locs → lv_has ls 3 [(0, .ref (X.2.1 33)), (1, .int r2), (2, .int x6)] → J10 x8 x9 = some (rz, σz) → W p l e rm_fMM_takesKind s m args below meth c H locs 0 0 (MQ below (va_Qi (fun a u => a = rz ∧ u = σz) (poW (wM X) (tM X) (aM X) X sz) (aA (aM X) sz)) args s 0 0 (aA (aM X) sz)) (F0 m 80 ls [.int x9, .int x8, .ref (X.2.1 33)]) := by
        intro x8 x9 H locs ls Z hl h5
        rw [eJ10] at h5
        refine lv_iadd hx hb dX12_takesKind_80 ?_
        refine s_33_27 B Z kf_RX12_290 dX12_takesKind_81 (fun H locs Z => ?_)
        obtain ⟨σ11, eσ11, h6⟩ := dlt_s h5
        clear h5
        replace Z := Wd.eq eσ11 Z
        clear eσ11
        refine lv_aload_n hx hb dX12_takesKind_84 rfl (lv_at hl 0 rfl) ?_
        refine g_33_36 B Z kf_RX12_57 dX12_takesKind_85 ?_
        refine lv_iconst (v := (3 : Int32)) hx hb dX12_takesKind_88 (by decide) ?_
        refine lv_iload_n hx hb dX12_takesKind_89 rfl (lv_at hl 1 rfl) ?_
        refine lv_bipush (v := (61 : Int32)) hx hb dX12_takesKind_90 (by decide) ?_
        obtain ⟨J14, eJ14, h10⟩ := dlt_s h6
        clear h6
        have kJ14 : ∀ (x12 : Int32) (x13 : Int32) (H : Heap) (locs : List Loc) (ls : Array Slot), Wd (wM X) (tM X) (aM X) X s σ11 H locs → lv_has ls 3 [] → J14 x12 x13 = some (rz, σz) → W p l e rm_fMM_takesKind s m args below meth c H locs 0 0 (MQ below (va_Qi (fun a u => a = rz ∧ u = σz) (poW (wM X) (tM X) (aM X) X sz) (aA (aM X) sz)) args s 0 0 (aA (aM X) sz)) (F0 m 108 ls [.int x13, .int x12, .ref (X.2.1 49)]) := by
          intro x12 x13 H locs ls Z hl h7
          rw [eJ14] at h7
          obtain ⟨z15, h8⟩ := dck_s h7
          clear h7
          refine st_49 B Z z15 dX12_takesKind_108 (fun H locs Z => ?_)
          obtain ⟨σ16, eσ16, h9⟩ := dlt_s h8
          clear h8
          replace Z := Wd.eq eσ16 Z
          clear eσ16
          refine lv_iconst (v := (1 : Int32)) hx hb dX12_takesKind_109 (by decide) ?_
          exact reI B Z rfl hz h9 dX12_takesKind_110
        clear eJ14
        refine lv_icmp_ne (tgt := 99) hx hb dX12_takesKind_92 (by decide) (fun c17 => ?_) (fun c17 => ?_)
        · have h11 := dif h10 c17
          clear h10
          refine lv_iload_n hx hb dX12_takesKind_99 rfl (lv_at hl 2 rfl) ?_
          refine lv_if_eq (tgt := 107) hx hb dX12_takesKind_100 (by decide) (fun c18 => ?_) (fun c18 => ?_)
          · have h12 := dit h11 c18
            clear h11
            refine lv_iconst (v := (0 : Int32)) hx hb dX12_takesKind_107 (by decide) ?_
            exact kJ14 (3 : Int32) (0 : Int32) _ _ _ Z (lv_sub hl [] rfl) h12
          · have h13 := dif h11 c18
            clear h11
            refine lv_iconst (v := (1 : Int32)) hx hb dX12_takesKind_103 (by decide) ?_
            refine lv_goto (tgt := 108) hx hb dX12_takesKind_104 (by decide) ?_
            exact kJ14 (3 : Int32) (1 : Int32) _ _ _ Z (lv_sub hl [] rfl) h13
        · have h14 := dit h10 c17
          clear h10
          refine lv_iconst (v := (2 : Int32)) hx hb dX12_takesKind_95 (by decide) ?_
          refine lv_goto (tgt := 108) hx hb dX12_takesKind_96 (by decide) ?_
          exact kJ14 (3 : Int32) (2 : Int32) _ _ _ Z (lv_sub hl [] rfl) h14
      clear eJ10
      refine lv_if_eq (tgt := 79) hx hb dX12_takesKind_72 (by decide) (fun c19 => ?_) (fun c19 => ?_)
      · have h16 := dit h15 c19
        clear h15
        refine lv_iconst (v := (0 : Int32)) hx hb dX12_takesKind_79 (by decide) ?_
        exact kJ10 (σ5.1 33 27) (0 : Int32) _ _ _ Z (lv_sub hl [1, 2, 0] rfl) h16
      · have h17 := dif h15 c19
        clear h15
        refine lv_iconst (v := (1 : Int32)) hx hb dX12_takesKind_75 (by decide) ?_
        refine lv_goto (tgt := 80) hx hb dX12_takesKind_76 (by decide) ?_
        exact kJ10 (σ5.1 33 27) (1 : Int32) _ _ _ Z (lv_sub hl [1, 2, 0] rfl) h17
    clear eJ7
    obtain ⟨J20, eJ20, h20⟩ := dlt_s h18
    clear h18
    have kJ20 : ∀ (H : Heap) (locs : List Loc) (ls : Array Slot), Wd (wM X) (tM X) (aM X) X s σ5 H locs → lv_has ls 3 [(0, .ref (X.2.1 33)), (1, .int r2)] → J20 () = some (rz, σz) → W p l e rm_fMM_takesKind s m args below meth c H locs 0 0 (MQ below (va_Qi (fun a u => a = rz ∧ u = σz) (poW (wM X) (tM X) (aM X) X sz) (aA (aM X) sz)) args s 0 0 (aA (aM X) sz)) (F0 m 64 ls []) := by
      intro  H locs ls Z hl h19
      rw [eJ20] at h19
      refine lv_iconst (v := (0 : Int32)) hx hb dX12_takesKind_64 (by decide) ?_
      exact kJ7 (0 : Int32) _ _ _ Z (lv_sub hl [0, 1] rfl) h19
    clear eJ20
    refine lv_icmp_ne (tgt := 64) hx hb dX12_takesKind_32 (by decide) (fun c21 => ?_) (fun c21 => ?_)
    · have h21 := dif h20 c21
      clear h20
      exact kJ20  _ _ _ Z (lv_sub hl [0, 1] rfl) h21
    · have h22 := dit h20 c21
      clear h20
      refine lv_aload_n hx hb dX12_takesKind_35 rfl (lv_at hl 0 rfl) ?_
      refine g_33_27 B Z kf_RX12_290 dX12_takesKind_36 ?_
      refine lv_aload_n hx hb dX12_takesKind_39 rfl (lv_at hl 0 rfl) ?_
      refine g_33_26 B Z kf_RX12_293 dX12_takesKind_40 ?_
      refine lv_icmp_ge (tgt := 64) hx hb dX12_takesKind_43 (by decide) (fun c22 => ?_) (fun c22 => ?_)
      · have h23 := dit h22 c22
        clear h22
        exact kJ20  _ _ _ Z (lv_sub hl [0, 1] rfl) h23
      · have h24 := dif h22 c22
        clear h22
        refine lv_aload_n hx hb dX12_takesKind_46 rfl (lv_at hl 0 rfl) ?_
        refine g_33_25 B Z kf_RX12_44 dX12_takesKind_47 ?_
        refine lv_aload_n hx hb dX12_takesKind_50 rfl (lv_at hl 0 rfl) ?_
        refine g_33_27 B Z kf_RX12_290 dX12_takesKind_51 ?_
        obtain ⟨z23, h25⟩ := dck_s h24
        clear h24
        refine ld_45 B Z z23 dX12_takesKind_54 ?_
        refine lv_bipush (v := (61 : Int32)) hx hb dX12_takesKind_55 (by decide) ?_
        refine lv_icmp_ne (tgt := 64) hx hb dX12_takesKind_57 (by decide) (fun c24 => ?_) (fun c24 => ?_)
        · have h26 := dif h25 c24
          clear h25
          exact kJ20  _ _ _ Z (lv_sub hl [0, 1] rfl) h26
        · have h27 := dit h25 c24
          clear h25
          refine lv_iconst (v := (1 : Int32)) hx hb dX12_takesKind_60 (by decide) ?_
          refine lv_goto (tgt := 65) hx hb dX12_takesKind_61 (by decide) ?_
          exact kJ7 (1 : Int32) _ _ _ Z (lv_sub hl [0, 1] rfl) h27
  clear eJ4
  refine lv_icmp_eq (tgt := 19) hx hb dX12_takesKind_8 (by decide) (fun c25 => ?_) (fun c25 => ?_)
  · have h29 := dit h28 c25
    clear h28
    exact kJ4  _ _ _ Z (lv_sub hl [1, 0] rfl) h29
  · have h30 := dif h28 c25
    clear h28
    refine lv_iload_n hx hb dX12_takesKind_11 rfl (lv_at hl 0 rfl) ?_
    refine lv_bipush (v := (61 : Int32)) hx hb dX12_takesKind_12 (by decide) ?_
    refine lv_icmp_eq (tgt := 19) hx hb dX12_takesKind_14 (by decide) (fun c26 => ?_) (fun c26 => ?_)
    · have h31 := dit h30 c26
      clear h30
      exact kJ4  _ _ _ Z (lv_sub hl [1, 0] rfl) h31
    · have h32 := dif h30 c26
      clear h30
      refine lv_iconst (v := (0 : Int32)) hx hb dX12_takesKind_17 (by decide) ?_
      exact reI B Z rfl hz h32 dX12_takesKind_18
