theorem dX5_peek_0 : decode cX5_peek 0 = .ok (.aload_n 0, 1) := by decide +kernel
theorem dX5_peek_1 : decode cX5_peek 1 = .ok (.getfield 19, 3) := by decide +kernel
theorem dX5_peek_4 : decode cX5_peek 4 = .ok (.aload_n 0, 1) := by decide +kernel
theorem dX5_peek_5 : decode cX5_peek 5 = .ok (.getfield 15, 3) := by decide +kernel
theorem dX5_peek_8 : decode cX5_peek 8 = .ok (.if_icmp .ge 39, 3) := by decide +kernel
theorem dX5_peek_11 : decode cX5_peek 11 = .ok (.aload_n 0, 1) := by decide +kernel
theorem dX5_peek_12 : decode cX5_peek 12 = .ok (.getfield 19, 3) := by decide +kernel
theorem dX5_peek_15 : decode cX5_peek 15 = .ok (.bipush 80, 2) := by decide +kernel
theorem dX5_peek_17 : decode cX5_peek 17 = .ok (.if_icmp .ge 30, 3) := by decide +kernel
theorem dX5_peek_20 : decode cX5_peek 20 = .ok (.aload_n 0, 1) := by decide +kernel
theorem dX5_peek_21 : decode cX5_peek 21 = .ok (.getfield 9, 3) := by decide +kernel
theorem dX5_peek_24 : decode cX5_peek 24 = .ok (.aload_n 0, 1) := by decide +kernel
theorem dX5_peek_25 : decode cX5_peek 25 = .ok (.getfield 19, 3) := by decide +kernel
theorem dX5_peek_28 : decode cX5_peek 28 = .ok (.baload, 1) := by decide +kernel
theorem dX5_peek_29 : decode cX5_peek 29 = .ok (.bipush 32, 2) := by decide +kernel
theorem dX5_peek_31 : decode cX5_peek 31 = .ok (.if_icmp .ne 16, 3) := by decide +kernel
theorem dX5_peek_34 : decode cX5_peek 34 = .ok (.aload_n 0, 1) := by decide +kernel
theorem dX5_peek_35 : decode cX5_peek 35 = .ok (.dup, 1) := by decide +kernel
theorem dX5_peek_36 : decode cX5_peek 36 = .ok (.getfield 19, 3) := by decide +kernel
theorem dX5_peek_39 : decode cX5_peek 39 = .ok (.iconst 1, 1) := by decide +kernel
theorem dX5_peek_40 : decode cX5_peek 40 = .ok (.iadd, 1) := by decide +kernel
theorem dX5_peek_41 : decode cX5_peek 41 = .ok (.putfield 19, 3) := by decide +kernel
theorem dX5_peek_44 : decode cX5_peek 44 = .ok (.goto (-44), 3) := by decide +kernel
theorem dX5_peek_47 : decode cX5_peek 47 = .ok (.aload_n 0, 1) := by decide +kernel
theorem dX5_peek_48 : decode cX5_peek 48 = .ok (.getfield 19, 3) := by decide +kernel
theorem dX5_peek_51 : decode cX5_peek 51 = .ok (.aload_n 0, 1) := by decide +kernel
theorem dX5_peek_52 : decode cX5_peek 52 = .ok (.getfield 15, 3) := by decide +kernel
theorem dX5_peek_55 : decode cX5_peek 55 = .ok (.if_icmp .ge 24, 3) := by decide +kernel
theorem dX5_peek_58 : decode cX5_peek 58 = .ok (.aload_n 0, 1) := by decide +kernel
theorem dX5_peek_59 : decode cX5_peek 59 = .ok (.getfield 19, 3) := by decide +kernel
theorem dX5_peek_62 : decode cX5_peek 62 = .ok (.bipush 80, 2) := by decide +kernel
theorem dX5_peek_64 : decode cX5_peek 64 = .ok (.if_icmp .ge 15, 3) := by decide +kernel
theorem dX5_peek_67 : decode cX5_peek 67 = .ok (.aload_n 0, 1) := by decide +kernel
theorem dX5_peek_68 : decode cX5_peek 68 = .ok (.getfield 9, 3) := by decide +kernel
theorem dX5_peek_71 : decode cX5_peek 71 = .ok (.aload_n 0, 1) := by decide +kernel
theorem dX5_peek_72 : decode cX5_peek 72 = .ok (.getfield 19, 3) := by decide +kernel
theorem dX5_peek_75 : decode cX5_peek 75 = .ok (.baload, 1) := by decide +kernel
theorem dX5_peek_76 : decode cX5_peek 76 = .ok (.goto 4, 3) := by decide +kernel
theorem dX5_peek_79 : decode cX5_peek 79 = .ok (.iconst (-1), 1) := by decide +kernel
theorem dX5_peek_80 : decode cX5_peek 80 = .ok (.ireturn, 1) := by decide +kernel
def rm_fSc_peek : Room := { frames := 1, cells := 0, slots := 0, locals := 60 }
set_option maxHeartbeats 4000000 in
set_option maxRecDepth 100000 in
theorem c_fSc_peek (l : Launch) (X : eX) (sz : Nat)  (σ : sT) (rz : Int32) (σz : sT) (h0 : fSc_peek σ = some (rz, σz)) : ctI l yX5_peek cX5_peek 1 (some .int) rm_fSc_peek [.ref (X.2.1 26)] (wC X) (tC X) (aC X) X sz σ rz σz := by
  refine ct_of (by decide +kernel) (Nat.le_of_ble_eq_true rfl) ?_
  intro p e s m args below meth c ls hz B hl Z
  have B : Bd p s m args meth c RX5 cX5_peek 1 (some .int) := B
  have hl : lv_has ls 1 [(0, .ref (X.2.1 26))] := hl
  have hx := B.1
  have hb := B.2.1
  unfold fSc_peek at h0
  obtain ⟨K3, eK3, h7⟩ := dlt_s h0
  clear h0
  have kK3 : ∀ (σ2 : sT) (H : Heap) (locs : List Loc) (ls : Array Slot), Wd (wC X) (tC X) (aC X) X s σ2 H locs → lv_has ls 1 [(0, .ref (X.2.1 26))] → K3 σ2 = some (rz, σz) → W p l e rm_fSc_peek s m args below meth c H locs 0 0 (MQ below (va_Qi (fun a u => a = rz ∧ u = σz) (poW (wC X) (tC X) (aC X) X sz) (aA (aC X) sz)) args s 0 0 (aA (aC X) sz)) (F0 m 47 ls []) := by
    intro σ2 H locs ls Z hl h1
    rw [eK3] at h1
    refine lv_aload_n hx hb dX5_peek_47 rfl (lv_at hl 0 rfl) ?_
    refine g_26_2 B Z kf_RX5_19 dX5_peek_48 ?_
    refine lv_aload_n hx hb dX5_peek_51 rfl (lv_at hl 0 rfl) ?_
    refine g_26_1 B Z kf_RX5_15 dX5_peek_52 ?_
    refine lv_icmp_ge (tgt := 79) hx hb dX5_peek_55 (by decide) (fun c4 => ?_) (fun c4 => ?_)
    · have h2 := dit h1 c4
      clear h1
      refine lv_iconst (v := (-1 : Int32)) hx hb dX5_peek_79 (by decide) ?_
      exact reI B Z rfl hz h2 dX5_peek_80
    · have h3 := dif h1 c4
      clear h1
      refine lv_aload_n hx hb dX5_peek_58 rfl (lv_at hl 0 rfl) ?_
      refine g_26_2 B Z kf_RX5_19 dX5_peek_59 ?_
      refine lv_bipush (v := (80 : Int32)) hx hb dX5_peek_62 (by decide) ?_
      refine lv_icmp_ge (tgt := 79) hx hb dX5_peek_64 (by decide) (fun c5 => ?_) (fun c5 => ?_)
      · have h4 := dit h3 c5
        clear h3
        refine lv_iconst (v := (-1 : Int32)) hx hb dX5_peek_79 (by decide) ?_
        exact reI B Z rfl hz h4 dX5_peek_80
      · have h5 := dif h3 c5
        clear h3
        refine lv_aload_n hx hb dX5_peek_67 rfl (lv_at hl 0 rfl) ?_
        refine g_26_0 B Z kf_RX5_9 dX5_peek_68 ?_
        refine lv_aload_n hx hb dX5_peek_71 rfl (lv_at hl 0 rfl) ?_
        refine g_26_2 B Z kf_RX5_19 dX5_peek_72 ?_
        obtain ⟨z6, h6⟩ := dck_s h5
        clear h5
        refine ld_27 B Z z6 dX5_peek_75 ?_
        refine lv_goto (tgt := 80) hx hb dX5_peek_76 (by decide) ?_
        exact reI B Z rfl hz h6 dX5_peek_80
  clear eK3
  have lL0 : ∀ (n : Nat), ∀ (σ1 : sT) (H : Heap) (locs : List Loc) (ls : Array Slot), Wd (wC X) (tC X) (aC X) X s σ1 H locs → lv_has ls 1 [(0, .ref (X.2.1 26))] → fSc_peek_L0 K3 n σ1 = some (rz, σz) → W p l e rm_fSc_peek s m args below meth c H locs 0 0 (MQ below (va_Qi (fun a u => a = rz ∧ u = σz) (poW (wC X) (tC X) (aC X) X sz) (aA (aC X) sz)) args s 0 0 (aA (aC X) sz)) (F0 m 0 ls []) := by
    intro n
    induction n with
    | zero =>
      intro σ1 H locs ls Z hl h
      exact nomatch (show (none : Option (Int32 × sT)) = some _ from h)
    | succ n7 ih0 =>
      intro σ1 H locs ls Z hl h8
      unfold fSc_peek_L0 at h8
      refine lv_aload_n hx hb dX5_peek_0 rfl (lv_at hl 0 rfl) ?_
      refine g_26_2 B Z kf_RX5_19 dX5_peek_1 ?_
      refine lv_aload_n hx hb dX5_peek_4 rfl (lv_at hl 0 rfl) ?_
      refine g_26_1 B Z kf_RX5_15 dX5_peek_5 ?_
      refine lv_icmp_ge (tgt := 47) hx hb dX5_peek_8 (by decide) (fun c8 => ?_) (fun c8 => ?_)
      · have h9 := dit h8 c8
        clear h8
        exact kK3 σ1 _ _ _ Z (lv_sub hl [0] rfl) h9
      · have h10 := dif h8 c8
        clear h8
        refine lv_aload_n hx hb dX5_peek_11 rfl (lv_at hl 0 rfl) ?_
        refine g_26_2 B Z kf_RX5_19 dX5_peek_12 ?_
        refine lv_bipush (v := (80 : Int32)) hx hb dX5_peek_15 (by decide) ?_
        refine lv_icmp_ge (tgt := 47) hx hb dX5_peek_17 (by decide) (fun c9 => ?_) (fun c9 => ?_)
        · have h11 := dit h10 c9
          clear h10
          exact kK3 σ1 _ _ _ Z (lv_sub hl [0] rfl) h11
        · have h12 := dif h10 c9
          clear h10
          refine lv_aload_n hx hb dX5_peek_20 rfl (lv_at hl 0 rfl) ?_
          refine g_26_0 B Z kf_RX5_9 dX5_peek_21 ?_
          refine lv_aload_n hx hb dX5_peek_24 rfl (lv_at hl 0 rfl) ?_
          refine g_26_2 B Z kf_RX5_19 dX5_peek_25 ?_
          obtain ⟨z10, h13⟩ := dck_s h12
          clear h12
          refine ld_27 B Z z10 dX5_peek_28 ?_
          refine lv_bipush (v := (32 : Int32)) hx hb dX5_peek_29 (by decide) ?_
          refine lv_icmp_ne (tgt := 47) hx hb dX5_peek_31 (by decide) (fun c11 => ?_) (fun c11 => ?_)
          · have h14 := dif h13 c11
            clear h13
            exact kK3 σ1 _ _ _ Z (lv_sub hl [0] rfl) h14
          · have h15 := dit h13 c11
            clear h13
            refine lv_aload_n hx hb dX5_peek_34 rfl (lv_at hl 0 rfl) ?_
            refine lv_dup hx hb dX5_peek_35 rfl ?_
            refine g_26_2 B Z kf_RX5_19 dX5_peek_36 ?_
            refine lv_iconst (v := (1 : Int32)) hx hb dX5_peek_39 (by decide) ?_
            refine lv_iadd hx hb dX5_peek_40 ?_
            refine s_26_2 B Z kf_RX5_19 dX5_peek_41 (fun H locs Z => ?_)
            obtain ⟨σ12, eσ12, h16⟩ := dlt_s h15
            clear h15
            replace Z := Wd.eq eσ12 Z
            clear eσ12
            refine lv_goto (tgt := 0) hx hb dX5_peek_44 (by decide) ?_
            exact ih0 σ12 _ _ _ Z (lv_sub hl [0] rfl) h16
  exact lL0 FU σ _ _ _ Z (lv_sub hl [0] rfl) h7
theorem dX5_step_0 : decode cX5_step 0 = .ok (.aload_n 0, 1) := by decide +kernel
theorem dX5_step_1 : decode cX5_step 1 = .ok (.dup, 1) := by decide +kernel
theorem dX5_step_2 : decode cX5_step 2 = .ok (.getfield 19, 3) := by decide +kernel
theorem dX5_step_5 : decode cX5_step 5 = .ok (.iconst 1, 1) := by decide +kernel
theorem dX5_step_6 : decode cX5_step 6 = .ok (.iadd, 1) := by decide +kernel
theorem dX5_step_7 : decode cX5_step 7 = .ok (.putfield 19, 3) := by decide +kernel
theorem dX5_step_10 : decode cX5_step 10 = .ok (.return_, 1) := by decide +kernel
def rm_fSc_step : Room := { frames := 1, cells := 0, slots := 0, locals := 60 }
set_option maxHeartbeats 4000000 in
set_option maxRecDepth 100000 in
theorem c_fSc_step (l : Launch) (X : eX) (sz : Nat)  (σ : sT) (σz : sT) (h0 : fSc_step σ = some σz) : ctV l yX5_step cX5_step 1 none rm_fSc_step [.ref (X.2.1 26)] (wC X) (tC X) (aC X) X sz σ σz := by
  refine ct_of (by decide +kernel) (Nat.le_of_ble_eq_true rfl) ?_
  intro p e s m args below meth c ls hz B hl Z
  have B : Bd p s m args meth c RX5 cX5_step 1 none := B
  have hl : lv_has ls 1 [(0, .ref (X.2.1 26))] := hl
  have hx := B.1
  have hb := B.2.1
  unfold fSc_step at h0
  refine lv_aload_n hx hb dX5_step_0 rfl (lv_at hl 0 rfl) ?_
  refine lv_dup hx hb dX5_step_1 rfl ?_
  refine g_26_2 B Z kf_RX5_19 dX5_step_2 ?_
  refine lv_iconst (v := (1 : Int32)) hx hb dX5_step_5 (by decide) ?_
  refine lv_iadd hx hb dX5_step_6 ?_
  refine s_26_2 B Z kf_RX5_19 dX5_step_7 (fun H locs Z => ?_)
  obtain ⟨σ1, eσ1, h1⟩ := dlt_s h0
  clear h0
  replace Z := Wd.eq eσ1 Z
  clear eσ1
  exact reV B Z hz h1 dX5_step_10
theorem dX5_failAt_0 : decode cX5_failAt 0 = .ok (.aload_n 0, 1) := by decide +kernel
theorem dX5_failAt_1 : decode cX5_failAt 1 = .ok (.getfield 22, 3) := by decide +kernel
theorem dX5_failAt_4 : decode cX5_failAt 4 = .ok (.ifCond .ge 8, 3) := by decide +kernel
theorem dX5_failAt_7 : decode cX5_failAt 7 = .ok (.aload_n 0, 1) := by decide +kernel
theorem dX5_failAt_8 : decode cX5_failAt 8 = .ok (.iload_n 1, 1) := by decide +kernel
theorem dX5_failAt_9 : decode cX5_failAt 9 = .ok (.putfield 22, 3) := by decide +kernel
theorem dX5_failAt_12 : decode cX5_failAt 12 = .ok (.return_, 1) := by decide +kernel
def rm_fSc_failAt : Room := { frames := 1, cells := 0, slots := 0, locals := 60 }
set_option maxHeartbeats 4000000 in
set_option maxRecDepth 100000 in
theorem c_fSc_failAt (l : Launch) (X : eX) (sz : Nat) (a1 : Int32) (σ : sT) (σz : sT) (h0 : fSc_failAt a1 σ = some σz) : ctV l yX5_failAt cX5_failAt 2 none rm_fSc_failAt [.ref (X.2.1 26), .int a1] (wC X) (tC X) (aC X) X sz σ σz := by
  refine ct_of (by decide +kernel) (Nat.le_of_ble_eq_true rfl) ?_
  intro p e s m args below meth c ls hz B hl Z
  have B : Bd p s m args meth c RX5 cX5_failAt 2 none := B
  have hl : lv_has ls 2 [(0, .ref (X.2.1 26)), (1, .int a1)] := hl
  have hx := B.1
  have hb := B.2.1
  unfold fSc_failAt at h0
  refine lv_aload_n hx hb dX5_failAt_0 rfl (lv_at hl 0 rfl) ?_
  refine g_26_3 B Z kf_RX5_22 dX5_failAt_1 ?_
  refine lv_if_ge (tgt := 12) hx hb dX5_failAt_4 (by decide) (fun c1 => ?_) (fun c1 => ?_)
  · have h1 := dit h0 c1
    clear h0
    exact reV B Z hz h1 dX5_failAt_12
  · have h2 := dif h0 c1
    clear h0
    refine lv_aload_n hx hb dX5_failAt_7 rfl (lv_at hl 0 rfl) ?_
    refine lv_iload_n hx hb dX5_failAt_8 rfl (lv_at hl 1 rfl) ?_
    refine s_26_3 B Z kf_RX5_22 dX5_failAt_9 (fun H locs Z => ?_)
    obtain ⟨σ2, eσ2, h3⟩ := dlt_s h2
    clear h2
    replace Z := Wd.eq eσ2 Z
    clear eσ2
    exact reV B Z hz h3 dX5_failAt_12
theorem dX5_here_0 : decode cX5_here 0 = .ok (.aload_n 0, 1) := by decide +kernel
theorem dX5_here_1 : decode cX5_here 1 = .ok (.getfield 19, 3) := by decide +kernel
theorem dX5_here_4 : decode cX5_here 4 = .ok (.aload_n 0, 1) := by decide +kernel
theorem dX5_here_5 : decode cX5_here 5 = .ok (.getfield 15, 3) := by decide +kernel
theorem dX5_here_8 : decode cX5_here 8 = .ok (.if_icmp .ge 24, 3) := by decide +kernel
theorem dX5_here_11 : decode cX5_here 11 = .ok (.aload_n 0, 1) := by decide +kernel
theorem dX5_here_12 : decode cX5_here 12 = .ok (.getfield 19, 3) := by decide +kernel
theorem dX5_here_15 : decode cX5_here 15 = .ok (.bipush 80, 2) := by decide +kernel
theorem dX5_here_17 : decode cX5_here 17 = .ok (.if_icmp .ge 15, 3) := by decide +kernel
theorem dX5_here_20 : decode cX5_here 20 = .ok (.aload_n 0, 1) := by decide +kernel
theorem dX5_here_21 : decode cX5_here 21 = .ok (.getfield 9, 3) := by decide +kernel
theorem dX5_here_24 : decode cX5_here 24 = .ok (.aload_n 0, 1) := by decide +kernel
theorem dX5_here_25 : decode cX5_here 25 = .ok (.getfield 19, 3) := by decide +kernel
theorem dX5_here_28 : decode cX5_here 28 = .ok (.baload, 1) := by decide +kernel
theorem dX5_here_29 : decode cX5_here 29 = .ok (.goto 4, 3) := by decide +kernel
theorem dX5_here_32 : decode cX5_here 32 = .ok (.iconst (-1), 1) := by decide +kernel
theorem dX5_here_33 : decode cX5_here 33 = .ok (.ireturn, 1) := by decide +kernel
def rm_fSc_here : Room := { frames := 1, cells := 0, slots := 0, locals := 60 }
set_option maxHeartbeats 4000000 in
set_option maxRecDepth 100000 in
theorem c_fSc_here (l : Launch) (X : eX) (sz : Nat)  (σ : sT) (rz : Int32) (h0 : fSc_here σ = some rz) : ctI l yX5_here cX5_here 1 (some .int) rm_fSc_here [.ref (X.2.1 26)] (wC X) (tC X) (aC X) X sz σ rz σ := by
  refine ct_of (by decide +kernel) (Nat.le_of_ble_eq_true rfl) ?_
  intro p e s m args below meth c ls hz B hl Z
  have B : Bd p s m args meth c RX5 cX5_here 1 (some .int) := B
  have hl : lv_has ls 1 [(0, .ref (X.2.1 26))] := hl
  have hx := B.1
  have hb := B.2.1
  unfold fSc_here at h0
  refine lv_aload_n hx hb dX5_here_0 rfl (lv_at hl 0 rfl) ?_
  refine g_26_2 B Z kf_RX5_19 dX5_here_1 ?_
  refine lv_aload_n hx hb dX5_here_4 rfl (lv_at hl 0 rfl) ?_
  refine g_26_1 B Z kf_RX5_15 dX5_here_5 ?_
  refine lv_icmp_ge (tgt := 32) hx hb dX5_here_8 (by decide) (fun c1 => ?_) (fun c1 => ?_)
  · have h1 := dit h0 c1
    clear h0
    refine lv_iconst (v := (-1 : Int32)) hx hb dX5_here_32 (by decide) ?_
    exact reI B Z rfl hz (congrArg (Option.map (fun q => (q, σ))) h1) dX5_here_33
  · have h2 := dif h0 c1
    clear h0
    refine lv_aload_n hx hb dX5_here_11 rfl (lv_at hl 0 rfl) ?_
    refine g_26_2 B Z kf_RX5_19 dX5_here_12 ?_
    refine lv_bipush (v := (80 : Int32)) hx hb dX5_here_15 (by decide) ?_
    refine lv_icmp_ge (tgt := 32) hx hb dX5_here_17 (by decide) (fun c2 => ?_) (fun c2 => ?_)
    · have h3 := dit h2 c2
      clear h2
      refine lv_iconst (v := (-1 : Int32)) hx hb dX5_here_32 (by decide) ?_
      exact reI B Z rfl hz (congrArg (Option.map (fun q => (q, σ))) h3) dX5_here_33
    · have h4 := dif h2 c2
      clear h2
      refine lv_aload_n hx hb dX5_here_20 rfl (lv_at hl 0 rfl) ?_
      refine g_26_0 B Z kf_RX5_9 dX5_here_21 ?_
      refine lv_aload_n hx hb dX5_here_24 rfl (lv_at hl 0 rfl) ?_
      refine g_26_2 B Z kf_RX5_19 dX5_here_25 ?_
      obtain ⟨z3, h5⟩ := dck_s h4
      clear h4
      refine ld_27 B Z z3 dX5_here_28 ?_
      refine lv_goto (tgt := 33) hx hb dX5_here_29 (by decide) ?_
      exact reI B Z rfl hz (congrArg (Option.map (fun q => (q, σ))) h5) dX5_here_33
theorem dX5_readNumber_0 : decode cX5_readNumber 0 = .ok (.aload_n 0, 1) := by decide +kernel
theorem dX5_readNumber_1 : decode cX5_readNumber 1 = .ok (.getfield 19, 3) := by decide +kernel
theorem dX5_readNumber_4 : decode cX5_readNumber 4 = .ok (.istore_n 2, 1) := by decide +kernel
theorem dX5_readNumber_5 : decode cX5_readNumber 5 = .ok (.iconst 0, 1) := by decide +kernel
theorem dX5_readNumber_6 : decode cX5_readNumber 6 = .ok (.istore_n 3, 1) := by decide +kernel
theorem dX5_readNumber_7 : decode cX5_readNumber 7 = .ok (.iconst 0, 1) := by decide +kernel
theorem dX5_readNumber_8 : decode cX5_readNumber 8 = .ok (.istore 4, 2) := by decide +kernel
theorem dX5_readNumber_10 : decode cX5_readNumber 10 = .ok (.iload 4, 2) := by decide +kernel
theorem dX5_readNumber_12 : decode cX5_readNumber 12 = .ok (.iconst 2, 1) := by decide +kernel
theorem dX5_readNumber_13 : decode cX5_readNumber 13 = .ok (.if_icmp .ge 40, 3) := by decide +kernel
theorem dX5_readNumber_16 : decode cX5_readNumber 16 = .ok (.aload_n 0, 1) := by decide +kernel
theorem dX5_readNumber_17 : decode cX5_readNumber 17 = .ok (.invokevirtual 36, 3) := by decide +kernel
theorem dX5_readNumber_20 : decode cX5_readNumber 20 = .ok (.bipush 48, 2) := by decide +kernel
theorem dX5_readNumber_22 : decode cX5_readNumber 22 = .ok (.bipush 57, 2) := by decide +kernel
theorem dX5_readNumber_24 : decode cX5_readNumber 24 = .ok (.invokestatic 39, 3) := by decide +kernel
theorem dX5_readNumber_27 : decode cX5_readNumber 27 = .ok (.ifCond .eq 26, 3) := by decide +kernel
theorem dX5_readNumber_30 : decode cX5_readNumber 30 = .ok (.bipush 10, 2) := by decide +kernel
theorem dX5_readNumber_32 : decode cX5_readNumber 32 = .ok (.iload_n 3, 1) := by decide +kernel
theorem dX5_readNumber_33 : decode cX5_readNumber 33 = .ok (.imul, 1) := by decide +kernel
theorem dX5_readNumber_34 : decode cX5_readNumber 34 = .ok (.aload_n 0, 1) := by decide +kernel
theorem dX5_readNumber_35 : decode cX5_readNumber 35 = .ok (.invokevirtual 36, 3) := by decide +kernel
theorem dX5_readNumber_38 : decode cX5_readNumber 38 = .ok (.iadd, 1) := by decide +kernel
theorem dX5_readNumber_39 : decode cX5_readNumber 39 = .ok (.bipush 48, 2) := by decide +kernel
theorem dX5_readNumber_41 : decode cX5_readNumber 41 = .ok (.isub, 1) := by decide +kernel
theorem dX5_readNumber_42 : decode cX5_readNumber 42 = .ok (.istore_n 3, 1) := by decide +kernel
theorem dX5_readNumber_43 : decode cX5_readNumber 43 = .ok (.aload_n 0, 1) := by decide +kernel
theorem dX5_readNumber_44 : decode cX5_readNumber 44 = .ok (.invokevirtual 29, 3) := by decide +kernel
theorem dX5_readNumber_47 : decode cX5_readNumber 47 = .ok (.iinc 4 1, 3) := by decide +kernel
theorem dX5_readNumber_50 : decode cX5_readNumber 50 = .ok (.goto (-40), 3) := by decide +kernel
theorem dX5_readNumber_53 : decode cX5_readNumber 53 = .ok (.aload_n 0, 1) := by decide +kernel
theorem dX5_readNumber_54 : decode cX5_readNumber 54 = .ok (.getfield 19, 3) := by decide +kernel
theorem dX5_readNumber_57 : decode cX5_readNumber 57 = .ok (.iload_n 2, 1) := by decide +kernel
theorem dX5_readNumber_58 : decode cX5_readNumber 58 = .ok (.if_icmp .eq 17, 3) := by decide +kernel
theorem dX5_readNumber_61 : decode cX5_readNumber 61 = .ok (.aload_n 0, 1) := by decide +kernel
theorem dX5_readNumber_62 : decode cX5_readNumber 62 = .ok (.invokevirtual 36, 3) := by decide +kernel
theorem dX5_readNumber_65 : decode cX5_readNumber 65 = .ok (.bipush 48, 2) := by decide +kernel
theorem dX5_readNumber_67 : decode cX5_readNumber 67 = .ok (.bipush 57, 2) := by decide +kernel
theorem dX5_readNumber_69 : decode cX5_readNumber 69 = .ok (.invokestatic 39, 3) := by decide +kernel
theorem dX5_readNumber_72 : decode cX5_readNumber 72 = .ok (.ifCond .eq 14, 3) := by decide +kernel
theorem dX5_readNumber_75 : decode cX5_readNumber 75 = .ok (.aload_n 0, 1) := by decide +kernel
theorem dX5_readNumber_76 : decode cX5_readNumber 76 = .ok (.aload_n 0, 1) := by decide +kernel
theorem dX5_readNumber_77 : decode cX5_readNumber 77 = .ok (.getfield 19, 3) := by decide +kernel
theorem dX5_readNumber_80 : decode cX5_readNumber 80 = .ok (.invokevirtual 32, 3) := by decide +kernel
theorem dX5_readNumber_83 : decode cX5_readNumber 83 = .ok (.goto 13, 3) := by decide +kernel
theorem dX5_readNumber_86 : decode cX5_readNumber 86 = .ok (.iload_n 3, 1) := by decide +kernel
theorem dX5_readNumber_87 : decode cX5_readNumber 87 = .ok (.iload_n 1, 1) := by decide +kernel
theorem dX5_readNumber_88 : decode cX5_readNumber 88 = .ok (.if_icmp .le 8, 3) := by decide +kernel
theorem dX5_readNumber_91 : decode cX5_readNumber 91 = .ok (.aload_n 0, 1) := by decide +kernel
theorem dX5_readNumber_92 : decode cX5_readNumber 92 = .ok (.iload_n 2, 1) := by decide +kernel
theorem dX5_readNumber_93 : decode cX5_readNumber 93 = .ok (.invokevirtual 32, 3) := by decide +kernel
theorem dX5_readNumber_96 : decode cX5_readNumber 96 = .ok (.iload_n 3, 1) := by decide +kernel
theorem dX5_readNumber_97 : decode cX5_readNumber 97 = .ok (.ireturn, 1) := by decide +kernel
def rm_fSc_readNumber : Room := { frames := 2, cells := 0, slots := 0, locals := 82 }
set_option maxHeartbeats 4000000 in
set_option maxRecDepth 100000 in
theorem c_fSc_readNumber (l : Launch) (X : eX) (sz : Nat) (a1 : Int32) (σ : sT) (rz : Int32) (σz : sT) (h0 : fSc_readNumber a1 σ = some (rz, σz)) : ctI l yX5_readNumber cX5_readNumber 5 (some .int) rm_fSc_readNumber [.ref (X.2.1 26), .int a1] (wC X) (tC X) (aC X) X sz σ rz σz := by
  refine ct_of (by decide +kernel) (Nat.le_of_ble_eq_true rfl) ?_
  intro p e s m args below meth c ls hz B hl Z
  have B : Bd p s m args meth c RX5 cX5_readNumber 5 (some .int) := B
  have hl : lv_has ls 5 [(0, .ref (X.2.1 26)), (1, .int a1)] := hl
  have hx := B.1
  have hb := B.2.1
  unfold fSc_readNumber at h0
  refine lv_aload_n hx hb dX5_readNumber_0 rfl (lv_at hl 0 rfl) ?_
  refine g_26_2 B Z kf_RX5_19 dX5_readNumber_1 ?_
  refine lv_topi (fun x1 ex1 => ?_)
  have h1 := dlt_e ex1 h0
  clear ex1 h0
  refine lv_istore_n (lv' := [(2, .int x1), (0, .ref (X.2.1 26)), (1, .int a1)]) hx hb dX5_readNumber_4 rfl hl (by decide) rfl (fun ls hl => ?_)
  refine lv_iconst (v := (0 : Int32)) hx hb dX5_readNumber_5 (by decide) ?_
  refine lv_istore_n (lv' := [(3, .int (0 : Int32)), (2, .int x1), (0, .ref (X.2.1 26)), (1, .int a1)]) hx hb dX5_readNumber_6 rfl hl (by decide) rfl (fun ls hl => ?_)
  refine lv_iconst (v := (0 : Int32)) hx hb dX5_readNumber_7 (by decide) ?_
  refine lv_istore (lv' := [(4, .int (0 : Int32)), (3, .int (0 : Int32)), (2, .int x1), (0, .ref (X.2.1 26)), (1, .int a1)]) hx hb dX5_readNumber_8 hl (by decide) rfl (fun ls hl => ?_)
  obtain ⟨K7, eK7, h15⟩ := dlt_s h1
  clear h1
  have kK7 : ∀ (x5 : Int32) (σ6 : sT) (H : Heap) (locs : List Loc) (ls : Array Slot), Wd (wC X) (tC X) (aC X) X s σ6 H locs → lv_has ls 5 [(0, .ref (X.2.1 26)), (1, .int a1), (2, .int x1), (3, .int x5)] → K7 x5 σ6 = some (rz, σz) → W p l e rm_fSc_readNumber s m args below meth c H locs 0 0 (MQ below (va_Qi (fun a u => a = rz ∧ u = σz) (poW (wC X) (tC X) (aC X) X sz) (aA (aC X) sz)) args s 0 0 (aA (aC X) sz)) (F0 m 53 ls []) := by
    intro x5 σ6 H locs ls Z hl h2
    rw [eK7] at h2
    refine lv_aload_n hx hb dX5_readNumber_53 rfl (lv_at hl 0 rfl) ?_
    refine g_26_2 B Z kf_RX5_19 dX5_readNumber_54 ?_
    refine lv_iload_n hx hb dX5_readNumber_57 rfl (lv_at hl 2 rfl) ?_
    obtain ⟨J8, eJ8, h5⟩ := dlt_s h2
    clear h2
    have kJ8 : ∀ (H : Heap) (locs : List Loc) (ls : Array Slot), Wd (wC X) (tC X) (aC X) X s σ6 H locs → lv_has ls 5 [(0, .ref (X.2.1 26)), (3, .int x5)] → J8 () = some (rz, σz) → W p l e rm_fSc_readNumber s m args below meth c H locs 0 0 (MQ below (va_Qi (fun a u => a = rz ∧ u = σz) (poW (wC X) (tC X) (aC X) X sz) (aA (aC X) sz)) args s 0 0 (aA (aC X) sz)) (F0 m 75 ls []) := by
      intro  H locs ls Z hl h3
      rw [eJ8] at h3
      refine lv_aload_n hx hb dX5_readNumber_75 rfl (lv_at hl 0 rfl) ?_
      refine lv_aload_n hx hb dX5_readNumber_76 rfl (lv_at hl 0 rfl) ?_
      refine g_26_2 B Z kf_RX5_19 dX5_readNumber_77 ?_
      obtain ⟨σ10, hc8, h4⟩ := db1_s h3
      clear h3
      refine cV_V [.int (σ6.1 26 2)] [] B mx_yX5_failAt (c_fSc_failAt l X _ (σ6.1 26 2) σ6 σ10 hc8) kl_RX5_32 mi_yX5_failAt (rv_26 _ _) hcl_5 Z hl rfl rfl ⟨Nat.le_of_ble_eq_true rfl, Nat.le_of_ble_eq_true rfl⟩ rfl rfl (Nat.le_of_ble_eq_true rfl) dX5_readNumber_80 (fun H locs Z => ?_)
      clear hc8
      refine lv_goto (tgt := 96) hx hb dX5_readNumber_83 (by decide) ?_
      refine lv_iload_n hx hb dX5_readNumber_96 rfl (lv_at hl 1 rfl) ?_
      exact reI B Z rfl hz h4 dX5_readNumber_97
    clear eJ8
    refine lv_icmp_eq (tgt := 75) hx hb dX5_readNumber_58 (by decide) (fun c11 => ?_) (fun c11 => ?_)
    · have h6 := dit h5 c11
      clear h5
      exact kJ8  _ _ _ Z (lv_sub hl [0, 3] rfl) h6
    · have h7 := dif h5 c11
      clear h5
      refine lv_aload_n hx hb dX5_readNumber_61 rfl (lv_at hl 0 rfl) ?_
      obtain ⟨r13, hc11, h8⟩ := db1_s h7
      clear h7
      refine cV_I [] [] B mx_yX5_here (c_fSc_here l X _ σ6 r13 hc11) kl_RX5_36 mi_yX5_here (rv_26 _ _) hcl_5 Z hl rfl rfl ⟨Nat.le_of_ble_eq_true rfl, Nat.le_of_ble_eq_true rfl⟩ rfl rfl (Nat.le_of_ble_eq_true rfl) dX5_readNumber_62 (fun H locs Z => ?_)
      clear hc11
      refine lv_bipush (v := (48 : Int32)) hx hb dX5_readNumber_65 (by decide) ?_
      refine lv_bipush (v := (57 : Int32)) hx hb dX5_readNumber_67 (by decide) ?_
      obtain ⟨r15, hc13, h9⟩ := db1_s h8
      clear h8
      refine cSN_I [.int r13, .int (48 : Int32), .int (57 : Int32)] [] B mx_yX11_isWithin (c_fRM_isWithin l X _ r13 (48 : Int32) (57 : Int32) σ6 r15 hc13) kx_RX5_39 ks_yX11_isWithin Z hl rfl rfl ⟨Nat.le_of_ble_eq_true rfl, Nat.le_of_ble_eq_true rfl⟩ rfl rfl (Nat.le_of_ble_eq_true rfl) dX5_readNumber_69 (fun H locs Z => ?_)
      clear hc13
      refine lv_if_eq (tgt := 86) hx hb dX5_readNumber_72 (by decide) (fun c16 => ?_) (fun c16 => ?_)
      · have h10 := dit h9 c16
        clear h9
        refine lv_iload_n hx hb dX5_readNumber_86 rfl (lv_at hl 3 rfl) ?_
        refine lv_iload_n hx hb dX5_readNumber_87 rfl (lv_at hl 1 rfl) ?_
        refine lv_icmp_le (tgt := 96) hx hb dX5_readNumber_88 (by decide) (fun c17 => ?_) (fun c17 => ?_)
        · have h11 := dit h10 c17
          clear h10
          refine lv_iload_n hx hb dX5_readNumber_96 rfl (lv_at hl 3 rfl) ?_
          exact reI B Z rfl hz h11 dX5_readNumber_97
        · have h12 := dif h10 c17
          clear h10
          refine lv_aload_n hx hb dX5_readNumber_91 rfl (lv_at hl 0 rfl) ?_
          refine lv_iload_n hx hb dX5_readNumber_92 rfl (lv_at hl 2 rfl) ?_
          obtain ⟨σ19, hc17, h13⟩ := db1_s h12
          clear h12
          refine cV_V [.int x1] [] B mx_yX5_failAt (c_fSc_failAt l X _ x1 σ6 σ19 hc17) kl_RX5_32 mi_yX5_failAt (rv_26 _ _) hcl_5 Z hl rfl rfl ⟨Nat.le_of_ble_eq_true rfl, Nat.le_of_ble_eq_true rfl⟩ rfl rfl (Nat.le_of_ble_eq_true rfl) dX5_readNumber_93 (fun H locs Z => ?_)
          clear hc17
          refine lv_iload_n hx hb dX5_readNumber_96 rfl (lv_at hl 3 rfl) ?_
          exact reI B Z rfl hz h13 dX5_readNumber_97
      · have h14 := dif h9 c16
        clear h9
        exact kJ8  _ _ _ Z (lv_sub hl [0, 3] rfl) h14
  clear eK7
  have lL10 : ∀ (n : Nat), ∀ (x2 : Int32) (x3 : Int32) (σ4 : sT) (H : Heap) (locs : List Loc) (ls : Array Slot), Wd (wC X) (tC X) (aC X) X s σ4 H locs → lv_has ls 5 [(0, .ref (X.2.1 26)), (1, .int a1), (2, .int x1), (3, .int x2), (4, .int x3)] → fSc_readNumber_L10 K7 n x2 x3 σ4 = some (rz, σz) → W p l e rm_fSc_readNumber s m args below meth c H locs 0 0 (MQ below (va_Qi (fun a u => a = rz ∧ u = σz) (poW (wC X) (tC X) (aC X) X sz) (aA (aC X) sz)) args s 0 0 (aA (aC X) sz)) (F0 m 10 ls []) := by
    intro n
    induction n with
    | zero =>
      intro x2 x3 σ4 H locs ls Z hl h
      exact nomatch (show (none : Option (Int32 × sT)) = some _ from h)
    | succ n20 ih7 =>
      intro x2 x3 σ4 H locs ls Z hl h16
      unfold fSc_readNumber_L10 at h16
      refine lv_iload hx hb dX5_readNumber_10 (lv_at hl 4 rfl) ?_
      refine lv_iconst (v := (2 : Int32)) hx hb dX5_readNumber_12 (by decide) ?_
      refine lv_icmp_ge (tgt := 53) hx hb dX5_readNumber_13 (by decide) (fun c21 => ?_) (fun c21 => ?_)
      · have h17 := dit h16 c21
        clear h16
        exact kK7 x2 σ4 _ _ _ Z (lv_sub hl [0, 1, 2, 3] rfl) h17
      · have h18 := dif h16 c21
        clear h16
        refine lv_aload_n hx hb dX5_readNumber_16 rfl (lv_at hl 0 rfl) ?_
        obtain ⟨r23, hc21, h19⟩ := db1_s h18
        clear h18
        refine cV_I [] [] B mx_yX5_here (c_fSc_here l X _ σ4 r23 hc21) kl_RX5_36 mi_yX5_here (rv_26 _ _) hcl_5 Z hl rfl rfl ⟨Nat.le_of_ble_eq_true rfl, Nat.le_of_ble_eq_true rfl⟩ rfl rfl (Nat.le_of_ble_eq_true rfl) dX5_readNumber_17 (fun H locs Z => ?_)
        clear hc21
        refine lv_bipush (v := (48 : Int32)) hx hb dX5_readNumber_20 (by decide) ?_
        refine lv_bipush (v := (57 : Int32)) hx hb dX5_readNumber_22 (by decide) ?_
        obtain ⟨r25, hc23, h20⟩ := db1_s h19
        clear h19
        refine cSN_I [.int r23, .int (48 : Int32), .int (57 : Int32)] [] B mx_yX11_isWithin (c_fRM_isWithin l X _ r23 (48 : Int32) (57 : Int32) σ4 r25 hc23) kx_RX5_39 ks_yX11_isWithin Z hl rfl rfl ⟨Nat.le_of_ble_eq_true rfl, Nat.le_of_ble_eq_true rfl⟩ rfl rfl (Nat.le_of_ble_eq_true rfl) dX5_readNumber_24 (fun H locs Z => ?_)
        clear hc23
        refine lv_if_eq (tgt := 53) hx hb dX5_readNumber_27 (by decide) (fun c26 => ?_) (fun c26 => ?_)
        · have h21 := dit h20 c26
          clear h20
          exact kK7 x2 σ4 _ _ _ Z (lv_sub hl [0, 1, 2, 3] rfl) h21
        · have h22 := dif h20 c26
          clear h20
          refine lv_bipush (v := (10 : Int32)) hx hb dX5_readNumber_30 (by decide) ?_
          refine lv_iload_n hx hb dX5_readNumber_32 rfl (lv_at hl 3 rfl) ?_
          refine lv_imul hx hb dX5_readNumber_33 ?_
          refine lv_aload_n hx hb dX5_readNumber_34 rfl (lv_at hl 0 rfl) ?_
          obtain ⟨r28, hc26, h23⟩ := db1_s h22
          clear h22
          refine cV_I [] [.int ((10 : Int32) * x2)] B mx_yX5_here (c_fSc_here l X _ σ4 r28 hc26) kl_RX5_36 mi_yX5_here (rv_26 _ _) hcl_5 Z hl rfl rfl ⟨Nat.le_of_ble_eq_true rfl, Nat.le_of_ble_eq_true rfl⟩ rfl rfl (Nat.le_of_ble_eq_true rfl) dX5_readNumber_35 (fun H locs Z => ?_)
          clear hc26
          refine lv_iadd hx hb dX5_readNumber_38 ?_
          refine lv_bipush (v := (48 : Int32)) hx hb dX5_readNumber_39 (by decide) ?_
          refine lv_isub hx hb dX5_readNumber_41 ?_
          refine lv_topi (fun x29 ex29 => ?_)
          have h24 := dlt_e ex29 h23
          clear ex29 h23
          refine lv_istore_n (lv' := [(3, .int x29), (0, .ref (X.2.1 26)), (1, .int a1), (2, .int x1), (4, .int x3)]) hx hb dX5_readNumber_42 rfl hl (by decide) rfl (fun ls hl => ?_)
          refine lv_aload_n hx hb dX5_readNumber_43 rfl (lv_at hl 1 rfl) ?_
          obtain ⟨σ31, hc29, h25⟩ := db1_s h24
          clear h24
          refine cV_V [] [] B mx_yX5_step (c_fSc_step l X _ σ4 σ31 hc29) kl_RX5_29 mi_yX5_step (rv_26 _ _) hcl_5 Z hl rfl rfl ⟨Nat.le_of_ble_eq_true rfl, Nat.le_of_ble_eq_true rfl⟩ rfl rfl (Nat.le_of_ble_eq_true rfl) dX5_readNumber_44 (fun H locs Z => ?_)
          clear hc29
          refine lv_iinc (v := x3 + (1 : Int32)) (lv' := [(4, .int (x3 + (1 : Int32))), (3, .int x29), (0, .ref (X.2.1 26)), (1, .int a1), (2, .int x1)]) hx hb dX5_readNumber_47 hl (k := 4) rfl (by rfl) (by decide) rfl (fun ls hl => ?_)
          refine lv_goto (tgt := 10) hx hb dX5_readNumber_50 (by decide) ?_
          exact ih7 x29 (x3 + (1 : Int32)) σ31 _ _ _ Z (lv_sub hl [2, 3, 4, 1, 0] rfl) h25
  exact lL10 FU (0 : Int32) (0 : Int32) σ _ _ _ Z (lv_sub hl [3, 4, 2, 1, 0] rfl) h15
theorem dX1_readConstraint_0 : decode cX1_readConstraint 0 = .ok (.aload_n 0, 1) := by decide +kernel
theorem dX1_readConstraint_1 : decode cX1_readConstraint 1 = .ok (.getfield 15, 3) := by decide +kernel
theorem dX1_readConstraint_4 : decode cX1_readConstraint 4 = .ok (.aload_n 0, 1) := by decide +kernel
theorem dX1_readConstraint_5 : decode cX1_readConstraint 5 = .ok (.getfield 9, 3) := by decide +kernel
theorem dX1_readConstraint_8 : decode cX1_readConstraint 8 = .ok (.getfield 74, 3) := by decide +kernel
theorem dX1_readConstraint_11 : decode cX1_readConstraint 11 = .ok (.iconst 1, 1) := by decide +kernel
theorem dX1_readConstraint_12 : decode cX1_readConstraint 12 = .ok (.isub, 1) := by decide +kernel
theorem dX1_readConstraint_13 : decode cX1_readConstraint 13 = .ok (.invokevirtual 79, 3) := by decide +kernel
theorem dX1_readConstraint_16 : decode cX1_readConstraint 16 = .ok (.istore_n 1, 1) := by decide +kernel
theorem dX1_readConstraint_17 : decode cX1_readConstraint 17 = .ok (.aload_n 0, 1) := by decide +kernel
theorem dX1_readConstraint_18 : decode cX1_readConstraint 18 = .ok (.getfield 15, 3) := by decide +kernel
theorem dX1_readConstraint_21 : decode cX1_readConstraint 21 = .ok (.invokevirtual 55, 3) := by decide +kernel
theorem dX1_readConstraint_24 : decode cX1_readConstraint 24 = .ok (.ifCond .eq 5, 3) := by decide +kernel
theorem dX1_readConstraint_27 : decode cX1_readConstraint 27 = .ok (.iconst 0, 1) := by decide +kernel
theorem dX1_readConstraint_28 : decode cX1_readConstraint 28 = .ok (.ireturn, 1) := by decide +kernel
theorem dX1_readConstraint_29 : decode cX1_readConstraint 29 = .ok (.aload_n 0, 1) := by decide +kernel
theorem dX1_readConstraint_30 : decode cX1_readConstraint 30 = .ok (.dup, 1) := by decide +kernel
theorem dX1_readConstraint_31 : decode cX1_readConstraint 31 = .ok (.getfield 33, 3) := by decide +kernel
theorem dX1_readConstraint_34 : decode cX1_readConstraint 34 = .ok (.iconst 1, 1) := by decide +kernel
theorem dX1_readConstraint_35 : decode cX1_readConstraint 35 = .ok (.iload_n 1, 1) := by decide +kernel
theorem dX1_readConstraint_36 : decode cX1_readConstraint 36 = .ok (.ishl, 1) := by decide +kernel
theorem dX1_readConstraint_37 : decode cX1_readConstraint 37 = .ok (.ior, 1) := by decide +kernel
theorem dX1_readConstraint_38 : decode cX1_readConstraint 38 = .ok (.putfield 33, 3) := by decide +kernel
theorem dX1_readConstraint_41 : decode cX1_readConstraint 41 = .ok (.aload_n 0, 1) := by decide +kernel
theorem dX1_readConstraint_42 : decode cX1_readConstraint 42 = .ok (.getfield 19, 3) := by decide +kernel
theorem dX1_readConstraint_45 : decode cX1_readConstraint 45 = .ok (.iload_n 1, 1) := by decide +kernel
theorem dX1_readConstraint_46 : decode cX1_readConstraint 46 = .ok (.invokevirtual 82, 3) := by decide +kernel
theorem dX1_readConstraint_49 : decode cX1_readConstraint 49 = .ok (.istore_n 2, 1) := by decide +kernel
theorem dX1_readConstraint_50 : decode cX1_readConstraint 50 = .ok (.iload_n 2, 1) := by decide +kernel
theorem dX1_readConstraint_51 : decode cX1_readConstraint 51 = .ok (.ifCond .lt 19, 3) := by decide +kernel
theorem dX1_readConstraint_54 : decode cX1_readConstraint 54 = .ok (.iload_n 2, 1) := by decide +kernel
theorem dX1_readConstraint_55 : decode cX1_readConstraint 55 = .ok (.getstatic 85, 3) := by decide +kernel
theorem dX1_readConstraint_58 : decode cX1_readConstraint 58 = .ok (.arraylength, 1) := by decide +kernel
theorem dX1_readConstraint_59 : decode cX1_readConstraint 59 = .ok (.if_icmp .ge 11, 3) := by decide +kernel
theorem dX1_readConstraint_62 : decode cX1_readConstraint 62 = .ok (.getstatic 85, 3) := by decide +kernel
theorem dX1_readConstraint_65 : decode cX1_readConstraint 65 = .ok (.iload_n 2, 1) := by decide +kernel
theorem dX1_readConstraint_66 : decode cX1_readConstraint 66 = .ok (.iaload, 1) := by decide +kernel
theorem dX1_readConstraint_67 : decode cX1_readConstraint 67 = .ok (.goto 4, 3) := by decide +kernel
theorem dX1_readConstraint_70 : decode cX1_readConstraint 70 = .ok (.iconst 0, 1) := by decide +kernel
theorem dX1_readConstraint_71 : decode cX1_readConstraint 71 = .ok (.ireturn, 1) := by decide +kernel
def rm_fFR_readConstraint : Room := { frames := 3, cells := 0, slots := 0, locals := 106 }
set_option maxHeartbeats 4000000 in
set_option maxRecDepth 100000 in
theorem c_fFR_readConstraint (l : Launch) (X : eX) (sz : Nat)  (σ : sT) (rz : Int32) (σz : sT) (h0 : fFR_readConstraint σ = some (rz, σz)) : ctI l yX1_readConstraint cX1_readConstraint 3 (some .int) rm_fFR_readConstraint [.ref (X.2.1 28)] (wC X) (tC X) (aC X) X sz σ rz σz := by
  refine ct_of (by decide +kernel) (Nat.le_of_ble_eq_true rfl) ?_
  intro p e s m args below meth c ls hz B hl Z
  have B : Bd p s m args meth c RX1 cX1_readConstraint 3 (some .int) := B
  have hl : lv_has ls 3 [(0, .ref (X.2.1 28))] := hl
  have hx := B.1
  have hb := B.2.1
  unfold fFR_readConstraint at h0
  refine lv_aload_n hx hb dX1_readConstraint_0 rfl (lv_at hl 0 rfl) ?_
  refine g_28_1 B Z kf_RX1_15 dX1_readConstraint_1 ?_
  refine lv_aload_n hx hb dX1_readConstraint_4 rfl (lv_at hl 0 rfl) ?_
  refine g_28_0 B Z kf_RX1_9 dX1_readConstraint_5 ?_
  refine gn_1_3 B Z kx_RX1_74 dX1_readConstraint_8 ?_
  refine lv_iconst (v := (1 : Int32)) hx hb dX1_readConstraint_11 (by decide) ?_
  refine lv_isub hx hb dX1_readConstraint_12 ?_
  obtain ⟨r2, σ3, hc0, h1⟩ := db2_s h0
  clear h0
  refine cV_I [.int ((σ.1 1 3) - (1 : Int32))] [] B mx_yX5_readNumber (c_fSc_readNumber l X _ ((σ.1 1 3) - (1 : Int32)) σ r2 σ3 hc0) kl_RX1_79 mi_yX5_readNumber (rv_26 _ _) hcl_5 Z hl rfl rfl ⟨Nat.le_of_ble_eq_true rfl, Nat.le_of_ble_eq_true rfl⟩ rfl rfl (Nat.le_of_ble_eq_true rfl) dX1_readConstraint_13 (fun H locs Z => ?_)
  clear hc0
  refine lv_istore_n (lv' := [(1, .int r2), (0, .ref (X.2.1 28))]) hx hb dX1_readConstraint_16 rfl hl (by decide) rfl (fun ls hl => ?_)
  refine lv_aload_n hx hb dX1_readConstraint_17 rfl (lv_at hl 1 rfl) ?_
  refine g_28_1 B Z kf_RX1_15 dX1_readConstraint_18 ?_
  obtain ⟨r5, hc3, h2⟩ := db1_s h1
  clear h1
  refine cV_I [] [] B mx_yX5_hasFailed (c_fSc_hasFailed l X _ σ3 r5 hc3) kl_RX1_55 mi_yX5_hasFailed (rv_26 _ _) hcl_5 Z hl rfl rfl ⟨Nat.le_of_ble_eq_true rfl, Nat.le_of_ble_eq_true rfl⟩ rfl rfl (Nat.le_of_ble_eq_true rfl) dX1_readConstraint_21 (fun H locs Z => ?_)
  clear hc3
  refine lv_if_eq (tgt := 29) hx hb dX1_readConstraint_24 (by decide) (fun c6 => ?_) (fun c6 => ?_)
  · have h3 := dit h2 c6
    clear h2
    refine lv_aload_n hx hb dX1_readConstraint_29 rfl (lv_at hl 1 rfl) ?_
    refine lv_dup hx hb dX1_readConstraint_30 rfl ?_
    refine g_28_3 B Z kf_RX1_33 dX1_readConstraint_31 ?_
    refine lv_iconst (v := (1 : Int32)) hx hb dX1_readConstraint_34 (by decide) ?_
    refine lv_iload_n hx hb dX1_readConstraint_35 rfl (lv_at hl 0 rfl) ?_
    refine lv_ishl hx hb dX1_readConstraint_36 ?_
    refine lv_ior hx hb dX1_readConstraint_37 ?_
    refine s_28_3 B Z kf_RX1_33 dX1_readConstraint_38 (fun H locs Z => ?_)
    obtain ⟨σ7, eσ7, h4⟩ := dlt_s h3
    clear h3
    replace Z := Wd.eq eσ7 Z
    clear eσ7
    refine lv_aload_n hx hb dX1_readConstraint_41 rfl (lv_at hl 1 rfl) ?_
    refine g_28_2 B Z kf_RX1_19 dX1_readConstraint_42 ?_
    refine lv_iload_n hx hb dX1_readConstraint_45 rfl (lv_at hl 0 rfl) ?_
    obtain ⟨r9, σ10, hc7, h5⟩ := db2_s h4
    clear h4
    refine cV_I [.int r2] [] B mx_yX6_slotOf (c_fSg_slotOf l X _ r2 σ7 r9 σ10 hc7) kl_RX1_82 mi_yX6_slotOf (rv_24 _ _) hcl_6 Z hl rfl rfl ⟨Nat.le_of_ble_eq_true rfl, Nat.le_of_ble_eq_true rfl⟩ rfl rfl (Nat.le_of_ble_eq_true rfl) dX1_readConstraint_46 (fun H locs Z => ?_)
    clear hc7
    refine lv_istore_n (lv' := [(2, .int r9), (1, .int r2), (0, .ref (X.2.1 28))]) hx hb dX1_readConstraint_49 rfl hl (by decide) rfl (fun ls hl => ?_)
    refine lv_iload_n hx hb dX1_readConstraint_50 rfl (lv_at hl 0 rfl) ?_
    refine lv_if_lt (tgt := 70) hx hb dX1_readConstraint_51 (by decide) (fun c11 => ?_) (fun c11 => ?_)
    · have h6 := dit h5 c11
      clear h5
      refine lv_iconst (v := (0 : Int32)) hx hb dX1_readConstraint_70 (by decide) ?_
      exact reI B Z rfl hz h6 dX1_readConstraint_71
    · have h7 := dif h5 c11
      clear h5
      refine lv_iload_n hx hb dX1_readConstraint_54 rfl (lv_at hl 0 rfl) ?_
      refine tab_get B Z kf_RX1_85 dX1_readConstraint_55 ?_
      refine tab_len B Z dX1_readConstraint_58 ?_
      refine lv_icmp_ge (tgt := 70) hx hb dX1_readConstraint_59 (by decide) (fun c12 => ?_) (fun c12 => ?_)
      · have h8 := dit h7 c12
        clear h7
        refine lv_iconst (v := (0 : Int32)) hx hb dX1_readConstraint_70 (by decide) ?_
        exact reI B Z rfl hz h8 dX1_readConstraint_71
      · have h9 := dif h7 c12
        clear h7
        refine tab_get B Z kf_RX1_85 dX1_readConstraint_62 ?_
        refine lv_iload_n hx hb dX1_readConstraint_65 rfl (lv_at hl 0 rfl) ?_
        obtain ⟨z13, h10⟩ := dck_s h9
        clear h9
        refine tab_ld B Z z13 dX1_readConstraint_66 ?_
        refine lv_goto (tgt := 71) hx hb dX1_readConstraint_67 (by decide) ?_
        exact reI B Z rfl hz h10 dX1_readConstraint_71
  · have h11 := dif h2 c6
    clear h2
    refine lv_iconst (v := (0 : Int32)) hx hb dX1_readConstraint_27 (by decide) ?_
    exact reI B Z rfl hz h11 dX1_readConstraint_28
theorem dX5_expect_0 : decode cX5_expect 0 = .ok (.aload_n 0, 1) := by decide +kernel
theorem dX5_expect_1 : decode cX5_expect 1 = .ok (.invokevirtual 25, 3) := by decide +kernel
theorem dX5_expect_4 : decode cX5_expect 4 = .ok (.iload_n 1, 1) := by decide +kernel
theorem dX5_expect_5 : decode cX5_expect 5 = .ok (.if_icmp .ne 10, 3) := by decide +kernel
theorem dX5_expect_8 : decode cX5_expect 8 = .ok (.aload_n 0, 1) := by decide +kernel
theorem dX5_expect_9 : decode cX5_expect 9 = .ok (.invokevirtual 29, 3) := by decide +kernel
theorem dX5_expect_12 : decode cX5_expect 12 = .ok (.goto 11, 3) := by decide +kernel
theorem dX5_expect_15 : decode cX5_expect 15 = .ok (.aload_n 0, 1) := by decide +kernel
theorem dX5_expect_16 : decode cX5_expect 16 = .ok (.aload_n 0, 1) := by decide +kernel
theorem dX5_expect_17 : decode cX5_expect 17 = .ok (.getfield 19, 3) := by decide +kernel
theorem dX5_expect_20 : decode cX5_expect 20 = .ok (.invokevirtual 32, 3) := by decide +kernel
theorem dX5_expect_23 : decode cX5_expect 23 = .ok (.return_, 1) := by decide +kernel
def rm_fSc_expect : Room := { frames := 2, cells := 0, slots := 0, locals := 81 }
set_option maxHeartbeats 4000000 in
set_option maxRecDepth 100000 in
theorem c_fSc_expect (l : Launch) (X : eX) (sz : Nat) (a1 : Int32) (σ : sT) (σz : sT) (h0 : fSc_expect a1 σ = some σz) : ctV l yX5_expect cX5_expect 2 none rm_fSc_expect [.ref (X.2.1 26), .int a1] (wC X) (tC X) (aC X) X sz σ σz := by
  refine ct_of (by decide +kernel) (Nat.le_of_ble_eq_true rfl) ?_
  intro p e s m args below meth c ls hz B hl Z
  have B : Bd p s m args meth c RX5 cX5_expect 2 none := B
  have hl : lv_has ls 2 [(0, .ref (X.2.1 26)), (1, .int a1)] := hl
  have hx := B.1
  have hb := B.2.1
  unfold fSc_expect at h0
  refine lv_aload_n hx hb dX5_expect_0 rfl (lv_at hl 0 rfl) ?_
  obtain ⟨r2, σ3, hc0, h1⟩ := db2_s h0
  clear h0
  refine cV_I [] [] B mx_yX5_peek (c_fSc_peek l X _ σ r2 σ3 hc0) kl_RX5_25 mi_yX5_peek (rv_26 _ _) hcl_5 Z hl rfl rfl ⟨Nat.le_of_ble_eq_true rfl, Nat.le_of_ble_eq_true rfl⟩ rfl rfl (Nat.le_of_ble_eq_true rfl) dX5_expect_1 (fun H locs Z => ?_)
  clear hc0
  refine lv_iload_n hx hb dX5_expect_4 rfl (lv_at hl 1 rfl) ?_
  refine lv_icmp_ne (tgt := 15) hx hb dX5_expect_5 (by decide) (fun c4 => ?_) (fun c4 => ?_)
  · have h2 := dif h1 c4
    clear h1
    refine lv_aload_n hx hb dX5_expect_15 rfl (lv_at hl 0 rfl) ?_
    refine lv_aload_n hx hb dX5_expect_16 rfl (lv_at hl 0 rfl) ?_
    refine g_26_2 B Z kf_RX5_19 dX5_expect_17 ?_
    obtain ⟨σ6, hc4, h3⟩ := db1_s h2
    clear h2
    refine cV_V [.int (σ3.1 26 2)] [] B mx_yX5_failAt (c_fSc_failAt l X _ (σ3.1 26 2) σ3 σ6 hc4) kl_RX5_32 mi_yX5_failAt (rv_26 _ _) hcl_5 Z hl rfl rfl ⟨Nat.le_of_ble_eq_true rfl, Nat.le_of_ble_eq_true rfl⟩ rfl rfl (Nat.le_of_ble_eq_true rfl) dX5_expect_20 (fun H locs Z => ?_)
    clear hc4
    exact reV B Z hz h3 dX5_expect_23
  · have h4 := dit h1 c4
    clear h1
    refine lv_aload_n hx hb dX5_expect_8 rfl (lv_at hl 0 rfl) ?_
    obtain ⟨σ8, hc6, h5⟩ := db1_s h4
    clear h4
    refine cV_V [] [] B mx_yX5_step (c_fSc_step l X _ σ3 σ8 hc6) kl_RX5_29 mi_yX5_step (rv_26 _ _) hcl_5 Z hl rfl rfl ⟨Nat.le_of_ble_eq_true rfl, Nat.le_of_ble_eq_true rfl⟩ rfl rfl (Nat.le_of_ble_eq_true rfl) dX5_expect_9 (fun H locs Z => ?_)
    clear hc6
    refine lv_goto (tgt := 23) hx hb dX5_expect_12 (by decide) ?_
    exact reV B Z hz h5 dX5_expect_23
def rm_FR (d : Nat) : Room := { frames := 6 + d, cells := 0, slots := 0, locals := 188 + 28 * d }
theorem dX1_readSum_0 : decode cX1_readSum 0 = .ok (.aload_n 0, 1) := by decide +kernel
theorem dX1_readSum_1 : decode cX1_readSum 1 = .ok (.iload_n 1, 1) := by decide +kernel
theorem dX1_readSum_2 : decode cX1_readSum 2 = .ok (.invokevirtual 52, 3) := by decide +kernel
theorem dX1_readSum_5 : decode cX1_readSum 5 = .ok (.istore_n 2, 1) := by decide +kernel
theorem dX1_readSum_6 : decode cX1_readSum 6 = .ok (.iconst 0, 1) := by decide +kernel
theorem dX1_readSum_7 : decode cX1_readSum 7 = .ok (.istore_n 3, 1) := by decide +kernel
theorem dX1_readSum_8 : decode cX1_readSum 8 = .ok (.iload_n 3, 1) := by decide +kernel
theorem dX1_readSum_9 : decode cX1_readSum 9 = .ok (.bipush 80, 2) := by decide +kernel
theorem dX1_readSum_11 : decode cX1_readSum 11 = .ok (.if_icmp .ge 46, 3) := by decide +kernel
theorem dX1_readSum_14 : decode cX1_readSum 14 = .ok (.aload_n 0, 1) := by decide +kernel
theorem dX1_readSum_15 : decode cX1_readSum 15 = .ok (.getfield 15, 3) := by decide +kernel
theorem dX1_readSum_18 : decode cX1_readSum 18 = .ok (.invokevirtual 55, 3) := by decide +kernel
theorem dX1_readSum_21 : decode cX1_readSum 21 = .ok (.ifCond .ne 36, 3) := by decide +kernel
theorem dX1_readSum_24 : decode cX1_readSum 24 = .ok (.aload_n 0, 1) := by decide +kernel
theorem dX1_readSum_25 : decode cX1_readSum 25 = .ok (.getfield 15, 3) := by decide +kernel
theorem dX1_readSum_28 : decode cX1_readSum 28 = .ok (.invokevirtual 41, 3) := by decide +kernel
theorem dX1_readSum_31 : decode cX1_readSum 31 = .ok (.bipush 124, 2) := by decide +kernel
theorem dX1_readSum_33 : decode cX1_readSum 33 = .ok (.if_icmp .ne 24, 3) := by decide +kernel
theorem dX1_readSum_36 : decode cX1_readSum 36 = .ok (.aload_n 0, 1) := by decide +kernel
theorem dX1_readSum_37 : decode cX1_readSum 37 = .ok (.getfield 15, 3) := by decide +kernel
theorem dX1_readSum_40 : decode cX1_readSum 40 = .ok (.invokevirtual 59, 3) := by decide +kernel
theorem dX1_readSum_43 : decode cX1_readSum 43 = .ok (.iload_n 2, 1) := by decide +kernel
theorem dX1_readSum_44 : decode cX1_readSum 44 = .ok (.aload_n 0, 1) := by decide +kernel
theorem dX1_readSum_45 : decode cX1_readSum 45 = .ok (.iload_n 1, 1) := by decide +kernel
theorem dX1_readSum_46 : decode cX1_readSum 46 = .ok (.invokevirtual 52, 3) := by decide +kernel
theorem dX1_readSum_49 : decode cX1_readSum 49 = .ok (.ior, 1) := by decide +kernel
theorem dX1_readSum_50 : decode cX1_readSum 50 = .ok (.istore_n 2, 1) := by decide +kernel
theorem dX1_readSum_51 : decode cX1_readSum 51 = .ok (.iinc 3 1, 3) := by decide +kernel
theorem dX1_readSum_54 : decode cX1_readSum 54 = .ok (.goto (-46), 3) := by decide +kernel
theorem dX1_readSum_57 : decode cX1_readSum 57 = .ok (.iload_n 2, 1) := by decide +kernel
theorem dX1_readSum_58 : decode cX1_readSum 58 = .ok (.ireturn, 1) := by decide +kernel
set_option maxHeartbeats 4000000 in
set_option maxRecDepth 100000 in
theorem c_fFR_readSum_B (l : Launch) (X : eX) (d : Nat) (ih_0 : ∀ (sz : Nat) (a1 : Int32) (σ : sT) (rz : Int32) (σz : sT), (fFR_rec d) 0 a1 σ = some (rz, σz) → ctI l yX1_readSum cX1_readSum 4 (some .int) (rm_FR d) [.ref (X.2.1 28), .int a1] (wC X) (tC X) (aC X) X sz σ rz σz) (ih_1 : ∀ (sz : Nat) (a1 : Int32) (σ : sT) (rz : Int32) (σz : sT), (fFR_rec d) 1 a1 σ = some (rz, σz) → ctI l yX1_readProduct cX1_readProduct 4 (some .int) (rm_FR d) [.ref (X.2.1 28), .int a1] (wC X) (tC X) (aC X) X sz σ rz σz) (ih_2 : ∀ (sz : Nat) (a1 : Int32) (σ : sT) (rz : Int32) (σz : sT), (fFR_rec d) 2 a1 σ = some (rz, σz) → ctI l yX1_readFactor cX1_readFactor 4 (some .int) (rm_FR d) [.ref (X.2.1 28), .int a1] (wC X) (tC X) (aC X) X sz σ rz σz) (ih_3 : ∀ (sz : Nat) (a1 : Int32) (σ : sT) (rz : Int32) (σz : sT), (fFR_rec d) 3 a1 σ = some (rz, σz) → ctI l yX1_readInner cX1_readInner 3 (some .int) (rm_FR d) [.ref (X.2.1 28), .int a1] (wC X) (tC X) (aC X) X sz σ rz σz) (sz : Nat) (a1 : Int32) (σ : sT) (rz : Int32) (σz : sT) (h0 : fFR_readSum_B (fFR_rec d) a1 σ = some (rz, σz)) : ctI l yX1_readSum cX1_readSum 4 (some .int) (rm_FR (d + 1)) [.ref (X.2.1 28), .int a1] (wC X) (tC X) (aC X) X sz σ rz σz := by
  refine ct_of (by decide +kernel) (Nat.le_of_ble_eq_true rfl) ?_
  intro p e s m args below meth c ls hz B hl Z
  have B : Bd p s m args meth c RX1 cX1_readSum 4 (some .int) := B
  have hl : lv_has ls 4 [(0, .ref (X.2.1 28)), (1, .int a1)] := hl
  have hx := B.1
  have hb := B.2.1
  unfold fFR_readSum_B at h0
  refine lv_aload_n hx hb dX1_readSum_0 rfl (lv_at hl 0 rfl) ?_
  refine lv_iload_n hx hb dX1_readSum_1 rfl (lv_at hl 1 rfl) ?_
  obtain ⟨r2, σ3, hc0, h1⟩ := db2_s h0
  clear h0
  refine cV_I [.int a1] [] B mx_yX1_readProduct (ih_1 _ a1 σ r2 σ3 hc0) kl_RX1_52 mi_yX1_readProduct (rv_28 _ _) hcl_1 Z hl rfl rfl ⟨by dsimp only [rm_FR]; omega, by dsimp only [rm_FR]; omega⟩ rfl rfl (Nat.le_of_ble_eq_true rfl) dX1_readSum_2 (fun H locs Z => ?_)
  clear hc0
  refine lv_istore_n (lv' := [(2, .int r2), (0, .ref (X.2.1 28)), (1, .int a1)]) hx hb dX1_readSum_5 rfl hl (by decide) rfl (fun ls hl => ?_)
  refine lv_iconst (v := (0 : Int32)) hx hb dX1_readSum_6 (by decide) ?_
  refine lv_istore_n (lv' := [(3, .int (0 : Int32)), (2, .int r2), (0, .ref (X.2.1 28)), (1, .int a1)]) hx hb dX1_readSum_7 rfl hl (by decide) rfl (fun ls hl => ?_)
  have lL8 : ∀ (n : Nat), ∀ (x4 : Int32) (x5 : Int32) (σ6 : sT) (H : Heap) (locs : List Loc) (ls : Array Slot), Wd (wC X) (tC X) (aC X) X s σ6 H locs → lv_has ls 4 [(0, .ref (X.2.1 28)), (1, .int a1), (2, .int x4), (3, .int x5)] → fFR_readSum_B_L8 (fFR_rec d) a1 n x4 x5 σ6 = some (rz, σz) → W p l e (rm_FR (d + 1)) s m args below meth c H locs 0 0 (MQ below (va_Qi (fun a u => a = rz ∧ u = σz) (poW (wC X) (tC X) (aC X) X sz) (aA (aC X) sz)) args s 0 0 (aA (aC X) sz)) (F0 m 8 ls []) := by
    intro n
    induction n with
    | zero =>
      intro x4 x5 σ6 H locs ls Z hl h
      exact nomatch (show (none : Option (Int32 × sT)) = some _ from h)
    | succ n7 ih6 =>
      intro x4 x5 σ6 H locs ls Z hl h2
      unfold fFR_readSum_B_L8 at h2
      refine lv_iload_n hx hb dX1_readSum_8 rfl (lv_at hl 3 rfl) ?_
      refine lv_bipush (v := (80 : Int32)) hx hb dX1_readSum_9 (by decide) ?_
      refine lv_icmp_ge (tgt := 57) hx hb dX1_readSum_11 (by decide) (fun c8 => ?_) (fun c8 => ?_)
      · have h3 := dit h2 c8
        clear h2
        refine lv_iload_n hx hb dX1_readSum_57 rfl (lv_at hl 2 rfl) ?_
        exact reI B Z rfl hz h3 dX1_readSum_58
      · have h4 := dif h2 c8
        clear h2
        refine lv_aload_n hx hb dX1_readSum_14 rfl (lv_at hl 0 rfl) ?_
        refine g_28_1 B Z kf_RX1_15 dX1_readSum_15 ?_
        obtain ⟨r10, hc8, h5⟩ := db1_s h4
        clear h4
        refine cV_I [] [] B mx_yX5_hasFailed (c_fSc_hasFailed l X _ σ6 r10 hc8) kl_RX1_55 mi_yX5_hasFailed (rv_26 _ _) hcl_5 Z hl rfl rfl ⟨by dsimp only [rm_FR, rm_fSc_hasFailed]; omega, by dsimp only [rm_FR, rm_fSc_hasFailed]; omega⟩ rfl rfl (Nat.le_of_ble_eq_true rfl) dX1_readSum_18 (fun H locs Z => ?_)
        clear hc8
        refine lv_if_ne (tgt := 57) hx hb dX1_readSum_21 (by decide) (fun c11 => ?_) (fun c11 => ?_)
        · have h6 := dif h5 c11
          clear h5
          refine lv_iload_n hx hb dX1_readSum_57 rfl (lv_at hl 2 rfl) ?_
          exact reI B Z rfl hz h6 dX1_readSum_58
        · have h7 := dit h5 c11
          clear h5
          refine lv_aload_n hx hb dX1_readSum_24 rfl (lv_at hl 0 rfl) ?_
          refine g_28_1 B Z kf_RX1_15 dX1_readSum_25 ?_
          obtain ⟨r13, σ14, hc11, h8⟩ := db2_s h7
          clear h7
          refine cV_I [] [] B mx_yX5_peek (c_fSc_peek l X _ σ6 r13 σ14 hc11) kl_RX1_41 mi_yX5_peek (rv_26 _ _) hcl_5 Z hl rfl rfl ⟨by dsimp only [rm_FR, rm_fSc_peek]; omega, by dsimp only [rm_FR, rm_fSc_peek]; omega⟩ rfl rfl (Nat.le_of_ble_eq_true rfl) dX1_readSum_28 (fun H locs Z => ?_)
          clear hc11
          refine lv_bipush (v := (124 : Int32)) hx hb dX1_readSum_31 (by decide) ?_
          refine lv_icmp_ne (tgt := 57) hx hb dX1_readSum_33 (by decide) (fun c15 => ?_) (fun c15 => ?_)
          · have h9 := dif h8 c15
            clear h8
            refine lv_iload_n hx hb dX1_readSum_57 rfl (lv_at hl 2 rfl) ?_
            exact reI B Z rfl hz h9 dX1_readSum_58
          · have h10 := dit h8 c15
            clear h8
            refine lv_aload_n hx hb dX1_readSum_36 rfl (lv_at hl 0 rfl) ?_
            refine g_28_1 B Z kf_RX1_15 dX1_readSum_37 ?_
            obtain ⟨σ17, hc15, h11⟩ := db1_s h10
            clear h10
            refine cV_V [] [] B mx_yX5_step (c_fSc_step l X _ σ14 σ17 hc15) kl_RX1_59 mi_yX5_step (rv_26 _ _) hcl_5 Z hl rfl rfl ⟨by dsimp only [rm_FR, rm_fSc_step]; omega, by dsimp only [rm_FR, rm_fSc_step]; omega⟩ rfl rfl (Nat.le_of_ble_eq_true rfl) dX1_readSum_40 (fun H locs Z => ?_)
            clear hc15
            refine lv_iload_n hx hb dX1_readSum_43 rfl (lv_at hl 2 rfl) ?_
            refine lv_aload_n hx hb dX1_readSum_44 rfl (lv_at hl 0 rfl) ?_
            refine lv_iload_n hx hb dX1_readSum_45 rfl (lv_at hl 1 rfl) ?_
            obtain ⟨r19, σ20, hc17, h12⟩ := db2_s h11
            clear h11
            refine cV_I [.int a1] [.int x4] B mx_yX1_readProduct (ih_1 _ a1 σ17 r19 σ20 hc17) kl_RX1_52 mi_yX1_readProduct (rv_28 _ _) hcl_1 Z hl rfl rfl ⟨by dsimp only [rm_FR]; omega, by dsimp only [rm_FR]; omega⟩ rfl rfl (Nat.le_of_ble_eq_true rfl) dX1_readSum_46 (fun H locs Z => ?_)
            clear hc17
            refine lv_ior hx hb dX1_readSum_49 ?_
            refine lv_topi (fun x21 ex21 => ?_)
            have h13 := dlt_e ex21 h12
            clear ex21 h12
            refine lv_istore_n (lv' := [(2, .int x21), (0, .ref (X.2.1 28)), (1, .int a1), (3, .int x5)]) hx hb dX1_readSum_50 rfl hl (by decide) rfl (fun ls hl => ?_)
            refine lv_iinc (v := x5 + (1 : Int32)) (lv' := [(3, .int (x5 + (1 : Int32))), (2, .int x21), (0, .ref (X.2.1 28)), (1, .int a1)]) hx hb dX1_readSum_51 hl (k := 3) rfl (by rfl) (by decide) rfl (fun ls hl => ?_)
            refine lv_goto (tgt := 8) hx hb dX1_readSum_54 (by decide) ?_
            exact ih6 x21 (x5 + (1 : Int32)) σ20 _ _ _ Z (lv_sub hl [2, 3, 1, 0] rfl) h13
  exact lL8 FU r2 (0 : Int32) σ3 _ _ _ Z (lv_sub hl [2, 3, 1, 0] rfl) h1
theorem dX1_readProduct_0 : decode cX1_readProduct 0 = .ok (.aload_n 0, 1) := by decide +kernel
theorem dX1_readProduct_1 : decode cX1_readProduct 1 = .ok (.iload_n 1, 1) := by decide +kernel
theorem dX1_readProduct_2 : decode cX1_readProduct 2 = .ok (.invokevirtual 62, 3) := by decide +kernel
theorem dX1_readProduct_5 : decode cX1_readProduct 5 = .ok (.istore_n 2, 1) := by decide +kernel
theorem dX1_readProduct_6 : decode cX1_readProduct 6 = .ok (.iconst 0, 1) := by decide +kernel
theorem dX1_readProduct_7 : decode cX1_readProduct 7 = .ok (.istore_n 3, 1) := by decide +kernel
theorem dX1_readProduct_8 : decode cX1_readProduct 8 = .ok (.iload_n 3, 1) := by decide +kernel
theorem dX1_readProduct_9 : decode cX1_readProduct 9 = .ok (.bipush 80, 2) := by decide +kernel
theorem dX1_readProduct_11 : decode cX1_readProduct 11 = .ok (.if_icmp .ge 46, 3) := by decide +kernel
theorem dX1_readProduct_14 : decode cX1_readProduct 14 = .ok (.aload_n 0, 1) := by decide +kernel
theorem dX1_readProduct_15 : decode cX1_readProduct 15 = .ok (.getfield 15, 3) := by decide +kernel
theorem dX1_readProduct_18 : decode cX1_readProduct 18 = .ok (.invokevirtual 55, 3) := by decide +kernel
theorem dX1_readProduct_21 : decode cX1_readProduct 21 = .ok (.ifCond .ne 36, 3) := by decide +kernel
theorem dX1_readProduct_24 : decode cX1_readProduct 24 = .ok (.aload_n 0, 1) := by decide +kernel
theorem dX1_readProduct_25 : decode cX1_readProduct 25 = .ok (.getfield 15, 3) := by decide +kernel
theorem dX1_readProduct_28 : decode cX1_readProduct 28 = .ok (.invokevirtual 41, 3) := by decide +kernel
theorem dX1_readProduct_31 : decode cX1_readProduct 31 = .ok (.bipush 38, 2) := by decide +kernel
theorem dX1_readProduct_33 : decode cX1_readProduct 33 = .ok (.if_icmp .ne 24, 3) := by decide +kernel
theorem dX1_readProduct_36 : decode cX1_readProduct 36 = .ok (.aload_n 0, 1) := by decide +kernel
theorem dX1_readProduct_37 : decode cX1_readProduct 37 = .ok (.getfield 15, 3) := by decide +kernel
theorem dX1_readProduct_40 : decode cX1_readProduct 40 = .ok (.invokevirtual 59, 3) := by decide +kernel
theorem dX1_readProduct_43 : decode cX1_readProduct 43 = .ok (.iload_n 2, 1) := by decide +kernel
theorem dX1_readProduct_44 : decode cX1_readProduct 44 = .ok (.aload_n 0, 1) := by decide +kernel
theorem dX1_readProduct_45 : decode cX1_readProduct 45 = .ok (.iload_n 1, 1) := by decide +kernel
theorem dX1_readProduct_46 : decode cX1_readProduct 46 = .ok (.invokevirtual 62, 3) := by decide +kernel
theorem dX1_readProduct_49 : decode cX1_readProduct 49 = .ok (.iand, 1) := by decide +kernel
theorem dX1_readProduct_50 : decode cX1_readProduct 50 = .ok (.istore_n 2, 1) := by decide +kernel
theorem dX1_readProduct_51 : decode cX1_readProduct 51 = .ok (.iinc 3 1, 3) := by decide +kernel
theorem dX1_readProduct_54 : decode cX1_readProduct 54 = .ok (.goto (-46), 3) := by decide +kernel
theorem dX1_readProduct_57 : decode cX1_readProduct 57 = .ok (.iload_n 2, 1) := by decide +kernel
theorem dX1_readProduct_58 : decode cX1_readProduct 58 = .ok (.ireturn, 1) := by decide +kernel
set_option maxHeartbeats 4000000 in
set_option maxRecDepth 100000 in
theorem c_fFR_readProduct_B (l : Launch) (X : eX) (d : Nat) (ih_0 : ∀ (sz : Nat) (a1 : Int32) (σ : sT) (rz : Int32) (σz : sT), (fFR_rec d) 0 a1 σ = some (rz, σz) → ctI l yX1_readSum cX1_readSum 4 (some .int) (rm_FR d) [.ref (X.2.1 28), .int a1] (wC X) (tC X) (aC X) X sz σ rz σz) (ih_1 : ∀ (sz : Nat) (a1 : Int32) (σ : sT) (rz : Int32) (σz : sT), (fFR_rec d) 1 a1 σ = some (rz, σz) → ctI l yX1_readProduct cX1_readProduct 4 (some .int) (rm_FR d) [.ref (X.2.1 28), .int a1] (wC X) (tC X) (aC X) X sz σ rz σz) (ih_2 : ∀ (sz : Nat) (a1 : Int32) (σ : sT) (rz : Int32) (σz : sT), (fFR_rec d) 2 a1 σ = some (rz, σz) → ctI l yX1_readFactor cX1_readFactor 4 (some .int) (rm_FR d) [.ref (X.2.1 28), .int a1] (wC X) (tC X) (aC X) X sz σ rz σz) (ih_3 : ∀ (sz : Nat) (a1 : Int32) (σ : sT) (rz : Int32) (σz : sT), (fFR_rec d) 3 a1 σ = some (rz, σz) → ctI l yX1_readInner cX1_readInner 3 (some .int) (rm_FR d) [.ref (X.2.1 28), .int a1] (wC X) (tC X) (aC X) X sz σ rz σz) (sz : Nat) (a1 : Int32) (σ : sT) (rz : Int32) (σz : sT) (h0 : fFR_readProduct_B (fFR_rec d) a1 σ = some (rz, σz)) : ctI l yX1_readProduct cX1_readProduct 4 (some .int) (rm_FR (d + 1)) [.ref (X.2.1 28), .int a1] (wC X) (tC X) (aC X) X sz σ rz σz := by
  refine ct_of (by decide +kernel) (Nat.le_of_ble_eq_true rfl) ?_
  intro p e s m args below meth c ls hz B hl Z
  have B : Bd p s m args meth c RX1 cX1_readProduct 4 (some .int) := B
  have hl : lv_has ls 4 [(0, .ref (X.2.1 28)), (1, .int a1)] := hl
  have hx := B.1
  have hb := B.2.1
  unfold fFR_readProduct_B at h0
  refine lv_aload_n hx hb dX1_readProduct_0 rfl (lv_at hl 0 rfl) ?_
  refine lv_iload_n hx hb dX1_readProduct_1 rfl (lv_at hl 1 rfl) ?_
  obtain ⟨r2, σ3, hc0, h1⟩ := db2_s h0
  clear h0
  refine cV_I [.int a1] [] B mx_yX1_readFactor (ih_2 _ a1 σ r2 σ3 hc0) kl_RX1_62 mi_yX1_readFactor (rv_28 _ _) hcl_1 Z hl rfl rfl ⟨by dsimp only [rm_FR]; omega, by dsimp only [rm_FR]; omega⟩ rfl rfl (Nat.le_of_ble_eq_true rfl) dX1_readProduct_2 (fun H locs Z => ?_)
  clear hc0
  refine lv_istore_n (lv' := [(2, .int r2), (0, .ref (X.2.1 28)), (1, .int a1)]) hx hb dX1_readProduct_5 rfl hl (by decide) rfl (fun ls hl => ?_)
  refine lv_iconst (v := (0 : Int32)) hx hb dX1_readProduct_6 (by decide) ?_
  refine lv_istore_n (lv' := [(3, .int (0 : Int32)), (2, .int r2), (0, .ref (X.2.1 28)), (1, .int a1)]) hx hb dX1_readProduct_7 rfl hl (by decide) rfl (fun ls hl => ?_)
  have lL8 : ∀ (n : Nat), ∀ (x4 : Int32) (x5 : Int32) (σ6 : sT) (H : Heap) (locs : List Loc) (ls : Array Slot), Wd (wC X) (tC X) (aC X) X s σ6 H locs → lv_has ls 4 [(0, .ref (X.2.1 28)), (1, .int a1), (2, .int x4), (3, .int x5)] → fFR_readProduct_B_L8 (fFR_rec d) a1 n x4 x5 σ6 = some (rz, σz) → W p l e (rm_FR (d + 1)) s m args below meth c H locs 0 0 (MQ below (va_Qi (fun a u => a = rz ∧ u = σz) (poW (wC X) (tC X) (aC X) X sz) (aA (aC X) sz)) args s 0 0 (aA (aC X) sz)) (F0 m 8 ls []) := by
    intro n
    induction n with
    | zero =>
      intro x4 x5 σ6 H locs ls Z hl h
      exact nomatch (show (none : Option (Int32 × sT)) = some _ from h)
    | succ n7 ih6 =>
      intro x4 x5 σ6 H locs ls Z hl h2
      unfold fFR_readProduct_B_L8 at h2
      refine lv_iload_n hx hb dX1_readProduct_8 rfl (lv_at hl 3 rfl) ?_
      refine lv_bipush (v := (80 : Int32)) hx hb dX1_readProduct_9 (by decide) ?_
      refine lv_icmp_ge (tgt := 57) hx hb dX1_readProduct_11 (by decide) (fun c8 => ?_) (fun c8 => ?_)
      · have h3 := dit h2 c8
        clear h2
        refine lv_iload_n hx hb dX1_readProduct_57 rfl (lv_at hl 2 rfl) ?_
        exact reI B Z rfl hz h3 dX1_readProduct_58
      · have h4 := dif h2 c8
        clear h2
        refine lv_aload_n hx hb dX1_readProduct_14 rfl (lv_at hl 0 rfl) ?_
        refine g_28_1 B Z kf_RX1_15 dX1_readProduct_15 ?_
        obtain ⟨r10, hc8, h5⟩ := db1_s h4
        clear h4
        refine cV_I [] [] B mx_yX5_hasFailed (c_fSc_hasFailed l X _ σ6 r10 hc8) kl_RX1_55 mi_yX5_hasFailed (rv_26 _ _) hcl_5 Z hl rfl rfl ⟨by dsimp only [rm_FR, rm_fSc_hasFailed]; omega, by dsimp only [rm_FR, rm_fSc_hasFailed]; omega⟩ rfl rfl (Nat.le_of_ble_eq_true rfl) dX1_readProduct_18 (fun H locs Z => ?_)
        clear hc8
        refine lv_if_ne (tgt := 57) hx hb dX1_readProduct_21 (by decide) (fun c11 => ?_) (fun c11 => ?_)
        · have h6 := dif h5 c11
          clear h5
          refine lv_iload_n hx hb dX1_readProduct_57 rfl (lv_at hl 2 rfl) ?_
          exact reI B Z rfl hz h6 dX1_readProduct_58
        · have h7 := dit h5 c11
          clear h5
          refine lv_aload_n hx hb dX1_readProduct_24 rfl (lv_at hl 0 rfl) ?_
          refine g_28_1 B Z kf_RX1_15 dX1_readProduct_25 ?_
          obtain ⟨r13, σ14, hc11, h8⟩ := db2_s h7
          clear h7
          refine cV_I [] [] B mx_yX5_peek (c_fSc_peek l X _ σ6 r13 σ14 hc11) kl_RX1_41 mi_yX5_peek (rv_26 _ _) hcl_5 Z hl rfl rfl ⟨by dsimp only [rm_FR, rm_fSc_peek]; omega, by dsimp only [rm_FR, rm_fSc_peek]; omega⟩ rfl rfl (Nat.le_of_ble_eq_true rfl) dX1_readProduct_28 (fun H locs Z => ?_)
          clear hc11
          refine lv_bipush (v := (38 : Int32)) hx hb dX1_readProduct_31 (by decide) ?_
          refine lv_icmp_ne (tgt := 57) hx hb dX1_readProduct_33 (by decide) (fun c15 => ?_) (fun c15 => ?_)
          · have h9 := dif h8 c15
            clear h8
            refine lv_iload_n hx hb dX1_readProduct_57 rfl (lv_at hl 2 rfl) ?_
            exact reI B Z rfl hz h9 dX1_readProduct_58
          · have h10 := dit h8 c15
            clear h8
            refine lv_aload_n hx hb dX1_readProduct_36 rfl (lv_at hl 0 rfl) ?_
            refine g_28_1 B Z kf_RX1_15 dX1_readProduct_37 ?_
            obtain ⟨σ17, hc15, h11⟩ := db1_s h10
            clear h10
            refine cV_V [] [] B mx_yX5_step (c_fSc_step l X _ σ14 σ17 hc15) kl_RX1_59 mi_yX5_step (rv_26 _ _) hcl_5 Z hl rfl rfl ⟨by dsimp only [rm_FR, rm_fSc_step]; omega, by dsimp only [rm_FR, rm_fSc_step]; omega⟩ rfl rfl (Nat.le_of_ble_eq_true rfl) dX1_readProduct_40 (fun H locs Z => ?_)
            clear hc15
            refine lv_iload_n hx hb dX1_readProduct_43 rfl (lv_at hl 2 rfl) ?_
            refine lv_aload_n hx hb dX1_readProduct_44 rfl (lv_at hl 0 rfl) ?_
            refine lv_iload_n hx hb dX1_readProduct_45 rfl (lv_at hl 1 rfl) ?_
            obtain ⟨r19, σ20, hc17, h12⟩ := db2_s h11
            clear h11
            refine cV_I [.int a1] [.int x4] B mx_yX1_readFactor (ih_2 _ a1 σ17 r19 σ20 hc17) kl_RX1_62 mi_yX1_readFactor (rv_28 _ _) hcl_1 Z hl rfl rfl ⟨by dsimp only [rm_FR]; omega, by dsimp only [rm_FR]; omega⟩ rfl rfl (Nat.le_of_ble_eq_true rfl) dX1_readProduct_46 (fun H locs Z => ?_)
            clear hc17
            refine lv_iand hx hb dX1_readProduct_49 ?_
            refine lv_topi (fun x21 ex21 => ?_)
            have h13 := dlt_e ex21 h12
            clear ex21 h12
            refine lv_istore_n (lv' := [(2, .int x21), (0, .ref (X.2.1 28)), (1, .int a1), (3, .int x5)]) hx hb dX1_readProduct_50 rfl hl (by decide) rfl (fun ls hl => ?_)
            refine lv_iinc (v := x5 + (1 : Int32)) (lv' := [(3, .int (x5 + (1 : Int32))), (2, .int x21), (0, .ref (X.2.1 28)), (1, .int a1)]) hx hb dX1_readProduct_51 hl (k := 3) rfl (by rfl) (by decide) rfl (fun ls hl => ?_)
            refine lv_goto (tgt := 8) hx hb dX1_readProduct_54 (by decide) ?_
            exact ih6 x21 (x5 + (1 : Int32)) σ20 _ _ _ Z (lv_sub hl [2, 3, 1, 0] rfl) h13
  exact lL8 FU r2 (0 : Int32) σ3 _ _ _ Z (lv_sub hl [2, 3, 1, 0] rfl) h1
theorem dX1_readFactor_0 : decode cX1_readFactor 0 = .ok (.iconst 0, 1) := by decide +kernel
theorem dX1_readFactor_1 : decode cX1_readFactor 1 = .ok (.istore_n 2, 1) := by decide +kernel
theorem dX1_readFactor_2 : decode cX1_readFactor 2 = .ok (.iconst 0, 1) := by decide +kernel
theorem dX1_readFactor_3 : decode cX1_readFactor 3 = .ok (.istore_n 3, 1) := by decide +kernel
theorem dX1_readFactor_4 : decode cX1_readFactor 4 = .ok (.iload_n 3, 1) := by decide +kernel
theorem dX1_readFactor_5 : decode cX1_readFactor 5 = .ok (.bipush 80, 2) := by decide +kernel
theorem dX1_readFactor_7 : decode cX1_readFactor 7 = .ok (.if_icmp .ge 31, 3) := by decide +kernel
theorem dX1_readFactor_10 : decode cX1_readFactor 10 = .ok (.aload_n 0, 1) := by decide +kernel
theorem dX1_readFactor_11 : decode cX1_readFactor 11 = .ok (.getfield 15, 3) := by decide +kernel
theorem dX1_readFactor_14 : decode cX1_readFactor 14 = .ok (.invokevirtual 41, 3) := by decide +kernel
theorem dX1_readFactor_17 : decode cX1_readFactor 17 = .ok (.bipush 33, 2) := by decide +kernel
theorem dX1_readFactor_19 : decode cX1_readFactor 19 = .ok (.if_icmp .ne 19, 3) := by decide +kernel
theorem dX1_readFactor_22 : decode cX1_readFactor 22 = .ok (.aload_n 0, 1) := by decide +kernel
theorem dX1_readFactor_23 : decode cX1_readFactor 23 = .ok (.getfield 15, 3) := by decide +kernel
theorem dX1_readFactor_26 : decode cX1_readFactor 26 = .ok (.invokevirtual 59, 3) := by decide +kernel
theorem dX1_readFactor_29 : decode cX1_readFactor 29 = .ok (.iinc 2 1, 3) := by decide +kernel
theorem dX1_readFactor_32 : decode cX1_readFactor 32 = .ok (.iinc 3 1, 3) := by decide +kernel
theorem dX1_readFactor_35 : decode cX1_readFactor 35 = .ok (.goto (-31), 3) := by decide +kernel
theorem dX1_readFactor_38 : decode cX1_readFactor 38 = .ok (.aload_n 0, 1) := by decide +kernel
theorem dX1_readFactor_39 : decode cX1_readFactor 39 = .ok (.getfield 15, 3) := by decide +kernel
theorem dX1_readFactor_42 : decode cX1_readFactor 42 = .ok (.invokevirtual 41, 3) := by decide +kernel
theorem dX1_readFactor_45 : decode cX1_readFactor 45 = .ok (.bipush 40, 2) := by decide +kernel
theorem dX1_readFactor_47 : decode cX1_readFactor 47 = .ok (.if_icmp .ne 11, 3) := by decide +kernel
theorem dX1_readFactor_50 : decode cX1_readFactor 50 = .ok (.aload_n 0, 1) := by decide +kernel
theorem dX1_readFactor_51 : decode cX1_readFactor 51 = .ok (.iload_n 1, 1) := by decide +kernel
theorem dX1_readFactor_52 : decode cX1_readFactor 52 = .ok (.invokevirtual 65, 3) := by decide +kernel
theorem dX1_readFactor_55 : decode cX1_readFactor 55 = .ok (.goto 7, 3) := by decide +kernel
theorem dX1_readFactor_58 : decode cX1_readFactor 58 = .ok (.aload_n 0, 1) := by decide +kernel
theorem dX1_readFactor_59 : decode cX1_readFactor 59 = .ok (.invokevirtual 68, 3) := by decide +kernel
theorem dX1_readFactor_62 : decode cX1_readFactor 62 = .ok (.istore_n 3, 1) := by decide +kernel
theorem dX1_readFactor_63 : decode cX1_readFactor 63 = .ok (.iload_n 2, 1) := by decide +kernel
theorem dX1_readFactor_64 : decode cX1_readFactor 64 = .ok (.iconst 2, 1) := by decide +kernel
theorem dX1_readFactor_65 : decode cX1_readFactor 65 = .ok (.irem, 1) := by decide +kernel
theorem dX1_readFactor_66 : decode cX1_readFactor 66 = .ok (.ifCond .ne 7, 3) := by decide +kernel
theorem dX1_readFactor_69 : decode cX1_readFactor 69 = .ok (.iload_n 3, 1) := by decide +kernel
theorem dX1_readFactor_70 : decode cX1_readFactor 70 = .ok (.goto 6, 3) := by decide +kernel
theorem dX1_readFactor_73 : decode cX1_readFactor 73 = .ok (.iload_n 3, 1) := by decide +kernel
theorem dX1_readFactor_74 : decode cX1_readFactor 74 = .ok (.iconst (-1), 1) := by decide +kernel
theorem dX1_readFactor_75 : decode cX1_readFactor 75 = .ok (.ixor, 1) := by decide +kernel
theorem dX1_readFactor_76 : decode cX1_readFactor 76 = .ok (.ireturn, 1) := by decide +kernel
set_option maxHeartbeats 4000000 in
set_option maxRecDepth 100000 in
theorem c_fFR_readFactor_B (l : Launch) (X : eX) (d : Nat) (ih_0 : ∀ (sz : Nat) (a1 : Int32) (σ : sT) (rz : Int32) (σz : sT), (fFR_rec d) 0 a1 σ = some (rz, σz) → ctI l yX1_readSum cX1_readSum 4 (some .int) (rm_FR d) [.ref (X.2.1 28), .int a1] (wC X) (tC X) (aC X) X sz σ rz σz) (ih_1 : ∀ (sz : Nat) (a1 : Int32) (σ : sT) (rz : Int32) (σz : sT), (fFR_rec d) 1 a1 σ = some (rz, σz) → ctI l yX1_readProduct cX1_readProduct 4 (some .int) (rm_FR d) [.ref (X.2.1 28), .int a1] (wC X) (tC X) (aC X) X sz σ rz σz) (ih_2 : ∀ (sz : Nat) (a1 : Int32) (σ : sT) (rz : Int32) (σz : sT), (fFR_rec d) 2 a1 σ = some (rz, σz) → ctI l yX1_readFactor cX1_readFactor 4 (some .int) (rm_FR d) [.ref (X.2.1 28), .int a1] (wC X) (tC X) (aC X) X sz σ rz σz) (ih_3 : ∀ (sz : Nat) (a1 : Int32) (σ : sT) (rz : Int32) (σz : sT), (fFR_rec d) 3 a1 σ = some (rz, σz) → ctI l yX1_readInner cX1_readInner 3 (some .int) (rm_FR d) [.ref (X.2.1 28), .int a1] (wC X) (tC X) (aC X) X sz σ rz σz) (sz : Nat) (a1 : Int32) (σ : sT) (rz : Int32) (σz : sT) (h0 : fFR_readFactor_B (fFR_rec d) a1 σ = some (rz, σz)) : ctI l yX1_readFactor cX1_readFactor 4 (some .int) (rm_FR (d + 1)) [.ref (X.2.1 28), .int a1] (wC X) (tC X) (aC X) X sz σ rz σz := by
  refine ct_of (by decide +kernel) (Nat.le_of_ble_eq_true rfl) ?_
  intro p e s m args below meth c ls hz B hl Z
  have B : Bd p s m args meth c RX1 cX1_readFactor 4 (some .int) := B
  have hl : lv_has ls 4 [(0, .ref (X.2.1 28)), (1, .int a1)] := hl
  have hx := B.1
  have hb := B.2.1
  unfold fFR_readFactor_B at h0
  refine lv_iconst (v := (0 : Int32)) hx hb dX1_readFactor_0 (by decide) ?_
  refine lv_istore_n (lv' := [(2, .int (0 : Int32)), (0, .ref (X.2.1 28)), (1, .int a1)]) hx hb dX1_readFactor_1 rfl hl (by decide) rfl (fun ls hl => ?_)
  refine lv_iconst (v := (0 : Int32)) hx hb dX1_readFactor_2 (by decide) ?_
  refine lv_istore_n (lv' := [(3, .int (0 : Int32)), (2, .int (0 : Int32)), (0, .ref (X.2.1 28)), (1, .int a1)]) hx hb dX1_readFactor_3 rfl hl (by decide) rfl (fun ls hl => ?_)
  obtain ⟨K6, eK6, h11⟩ := dlt_s h0
  clear h0
  have kK6 : ∀ (x4 : Int32) (σ5 : sT) (H : Heap) (locs : List Loc) (ls : Array Slot), Wd (wC X) (tC X) (aC X) X s σ5 H locs → lv_has ls 4 [(0, .ref (X.2.1 28)), (1, .int a1), (2, .int x4)] → K6 x4 σ5 = some (rz, σz) → W p l e (rm_FR (d + 1)) s m args below meth c H locs 0 0 (MQ below (va_Qi (fun a u => a = rz ∧ u = σz) (poW (wC X) (tC X) (aC X) X sz) (aA (aC X) sz)) args s 0 0 (aA (aC X) sz)) (F0 m 38 ls []) := by
    intro x4 σ5 H locs ls Z hl h1
    rw [eK6] at h1
    refine lv_aload_n hx hb dX1_readFactor_38 rfl (lv_at hl 0 rfl) ?_
    refine g_28_1 B Z kf_RX1_15 dX1_readFactor_39 ?_
    obtain ⟨r8, σ9, hc6, h2⟩ := db2_s h1
    clear h1
    refine cV_I [] [] B mx_yX5_peek (c_fSc_peek l X _ σ5 r8 σ9 hc6) kl_RX1_41 mi_yX5_peek (rv_26 _ _) hcl_5 Z hl rfl rfl ⟨by dsimp only [rm_FR, rm_fSc_peek]; omega, by dsimp only [rm_FR, rm_fSc_peek]; omega⟩ rfl rfl (Nat.le_of_ble_eq_true rfl) dX1_readFactor_42 (fun H locs Z => ?_)
    clear hc6
    refine lv_bipush (v := (40 : Int32)) hx hb dX1_readFactor_45 (by decide) ?_
    obtain ⟨J12, eJ12, h6⟩ := dlt_s h2
    clear h2
    have kJ12 : ∀ (x10 : Int32) (σ11 : sT) (H : Heap) (locs : List Loc) (ls : Array Slot), Wd (wC X) (tC X) (aC X) X s σ11 H locs → lv_has ls 4 [(2, .int x4)] → J12 x10 σ11 = some (rz, σz) → W p l e (rm_FR (d + 1)) s m args below meth c H locs 0 0 (MQ below (va_Qi (fun a u => a = rz ∧ u = σz) (poW (wC X) (tC X) (aC X) X sz) (aA (aC X) sz)) args s 0 0 (aA (aC X) sz)) (F0 m 62 ls [.int x10]) := by
      intro x10 σ11 H locs ls Z hl h3
      rw [eJ12] at h3
      refine lv_istore_n (lv' := [(3, .int x10), (2, .int x4)]) hx hb dX1_readFactor_62 rfl hl (by decide) rfl (fun ls hl => ?_)
      refine lv_iload_n hx hb dX1_readFactor_63 rfl (lv_at hl 1 rfl) ?_
      refine lv_iconst (v := (2 : Int32)) hx hb dX1_readFactor_64 (by decide) ?_
      refine lv_irem hx hb dX1_readFactor_65 (by decide) ?_
      refine lv_if_ne (tgt := 73) hx hb dX1_readFactor_66 (by decide) (fun c13 => ?_) (fun c13 => ?_)
      · have h4 := dif h3 c13
        clear h3
        refine lv_iload_n hx hb dX1_readFactor_73 rfl (lv_at hl 0 rfl) ?_
        refine lv_iconst (v := (-1 : Int32)) hx hb dX1_readFactor_74 (by decide) ?_
        refine lv_ixor hx hb dX1_readFactor_75 ?_
        exact reI B Z rfl hz h4 dX1_readFactor_76
      · have h5 := dit h3 c13
        clear h3
        refine lv_iload_n hx hb dX1_readFactor_69 rfl (lv_at hl 0 rfl) ?_
        refine lv_goto (tgt := 76) hx hb dX1_readFactor_70 (by decide) ?_
        exact reI B Z rfl hz h5 dX1_readFactor_76
    clear eJ12
    refine lv_icmp_ne (tgt := 58) hx hb dX1_readFactor_47 (by decide) (fun c14 => ?_) (fun c14 => ?_)
    · have h7 := dif h6 c14
      clear h6
      refine lv_aload_n hx hb dX1_readFactor_58 rfl (lv_at hl 0 rfl) ?_
      obtain ⟨r16, σ17, hc14, h8⟩ := db2_s h7
      clear h7
      refine cV_I [] [] B mx_yX1_readConstraint (c_fFR_readConstraint l X _ σ9 r16 σ17 hc14) kl_RX1_68 mi_yX1_readConstraint (rv_28 _ _) hcl_1 Z hl rfl rfl ⟨by dsimp only [rm_FR, rm_fFR_readConstraint]; omega, by dsimp only [rm_FR, rm_fFR_readConstraint]; omega⟩ rfl rfl (Nat.le_of_ble_eq_true rfl) dX1_readFactor_59 (fun H locs Z => ?_)
      clear hc14
      exact kJ12 r16 σ17 _ _ _ Z (lv_sub hl [2] rfl) h8
    · have h9 := dit h6 c14
      clear h6
      refine lv_aload_n hx hb dX1_readFactor_50 rfl (lv_at hl 0 rfl) ?_
      refine lv_iload_n hx hb dX1_readFactor_51 rfl (lv_at hl 1 rfl) ?_
      obtain ⟨r19, σ20, hc17, h10⟩ := db2_s h9
      clear h9
      refine cV_I [.int a1] [] B mx_yX1_readInner (ih_3 _ a1 σ9 r19 σ20 hc17) kl_RX1_65 mi_yX1_readInner (rv_28 _ _) hcl_1 Z hl rfl rfl ⟨by dsimp only [rm_FR]; omega, by dsimp only [rm_FR]; omega⟩ rfl rfl (Nat.le_of_ble_eq_true rfl) dX1_readFactor_52 (fun H locs Z => ?_)
      clear hc17
      refine lv_goto (tgt := 62) hx hb dX1_readFactor_55 (by decide) ?_
      exact kJ12 r19 σ20 _ _ _ Z (lv_sub hl [2] rfl) h10
  clear eK6
  have lL4 : ∀ (n : Nat), ∀ (x1 : Int32) (x2 : Int32) (σ3 : sT) (H : Heap) (locs : List Loc) (ls : Array Slot), Wd (wC X) (tC X) (aC X) X s σ3 H locs → lv_has ls 4 [(0, .ref (X.2.1 28)), (1, .int a1), (2, .int x1), (3, .int x2)] → fFR_readFactor_B_L4 K6 n x1 x2 σ3 = some (rz, σz) → W p l e (rm_FR (d + 1)) s m args below meth c H locs 0 0 (MQ below (va_Qi (fun a u => a = rz ∧ u = σz) (poW (wC X) (tC X) (aC X) X sz) (aA (aC X) sz)) args s 0 0 (aA (aC X) sz)) (F0 m 4 ls []) := by
    intro n
    induction n with
    | zero =>
      intro x1 x2 σ3 H locs ls Z hl h
      exact nomatch (show (none : Option (Int32 × sT)) = some _ from h)
    | succ n21 ih4 =>
      intro x1 x2 σ3 H locs ls Z hl h12
      unfold fFR_readFactor_B_L4 at h12
      refine lv_iload_n hx hb dX1_readFactor_4 rfl (lv_at hl 3 rfl) ?_
      refine lv_bipush (v := (80 : Int32)) hx hb dX1_readFactor_5 (by decide) ?_
      refine lv_icmp_ge (tgt := 38) hx hb dX1_readFactor_7 (by decide) (fun c22 => ?_) (fun c22 => ?_)
      · have h13 := dit h12 c22
        clear h12
        exact kK6 x1 σ3 _ _ _ Z (lv_sub hl [0, 1, 2] rfl) h13
      · have h14 := dif h12 c22
        clear h12
        refine lv_aload_n hx hb dX1_readFactor_10 rfl (lv_at hl 0 rfl) ?_
        refine g_28_1 B Z kf_RX1_15 dX1_readFactor_11 ?_
        obtain ⟨r24, σ25, hc22, h15⟩ := db2_s h14
        clear h14
        refine cV_I [] [] B mx_yX5_peek (c_fSc_peek l X _ σ3 r24 σ25 hc22) kl_RX1_41 mi_yX5_peek (rv_26 _ _) hcl_5 Z hl rfl rfl ⟨by dsimp only [rm_FR, rm_fSc_peek]; omega, by dsimp only [rm_FR, rm_fSc_peek]; omega⟩ rfl rfl (Nat.le_of_ble_eq_true rfl) dX1_readFactor_14 (fun H locs Z => ?_)
        clear hc22
        refine lv_bipush (v := (33 : Int32)) hx hb dX1_readFactor_17 (by decide) ?_
        refine lv_icmp_ne (tgt := 38) hx hb dX1_readFactor_19 (by decide) (fun c26 => ?_) (fun c26 => ?_)
        · have h16 := dif h15 c26
          clear h15
          exact kK6 x1 σ25 _ _ _ Z (lv_sub hl [0, 1, 2] rfl) h16
        · have h17 := dit h15 c26
          clear h15
          refine lv_aload_n hx hb dX1_readFactor_22 rfl (lv_at hl 0 rfl) ?_
          refine g_28_1 B Z kf_RX1_15 dX1_readFactor_23 ?_
          obtain ⟨σ28, hc26, h18⟩ := db1_s h17
          clear h17
          refine cV_V [] [] B mx_yX5_step (c_fSc_step l X _ σ25 σ28 hc26) kl_RX1_59 mi_yX5_step (rv_26 _ _) hcl_5 Z hl rfl rfl ⟨by dsimp only [rm_FR, rm_fSc_step]; omega, by dsimp only [rm_FR, rm_fSc_step]; omega⟩ rfl rfl (Nat.le_of_ble_eq_true rfl) dX1_readFactor_26 (fun H locs Z => ?_)
          clear hc26
          refine lv_iinc (v := x1 + (1 : Int32)) (lv' := [(2, .int (x1 + (1 : Int32))), (0, .ref (X.2.1 28)), (1, .int a1), (3, .int x2)]) hx hb dX1_readFactor_29 hl (k := 2) rfl (by rfl) (by decide) rfl (fun ls hl => ?_)
          refine lv_iinc (v := x2 + (1 : Int32)) (lv' := [(3, .int (x2 + (1 : Int32))), (2, .int (x1 + (1 : Int32))), (0, .ref (X.2.1 28)), (1, .int a1)]) hx hb dX1_readFactor_32 hl (k := 3) rfl (by rfl) (by decide) rfl (fun ls hl => ?_)
          refine lv_goto (tgt := 4) hx hb dX1_readFactor_35 (by decide) ?_
          exact ih4 (x1 + (1 : Int32)) (x2 + (1 : Int32)) σ28 _ _ _ Z (lv_sub hl [2, 3, 1, 0] rfl) h18
  exact lL4 FU (0 : Int32) (0 : Int32) σ _ _ _ Z (lv_sub hl [2, 3, 1, 0] rfl) h11
theorem dX1_readInner_0 : decode cX1_readInner 0 = .ok (.iload_n 1, 1) := by decide +kernel
theorem dX1_readInner_1 : decode cX1_readInner 1 = .ok (.bipush 8, 2) := by decide +kernel
theorem dX1_readInner_3 : decode cX1_readInner 3 = .ok (.if_icmp .lt 19, 3) := by decide +kernel
theorem dX1_readInner_6 : decode cX1_readInner 6 = .ok (.aload_n 0, 1) := by decide +kernel
theorem dX1_readInner_7 : decode cX1_readInner 7 = .ok (.getfield 15, 3) := by decide +kernel
theorem dX1_readInner_10 : decode cX1_readInner 10 = .ok (.aload_n 0, 1) := by decide +kernel
theorem dX1_readInner_11 : decode cX1_readInner 11 = .ok (.getfield 15, 3) := by decide +kernel
theorem dX1_readInner_14 : decode cX1_readInner 14 = .ok (.getfield 45, 3) := by decide +kernel
theorem dX1_readInner_17 : decode cX1_readInner 17 = .ok (.invokevirtual 48, 3) := by decide +kernel
theorem dX1_readInner_20 : decode cX1_readInner 20 = .ok (.iconst 0, 1) := by decide +kernel
theorem dX1_readInner_21 : decode cX1_readInner 21 = .ok (.ireturn, 1) := by decide +kernel
theorem dX1_readInner_22 : decode cX1_readInner 22 = .ok (.aload_n 0, 1) := by decide +kernel
theorem dX1_readInner_23 : decode cX1_readInner 23 = .ok (.getfield 15, 3) := by decide +kernel
theorem dX1_readInner_26 : decode cX1_readInner 26 = .ok (.invokevirtual 59, 3) := by decide +kernel
theorem dX1_readInner_29 : decode cX1_readInner 29 = .ok (.aload_n 0, 1) := by decide +kernel
theorem dX1_readInner_30 : decode cX1_readInner 30 = .ok (.iload_n 1, 1) := by decide +kernel
theorem dX1_readInner_31 : decode cX1_readInner 31 = .ok (.iconst 1, 1) := by decide +kernel
theorem dX1_readInner_32 : decode cX1_readInner 32 = .ok (.iadd, 1) := by decide +kernel
theorem dX1_readInner_33 : decode cX1_readInner 33 = .ok (.invokevirtual 37, 3) := by decide +kernel
theorem dX1_readInner_36 : decode cX1_readInner 36 = .ok (.istore_n 2, 1) := by decide +kernel
theorem dX1_readInner_37 : decode cX1_readInner 37 = .ok (.aload_n 0, 1) := by decide +kernel
theorem dX1_readInner_38 : decode cX1_readInner 38 = .ok (.getfield 15, 3) := by decide +kernel
theorem dX1_readInner_41 : decode cX1_readInner 41 = .ok (.invokevirtual 55, 3) := by decide +kernel
theorem dX1_readInner_44 : decode cX1_readInner 44 = .ok (.ifCond .ne 12, 3) := by decide +kernel
theorem dX1_readInner_47 : decode cX1_readInner 47 = .ok (.aload_n 0, 1) := by decide +kernel
theorem dX1_readInner_48 : decode cX1_readInner 48 = .ok (.getfield 15, 3) := by decide +kernel
theorem dX1_readInner_51 : decode cX1_readInner 51 = .ok (.bipush 41, 2) := by decide +kernel
theorem dX1_readInner_53 : decode cX1_readInner 53 = .ok (.invokevirtual 71, 3) := by decide +kernel
theorem dX1_readInner_56 : decode cX1_readInner 56 = .ok (.iload_n 2, 1) := by decide +kernel
theorem dX1_readInner_57 : decode cX1_readInner 57 = .ok (.ireturn, 1) := by decide +kernel
set_option maxHeartbeats 4000000 in
set_option maxRecDepth 100000 in
theorem c_fFR_readInner_B (l : Launch) (X : eX) (d : Nat) (ih_0 : ∀ (sz : Nat) (a1 : Int32) (σ : sT) (rz : Int32) (σz : sT), (fFR_rec d) 0 a1 σ = some (rz, σz) → ctI l yX1_readSum cX1_readSum 4 (some .int) (rm_FR d) [.ref (X.2.1 28), .int a1] (wC X) (tC X) (aC X) X sz σ rz σz) (ih_1 : ∀ (sz : Nat) (a1 : Int32) (σ : sT) (rz : Int32) (σz : sT), (fFR_rec d) 1 a1 σ = some (rz, σz) → ctI l yX1_readProduct cX1_readProduct 4 (some .int) (rm_FR d) [.ref (X.2.1 28), .int a1] (wC X) (tC X) (aC X) X sz σ rz σz) (ih_2 : ∀ (sz : Nat) (a1 : Int32) (σ : sT) (rz : Int32) (σz : sT), (fFR_rec d) 2 a1 σ = some (rz, σz) → ctI l yX1_readFactor cX1_readFactor 4 (some .int) (rm_FR d) [.ref (X.2.1 28), .int a1] (wC X) (tC X) (aC X) X sz σ rz σz) (ih_3 : ∀ (sz : Nat) (a1 : Int32) (σ : sT) (rz : Int32) (σz : sT), (fFR_rec d) 3 a1 σ = some (rz, σz) → ctI l yX1_readInner cX1_readInner 3 (some .int) (rm_FR d) [.ref (X.2.1 28), .int a1] (wC X) (tC X) (aC X) X sz σ rz σz) (sz : Nat) (a1 : Int32) (σ : sT) (rz : Int32) (σz : sT) (h0 : fFR_readInner_B (fFR_rec d) a1 σ = some (rz, σz)) : ctI l yX1_readInner cX1_readInner 3 (some .int) (rm_FR (d + 1)) [.ref (X.2.1 28), .int a1] (wC X) (tC X) (aC X) X sz σ rz σz := by
  refine ct_of (by decide +kernel) (Nat.le_of_ble_eq_true rfl) ?_
  intro p e s m args below meth c ls hz B hl Z
  have B : Bd p s m args meth c RX1 cX1_readInner 3 (some .int) := B
  have hl : lv_has ls 3 [(0, .ref (X.2.1 28)), (1, .int a1)] := hl
  have hx := B.1
  have hb := B.2.1
  unfold fFR_readInner_B at h0
  refine lv_iload_n hx hb dX1_readInner_0 rfl (lv_at hl 1 rfl) ?_
  refine lv_bipush (v := (8 : Int32)) hx hb dX1_readInner_1 (by decide) ?_
  refine lv_icmp_lt (tgt := 22) hx hb dX1_readInner_3 (by decide) (fun c1 => ?_) (fun c1 => ?_)
  · have h1 := dit h0 c1
    clear h0
    refine lv_aload_n hx hb dX1_readInner_22 rfl (lv_at hl 0 rfl) ?_
    refine g_28_1 B Z kf_RX1_15 dX1_readInner_23 ?_
    obtain ⟨σ3, hc1, h2⟩ := db1_s h1
    clear h1
    refine cV_V [] [] B mx_yX5_step (c_fSc_step l X _ σ σ3 hc1) kl_RX1_59 mi_yX5_step (rv_26 _ _) hcl_5 Z hl rfl rfl ⟨by dsimp only [rm_FR, rm_fSc_step]; omega, by dsimp only [rm_FR, rm_fSc_step]; omega⟩ rfl rfl (Nat.le_of_ble_eq_true rfl) dX1_readInner_26 (fun H locs Z => ?_)
    clear hc1
    refine lv_aload_n hx hb dX1_readInner_29 rfl (lv_at hl 0 rfl) ?_
    refine lv_iload_n hx hb dX1_readInner_30 rfl (lv_at hl 1 rfl) ?_
    refine lv_iconst (v := (1 : Int32)) hx hb dX1_readInner_31 (by decide) ?_
    refine lv_iadd hx hb dX1_readInner_32 ?_
    obtain ⟨r5, σ6, hc3, h3⟩ := db2_s h2
    clear h2
    refine cV_I [.int (a1 + (1 : Int32))] [] B mx_yX1_readSum (ih_0 _ (a1 + (1 : Int32)) σ3 r5 σ6 hc3) kl_RX1_37 mi_yX1_readSum (rv_28 _ _) hcl_1 Z hl rfl rfl ⟨by dsimp only [rm_FR]; omega, by dsimp only [rm_FR]; omega⟩ rfl rfl (Nat.le_of_ble_eq_true rfl) dX1_readInner_33 (fun H locs Z => ?_)
    clear hc3
    refine lv_istore_n (lv' := [(2, .int r5), (0, .ref (X.2.1 28)), (1, .int a1)]) hx hb dX1_readInner_36 rfl hl (by decide) rfl (fun ls hl => ?_)
    refine lv_aload_n hx hb dX1_readInner_37 rfl (lv_at hl 1 rfl) ?_
    refine g_28_1 B Z kf_RX1_15 dX1_readInner_38 ?_
    obtain ⟨r8, hc6, h4⟩ := db1_s h3
    clear h3
    refine cV_I [] [] B mx_yX5_hasFailed (c_fSc_hasFailed l X _ σ6 r8 hc6) kl_RX1_55 mi_yX5_hasFailed (rv_26 _ _) hcl_5 Z hl rfl rfl ⟨by dsimp only [rm_FR, rm_fSc_hasFailed]; omega, by dsimp only [rm_FR, rm_fSc_hasFailed]; omega⟩ rfl rfl (Nat.le_of_ble_eq_true rfl) dX1_readInner_41 (fun H locs Z => ?_)
    clear hc6
    refine lv_if_ne (tgt := 56) hx hb dX1_readInner_44 (by decide) (fun c9 => ?_) (fun c9 => ?_)
    · have h5 := dif h4 c9
      clear h4
      refine lv_iload_n hx hb dX1_readInner_56 rfl (lv_at hl 0 rfl) ?_
      exact reI B Z rfl hz h5 dX1_readInner_57
    · have h6 := dit h4 c9
      clear h4
      refine lv_aload_n hx hb dX1_readInner_47 rfl (lv_at hl 1 rfl) ?_
      refine g_28_1 B Z kf_RX1_15 dX1_readInner_48 ?_
      refine lv_bipush (v := (41 : Int32)) hx hb dX1_readInner_51 (by decide) ?_
      obtain ⟨σ11, hc9, h7⟩ := db1_s h6
      clear h6
      refine cV_V [.int (41 : Int32)] [] B mx_yX5_expect (c_fSc_expect l X _ (41 : Int32) σ6 σ11 hc9) kl_RX1_71 mi_yX5_expect (rv_26 _ _) hcl_5 Z hl rfl rfl ⟨by dsimp only [rm_FR, rm_fSc_expect]; omega, by dsimp only [rm_FR, rm_fSc_expect]; omega⟩ rfl rfl (Nat.le_of_ble_eq_true rfl) dX1_readInner_53 (fun H locs Z => ?_)
      clear hc9
      refine lv_iload_n hx hb dX1_readInner_56 rfl (lv_at hl 0 rfl) ?_
      exact reI B Z rfl hz h7 dX1_readInner_57
  · have h8 := dif h0 c1
    clear h0
    refine lv_aload_n hx hb dX1_readInner_6 rfl (lv_at hl 0 rfl) ?_
    refine g_28_1 B Z kf_RX1_15 dX1_readInner_7 ?_
    refine lv_aload_n hx hb dX1_readInner_10 rfl (lv_at hl 0 rfl) ?_
    refine g_28_1 B Z kf_RX1_15 dX1_readInner_11 ?_
    refine gn_26_2 B Z kx_RX1_45 dX1_readInner_14 ?_
    obtain ⟨σ13, hc11, h9⟩ := db1_s h8
    clear h8
    refine cV_V [.int (σ.1 26 2)] [] B mx_yX5_failAt (c_fSc_failAt l X _ (σ.1 26 2) σ σ13 hc11) kl_RX1_48 mi_yX5_failAt (rv_26 _ _) hcl_5 Z hl rfl rfl ⟨by dsimp only [rm_FR, rm_fSc_failAt]; omega, by dsimp only [rm_FR, rm_fSc_failAt]; omega⟩ rfl rfl (Nat.le_of_ble_eq_true rfl) dX1_readInner_17 (fun H locs Z => ?_)
    clear hc11
    refine lv_iconst (v := (0 : Int32)) hx hb dX1_readInner_20 (by decide) ?_
    exact reI B Z rfl hz h9 dX1_readInner_21
set_option maxHeartbeats 4000000 in
theorem c_fFR_rec (l : Launch) (X : eX) : ∀ d : Nat, (∀ (sz : Nat) (a1 : Int32) (σ : sT) (rz : Int32) (σz : sT), fFR_rec d 0 a1 σ = some (rz, σz) → ctI l yX1_readSum cX1_readSum 4 (some .int) (rm_FR d) [.ref (X.2.1 28), .int a1] (wC X) (tC X) (aC X) X sz σ rz σz) ∧ (∀ (sz : Nat) (a1 : Int32) (σ : sT) (rz : Int32) (σz : sT), fFR_rec d 1 a1 σ = some (rz, σz) → ctI l yX1_readProduct cX1_readProduct 4 (some .int) (rm_FR d) [.ref (X.2.1 28), .int a1] (wC X) (tC X) (aC X) X sz σ rz σz) ∧ (∀ (sz : Nat) (a1 : Int32) (σ : sT) (rz : Int32) (σz : sT), fFR_rec d 2 a1 σ = some (rz, σz) → ctI l yX1_readFactor cX1_readFactor 4 (some .int) (rm_FR d) [.ref (X.2.1 28), .int a1] (wC X) (tC X) (aC X) X sz σ rz σz) ∧ (∀ (sz : Nat) (a1 : Int32) (σ : sT) (rz : Int32) (σz : sT), fFR_rec d 3 a1 σ = some (rz, σz) → ctI l yX1_readInner cX1_readInner 3 (some .int) (rm_FR d) [.ref (X.2.1 28), .int a1] (wC X) (tC X) (aC X) X sz σ rz σz) := by
  intro d
  induction d with
  | zero => exact ⟨(fun sz a1 σ rz σz h => nomatch (show (none : Option (Int32 × sT)) = some _ from h)), (fun sz a1 σ rz σz h => nomatch (show (none : Option (Int32 × sT)) = some _ from h)), (fun sz a1 σ rz σz h => nomatch (show (none : Option (Int32 × sT)) = some _ from h)), (fun sz a1 σ rz σz h => nomatch (show (none : Option (Int32 × sT)) = some _ from h))⟩
  | succ d ih =>
    obtain ⟨i0, i1, i2, i3⟩ := ih
    exact ⟨fun sz a1 σ rz σz h => c_fFR_readSum_B l X d i0 i1 i2 i3 sz a1 σ rz σz h, fun sz a1 σ rz σz h => c_fFR_readProduct_B l X d i0 i1 i2 i3 sz a1 σ rz σz h, fun sz a1 σ rz σz h => c_fFR_readFactor_B l X d i0 i1 i2 i3 sz a1 σ rz σz h, fun sz a1 σ rz σz h => c_fFR_readInner_B l X d i0 i1 i2 i3 sz a1 σ rz σz h⟩
theorem dX1_read_0 : decode cX1_read 0 = .ok (.aload_n 0, 1) := by decide +kernel
theorem dX1_read_1 : decode cX1_read 1 = .ok (.getfield 15, 3) := by decide +kernel
theorem dX1_read_4 : decode cX1_read 4 = .ok (.invokevirtual 23, 3) := by decide +kernel
theorem dX1_read_7 : decode cX1_read 7 = .ok (.aload_n 0, 1) := by decide +kernel
theorem dX1_read_8 : decode cX1_read 8 = .ok (.getfield 19, 3) := by decide +kernel
theorem dX1_read_11 : decode cX1_read 11 = .ok (.invokevirtual 28, 3) := by decide +kernel
theorem dX1_read_14 : decode cX1_read 14 = .ok (.aload_n 0, 1) := by decide +kernel
theorem dX1_read_15 : decode cX1_read 15 = .ok (.iconst 0, 1) := by decide +kernel
theorem dX1_read_16 : decode cX1_read 16 = .ok (.putfield 33, 3) := by decide +kernel
theorem dX1_read_19 : decode cX1_read 19 = .ok (.aload_n 0, 1) := by decide +kernel
theorem dX1_read_20 : decode cX1_read 20 = .ok (.iconst 0, 1) := by decide +kernel
theorem dX1_read_21 : decode cX1_read 21 = .ok (.invokevirtual 37, 3) := by decide +kernel
theorem dX1_read_24 : decode cX1_read 24 = .ok (.istore_n 1, 1) := by decide +kernel
theorem dX1_read_25 : decode cX1_read 25 = .ok (.aload_n 0, 1) := by decide +kernel
theorem dX1_read_26 : decode cX1_read 26 = .ok (.getfield 15, 3) := by decide +kernel
theorem dX1_read_29 : decode cX1_read 29 = .ok (.invokevirtual 41, 3) := by decide +kernel
theorem dX1_read_32 : decode cX1_read 32 = .ok (.iconst (-1), 1) := by decide +kernel
theorem dX1_read_33 : decode cX1_read 33 = .ok (.if_icmp .eq 17, 3) := by decide +kernel
theorem dX1_read_36 : decode cX1_read 36 = .ok (.aload_n 0, 1) := by decide +kernel
theorem dX1_read_37 : decode cX1_read 37 = .ok (.getfield 15, 3) := by decide +kernel
theorem dX1_read_40 : decode cX1_read 40 = .ok (.aload_n 0, 1) := by decide +kernel
theorem dX1_read_41 : decode cX1_read 41 = .ok (.getfield 15, 3) := by decide +kernel
theorem dX1_read_44 : decode cX1_read 44 = .ok (.getfield 45, 3) := by decide +kernel
theorem dX1_read_47 : decode cX1_read 47 = .ok (.invokevirtual 48, 3) := by decide +kernel
theorem dX1_read_50 : decode cX1_read 50 = .ok (.iload_n 1, 1) := by decide +kernel
theorem dX1_read_51 : decode cX1_read 51 = .ok (.ireturn, 1) := by decide +kernel
def rm_fFR_read : Room := { frames := 67, cells := 0, slots := 0, locals := 1891 }
set_option maxHeartbeats 4000000 in
set_option maxRecDepth 100000 in
theorem c_fFR_read (l : Launch) (X : eX) (sz : Nat)  (σ : sT) (rz : Int32) (σz : sT) (h0 : fFR_read σ = some (rz, σz)) : ctI l yX1_read cX1_read 2 (some .int) rm_fFR_read [.ref (X.2.1 28)] (wC X) (tC X) (aC X) X sz σ rz σz := by
  refine ct_of (by decide +kernel) (Nat.le_of_ble_eq_true rfl) ?_
  intro p e s m args below meth c ls hz B hl Z
  have B : Bd p s m args meth c RX1 cX1_read 2 (some .int) := B
  have hl : lv_has ls 2 [(0, .ref (X.2.1 28))] := hl
  have hx := B.1
  have hb := B.2.1
  unfold fFR_read at h0
  refine lv_aload_n hx hb dX1_read_0 rfl (lv_at hl 0 rfl) ?_
  refine g_28_1 B Z kf_RX1_15 dX1_read_1 ?_
  obtain ⟨σ2, hc0, h1⟩ := db1_s h0
  clear h0
  refine cV_V [] [] B mx_yX5_start (c_fSc_start l X _ σ σ2 hc0) kl_RX1_23 mi_yX5_start (rv_26 _ _) hcl_5 Z hl rfl rfl ⟨Nat.le_of_ble_eq_true rfl, Nat.le_of_ble_eq_true rfl⟩ rfl rfl (Nat.le_of_ble_eq_true rfl) dX1_read_4 (fun H locs Z => ?_)
  clear hc0
  refine lv_aload_n hx hb dX1_read_7 rfl (lv_at hl 0 rfl) ?_
  refine g_28_2 B Z kf_RX1_19 dX1_read_8 ?_
  obtain ⟨σ4, hc2, h2⟩ := db1_s h1
  clear h1
  refine cV_V [] [] B mx_yX6_forget (c_fSg_forget l X _ σ2 σ4 hc2) kl_RX1_28 mi_yX6_forget (rv_24 _ _) hcl_6 Z hl rfl rfl ⟨Nat.le_of_ble_eq_true rfl, Nat.le_of_ble_eq_true rfl⟩ rfl rfl (Nat.le_of_ble_eq_true rfl) dX1_read_11 (fun H locs Z => ?_)
  clear hc2
  refine lv_aload_n hx hb dX1_read_14 rfl (lv_at hl 0 rfl) ?_
  refine lv_iconst (v := (0 : Int32)) hx hb dX1_read_15 (by decide) ?_
  refine s_28_3 B Z kf_RX1_33 dX1_read_16 (fun H locs Z => ?_)
  obtain ⟨σ5, eσ5, h3⟩ := dlt_s h2
  clear h2
  replace Z := Wd.eq eσ5 Z
  clear eσ5
  refine lv_aload_n hx hb dX1_read_19 rfl (lv_at hl 0 rfl) ?_
  refine lv_iconst (v := (0 : Int32)) hx hb dX1_read_20 (by decide) ?_
  obtain ⟨r7, σ8, hc5, h4⟩ := db2_s h3
  clear h3
  refine cV_I [.int (0 : Int32)] [] B mx_yX1_readSum ((c_fFR_rec l X RDFR).1 _ (0 : Int32) σ5 r7 σ8 hc5) kl_RX1_37 mi_yX1_readSum (rv_28 _ _) hcl_1 Z hl rfl rfl ⟨Nat.le_of_ble_eq_true rfl, Nat.le_of_ble_eq_true rfl⟩ rfl rfl (Nat.le_of_ble_eq_true rfl) dX1_read_21 (fun H locs Z => ?_)
  clear hc5
  refine lv_istore_n (lv' := [(1, .int r7), (0, .ref (X.2.1 28))]) hx hb dX1_read_24 rfl hl (by decide) rfl (fun ls hl => ?_)
  refine lv_aload_n hx hb dX1_read_25 rfl (lv_at hl 1 rfl) ?_
  refine g_28_1 B Z kf_RX1_15 dX1_read_26 ?_
  obtain ⟨r10, σ11, hc8, h5⟩ := db2_s h4
  clear h4
  refine cV_I [] [] B mx_yX5_peek (c_fSc_peek l X _ σ8 r10 σ11 hc8) kl_RX1_41 mi_yX5_peek (rv_26 _ _) hcl_5 Z hl rfl rfl ⟨Nat.le_of_ble_eq_true rfl, Nat.le_of_ble_eq_true rfl⟩ rfl rfl (Nat.le_of_ble_eq_true rfl) dX1_read_29 (fun H locs Z => ?_)
  clear hc8
  refine lv_iconst (v := (-1 : Int32)) hx hb dX1_read_32 (by decide) ?_
  refine lv_icmp_eq (tgt := 50) hx hb dX1_read_33 (by decide) (fun c12 => ?_) (fun c12 => ?_)
  · have h6 := dit h5 c12
    clear h5
    refine lv_iload_n hx hb dX1_read_50 rfl (lv_at hl 0 rfl) ?_
    exact reI B Z rfl hz h6 dX1_read_51
  · have h7 := dif h5 c12
    clear h5
    refine lv_aload_n hx hb dX1_read_36 rfl (lv_at hl 1 rfl) ?_
    refine g_28_1 B Z kf_RX1_15 dX1_read_37 ?_
    refine lv_aload_n hx hb dX1_read_40 rfl (lv_at hl 1 rfl) ?_
    refine g_28_1 B Z kf_RX1_15 dX1_read_41 ?_
    refine gn_26_2 B Z kx_RX1_45 dX1_read_44 ?_
    obtain ⟨σ14, hc12, h8⟩ := db1_s h7
    clear h7
    refine cV_V [.int (σ11.1 26 2)] [] B mx_yX5_failAt (c_fSc_failAt l X _ (σ11.1 26 2) σ11 σ14 hc12) kl_RX1_48 mi_yX5_failAt (rv_26 _ _) hcl_5 Z hl rfl rfl ⟨Nat.le_of_ble_eq_true rfl, Nat.le_of_ble_eq_true rfl⟩ rfl rfl (Nat.le_of_ble_eq_true rfl) dX1_read_47 (fun H locs Z => ?_)
    clear hc12
    refine lv_iload_n hx hb dX1_read_50 rfl (lv_at hl 0 rfl) ?_
    exact reI B Z rfl hz h8 dX1_read_51
theorem dX11_formula_0 : decode cX11_formula 0 = .ok (.iload_n 1, 1) := by decide +kernel
theorem dX11_formula_1 : decode cX11_formula 1 = .ok (.iconst 0, 1) := by decide +kernel
theorem dX11_formula_2 : decode cX11_formula 2 = .ok (.iconst 2, 1) := by decide +kernel
theorem dX11_formula_3 : decode cX11_formula 3 = .ok (.invokestatic 106, 3) := by decide +kernel
theorem dX11_formula_6 : decode cX11_formula 6 = .ok (.ifCond .ne 8, 3) := by decide +kernel
theorem dX11_formula_9 : decode cX11_formula 9 = .ok (.aload_n 0, 1) := by decide +kernel
theorem dX11_formula_10 : decode cX11_formula 10 = .ok (.invokevirtual 77, 3) := by decide +kernel
theorem dX11_formula_13 : decode cX11_formula 13 = .ok (.ireturn, 1) := by decide +kernel
theorem dX11_formula_14 : decode cX11_formula 14 = .ok (.aload_n 0, 1) := by decide +kernel
theorem dX11_formula_15 : decode cX11_formula 15 = .ok (.getfield 53, 3) := by decide +kernel
theorem dX11_formula_18 : decode cX11_formula 18 = .ok (.invokevirtual 200, 3) := by decide +kernel
theorem dX11_formula_21 : decode cX11_formula 21 = .ok (.istore_n 2, 1) := by decide +kernel
theorem dX11_formula_22 : decode cX11_formula 22 = .ok (.aload_n 0, 1) := by decide +kernel
theorem dX11_formula_23 : decode cX11_formula 23 = .ok (.getfield 44, 3) := by decide +kernel
theorem dX11_formula_26 : decode cX11_formula 26 = .ok (.invokevirtual 203, 3) := by decide +kernel
theorem dX11_formula_29 : decode cX11_formula 29 = .ok (.ifCond .eq 14, 3) := by decide +kernel
theorem dX11_formula_32 : decode cX11_formula 32 = .ok (.bipush (-10), 2) := by decide +kernel
theorem dX11_formula_34 : decode cX11_formula 34 = .ok (.aload_n 0, 1) := by decide +kernel
theorem dX11_formula_35 : decode cX11_formula 35 = .ok (.getfield 44, 3) := by decide +kernel
theorem dX11_formula_38 : decode cX11_formula 38 = .ok (.getfield 207, 3) := by decide +kernel
theorem dX11_formula_41 : decode cX11_formula 41 = .ok (.isub, 1) := by decide +kernel
theorem dX11_formula_42 : decode cX11_formula 42 = .ok (.ireturn, 1) := by decide +kernel
theorem dX11_formula_43 : decode cX11_formula 43 = .ok (.aload_n 0, 1) := by decide +kernel
theorem dX11_formula_44 : decode cX11_formula 44 = .ok (.getfield 53, 3) := by decide +kernel
theorem dX11_formula_47 : decode cX11_formula 47 = .ok (.getfield 210, 3) := by decide +kernel
theorem dX11_formula_50 : decode cX11_formula 50 = .ok (.invokestatic 182, 3) := by decide +kernel
theorem dX11_formula_53 : decode cX11_formula 53 = .ok (.iconst 5, 1) := by decide +kernel
theorem dX11_formula_54 : decode cX11_formula 54 = .ok (.if_icmp .le 8, 3) := by decide +kernel
theorem dX11_formula_57 : decode cX11_formula 57 = .ok (.aload_n 0, 1) := by decide +kernel
theorem dX11_formula_58 : decode cX11_formula 58 = .ok (.invokevirtual 124, 3) := by decide +kernel
theorem dX11_formula_61 : decode cX11_formula 61 = .ok (.ireturn, 1) := by decide +kernel
theorem dX11_formula_62 : decode cX11_formula 62 = .ok (.iload_n 1, 1) := by decide +kernel
theorem dX11_formula_63 : decode cX11_formula 63 = .ok (.iconst 2, 1) := by decide +kernel
theorem dX11_formula_64 : decode cX11_formula 64 = .ok (.if_icmp .ne 11, 3) := by decide +kernel
theorem dX11_formula_67 : decode cX11_formula 67 = .ok (.aload_n 0, 1) := by decide +kernel
theorem dX11_formula_68 : decode cX11_formula 68 = .ok (.getfield 53, 3) := by decide +kernel
theorem dX11_formula_71 : decode cX11_formula 71 = .ok (.getfield 210, 3) := by decide +kernel
theorem dX11_formula_74 : decode cX11_formula 74 = .ok (.ireturn, 1) := by decide +kernel
theorem dX11_formula_75 : decode cX11_formula 75 = .ok (.aload_n 0, 1) := by decide +kernel
theorem dX11_formula_76 : decode cX11_formula 76 = .ok (.getfield 21, 3) := by decide +kernel
theorem dX11_formula_79 : decode cX11_formula 79 = .ok (.invokevirtual 193, 3) := by decide +kernel
theorem dX11_formula_82 : decode cX11_formula 82 = .ok (.aload_n 0, 1) := by decide +kernel
theorem dX11_formula_83 : decode cX11_formula 83 = .ok (.getfield 37, 3) := by decide +kernel
theorem dX11_formula_86 : decode cX11_formula 86 = .ok (.iconst 0, 1) := by decide +kernel
theorem dX11_formula_87 : decode cX11_formula 87 = .ok (.iconst 0, 1) := by decide +kernel
theorem dX11_formula_88 : decode cX11_formula 88 = .ok (.iload_n 1, 1) := by decide +kernel
theorem dX11_formula_89 : decode cX11_formula 89 = .ok (.ifCond .ne 7, 3) := by decide +kernel
theorem dX11_formula_92 : decode cX11_formula 92 = .ok (.iload_n 2, 1) := by decide +kernel
theorem dX11_formula_93 : decode cX11_formula 93 = .ok (.goto 4, 3) := by decide +kernel
theorem dX11_formula_96 : decode cX11_formula 96 = .ok (.iconst (-1), 1) := by decide +kernel
theorem dX11_formula_97 : decode cX11_formula 97 = .ok (.invokestatic 196, 3) := by decide +kernel
theorem dX11_formula_100 : decode cX11_formula 100 = .ok (.ireturn, 1) := by decide +kernel
def rm_fRM_formula : Room := { frames := 68, cells := 0, slots := 0, locals := 1912 }
set_option maxHeartbeats 4000000 in
set_option maxRecDepth 100000 in
theorem c_fRM_formula (l : Launch) (X : eX) (sz : Nat) (a1 : Int32) (σ : sT) (rz : Int32) (σz : sT) (h0 : fRM_formula a1 σ = some (rz, σz)) : ctI l yX11_formula cX11_formula 3 (some .int) rm_fRM_formula [.ref (X.2.1 0), .int a1] (wC X) (tC X) (aC X) X sz σ rz σz := by
  refine ct_of (by decide +kernel) (Nat.le_of_ble_eq_true rfl) ?_
  intro p e s m args below meth c ls hz B hl Z
  have B : Bd p s m args meth c RX11 cX11_formula 3 (some .int) := B
  have hl : lv_has ls 3 [(0, .ref (X.2.1 0)), (1, .int a1)] := hl
  have hx := B.1
  have hb := B.2.1
  unfold fRM_formula at h0
  refine lv_iload_n hx hb dX11_formula_0 rfl (lv_at hl 1 rfl) ?_
  refine lv_iconst (v := (0 : Int32)) hx hb dX11_formula_1 (by decide) ?_
  refine lv_iconst (v := (2 : Int32)) hx hb dX11_formula_2 (by decide) ?_
  obtain ⟨r2, hc0, h1⟩ := db1_s h0
  clear h0
  refine cS_I [.int a1, .int (0 : Int32), .int (2 : Int32)] [] B mx_yX11_isWithin (c_fRM_isWithin l X _ a1 (0 : Int32) (2 : Int32) σ r2 hc0) kl_RX11_106 ks_yX11_isWithin Z hl rfl rfl ⟨Nat.le_of_ble_eq_true rfl, Nat.le_of_ble_eq_true rfl⟩ rfl rfl (Nat.le_of_ble_eq_true rfl) dX11_formula_3 (fun H locs Z => ?_)
  clear hc0
  refine lv_if_ne (tgt := 14) hx hb dX11_formula_6 (by decide) (fun c3 => ?_) (fun c3 => ?_)
  · have h2 := dif h1 c3
    clear h1
    refine lv_aload_n hx hb dX11_formula_14 rfl (lv_at hl 0 rfl) ?_
    refine g_0_5 B Z kf_RX11_53 dX11_formula_15 ?_
    obtain ⟨r5, σ6, hc3, h3⟩ := db2_s h2
    clear h2
    refine cV_I [] [] B mx_yX1_read (c_fFR_read l X _ σ r5 σ6 hc3) kl_RX11_200 mi_yX1_read (rv_28 _ _) hcl_1 Z hl rfl rfl ⟨Nat.le_of_ble_eq_true rfl, Nat.le_of_ble_eq_true rfl⟩ rfl rfl (Nat.le_of_ble_eq_true rfl) dX11_formula_18 (fun H locs Z => ?_)
    clear hc3
    refine lv_istore_n (lv' := [(2, .int r5), (0, .ref (X.2.1 0)), (1, .int a1)]) hx hb dX11_formula_21 rfl hl (by decide) rfl (fun ls hl => ?_)
    refine lv_aload_n hx hb dX11_formula_22 rfl (lv_at hl 1 rfl) ?_
    refine g_0_4 B Z kf_RX11_44 dX11_formula_23 ?_
    obtain ⟨r8, hc6, h4⟩ := db1_s h3
    clear h3
    refine cV_I [] [] B mx_yX5_hasFailed (c_fSc_hasFailed l X _ σ6 r8 hc6) kl_RX11_203 mi_yX5_hasFailed (rv_26 _ _) hcl_5 Z hl rfl rfl ⟨Nat.le_of_ble_eq_true rfl, Nat.le_of_ble_eq_true rfl⟩ rfl rfl (Nat.le_of_ble_eq_true rfl) dX11_formula_26 (fun H locs Z => ?_)
    clear hc6
    refine lv_if_eq (tgt := 43) hx hb dX11_formula_29 (by decide) (fun c9 => ?_) (fun c9 => ?_)
    · have h5 := dit h4 c9
      clear h4
      refine lv_aload_n hx hb dX11_formula_43 rfl (lv_at hl 1 rfl) ?_
      refine g_0_5 B Z kf_RX11_53 dX11_formula_44 ?_
      refine gn_28_3 B Z kx_RX11_210 dX11_formula_47 ?_
      obtain ⟨r11, hc9, h6⟩ := db1_s h5
      clear h5
      refine cS_I [.int (σ6.1 28 3)] [] B mx_yJ6_bitCount_0f7a4 (c_fJI_bitCount l X _ (σ6.1 28 3) σ6 r11 hc9) kl_RX11_182 ks_yJ6_bitCount_0f7a4 Z hl rfl rfl ⟨Nat.le_of_ble_eq_true rfl, Nat.le_of_ble_eq_true rfl⟩ rfl rfl (Nat.le_of_ble_eq_true rfl) dX11_formula_50 (fun H locs Z => ?_)
      clear hc9
      refine lv_iconst (v := (5 : Int32)) hx hb dX11_formula_53 (by decide) ?_
      refine lv_icmp_le (tgt := 62) hx hb dX11_formula_54 (by decide) (fun c12 => ?_) (fun c12 => ?_)
      · have h7 := dit h6 c12
        clear h6
        refine lv_iload_n hx hb dX11_formula_62 rfl (lv_at hl 2 rfl) ?_
        refine lv_iconst (v := (2 : Int32)) hx hb dX11_formula_63 (by decide) ?_
        refine lv_icmp_ne (tgt := 75) hx hb dX11_formula_64 (by decide) (fun c13 => ?_) (fun c13 => ?_)
        · have h8 := dif h7 c13
          clear h7
          refine lv_aload_n hx hb dX11_formula_75 rfl (lv_at hl 1 rfl) ?_
          refine g_0_1 B Z kf_RX11_21 dX11_formula_76 ?_
          obtain ⟨σ15, hc13, h9⟩ := db1_s h8
          clear h8
          refine cV_V [] [] B mx_yX7_begin (c_fSo_begin l X _ σ6 σ15 hc13) kl_RX11_193 mi_yX7_begin (rv_5 _ _) hcl_7 Z hl rfl rfl ⟨Nat.le_of_ble_eq_true rfl, Nat.le_of_ble_eq_true rfl⟩ rfl rfl (Nat.le_of_ble_eq_true rfl) dX11_formula_79 (fun H locs Z => ?_)
          clear hc13
          refine lv_aload_n hx hb dX11_formula_82 rfl (lv_at hl 1 rfl) ?_
          refine g_0_3 B Z kf_RX11_37 dX11_formula_83 ?_
          refine lv_iconst (v := (0 : Int32)) hx hb dX11_formula_86 (by decide) ?_
          refine lv_iconst (v := (0 : Int32)) hx hb dX11_formula_87 (by decide) ?_
          refine lv_iload_n hx hb dX11_formula_88 rfl (lv_at hl 2 rfl) ?_
          obtain ⟨J19, eJ19, h12⟩ := dlt_s h9
          clear h9
          have kJ19 : ∀ (x16 : Int32) (x17 : Int32) (x18 : Int32) (H : Heap) (locs : List Loc) (ls : Array Slot), Wd (wC X) (tC X) (aC X) X s σ15 H locs → lv_has ls 3 [] → J19 x16 x17 x18 = some (rz, σz) → W p l e rm_fRM_formula s m args below meth c H locs 0 0 (MQ below (va_Qi (fun a u => a = rz ∧ u = σz) (poW (wC X) (tC X) (aC X) X sz) (aA (aC X) sz)) args s 0 0 (aA (aC X) sz)) (F0 m 97 ls [.int x18, .int x17, .int x16, .ref (X.2.1 24)]) := by
            intro x16 x17 x18 H locs ls Z hl h10
            rw [eJ19] at h10
            obtain ⟨r21, σ22, hc19, h11⟩ := db2_s h10
            clear h10
            refine cSN_I [.ref (X.2.1 24), .int x16, .int x17, .int x18] [] B mx_yX6_count ((c_fSg_rec l X RDSG) _ x16 x17 x18 σ15 r21 σ22 hc19) kx_RX11_196 ks_yX6_count Z hl rfl rfl ⟨Nat.le_of_ble_eq_true rfl, Nat.le_of_ble_eq_true rfl⟩ rfl rfl (Nat.le_of_ble_eq_true rfl) dX11_formula_97 (fun H locs Z => ?_)
            clear hc19
            exact reI B Z rfl hz h11 dX11_formula_100
          clear eJ19
          refine lv_if_ne (tgt := 96) hx hb dX11_formula_89 (by decide) (fun c23 => ?_) (fun c23 => ?_)
          · have h13 := dif h12 c23
            clear h12
            refine lv_iconst (v := (-1 : Int32)) hx hb dX11_formula_96 (by decide) ?_
            exact kJ19 (0 : Int32) (0 : Int32) (-1 : Int32) _ _ _ Z (lv_sub hl [] rfl) h13
          · have h14 := dit h12 c23
            clear h12
            refine lv_iload_n hx hb dX11_formula_92 rfl (lv_at hl 0 rfl) ?_
            refine lv_goto (tgt := 97) hx hb dX11_formula_93 (by decide) ?_
            exact kJ19 (0 : Int32) (0 : Int32) r5 _ _ _ Z (lv_sub hl [] rfl) h14
        · have h15 := dit h7 c13
          clear h7
          refine lv_aload_n hx hb dX11_formula_67 rfl (lv_at hl 1 rfl) ?_
          refine g_0_5 B Z kf_RX11_53 dX11_formula_68 ?_
          refine gn_28_3 B Z kx_RX11_210 dX11_formula_71 ?_
          exact reI B Z rfl hz h15 dX11_formula_74
      · have h16 := dif h6 c12
        clear h6
        refine lv_aload_n hx hb dX11_formula_57 rfl (lv_at hl 1 rfl) ?_
        obtain ⟨r25, σ26, hc23, h17⟩ := db2_s h16
        clear h16
        refine cV_I [] [] B mx_yX11_no (c_fRM_no l X _ σ6 r25 σ26 hc23) kl_RX11_124 mi_yX11_no (rv_0 _ _) hcl_11 Z hl rfl rfl ⟨Nat.le_of_ble_eq_true rfl, Nat.le_of_ble_eq_true rfl⟩ rfl rfl (Nat.le_of_ble_eq_true rfl) dX11_formula_58 (fun H locs Z => ?_)
        clear hc23
        exact reI B Z rfl hz h17 dX11_formula_61
    · have h18 := dif h4 c9
      clear h4
      refine lv_bipush (v := (-10 : Int32)) hx hb dX11_formula_32 (by decide) ?_
      refine lv_aload_n hx hb dX11_formula_34 rfl (lv_at hl 1 rfl) ?_
      refine g_0_4 B Z kf_RX11_44 dX11_formula_35 ?_
      refine gn_26_3 B Z kx_RX11_207 dX11_formula_38 ?_
      refine lv_isub hx hb dX11_formula_41 ?_
      exact reI B Z rfl hz h18 dX11_formula_42
  · have h19 := dit h1 c3
    clear h1
    refine lv_aload_n hx hb dX11_formula_9 rfl (lv_at hl 0 rfl) ?_
    obtain ⟨r28, σ29, hc26, h20⟩ := db2_s h19
    clear h19
    refine cV_I [] [] B mx_yX11_bad (c_fRM_bad l X _ σ r28 σ29 hc26) kl_RX11_77 mi_yX11_bad (rv_0 _ _) hcl_11 Z hl rfl rfl ⟨Nat.le_of_ble_eq_true rfl, Nat.le_of_ble_eq_true rfl⟩ rfl rfl (Nat.le_of_ble_eq_true rfl) dX11_formula_10 (fun H locs Z => ?_)
    clear hc26
    exact reI B Z rfl hz h20 dX11_formula_13
