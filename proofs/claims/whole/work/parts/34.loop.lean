/-! the loop of the law, and its start -/
theorem nI_addc (j : Nat) (k : Nat) : nI j + nI k = nI (j + k) := nI_add j k
theorem x3_in {j L : Nat} {x3 : Int32} (hx : x3 = nI j) (h : j + 7 ≤ L) (hL : L ≤ 3584) : ∀ k : Int32, 0 ≤ k.toInt → k.toInt ≤ 6 → vp_in (x3 + k) L := by
  intro k h0 h6
  obtain ⟨n, hn, hk⟩ : ∃ n : Nat, n ≤ 6 ∧ k = nI n := by
    refine ⟨k.toInt.toNat, by omega, ?_⟩
    apply Int32.toInt_inj.mp
    rw [nI_toInt (by omega)]
    omega
  rw [hx, hk, nI_add]
  exact vp_in_nI (by omega) (by omega)
theorem len_sub {L : Nat} (hL : L ≤ 3584) : (Int32.ofNat L - 7).toInt = (L : Int) - 7 := pk_sub_toInt (a := L) (b := 7) (by omega) (by omega)
theorem sw23 {x : Int32} (h0 : ¬ x = (0 : Int32)) (h1 : ¬ x = (1 : Int32)) (h2 : ¬ x = (2 : Int32)) (h3 : ¬ x = (3 : Int32)) (h4 : ¬ x = (4 : Int32)) (h5 : ¬ x = (5 : Int32)) (h6 : ¬ x = (6 : Int32)) (h7 : ¬ x = (7 : Int32)) (h8 : ¬ x = (8 : Int32)) (h9 : ¬ x = (9 : Int32)) (h10 : ¬ x = (10 : Int32)) (h11 : ¬ x = (11 : Int32)) (h12 : ¬ x = (12 : Int32)) (h13 : ¬ x = (13 : Int32)) (h14 : ¬ x = (14 : Int32)) (h15 : ¬ x = (15 : Int32)) (h16 : ¬ x = (16 : Int32)) (h17 : ¬ x = (17 : Int32)) (h18 : ¬ x = (18 : Int32)) (h19 : ¬ x = (19 : Int32)) (h20 : ¬ x = (20 : Int32)) (h21 : ¬ x = (21 : Int32)) (h22 : ¬ x = (22 : Int32)) : x.toInt < 0 ∨ 22 < x.toInt := by
  have k0 : x.toInt ≠ 0 := fun e => h0 (Int32.toInt_inj.mp (e.trans (by decide)))
  have k1 : x.toInt ≠ 1 := fun e => h1 (Int32.toInt_inj.mp (e.trans (by decide)))
  have k2 : x.toInt ≠ 2 := fun e => h2 (Int32.toInt_inj.mp (e.trans (by decide)))
  have k3 : x.toInt ≠ 3 := fun e => h3 (Int32.toInt_inj.mp (e.trans (by decide)))
  have k4 : x.toInt ≠ 4 := fun e => h4 (Int32.toInt_inj.mp (e.trans (by decide)))
  have k5 : x.toInt ≠ 5 := fun e => h5 (Int32.toInt_inj.mp (e.trans (by decide)))
  have k6 : x.toInt ≠ 6 := fun e => h6 (Int32.toInt_inj.mp (e.trans (by decide)))
  have k7 : x.toInt ≠ 7 := fun e => h7 (Int32.toInt_inj.mp (e.trans (by decide)))
  have k8 : x.toInt ≠ 8 := fun e => h8 (Int32.toInt_inj.mp (e.trans (by decide)))
  have k9 : x.toInt ≠ 9 := fun e => h9 (Int32.toInt_inj.mp (e.trans (by decide)))
  have k10 : x.toInt ≠ 10 := fun e => h10 (Int32.toInt_inj.mp (e.trans (by decide)))
  have k11 : x.toInt ≠ 11 := fun e => h11 (Int32.toInt_inj.mp (e.trans (by decide)))
  have k12 : x.toInt ≠ 12 := fun e => h12 (Int32.toInt_inj.mp (e.trans (by decide)))
  have k13 : x.toInt ≠ 13 := fun e => h13 (Int32.toInt_inj.mp (e.trans (by decide)))
  have k14 : x.toInt ≠ 14 := fun e => h14 (Int32.toInt_inj.mp (e.trans (by decide)))
  have k15 : x.toInt ≠ 15 := fun e => h15 (Int32.toInt_inj.mp (e.trans (by decide)))
  have k16 : x.toInt ≠ 16 := fun e => h16 (Int32.toInt_inj.mp (e.trans (by decide)))
  have k17 : x.toInt ≠ 17 := fun e => h17 (Int32.toInt_inj.mp (e.trans (by decide)))
  have k18 : x.toInt ≠ 18 := fun e => h18 (Int32.toInt_inj.mp (e.trans (by decide)))
  have k19 : x.toInt ≠ 19 := fun e => h19 (Int32.toInt_inj.mp (e.trans (by decide)))
  have k20 : x.toInt ≠ 20 := fun e => h20 (Int32.toInt_inj.mp (e.trans (by decide)))
  have k21 : x.toInt ≠ 21 := fun e => h21 (Int32.toInt_inj.mp (e.trans (by decide)))
  have k22 : x.toInt ≠ 22 := fun e => h22 (Int32.toInt_inj.mp (e.trans (by decide)))
  omega
set_option maxHeartbeats 4000000 in
set_option maxRecDepth 100000 in
theorem law_loop {p : Program} {l : Launch} {e : Env} {s : State} {m : MethodId} {below : List Frame} {meth : Method} {c : Code} {b L : Nat} {xs : Nat → Int32} {X : eX} {I : sT → sT → Prop} (o0 : op_row I) (o1 : op_drops I) (o2 : op_sets I) (o3 : op_of I) (o4 : op_can I) (o5 : op_dimension I) (o6 : op_bound I) (o7 : op_brings I) (o8 : op_spare I) (o9 : op_same I) (o10 : op_point I) (o11 : op_core I) (o12 : op_times I) (o13 : op_between I) (o14 : op_sides I) (o15 : op_formula I) (o16 : op_type I) (o17 : op_clear I) (o18 : op_reads I) (o19 : op_shown I) (o20 : op_back I) (o21 : op_told I) (o22 : op_digest I) (hL : L ≤ 3584) (B : Bd p s m #[Value.ref b] meth c R_law code 4 ret) (hX : va_X b L xs s s.heap) (hbl : b < s.heap.size) :
    ∀ (n j : Nat) (x3 : Int32) (σ τ : sT) (H : Heap) (locs : List Loc) (ls : Array Slot), L - j < n → j ≤ L + 7 → x3 = nI j → I σ τ → LW X s σ τ H locs → lv_has ls 4 [(0, .ref b), (1, .ref (X.2.1 0)), (2, .ref (X.2.1 33)), (3, .int x3)] → W p l e room_1 s m #[Value.ref b] below meth c H locs 51 5477 (lw_Z below #[Value.ref b] s) (F0 m 18 ls []) := by
  have hx := B.1
  have hb := B.2.1
  have hbA : ¬ (fun q : Nat => s.heap.size ≤ q) b := Nat.not_le.mpr hbl
  intro n
  induction n with
  | zero => intro j x3 σ τ H locs ls hn; omega
  | succ n ih =>
    intro j x3 σ τ H locs ls hn hj ex hI Z hl
    refine lv_iload_n hx hb dL_law_18 rfl (lv_at hl 3 rfl) ?_
    refine lv_aload_n hx hb dL_law_19 rfl (lv_at hl 0 rfl) ?_
    refine va_slen hx hb hX hbl hbA Z.2.2.2.1 dL_law_20 ?_
    refine lv_bipush (v := (7 : Int32)) hx hb dL_law_21 (by decide) ?_
    refine lv_isub hx hb dL_law_23 ?_
    refine lv_icmp_gt (tgt := 810) hx hb dL_law_24 (by decide) (fun c0 => ?_) (fun c0 => ?_)
    · refine lv_iconst (v := (1 : Int32)) hx hb dL_law_810 (by decide) ?_
      refine va_forget (fun q hq => Z.2.2.2.1.2.2 q hq) ?_
      refine W.widen (k := 600000) (n := 7302250) (Nat.le_of_ble_eq_true rfl) (Nat.le_of_ble_eq_true rfl) ?_
      exact lw_ret hx hb B.2.2.2.2.2.1 B.2.2.2.2.2.2 dL_law_811
    · have hjL : j + 7 ≤ L := by
        rw [Int32.lt_iff_toInt_lt, len_sub hL, ex, nI_toInt (by omega)] at c0
        omega
      have v := x3_in ex hjL hL
      have tl : ∀ (σ τ : sT) (H : Heap) (locs : List Loc) (ls : Array Slot), I σ τ → LW X s σ τ H locs → lv_has ls 4 [(0, .ref b), (1, .ref (X.2.1 0)), (2, .ref (X.2.1 33)), (3, .int x3)] → W p l e room_1 s m #[Value.ref b] below meth c H locs 51 5477 (lw_Z below #[Value.ref b] s) (F0 m 804 ls []) := by
        intro σ τ H locs ls hI Z hl
        refine lv_iinc (v := x3 + (7 : Int32)) (lv' := [(3, .int (x3 + (7 : Int32))), (0, .ref b), (1, .ref (X.2.1 0)), (2, .ref (X.2.1 33))]) hx hb dL_law_804 hl (k := 3) rfl (by rfl) (by decide) rfl (fun ls hl => ?_)
        refine lv_goto (tgt := 18) hx hb dL_law_807 (by decide) ?_
        exact ih (j + 7) (x3 + (7 : Int32)) σ τ H locs ls (by omega) (by omega) (by rw [ex]; exact nI_add j 7) hI Z (lv_sub hl [1, 2, 3, 0] rfl)
      refine lv_aload_n hx hb dL_law_27 rfl (lv_at hl 0 rfl) ?_
      refine lv_iload_n hx hb dL_law_28 rfl (lv_at hl 3 rfl) ?_
      refine va_sld hx hb hX hbl hbA Z.2.2.2.1 (by rw [ex]; exact vp_in_nI (by omega) (by omega)) dL_law_29 ?_
      refine lv_bipush (v := (31 : Int32)) hx hb dL_law_30 (by decide) ?_
      refine lv_iand hx hb dL_law_32 ?_
      refine lv_topi (fun z ez => ?_)
      by_cases c_0 : z = (0 : Int32)
      · refine lv_tableIn (tgt := 140) hx hb dL_law_33 (by rw [c_0]; decide) (by rw [c_0]; decide) (by rw [c_0]; rfl) (by decide) ?_
        exact lw_case0 o0 B hX hbl v tl σ τ H locs ls hI Z hl
      by_cases c_1 : z = (1 : Int32)
      · refine lv_tableIn (tgt := 215) hx hb dL_law_33 (by rw [c_1]; decide) (by rw [c_1]; decide) (by rw [c_1]; rfl) (by decide) ?_
        exact lw_case1 o1 B hX hbl v tl σ τ H locs ls hI Z hl
      by_cases c_2 : z = (2 : Int32)
      · refine lv_tableIn (tgt := 238) hx hb dL_law_33 (by rw [c_2]; decide) (by rw [c_2]; decide) (by rw [c_2]; rfl) (by decide) ?_
        exact lw_case2 o2 B hX hbl v tl σ τ H locs ls hI Z hl
      by_cases c_3 : z = (3 : Int32)
      · refine lv_tableIn (tgt := 281) hx hb dL_law_33 (by rw [c_3]; decide) (by rw [c_3]; decide) (by rw [c_3]; rfl) (by decide) ?_
        exact lw_case3 o3 B hX hbl v tl σ τ H locs ls hI Z hl
      by_cases c_4 : z = (4 : Int32)
      · refine lv_tableIn (tgt := 314) hx hb dL_law_33 (by rw [c_4]; decide) (by rw [c_4]; decide) (by rw [c_4]; rfl) (by decide) ?_
        exact lw_case4 o4 B hX hbl v tl σ τ H locs ls hI Z hl
      by_cases c_5 : z = (5 : Int32)
      · refine lv_tableIn (tgt := 337) hx hb dL_law_33 (by rw [c_5]; decide) (by rw [c_5]; decide) (by rw [c_5]; rfl) (by decide) ?_
        exact lw_case5 o5 B hX hbl v tl σ τ H locs ls hI Z hl
      by_cases c_6 : z = (6 : Int32)
      · refine lv_tableIn (tgt := 360) hx hb dL_law_33 (by rw [c_6]; decide) (by rw [c_6]; decide) (by rw [c_6]; rfl) (by decide) ?_
        exact lw_case6 o6 B hX hbl v tl σ τ H locs ls hI Z hl
      by_cases c_7 : z = (7 : Int32)
      · refine lv_tableIn (tgt := 414) hx hb dL_law_33 (by rw [c_7]; decide) (by rw [c_7]; decide) (by rw [c_7]; rfl) (by decide) ?_
        exact lw_case7 o7 B hX hbl v tl σ τ H locs ls hI Z hl
      by_cases c_8 : z = (8 : Int32)
      · refine lv_tableIn (tgt := 447) hx hb dL_law_33 (by rw [c_8]; decide) (by rw [c_8]; decide) (by rw [c_8]; rfl) (by decide) ?_
        exact lw_case8 o8 B hX hbl v tl σ τ H locs ls hI Z hl
      by_cases c_9 : z = (9 : Int32)
      · refine lv_tableIn (tgt := 470) hx hb dL_law_33 (by rw [c_9]; decide) (by rw [c_9]; decide) (by rw [c_9]; rfl) (by decide) ?_
        exact lw_case9 o9 B hX hbl v tl σ τ H locs ls hI Z hl
      by_cases c_10 : z = (10 : Int32)
      · refine lv_tableIn (tgt := 503) hx hb dL_law_33 (by rw [c_10]; decide) (by rw [c_10]; decide) (by rw [c_10]; rfl) (by decide) ?_
        exact lw_case10 o10 B hX hbl v tl σ τ H locs ls hI Z hl
      by_cases c_11 : z = (11 : Int32)
      · refine lv_tableIn (tgt := 547) hx hb dL_law_33 (by rw [c_11]; decide) (by rw [c_11]; decide) (by rw [c_11]; rfl) (by decide) ?_
        exact lw_case11 o11 B hX hbl v tl σ τ H locs ls hI Z hl
      by_cases c_12 : z = (12 : Int32)
      · refine lv_tableIn (tgt := 570) hx hb dL_law_33 (by rw [c_12]; decide) (by rw [c_12]; decide) (by rw [c_12]; rfl) (by decide) ?_
        exact lw_case12 o12 B hX hbl v tl σ τ H locs ls hI Z hl
      by_cases c_13 : z = (13 : Int32)
      · refine lv_tableIn (tgt := 603) hx hb dL_law_33 (by rw [c_13]; decide) (by rw [c_13]; decide) (by rw [c_13]; rfl) (by decide) ?_
        exact lw_case13 o13 B hX hbl v tl σ τ H locs ls hI Z hl
      by_cases c_14 : z = (14 : Int32)
      · refine lv_tableIn (tgt := 626) hx hb dL_law_33 (by rw [c_14]; decide) (by rw [c_14]; decide) (by rw [c_14]; rfl) (by decide) ?_
        exact lw_case14 o14 B hX hbl v tl σ τ H locs ls hI Z hl
      by_cases c_15 : z = (15 : Int32)
      · refine lv_tableIn (tgt := 649) hx hb dL_law_33 (by rw [c_15]; decide) (by rw [c_15]; decide) (by rw [c_15]; rfl) (by decide) ?_
        exact lw_case15 o15 B hX hbl v tl σ τ H locs ls hI Z hl
      by_cases c_16 : z = (16 : Int32)
      · refine lv_tableIn (tgt := 672) hx hb dL_law_33 (by rw [c_16]; decide) (by rw [c_16]; decide) (by rw [c_16]; rfl) (by decide) ?_
        exact lw_case16 o16 B hX hbl v tl σ τ H locs ls hI Z hl
      by_cases c_17 : z = (17 : Int32)
      · refine lv_tableIn (tgt := 695) hx hb dL_law_33 (by rw [c_17]; decide) (by rw [c_17]; decide) (by rw [c_17]; rfl) (by decide) ?_
        exact lw_case17 o17 B hX hbl v tl σ τ H locs ls hI Z hl
      by_cases c_18 : z = (18 : Int32)
      · refine lv_tableIn (tgt := 708) hx hb dL_law_33 (by rw [c_18]; decide) (by rw [c_18]; decide) (by rw [c_18]; rfl) (by decide) ?_
        exact lw_case18 o18 B hX hbl v tl σ τ H locs ls hI Z hl
      by_cases c_19 : z = (19 : Int32)
      · refine lv_tableIn (tgt := 721) hx hb dL_law_33 (by rw [c_19]; decide) (by rw [c_19]; decide) (by rw [c_19]; rfl) (by decide) ?_
        exact lw_case19 o19 B hX hbl v tl σ τ H locs ls hI Z hl
      by_cases c_20 : z = (20 : Int32)
      · refine lv_tableIn (tgt := 754) hx hb dL_law_33 (by rw [c_20]; decide) (by rw [c_20]; decide) (by rw [c_20]; rfl) (by decide) ?_
        exact lw_case20 o20 B hX hbl v tl σ τ H locs ls hI Z hl
      by_cases c_21 : z = (21 : Int32)
      · refine lv_tableIn (tgt := 767) hx hb dL_law_33 (by rw [c_21]; decide) (by rw [c_21]; decide) (by rw [c_21]; rfl) (by decide) ?_
        exact lw_case21 o21 B hX hbl v tl σ τ H locs ls hI Z hl
      by_cases c_22 : z = (22 : Int32)
      · refine lv_tableIn (tgt := 790) hx hb dL_law_33 (by rw [c_22]; decide) (by rw [c_22]; decide) (by rw [c_22]; rfl) (by decide) ?_
        exact lw_case22 o22 B hX hbl v tl σ τ H locs ls hI Z hl
      refine lv_tableOut (tgt := 804) hx hb dL_law_33 (sw23 c_0 c_1 c_2 c_3 c_4 c_5 c_6 c_7 c_8 c_9 c_10 c_11 c_12 c_13 c_14 c_15 c_16 c_17 c_18 c_19 c_20 c_21 c_22) (by decide) ?_
      exact tl σ τ H locs ls hI Z hl
