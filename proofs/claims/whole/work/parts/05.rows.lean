/-! small rows that the walks use -/
theorem Wd.eq {wl : sT → va_W} {tys : List (ClassId × FieldType)} {ads : List Nat} {X : eX} {s : State} {σ σ1 : sT} {H : Heap} {locs : List Loc} (e : σ1 = σ) (Z : Wd wl tys ads X s σ H locs) : Wd wl tys ads X s σ1 H locs := by rw [e]; exact Z
theorem dlt_e {α β : Type} {x e : α} {k : α → Option β} {o : β} (ex : x = e) (h : dlt e k = some o) : k x = some o := by rw [ex]; exact h
theorem sw5 {x : Int32} (h0 : ¬ x = (0 : Int32)) (h1 : ¬ x = (1 : Int32)) (h2 : ¬ x = (2 : Int32)) (h3 : ¬ x = (3 : Int32)) (h4 : ¬ x = (4 : Int32)) : x.toInt < 0 ∨ 4 < x.toInt := by
  have k0 : x.toInt ≠ 0 := fun e => h0 (Int32.toInt_inj.mp (e.trans (by decide)))
  have k1 : x.toInt ≠ 1 := fun e => h1 (Int32.toInt_inj.mp (e.trans (by decide)))
  have k2 : x.toInt ≠ 2 := fun e => h2 (Int32.toInt_inj.mp (e.trans (by decide)))
  have k3 : x.toInt ≠ 3 := fun e => h3 (Int32.toInt_inj.mp (e.trans (by decide)))
  have k4 : x.toInt ≠ 4 := fun e => h4 (Int32.toInt_inj.mp (e.trans (by decide)))
  omega
theorem hcl_0 : vwCl[0]? = some (RX0, TX0, 6) := rfl
theorem hcl_1 : vwCl[1]? = some (RX1, TX1, 4) := rfl
theorem hcl_2 : vwCl[2]? = some (RX2, TX2, 2) := rfl
theorem hcl_3 : vwCl[3]? = some (RX3, TX3, 4) := rfl
theorem hcl_4 : vwCl[4]? = some (RX4, TX4, 4) := rfl
theorem hcl_5 : vwCl[5]? = some (RX5, TX5, 4) := rfl
theorem hcl_6 : vwCl[6]? = some (RX6, TX6, 4) := rfl
theorem hcl_7 : vwCl[7]? = some (RX7, TX7, 9) := rfl
theorem hcl_8 : vwCl[8]? = some (RX8, TX8, 8) := rfl
theorem hcl_9 : vwCl[9]? = some (RX9, TX9, 5) := rfl
theorem hcl_10 : vwCl[10]? = some (RX10, TX10, 3) := rfl
theorem hcl_11 : vwCl[11]? = some (RX11, TX11, 11) := rfl
theorem hcl_12 : vwCl[12]? = some (RX12, TX12, 39) := rfl
theorem rv_0 (X : eX) (σ : sT) : (wC X σ)[0]? = some (X.2.1 0, .inr (11, [.ref (X.2.1 1), .ref (X.2.1 5), .ref (X.2.1 20), .ref (X.2.1 24), .ref (X.2.1 26), .ref (X.2.1 28), .ref (X.2.1 29), .ref (X.2.1 31), .int (σ.1 0 8), .int (σ.1 0 9), .int (σ.1 0 10)])) := rfl
theorem rv_1 (X : eX) (σ : sT) : (wC X σ)[1]? = some (X.2.1 1, .inr (0, [.ref (X.2.1 2), .ref (X.2.1 3), .ref (X.2.1 4), .int (σ.1 1 3), .int (σ.1 1 4), .int (σ.1 1 5)])) := rfl
theorem rv_5 (X : eX) (σ : sT) : (wC X σ)[5]? = some (X.2.1 5, .inr (7, [.ref (X.2.1 1), .ref (X.2.1 6), .ref (X.2.1 9), .ref (X.2.1 12), .ref (X.2.1 15), .ref (X.2.1 16), .ref (X.2.1 17), .ref (X.2.1 18), .ref (X.2.1 19)])) := rfl
theorem rv_6 (X : eX) (σ : sT) : (wC X σ)[6]? = some (X.2.1 6, .inr (4, [.ref (X.2.1 7), .ref (X.2.1 8), .int (σ.1 6 2), .int (σ.1 6 3)])) := rfl
theorem rv_9 (X : eX) (σ : sT) : (wC X σ)[9]? = some (X.2.1 9, .inr (4, [.ref (X.2.1 10), .ref (X.2.1 11), .int (σ.1 9 2), .int (σ.1 9 3)])) := rfl
theorem rv_12 (X : eX) (σ : sT) : (wC X σ)[12]? = some (X.2.1 12, .inr (4, [.ref (X.2.1 13), .ref (X.2.1 14), .int (σ.1 12 2), .int (σ.1 12 3)])) := rfl
theorem rv_15 (X : eX) (σ : sT) : (wC X σ)[15]? = some (X.2.1 15, .inr (8, [.long (σ.2 15 0), .long (σ.2 15 1), .int (σ.1 15 2), .long (σ.2 15 3), .long (σ.2 15 4), .int (σ.1 15 5), .long (σ.2 15 6), .long (σ.2 15 7)])) := rfl
theorem rv_16 (X : eX) (σ : sT) : (wC X σ)[16]? = some (X.2.1 16, .inr (3, [.long (σ.2 16 0), .long (σ.2 16 1), .long (σ.2 16 2), .int (σ.1 16 3)])) := rfl
theorem rv_20 (X : eX) (σ : sT) : (wC X σ)[20]? = some (X.2.1 20, .inr (9, [.ref (X.2.1 1), .ref (X.2.1 21), .ref (X.2.1 22), .ref (X.2.1 23), .int (σ.1 20 4)])) := rfl
theorem rv_24 (X : eX) (σ : sT) : (wC X σ)[24]? = some (X.2.1 24, .inr (6, [.ref (X.2.1 1), .ref (X.2.1 5), .ref (X.2.1 25), .int (σ.1 24 3)])) := rfl
theorem rv_26 (X : eX) (σ : sT) : (wC X σ)[26]? = some (X.2.1 26, .inr (5, [.ref (X.2.1 27), .int (σ.1 26 1), .int (σ.1 26 2), .int (σ.1 26 3)])) := rfl
theorem rv_28 (X : eX) (σ : sT) : (wC X σ)[28]? = some (X.2.1 28, .inr (1, [.ref (X.2.1 1), .ref (X.2.1 26), .ref (X.2.1 24), .int (σ.1 28 3)])) := rfl
theorem rv_29 (X : eX) (σ : sT) : (wC X σ)[29]? = some (X.2.1 29, .inr (2, [.ref (X.2.1 26), .ref (X.2.1 30)])) := rfl
theorem rv_31 (X : eX) (σ : sT) : (wC X σ)[31]? = some (X.2.1 31, .inr (10, [.ref (X.2.1 1), .ref (X.2.1 32), .int (σ.1 31 2)])) := rfl
theorem rv_33 (X : eX) (σ : sT) : (wM X σ)[0]? = some (X.2.1 33, .inr (12, [.ref (X.2.1 34), .ref (X.2.1 35), .int (σ.1 33 2), .ref (X.2.1 36), .ref (X.2.1 37), .int (σ.1 33 5), .ref (X.2.1 38), .int (σ.1 33 7), .int (σ.1 33 8), .long (σ.2 33 9), .long (σ.2 33 10), .int (σ.1 33 11), .long (σ.2 33 12), .long (σ.2 33 13), .int (σ.1 33 14), .long (σ.2 33 15), .long (σ.2 33 16), .ref (X.2.1 39), .ref (X.2.1 40), .ref (X.2.1 41), .int (σ.1 33 20), .ref (X.2.1 42), .ref (X.2.1 43), .int (σ.1 33 23), .ref (X.2.1 44), .ref (X.2.1 45), .int (σ.1 33 26), .int (σ.1 33 27), .ref (X.2.1 46), .int (σ.1 33 29), .ref (X.2.1 47), .int (σ.1 33 31), .int (σ.1 33 32), .int (σ.1 33 33), .int (σ.1 33 34), .ref (X.2.1 48), .ref (X.2.1 49), .ref (X.2.1 50), .int (σ.1 33 38)])) := rfl
section FR
variable {p : Program} {l : Launch} {e : Env} {R : Room} {s : State} {m : MethodId} {args : Array Value} {below : List Frame} {meth : Method} {c : Code} {H : Heap} {locs : List Loc} {Q : State → Prop}
variable {cc : ByteArray} {pc nL index : Nat} {ls : Array Slot} {rest : List Value} {own host : String} {rty : Option FieldType} {X : eX} {σ : sT}
theorem tab_get (B : Bd p s m args meth c own cc nL rty) (Z : Wd (wC X) (tC X) (aC X) X s σ H locs) (kl : Cond.fieldLink own index "RowsMeet$FormulaReader" "COLUMNS" "[I" ∈ GT) (hdg : decode cc pc = .ok (.getstatic index, 3)) (kk : W p l e R s m args below meth c H locs 0 0 Q (F0 m (pc + 3) ls (.ref X.2.2.2 :: rest))) : W p l e R s m args below meth c H locs 0 0 Q (F0 m pc ls rest) := va_gets B.1 B.2.1 Z.2.2.2.2.1.2.1 Z.2.2.2.1 B.2.2.2.1 (B.2.2.2.2.1 _ kl) (fun _ h => h) hdg kk
theorem tab_ld {i : Int32} (B : Bd p s m args meth c own cc nL rty) (Z : Wd (wC X) (tC X) (aC X) X s σ H locs) (hi : okI i 5 = true) (hdg : decode cc pc = .ok (.iaload, 1)) (kk : W p l e R s m args below meth c H locs 0 0 Q (F0 m (pc + 1) ls (.int (colI i.toNatClampNeg) :: rest))) : W p l e R s m args below meth c H locs 0 0 Q (F0 m pc ls (.int i :: .ref X.2.2.2 :: rest)) := va_ti B.1 B.2.1 Z.2.2.2.2.1.2.2 Z.2.2.2.1 (okI_s hi) (colF_I _) hdg kk
theorem tab_len (B : Bd p s m args meth c own cc nL rty) (Z : Wd (wC X) (tC X) (aC X) X s σ H locs) (hdg : decode cc pc = .ok (.arraylength, 1)) (kk : W p l e R s m args below meth c H locs 0 0 Q (F0 m (pc + 1) ls (.int 5 :: rest))) : W p l e R s m args below meth c H locs 0 0 Q (F0 m pc ls (.ref X.2.2.2 :: rest)) := va_tlen B.1 B.2.1 Z.2.2.2.2.1.2.2 Z.2.2.2.1 rfl hdg kk
theorem cp_2_3 {sp dp n : Int32} {lv : List (Nat × Value)} (B : Bd p s m args meth c own cc nL rty) (Z : Wd (wC X) (tC X) (aC X) X s σ H locs) (hl : lv_has ls nL lv) (kl : Cond.methodLink own index arraycopyName ∈ GT) (hok : okC sp dp n 72 432 = true) (hf : 1 ≤ R.frames) (hlo : (rest.map fun v => v.category).sum + (nativeFrameWords "java/lang/System" "arraycopy" 5 + 11) ≤ R.locals) (hdg : decode cc pc = .ok (.invokestatic index, 3)) (kk : ∀ (H : Heap) (locs : List Loc), Wd (wC X) (tC X) (aC X) X s (saW σ 3 (va_cpy (σ.1 2) (σ.1 3) sp.toNatClampNeg dp.toNatClampNeg n.toNatClampNeg)) H locs → W p l e R s m args below meth c H locs 0 0 Q (F0 m (pc + 3) ls rest)) : W p l e R s m args below meth c H locs 0 0 Q (F0 m pc ls (.int n :: .int dp :: .ref (X.2.1 3) :: .int sp :: .ref (X.2.1 2) :: rest)) := by
  obtain ⟨h1, h2, h3, h4, h5⟩ := (of_decide_eq_true hok : (¬ sp < 0) ∧ (¬ dp < 0) ∧ (¬ n < 0) ∧ sp.toNatClampNeg + n.toNatClampNeg ≤ 72 ∧ dp.toNatClampNeg + n.toNatClampNeg ≤ 432)
  exact va_copyi (ty := .int) B.1 B.2.1 (B.2.2.1.trans hl.1.symm) B.2.2.2.1 (B.2.2.2.2.1 _ kl) (B.2.2.2.2.1 _ kv_Jcopy) (B.2.2.2.2.1 _ ks_Jcopy) (B.2.2.2.2.1 _ kz_RJ10) Z.1 Z.2.1 Z.2.2.1 Z.2.2.2.1 2 3 0 1 rfl rfl rfl rfl rfl h1 h2 h3 h4 h5 (fun _ _ => rfl) hf hlo hdg (fun H1 locs1 hP hD hS => kk H1 locs1 ⟨Z.1, hP, hD, hS, Z.2.2.2.2.1, Z.2.2.2.2.2⟩)
theorem cp_3_2 {sp dp n : Int32} {lv : List (Nat × Value)} (B : Bd p s m args meth c own cc nL rty) (Z : Wd (wC X) (tC X) (aC X) X s σ H locs) (hl : lv_has ls nL lv) (kl : Cond.methodLink own index arraycopyName ∈ GT) (hok : okC sp dp n 432 72 = true) (hf : 1 ≤ R.frames) (hlo : (rest.map fun v => v.category).sum + (nativeFrameWords "java/lang/System" "arraycopy" 5 + 11) ≤ R.locals) (hdg : decode cc pc = .ok (.invokestatic index, 3)) (kk : ∀ (H : Heap) (locs : List Loc), Wd (wC X) (tC X) (aC X) X s (saW σ 2 (va_cpy (σ.1 3) (σ.1 2) sp.toNatClampNeg dp.toNatClampNeg n.toNatClampNeg)) H locs → W p l e R s m args below meth c H locs 0 0 Q (F0 m (pc + 3) ls rest)) : W p l e R s m args below meth c H locs 0 0 Q (F0 m pc ls (.int n :: .int dp :: .ref (X.2.1 2) :: .int sp :: .ref (X.2.1 3) :: rest)) := by
  obtain ⟨h1, h2, h3, h4, h5⟩ := (of_decide_eq_true hok : (¬ sp < 0) ∧ (¬ dp < 0) ∧ (¬ n < 0) ∧ sp.toNatClampNeg + n.toNatClampNeg ≤ 432 ∧ dp.toNatClampNeg + n.toNatClampNeg ≤ 72)
  exact va_copyi (ty := .int) B.1 B.2.1 (B.2.2.1.trans hl.1.symm) B.2.2.2.1 (B.2.2.2.2.1 _ kl) (B.2.2.2.2.1 _ kv_Jcopy) (B.2.2.2.2.1 _ ks_Jcopy) (B.2.2.2.2.1 _ kz_RJ10) Z.1 Z.2.1 Z.2.2.1 Z.2.2.2.1 3 2 1 0 rfl rfl rfl rfl rfl h1 h2 h3 h4 h5 (fun _ _ => rfl) hf hlo hdg (fun H1 locs1 hP hD hS => kk H1 locs1 ⟨Z.1, hP, hD, hS, Z.2.2.2.2.1, Z.2.2.2.2.2⟩)
end FR
