/-! the law: both worlds side by side -/
theorem exN_tb : ∀ w ∈ exN, w ∈ tables_1 := List.forall_mem_cons.mpr ⟨tb1 27 rfl, List.forall_mem_cons.mpr ⟨tb1 35 rfl, List.forall_mem_cons.mpr ⟨tb1 36 rfl, List.forall_mem_cons.mpr ⟨tb1 39 rfl, List.forall_mem_cons.mpr ⟨tb1 70 rfl, List.forall_mem_cons.mpr ⟨tb1 72 rfl, List.forall_mem_cons.mpr ⟨tb1 74 rfl, List.forall_mem_cons.mpr ⟨tb1 76 rfl, List.forall_mem_cons.mpr ⟨tb1 89 rfl, List.forall_mem_cons.mpr ⟨tb1 100 rfl, List.forall_mem_cons.mpr ⟨tb1 102 rfl, List.forall_mem_cons.mpr ⟨tb1 122 rfl, List.forall_mem_cons.mpr ⟨tb1 130 rfl, List.forall_mem_cons.mpr ⟨tb1 145 rfl, List.forall_mem_cons.mpr ⟨tb1 149 rfl, List.forall_mem_cons.mpr ⟨tb1 151 rfl, List.forall_mem_cons.mpr ⟨tb1 214 rfl, List.forall_mem_cons.mpr ⟨tb1 220 rfl, List.forall_mem_cons.mpr ⟨tb1 221 rfl, List.forall_mem_cons.mpr ⟨tb1 223 rfl, List.forall_mem_cons.mpr ⟨tb1 225 rfl, List.forall_mem_cons.mpr ⟨tb2 6 rfl, List.forall_mem_cons.mpr ⟨tb2 137 rfl, List.forall_mem_cons.mpr ⟨tb2 170 rfl, List.forall_mem_cons.mpr ⟨tb3 29 rfl, List.forall_mem_cons.mpr ⟨tb3 102 rfl, List.forall_mem_cons.mpr ⟨tb3 122 rfl, List.forall_mem_cons.mpr ⟨tb3 165 rfl, List.forall_mem_cons.mpr ⟨tb4 12 rfl, List.forall_mem_cons.mpr ⟨tb4 57 rfl, List.forall_mem_cons.mpr ⟨tb4 58 rfl, fun _ h => absurd h List.not_mem_nil⟩⟩⟩⟩⟩⟩⟩⟩⟩⟩⟩⟩⟩⟩⟩⟩⟩⟩⟩⟩⟩⟩⟩⟩⟩⟩⟩⟩⟩⟩⟩
theorem exN_of {args : Array Value} {s : State} (h : ∀ w ∈ lw_tbl, w.before args s = true) : ∀ w ∈ exN, va_Nw w s := by
  intro w hw
  have hk : (exN.all (fun w => w.onTables)) = true := by rfl
  exact va_Nw.of (List.all_eq_true.mp hk w hw) (h w (List.mem_append_right _ (exN_tb w hw)))
def s0 : sT := (fun _ _ => 0, fun _ _ => 0)
def LW (X : eX) (s : State) (σ τ : sT) (H : Heap) (locs : List Loc) : Prop :=
  va_K X.1 vwCl (tC X ++ tM X) s ∧ va_P X.1 vwCl (wC X σ ++ wM X τ) H ∧ va_D (fun q => s.heap.size ≤ q) (wC X σ ++ wM X τ) ∧ va_S (fun q => s.heap.size ≤ q) s.heap H locs ∧ ExX X (fun q => s.heap.size ≤ q) s s.heap
theorem va_P.left {D : va_G} {cl : List vw_C} {a b : va_W} {H : Heap} (h : va_P D cl (a ++ b) H) : va_P D cl a H := fun k q hk => h k q (by rw [List.getElem?_append_left (List.getElem?_eq_some_iff.mp hk).1]; exact hk)
theorem va_P.right {D : va_G} {cl : List vw_C} {a b : va_W} {H : Heap} (h : va_P D cl (a ++ b) H) : va_P D cl b H := fun k q hk => h (a.length + k) q (by rw [List.getElem?_append_right (Nat.le_add_right _ _), Nat.add_sub_cancel_left]; exact hk)
theorem va_K.left {D : va_G} {cl : List vw_C} {a b : List (ClassId × FieldType)} {U : State} (h : va_K D cl (a ++ b) U) : va_K D cl a U := ⟨h.1, fun k q hk => h.2 k q (by rw [List.getElem?_append_left (List.getElem?_eq_some_iff.mp hk).1]; exact hk)⟩
theorem va_K.right {D : va_G} {cl : List vw_C} {a b : List (ClassId × FieldType)} {U : State} (h : va_K D cl (a ++ b) U) : va_K D cl b U := ⟨h.1, fun k q hk => h.2 (a.length + k) q (by rw [List.getElem?_append_right (Nat.le_add_right _ _), Nat.add_sub_cancel_left]; exact hk)⟩
theorem va_D.left {A : Nat → Prop} {a b : va_W} (h : va_D A (a ++ b)) : va_D A a := by
  have k0 : ∀ (k : Nat) (q : Nat × va_E), a[k]? = some q → (a ++ b)[k]? = some q := fun k q hk => by rw [List.getElem?_append_left (List.getElem?_eq_some_iff.mp hk).1]; exact hk
  exact ⟨fun i j p q hi hj e => h.1 i j p q (k0 i p hi) (k0 j q hj) e, fun k q hk => h.2 k q (k0 k q hk)⟩
theorem va_D.right {A : Nat → Prop} {a b : va_W} (h : va_D A (a ++ b)) : va_D A b := by
  have k0 : ∀ (k : Nat) (q : Nat × va_E), b[k]? = some q → (a ++ b)[a.length + k]? = some q := fun k q hk => by rw [List.getElem?_append_right (Nat.le_add_right _ _), Nat.add_sub_cancel_left]; exact hk
  exact ⟨fun i j p q hi hj e => Nat.add_left_cancel (h.1 _ _ p q (k0 i p hi) (k0 j q hj) e), fun k q hk => h.2 _ q (k0 k q hk)⟩
theorem va_D.cross {A : Nat → Prop} {a b : va_W} (h : va_D A (a ++ b)) {i j : Nat} {p q : Nat × va_E} (hi : a[i]? = some p) (hj : b[j]? = some q) : p.1 ≠ q.1 := by
  intro e
  have hl := (List.getElem?_eq_some_iff.mp hi).1
  have := h.1 i (a.length + j) p q (by rw [List.getElem?_append_left hl]; exact hi) (by rw [List.getElem?_append_right (Nat.le_add_right _ _), Nat.add_sub_cancel_left]; exact hj) e
  omega
theorem mem_ads {wl : sT → va_W} {ads : List Nat} (h : wOk wl ads) (σ : sT) {q : Nat} (hq : q ∈ ads) : ∃ (k : Nat) (p : Nat × va_E), (wl σ)[k]? = some p ∧ p.1 = q := by
  rw [← h σ] at hq
  obtain ⟨p, hp, e⟩ := List.mem_map.mp hq
  obtain ⟨k, hk⟩ := List.getElem?_of_mem hp
  exact ⟨k, p, hk, e⟩
theorem LW.inC {X : eX} {s : State} {σ τ : sT} {H : Heap} {locs : List Loc} (Z : LW X s σ τ H locs) : ∀ q, aA (aC X) H.size q → s.heap.size ≤ q := by
  intro q h
  rcases h with h | h
  · obtain ⟨k, p, hk, rfl⟩ := mem_ads (wkC X) σ h
    exact Z.2.2.1.left.2 k p hk
  · exact Nat.le_trans Z.2.2.2.1.1 h
theorem LW.inM {X : eX} {s : State} {σ τ : sT} {H : Heap} {locs : List Loc} (Z : LW X s σ τ H locs) : ∀ q, aA (aM X) H.size q → s.heap.size ≤ q := by
  intro q h
  rcases h with h | h
  · obtain ⟨k, p, hk, rfl⟩ := mem_ads (wkM X) τ h
    exact Z.2.2.1.right.2 k p hk
  · exact Nat.le_trans Z.2.2.2.1.1 h
theorem LW.preC {X : eX} {s : State} {σ τ : sT} {H : Heap} {locs : List Loc} (Z : LW X s σ τ H locs) {U : State} (hU : U.heap = H) (hW : s.WarmedH U.vm) : prW (wC X) (tC X) (aC X) X σ H.size U := by
  obtain ⟨hK, hP, hD, hS, hE⟩ := id Z
  refine ⟨by rw [hU], by rw [hU]; exact hP.left, va_K.moved hW.alike hK.left, hD.left.weaken (fun _ _ _ _ => trivial), ?_, wkC X⟩
  rw [hU]
  exact hE.to hW (fun a h1 h2 => hS.2.1 a h1 h2) Z.inC
theorem LW.preM {X : eX} {s : State} {σ τ : sT} {H : Heap} {locs : List Loc} (Z : LW X s σ τ H locs) {U : State} (hU : U.heap = H) (hW : s.WarmedH U.vm) : prW (wM X) (tM X) (aM X) X τ H.size U := by
  obtain ⟨hK, hP, hD, hS, hE⟩ := id Z
  refine ⟨by rw [hU], by rw [hU]; exact hP.right, va_K.moved hW.alike hK.right, hD.right.weaken (fun _ _ _ _ => trivial), ?_, wkM X⟩
  rw [hU]
  exact hE.to hW (fun a h1 h2 => hS.2.1 a h1 h2) Z.inM
theorem LW.afC {X : eX} {s : State} {σ σ1 τ : sT} {H H1 : Heap} {locs locs1 : List Loc} (Z : LW X s σ τ H locs) {t : State} (ht : t.heap = H1) (hB : poW (wC X) (tC X) (aC X) X H.size σ1 t) (hk : ∀ q : Nat, q < H.size → ¬ aA (aC X) H.size q → H1[q]? = H[q]?) (hS : va_S (fun q => s.heap.size ≤ q) s.heap H1 locs1) : LW X s σ1 τ H1 locs1 := by
  obtain ⟨hK, hP, hD, hS0, hE⟩ := id Z
  have hB1 := hB.1
  rw [ht] at hB1
  have nin : ∀ (k : Nat) (q : Nat × va_E), (wM X τ)[k]? = some q → q.1 ∉ aC X := by
    intro k q hq h
    obtain ⟨j, p, hj, e⟩ := mem_ads (wkC X) σ h
    exact hD.cross hj hq e
  refine ⟨hK, va_P.app hB1 (fun k q hq => ?_), va_D.app (hB.2.2.weaken (fun _ q _ h => Z.inC q.1 h)) hD.right (fun i j p q hi hj e => ?_), hS, hE⟩
  · have hlt := (hP.right k q hq).lt
    exact (hP.right k q hq).kept (hk q.1 hlt (fun h => h.elim (nin k q hq) (fun z => by omega)))
  · exact nin j q hj (e ▸ (wkC X).in hi)
theorem LW.afM {X : eX} {s : State} {σ τ τ1 : sT} {H H1 : Heap} {locs locs1 : List Loc} (Z : LW X s σ τ H locs) {t : State} (ht : t.heap = H1) (hB : poW (wM X) (tM X) (aM X) X H.size τ1 t) (hk : ∀ q : Nat, q < H.size → ¬ aA (aM X) H.size q → H1[q]? = H[q]?) (hS : va_S (fun q => s.heap.size ≤ q) s.heap H1 locs1) : LW X s σ τ1 H1 locs1 := by
  obtain ⟨hK, hP, hD, hS0, hE⟩ := id Z
  have hB1 := hB.1
  rw [ht] at hB1
  have nin : ∀ (k : Nat) (q : Nat × va_E), (wC X σ)[k]? = some q → q.1 ∉ aM X := by
    intro k q hq h
    obtain ⟨j, p, hj, e⟩ := mem_ads (wkM X) τ h
    exact hD.cross hq hj e.symm
  refine ⟨hK, va_P.app (fun k q hq => ?_) hB1, va_D.app hD.left (hB.2.2.weaken (fun _ q _ h => Z.inM q.1 h)) (fun i j p q hi hj e => ?_), hS, hE⟩
  · have hlt := (hP.left k q hq).lt
    exact (hP.left k q hq).kept (hk q.1 hlt (fun h => h.elim (nin k q hq) (fun z => by omega)))
  · exact nin i p hi (e ▸ (wkM X).in hj)
section LC
variable {p : Program} {l : Launch} {e : Env} {R : Room} {s : State} {m : MethodId} {args : Array Value} {below : List Frame} {meth : Method} {c : Code} {H : Heap} {locs : List Loc} {Q : State → Prop} {cells slots : Nat}
variable {cc : ByteArray} {pc nL : Nat} {ls : Array Slot} {own : String} {rty : Option FieldType} {X : eX} {σ σ1 τ τ1 : sT}
variable {y : MethodName} {bytes : ByteArray} {maxL n index : Nat} {ret : Option FieldType} {rm : Room} {st0 : List Value}
theorem lC_I {r : Int32} {lv : List (Nat × Value)} (As rest : List Value) (B : Bd p s m args meth c own cc nL rty) (M : Mx y bytes maxL ret n) (hy : y.cls = RX11) (hM : ctI l y bytes maxL ret rm (.ref (X.2.1 0) :: As) (wC X) (tC X) (aC X) X H.size σ r σ1) (kl : Cond.methodLink own index y ∈ GT) (ki : Cond.instanceMethod y ∈ GT ∧ Cond.selects y.cls y y ∈ GT) (Z : LW X s σ τ H locs) (hl : lv_has ls nL lv) (hrc : rm.cells = 0) (hrs : rm.slots = 0) (hR : rm.frames + 1 ≤ R.frames ∧ 8 + (maxL + 11) + rm.locals ≤ R.locals) (hn : As.length = n) (hst : st0 = As.reverse ++ .ref (X.2.1 0) :: rest) (hW : (rest.map fun v => v.category).sum ≤ 8) (hdg : decode cc pc = .ok (.invokevirtual index, 3)) (hf : cells ≤ R.cells ∧ slots ≤ R.slots)
    (kk : ∀ (H : Heap) (locs : List Loc), LW X s σ1 τ H locs → W p l e R s m args below meth c H locs cells slots Q (F0 m (pc + 3) ls (.int r :: rest))) : W p l e R s m args below meth c H locs cells slots Q (F0 m pc ls st0) := by
  refine va_calli (va_runV (C := y.cls) (As := As) (rest := rest) (fxOf B) hM ⟨cbOf B M hrc hrs hR kl, B.2.2.2.2.1 _ ki.1, B.2.2.2.2.1 _ ki.2⟩ ⟨prW_blind, va_recv Z.1 Z.2.1 (q := (y.cls, TX11, 11)) (by rw [hy]; exact hcl_11) (q0 := 0) rfl, fun U hU hW => ⟨rfl, Z.preC hU hW⟩⟩ rfl hn hl.1 hst (lv_room hW) hdg hf) Z.2.2.2.1 (fun q _ h => Z.inC q h) (fun q h => Z.inC q h) (fun r' u t H1 locs1 ht _ hw hB _ hk hS => ?_)
  obtain ⟨rfl, rfl⟩ := hw
  exact kk H1 locs1 (Z.afC ht hB hk hS)
theorem lC_L {r : Int64} {lv : List (Nat × Value)} (As rest : List Value) (B : Bd p s m args meth c own cc nL rty) (M : Mx y bytes maxL ret n) (hy : y.cls = RX11) (hM : ctL l y bytes maxL ret rm (.ref (X.2.1 0) :: As) (wC X) (tC X) (aC X) X H.size σ r σ1) (kl : Cond.methodLink own index y ∈ GT) (ki : Cond.instanceMethod y ∈ GT ∧ Cond.selects y.cls y y ∈ GT) (Z : LW X s σ τ H locs) (hl : lv_has ls nL lv) (hrc : rm.cells = 0) (hrs : rm.slots = 0) (hR : rm.frames + 1 ≤ R.frames ∧ 8 + (maxL + 11) + rm.locals ≤ R.locals) (hn : As.length = n) (hst : st0 = As.reverse ++ .ref (X.2.1 0) :: rest) (hW : (rest.map fun v => v.category).sum ≤ 8) (hdg : decode cc pc = .ok (.invokevirtual index, 3)) (hf : cells ≤ R.cells ∧ slots ≤ R.slots)
    (kk : ∀ (H : Heap) (locs : List Loc), LW X s σ1 τ H locs → W p l e R s m args below meth c H locs cells slots Q (F0 m (pc + 3) ls (.long r :: rest))) : W p l e R s m args below meth c H locs cells slots Q (F0 m pc ls st0) := by
  refine va_calll (va_runV (C := y.cls) (As := As) (rest := rest) (fxOf B) hM ⟨cbOf B M hrc hrs hR kl, B.2.2.2.2.1 _ ki.1, B.2.2.2.2.1 _ ki.2⟩ ⟨prW_blind, va_recv Z.1 Z.2.1 (q := (y.cls, TX11, 11)) (by rw [hy]; exact hcl_11) (q0 := 0) rfl, fun U hU hW => ⟨rfl, Z.preC hU hW⟩⟩ rfl hn hl.1 hst (lv_room hW) hdg hf) Z.2.2.2.1 (fun q _ h => Z.inC q h) (fun q h => Z.inC q h) (fun r' u t H1 locs1 ht _ hw hB _ hk hS => ?_)
  obtain ⟨rfl, rfl⟩ := hw
  exact kk H1 locs1 (Z.afC ht hB hk hS)
theorem lM_I {r : Int32} {lv : List (Nat × Value)} (As rest : List Value) (B : Bd p s m args meth c own cc nL rty) (M : Mx y bytes maxL ret n) (hy : y.cls = RX12) (hM : ctI l y bytes maxL ret rm (.ref (X.2.1 33) :: As) (wM X) (tM X) (aM X) X H.size τ r τ1) (kl : Cond.methodLink own index y ∈ GT) (ki : Cond.instanceMethod y ∈ GT ∧ Cond.selects y.cls y y ∈ GT) (Z : LW X s σ τ H locs) (hl : lv_has ls nL lv) (hrc : rm.cells = 0) (hrs : rm.slots = 0) (hR : rm.frames + 1 ≤ R.frames ∧ 8 + (maxL + 11) + rm.locals ≤ R.locals) (hn : As.length = n) (hst : st0 = As.reverse ++ .ref (X.2.1 33) :: rest) (hW : (rest.map fun v => v.category).sum ≤ 8) (hdg : decode cc pc = .ok (.invokevirtual index, 3)) (hf : cells ≤ R.cells ∧ slots ≤ R.slots)
    (kk : ∀ (H : Heap) (locs : List Loc), LW X s σ τ1 H locs → W p l e R s m args below meth c H locs cells slots Q (F0 m (pc + 3) ls (.int r :: rest))) : W p l e R s m args below meth c H locs cells slots Q (F0 m pc ls st0) := by
  refine va_calli (va_runV (C := y.cls) (As := As) (rest := rest) (fxOf B) hM ⟨cbOf B M hrc hrs hR kl, B.2.2.2.2.1 _ ki.1, B.2.2.2.2.1 _ ki.2⟩ ⟨prW_blind, va_recv Z.1 Z.2.1 (q := (y.cls, TX12, 39)) (by rw [hy]; exact hcl_12) (q0 := 33) rfl, fun U hU hW => ⟨rfl, Z.preM hU hW⟩⟩ rfl hn hl.1 hst (lv_room hW) hdg hf) Z.2.2.2.1 (fun q _ h => Z.inM q h) (fun q h => Z.inM q h) (fun r' u t H1 locs1 ht _ hw hB _ hk hS => ?_)
  obtain ⟨rfl, rfl⟩ := hw
  exact kk H1 locs1 (Z.afM ht hB hk hS)
theorem lM_L {r : Int64} {lv : List (Nat × Value)} (As rest : List Value) (B : Bd p s m args meth c own cc nL rty) (M : Mx y bytes maxL ret n) (hy : y.cls = RX12) (hM : ctL l y bytes maxL ret rm (.ref (X.2.1 33) :: As) (wM X) (tM X) (aM X) X H.size τ r τ1) (kl : Cond.methodLink own index y ∈ GT) (ki : Cond.instanceMethod y ∈ GT ∧ Cond.selects y.cls y y ∈ GT) (Z : LW X s σ τ H locs) (hl : lv_has ls nL lv) (hrc : rm.cells = 0) (hrs : rm.slots = 0) (hR : rm.frames + 1 ≤ R.frames ∧ 8 + (maxL + 11) + rm.locals ≤ R.locals) (hn : As.length = n) (hst : st0 = As.reverse ++ .ref (X.2.1 33) :: rest) (hW : (rest.map fun v => v.category).sum ≤ 8) (hdg : decode cc pc = .ok (.invokevirtual index, 3)) (hf : cells ≤ R.cells ∧ slots ≤ R.slots)
    (kk : ∀ (H : Heap) (locs : List Loc), LW X s σ τ1 H locs → W p l e R s m args below meth c H locs cells slots Q (F0 m (pc + 3) ls (.long r :: rest))) : W p l e R s m args below meth c H locs cells slots Q (F0 m pc ls st0) := by
  refine va_calll (va_runV (C := y.cls) (As := As) (rest := rest) (fxOf B) hM ⟨cbOf B M hrc hrs hR kl, B.2.2.2.2.1 _ ki.1, B.2.2.2.2.1 _ ki.2⟩ ⟨prW_blind, va_recv Z.1 Z.2.1 (q := (y.cls, TX12, 39)) (by rw [hy]; exact hcl_12) (q0 := 33) rfl, fun U hU hW => ⟨rfl, Z.preM hU hW⟩⟩ rfl hn hl.1 hst (lv_room hW) hdg hf) Z.2.2.2.1 (fun q _ h => Z.inM q h) (fun q h => Z.inM q h) (fun r' u t H1 locs1 ht _ hw hB _ hk hS => ?_)
  obtain ⟨rfl, rfl⟩ := hw
  exact kk H1 locs1 (Z.afM ht hB hk hS)
end LC
def op_row (I : sT → sT → Prop) : Prop := ∀ (σ τ : sT), I σ τ → ∀ (a1 a2 a3 a4 a5 a6 : Int32), ∃ (r : Int32) (σ1 τ1 : sT), fRM_row a1 a2 a3 a4 a5 a6 σ = some (r, σ1) ∧ fMM_row a1 a2 a3 a4 a5 a6 τ = some (r, τ1) ∧ I σ1 τ1
def op_drops (I : sT → sT → Prop) : Prop := ∀ (σ τ : sT), I σ τ → ∀ (a1 : Int32), ∃ (r : Int32) (σ1 τ1 : sT), fRM_drops a1 σ = some (r, σ1) ∧ fMM_drops a1 τ = some (r, τ1) ∧ I σ1 τ1
def op_sets (I : sT → sT → Prop) : Prop := ∀ (σ τ : sT), I σ τ → ∀ (a1 a2 a3 : Int32), ∃ (r : Int32) (σ1 τ1 : sT), fRM_sets a1 a2 a3 σ = some (r, σ1) ∧ fMM_sets a1 a2 a3 τ = some (r, τ1) ∧ I σ1 τ1
def op_of (I : sT → sT → Prop) : Prop := ∀ (σ τ : sT), I σ τ → ∀ (a1 a2 : Int32), ∃ (r : Int32) (σ1 τ1 : sT), fRM_of a1 a2 σ = some (r, σ1) ∧ fMM_of a1 a2 τ = some (r, τ1) ∧ I σ1 τ1
def op_can (I : sT → sT → Prop) : Prop := ∀ (σ τ : sT), I σ τ → ∀ (a1 : Int32), ∃ (r : Int32) (σ1 τ1 : sT), fRM_can a1 σ = some (r, σ1) ∧ fMM_can a1 τ = some (r, τ1) ∧ I σ1 τ1
def op_dimension (I : sT → sT → Prop) : Prop := ∀ (σ τ : sT), I σ τ → ∀ (a1 : Int32), ∃ (r : Int32) (σ1 τ1 : sT), fRM_dimension a1 σ = some (r, σ1) ∧ fMM_dimension a1 τ = some (r, τ1) ∧ I σ1 τ1
def op_bound (I : sT → sT → Prop) : Prop := ∀ (σ τ : sT), I σ τ → ∀ (a1 a2 a3 a4 : Int32), ∃ (r : Int64) (σ1 τ1 : sT), fRM_bound a1 a2 a3 a4 σ = some (r, σ1) ∧ fMM_bound a1 a2 a3 a4 τ = some (r, τ1) ∧ I σ1 τ1
def op_brings (I : sT → sT → Prop) : Prop := ∀ (σ τ : sT), I σ τ → ∀ (a1 a2 : Int32), ∃ (r : Int32) (σ1 τ1 : sT), fRM_brings a1 a2 σ = some (r, σ1) ∧ fMM_brings a1 a2 τ = some (r, τ1) ∧ I σ1 τ1
def op_spare (I : sT → sT → Prop) : Prop := ∀ (σ τ : sT), I σ τ → ∀ (a1 : Int32), ∃ (r : Int32) (σ1 τ1 : sT), fRM_spare a1 σ = some (r, σ1) ∧ fMM_spare a1 τ = some (r, τ1) ∧ I σ1 τ1
def op_same (I : sT → sT → Prop) : Prop := ∀ (σ τ : sT), I σ τ → ∀ (a1 a2 : Int32), ∃ (r : Int32) (σ1 τ1 : sT), fRM_same a1 a2 σ = some (r, σ1) ∧ fMM_same a1 a2 τ = some (r, τ1) ∧ I σ1 τ1
def op_point (I : sT → sT → Prop) : Prop := ∀ (σ τ : sT), I σ τ → ∀ (a1 a2 a3 : Int32), ∃ (r : Int64) (σ1 τ1 : sT), fRM_point a1 a2 a3 σ = some (r, σ1) ∧ fMM_point a1 a2 a3 τ = some (r, τ1) ∧ I σ1 τ1
def op_core (I : sT → sT → Prop) : Prop := ∀ (σ τ : sT), I σ τ → ∀ (a1 : Int32), ∃ (r : Int32) (σ1 τ1 : sT), fRM_core a1 σ = some (r, σ1) ∧ fMM_core a1 τ = some (r, τ1) ∧ I σ1 τ1
def op_times (I : sT → sT → Prop) : Prop := ∀ (σ τ : sT), I σ τ → ∀ (a1 a2 : Int32), ∃ (r : Int32) (σ1 τ1 : sT), fRM_times a1 a2 σ = some (r, σ1) ∧ fMM_times a1 a2 τ = some (r, τ1) ∧ I σ1 τ1
def op_between (I : sT → sT → Prop) : Prop := ∀ (σ τ : sT), I σ τ → ∀ (a1 : Int32), ∃ (r : Int32) (σ1 τ1 : sT), fRM_between a1 σ = some (r, σ1) ∧ fMM_between a1 τ = some (r, τ1) ∧ I σ1 τ1
def op_sides (I : sT → sT → Prop) : Prop := ∀ (σ τ : sT), I σ τ → ∀ (a1 : Int32), ∃ (r : Int32) (σ1 τ1 : sT), fRM_sides a1 σ = some (r, σ1) ∧ fMM_sides a1 τ = some (r, τ1) ∧ I σ1 τ1
def op_formula (I : sT → sT → Prop) : Prop := ∀ (σ τ : sT), I σ τ → ∀ (a1 : Int32), ∃ (r : Int32) (σ1 τ1 : sT), fRM_formula a1 σ = some (r, σ1) ∧ fMM_formula a1 τ = some (r, τ1) ∧ I σ1 τ1
def op_type (I : sT → sT → Prop) : Prop := ∀ (σ τ : sT), I σ τ → ∀ (a1 : Int32), ∃ (r : Int32) (σ1 τ1 : sT), fRM_type a1 σ = some (r, σ1) ∧ fMM_type a1 τ = some (r, τ1) ∧ I σ1 τ1
def op_clear (I : sT → sT → Prop) : Prop := ∀ (σ τ : sT), I σ τ → ∀ (_ : Unit), ∃ (r : Int32) (σ1 τ1 : sT), fRM_clear  σ = some (r, σ1) ∧ fMM_clear  τ = some (r, τ1) ∧ I σ1 τ1
def op_reads (I : sT → sT → Prop) : Prop := ∀ (σ τ : sT), I σ τ → ∀ (_ : Unit), ∃ (r : Int32) (σ1 τ1 : sT), fRM_reads  σ = some (r, σ1) ∧ fMM_reads  τ = some (r, τ1) ∧ I σ1 τ1
def op_shown (I : sT → sT → Prop) : Prop := ∀ (σ τ : sT), I σ τ → ∀ (a1 a2 : Int32), ∃ (r : Int32) (σ1 τ1 : sT), fRM_shown a1 a2 σ = some (r, σ1) ∧ fMM_shown a1 a2 τ = some (r, τ1) ∧ I σ1 τ1
def op_back (I : sT → sT → Prop) : Prop := ∀ (σ τ : sT), I σ τ → ∀ (_ : Unit), ∃ (r : Int32) (σ1 τ1 : sT), fRM_back  σ = some (r, σ1) ∧ fMM_back  τ = some (r, τ1) ∧ I σ1 τ1
def op_told (I : sT → sT → Prop) : Prop := ∀ (σ τ : sT), I σ τ → ∀ (a1 : Int32), ∃ (r : Int32) (σ1 τ1 : sT), fRM_told a1 σ = some (r, σ1) ∧ fMM_told a1 τ = some (r, τ1) ∧ I σ1 τ1
def op_digest (I : sT → sT → Prop) : Prop := ∀ (σ τ : sT), I σ τ → ∀ (_ : Unit), ∃ (r : Int64) (σ1 τ1 : sT), fRM_digest  σ = some (r, σ1) ∧ fMM_digest  τ = some (r, τ1) ∧ I σ1 τ1
