/-! THE ROOM OF THE WALKS: one memory for the class, one for the model; worlds, contracts, a row a call -/
abbrev sT : Type := (Nat → Nat → Int32) × (Nat → Nat → Int64)
abbrev eX : Type := va_G × (Nat → Nat) × (Nat → ClassId) × Nat
def siW (σ : sT) (q k : Nat) (v : Int32) : sT := (va_up σ.1 q (upd (σ.1 q) k v), σ.2)
def sjW (σ : sT) (q k : Nat) (v : Int64) : sT := (σ.1, va_up σ.2 q (vp_updL (σ.2 q) k v))
def saW (σ : sT) (q : Nat) (f : Nat → Int32) : sT := (va_up σ.1 q f, σ.2)
/-! the pure words: a name, a check, a call -/
def dlt {α β : Type} (x : α) (k : α → Option β) : Option β := k x
def dck {β : Type} (b : Bool) (k : Option β) : Option β := if b = true then k else none
def db1 {α β : Type} (o : Option α) (k : α → Option β) : Option β := match o with
  | none => none
  | some a => k a
def db2 {α γ β : Type} (o : Option (α × γ)) (k : α → γ → Option β) : Option β := match o with
  | none => none
  | some (a, c) => k a c
def okI (i : Int32) (n : Nat) : Bool := decide (¬ (i < 0 ∨ n ≤ i.toNatClampNeg))
def okZ (v : Int32) : Bool := decide (v = 0 ∨ v = 1)
def okD (v : Int32) : Bool := decide (¬ v = 0)
def okE (v : Int64) : Bool := decide (¬ v = 0)
def okC (sp dp n : Int32) (n0 n1 : Nat) : Bool := decide ((¬ sp < 0) ∧ (¬ dp < 0) ∧ (¬ n < 0) ∧ sp.toNatClampNeg + n.toNatClampNeg ≤ n0 ∧ dp.toNatClampNeg + n.toNatClampNeg ≤ n1)
def FU : Nat := 1000
theorem dlt_s {α β : Type} {x : α} {k : α → Option β} {o : β} (h : dlt x k = some o) : ∃ y, y = x ∧ k y = some o := ⟨x, rfl, h⟩
theorem dck_s {β : Type} {b : Bool} {k : Option β} {o : β} (h : dck b k = some o) : b = true ∧ k = some o := by
  unfold dck at h
  by_cases hb : b = true
  · rw [if_pos hb] at h; exact ⟨hb, h⟩
  · rw [if_neg hb] at h; cases h
theorem db1_s {α β : Type} {o : Option α} {k : α → Option β} {z : β} (h : db1 o k = some z) : ∃ a, o = some a ∧ k a = some z := by
  cases o with
  | none => cases h
  | some a => exact ⟨a, rfl, h⟩
theorem db2_s {α γ β : Type} {o : Option (α × γ)} {k : α → γ → Option β} {z : β} (h : db2 o k = some z) : ∃ a c, o = some (a, c) ∧ k a c = some z := by
  cases o with
  | none => cases h
  | some a => exact ⟨a.1, a.2, rfl, h⟩
theorem dit {β : Type} {c : Prop} {i : Decidable c} {a b : Option β} {o : β} (h : (@ite _ c i a b) = some o) (hc : c) : a = some o := by rw [if_pos hc] at h; exact h
theorem dif {β : Type} {c : Prop} {i : Decidable c} {a b : Option β} {o : β} (h : (@ite _ c i a b) = some o) (hc : ¬ c) : b = some o := by rw [if_neg hc] at h; exact h
theorem din {β : Type} {c : Prop} {i : Decidable (¬ c)} {a b : Option β} {o : β} (h : (@ite _ (¬ c) i a b) = some o) (hc : c) : b = some o := by rw [if_neg (fun z => z hc)] at h; exact h
theorem okI_s {i : Int32} {n : Nat} (h : okI i n = true) : vp_in i n := of_decide_eq_true (p := ¬ (i < 0 ∨ n ≤ i.toNatClampNeg)) h
theorem okZ_n {v : Int32} (h : okZ v = true) : narrow .boolean (.int v) = .int v := by
  rcases (of_decide_eq_true h : v = 0 ∨ v = 1) with rfl | rfl <;> rfl
theorem okZ_f {v : Int32} (h : okZ v = true) : fits .boolean (.int v) = true := by
  rcases (of_decide_eq_true h : v = 0 ∨ v = 1) with rfl | rfl <;> rfl
theorem okD_s {v : Int32} (h : okD v = true) : ¬ v = 0 := of_decide_eq_true h
theorem okE_s {v : Int64} (h : okE v = true) : ¬ v = 0 := of_decide_eq_true h
/-! what is beside the worlds: the links between nest mates, the static table -/
def colF : Nat → Value := fun k => match k with
  | 0 => .int (-1431655766)
  | 1 => .int (-858993460)
  | 2 => .int (-252645136)
  | 3 => .int (-16711936)
  | _ => .int (-65536)
def colI (k : Nat) : Int32 := match k with
  | 0 => -1431655766
  | 1 => -858993460
  | 2 => -252645136
  | 3 => -16711936
  | _ => -65536
theorem colF_I (k : Nat) : colF k = .int (colI k) := by
  match k with
  | 0 => rfl
  | 1 => rfl
  | 2 => rfl
  | 3 => rfl
  | n + 4 => rfl
def ExX (X : eX) (A : Nat → Prop) (U : State) (H : Heap) : Prop := (∀ w ∈ exN, va_Nw w U) ∧ va_Z "RowsMeet$FormulaReader" "COLUMNS" "[I" (.ref X.2.2.2) A U H ∧ va_T .int X.2.2.2 5 colF A U H
theorem exN_warm {s U : State} (hW : s.WarmedH U.vm) (h : ∀ w ∈ exN, va_Nw w s) : ∀ w ∈ exN, va_Nw w U := by
  intro w hw
  have hs := h w hw
  have hk : (exN.all (fun w => match w with | .fieldLinkNest .. => true | .methodLinkNest .. => true | _ => false)) = true := by rfl
  have h1 := List.all_eq_true.mp hk w hw
  cases w <;> first | exact va_Nw.warmF hW hs | exact va_Nw.warmM hW hs | (simp at h1; done)
theorem exN_same {s U : State} (hW : s.vm = U.vm) (h : ∀ w ∈ exN, va_Nw w s) : ∀ w ∈ exN, va_Nw w U := by
  intro w hw
  have hs := h w hw
  have hk : (exN.all (fun w => w.onTables)) = true := by rfl
  exact va_Nw.same (List.all_eq_true.mp hk w hw) hW hs
theorem ExX.to {X : eX} {A B : Nat → Prop} {s U : State} {H H1 : Heap} (h : ExX X A s H) (hW : s.WarmedH U.vm) (hk : ∀ a : Nat, a < H.size → ¬ A a → H1[a]? = H[a]?) (hAB : ∀ q, B q → A q) : ExX X B U H1 :=
  ⟨exN_warm hW h.1, ((h.2.1.moved hW.alike).kept hk).narrow hAB, ((h.2.2.moved hW.alike).kept hk).narrow hAB⟩
theorem ExX.same {X : eX} {A : Nat → Prop} {s U : State} {H : Heap} (h : ExX X A s H) (hW : s.vm = U.vm) : ExX X A U H := by
  have ha : s.vm.Alike U.vm := by rw [hW]; exact Vm.Alike.refl U.vm
  exact ⟨exN_same hW h.1, h.2.1.moved ha, h.2.2.moved ha⟩
def aA (ads : List Nat) (sz : Nat) : Nat → Prop := fun q => q ∈ ads ∨ sz ≤ q
theorem aA_mono {ads : List Nat} {a b : Nat} (h : a ≤ b) : ∀ q, aA ads b q → aA ads a q := fun q hq => hq.elim Or.inl (fun z => Or.inr (Nat.le_trans h z))
/-- a world's memory, its addresses -/
def wOk (wl : sT → va_W) (ads : List Nat) : Prop := ∀ σ, (wl σ).map (fun q => q.1) = ads
theorem wOk.in {wl : sT → va_W} {ads : List Nat} (h : wOk wl ads) {σ : sT} {k : Nat} {q : Nat × va_E} (hk : (wl σ)[k]? = some q) : q.1 ∈ ads := by
  rw [← h σ]
  exact List.mem_map.mpr ⟨q, List.mem_of_getElem? hk, rfl⟩
def Wd (wl : sT → va_W) (tys : List (ClassId × FieldType)) (ads : List Nat) (X : eX) (s : State) (σ : sT) (H : Heap) (locs : List Loc) : Prop :=
  va_K X.1 vwCl tys s ∧ va_P X.1 vwCl (wl σ) H ∧ va_D (aA ads s.heap.size) (wl σ) ∧ va_S (aA ads s.heap.size) s.heap H locs ∧ ExX X (aA ads s.heap.size) s s.heap ∧ wOk wl ads
def prW (wl : sT → va_W) (tys : List (ClassId × FieldType)) (ads : List Nat) (X : eX) (σ : sT) (sz : Nat) (U : State) : Prop :=
  U.heap.size = sz ∧ va_P X.1 vwCl (wl σ) U.heap ∧ va_K X.1 vwCl tys U ∧ va_D (fun _ => True) (wl σ) ∧ ExX X (aA ads sz) U U.heap ∧ wOk wl ads
def poW (wl : sT → va_W) (tys : List (ClassId × FieldType)) (ads : List Nat) (X : eX) (sz : Nat) (σ : sT) (t : State) : Prop :=
  va_P X.1 vwCl (wl σ) t.heap ∧ va_K X.1 vwCl tys t ∧ va_D (aA ads sz) (wl σ)
theorem prW_blind {wl : sT → va_W} {tys : List (ClassId × FieldType)} {ads : List Nat} {X : eX} {σ : sT} {sz : Nat} {av : List Value} : FrameBlind (va_Pc av (prW wl tys ads X σ sz)) := by
  intro a U g mk h
  obtain ⟨h0, h1, h2, h3, h4, h5, h6⟩ := h
  exact ⟨h0, h1, h2, va_K.moved (u := U) (U := U.calling g mk a) (Vm.Alike.refl U.vm) h3, h4, h5.same rfl, h6⟩
theorem Wd.pre {wl : sT → va_W} {tys : List (ClassId × FieldType)} {ads : List Nat} {X : eX} {s : State} {σ : sT} {H : Heap} {locs : List Loc} (Z : Wd wl tys ads X s σ H locs) {U : State} (hU : U.heap = H) (hW : s.WarmedH U.vm) : prW wl tys ads X σ H.size U := by
  obtain ⟨hK, hP, hD, hS, hE, hw⟩ := Z
  refine ⟨by rw [hU], by rw [hU]; exact hP, va_K.moved hW.alike hK, hD.weaken (fun _ _ _ _ => trivial), ?_, hw⟩
  rw [hU]
  exact hE.to hW (fun a h1 h2 => hS.2.1 a h1 h2) (aA_mono hS.1)
theorem Wd.after {wl : sT → va_W} {tys : List (ClassId × FieldType)} {ads : List Nat} {X : eX} {s : State} {σ σ1 : sT} {H H1 : Heap} {locs locs1 : List Loc} (Z : Wd wl tys ads X s σ H locs) {t : State} (ht : t.heap = H1) (hB : poW wl tys ads X H.size σ1 t) (hS : va_S (aA ads s.heap.size) s.heap H1 locs1) : Wd wl tys ads X s σ1 H1 locs1 := by
  obtain ⟨hK, hP, hD, hS0, hE, hw⟩ := Z
  exact ⟨hK, by rw [← ht]; exact hB.1, hB.2.2.weaken (fun k q _ h => aA_mono hS0.1 _ h), hS, hE, hw⟩
/-! contracts -/
abbrev wsy (y : MethodName) (bytes : ByteArray) (maxL : Nat) (ret : Option FieldType) : List Cond := Cond.code y bytes maxL ret :: GT
def ctI (l : Launch) (y : MethodName) (bytes : ByteArray) (maxL : Nat) (ret : Option FieldType) (rm : Room) (av : List Value) (wl : sT → va_W) (tys : List (ClassId × FieldType)) (ads : List Nat) (X : eX) (sz : Nat) (σ : sT) (r : Int32) (σ1 : sT) : Prop :=
  Met l y (wsy y bytes maxL ret) rm (va_Pc av (prW wl tys ads X σ sz)) (va_Qi (fun a u => a = r ∧ u = σ1) (poW wl tys ads X sz) (aA ads sz)) 0 0 (aA ads sz)
def ctL (l : Launch) (y : MethodName) (bytes : ByteArray) (maxL : Nat) (ret : Option FieldType) (rm : Room) (av : List Value) (wl : sT → va_W) (tys : List (ClassId × FieldType)) (ads : List Nat) (X : eX) (sz : Nat) (σ : sT) (r : Int64) (σ1 : sT) : Prop :=
  Met l y (wsy y bytes maxL ret) rm (va_Pc av (prW wl tys ads X σ sz)) (va_Ql (fun a u => a = r ∧ u = σ1) (poW wl tys ads X sz) (aA ads sz)) 0 0 (aA ads sz)
def ctV (l : Launch) (y : MethodName) (bytes : ByteArray) (maxL : Nat) (ret : Option FieldType) (rm : Room) (av : List Value) (wl : sT → va_W) (tys : List (ClassId × FieldType)) (ads : List Nat) (X : eX) (sz : Nat) (σ : sT) (σ1 : sT) : Prop :=
  Met l y (wsy y bytes maxL ret) rm (va_Pc av (prW wl tys ads X σ sz)) (va_Qv (fun u => u = σ1) (poW wl tys ads X sz) (aA ads sz)) 0 0 (aA ads sz)
/-- what a body stands on -/
def Bd (p : Program) (s : State) (m : MethodId) (args : Array Value) (meth : Method) (c : Code) (own : String) (bytes : ByteArray) (maxL : Nat) (ret : Option FieldType) : Prop :=
  p.tables.exec = Jvm.exec ∧ c.code = bytes ∧ c.maxLocals = maxL ∧ s.vm.findClass own = some m.cls ∧ (∀ w ∈ GT, w.before args s = true) ∧ meth.sig.returnType = ret ∧ meth.locks = false
theorem wd_entry {wl : sT → va_W} {tys : List (ClassId × FieldType)} {ads : List Nat} {X : eX} {σ : sT} {s : State} {sz : Nat} (h : prW wl tys ads X σ sz s) : sz = s.heap.size ∧ Wd wl tys ads X s σ s.heap [] := by
  obtain ⟨h1, hP, hK, hD, hE, hw⟩ := h
  subst h1
  exact ⟨rfl, hK, hP, ⟨hD.1, fun k q hq => Or.inl (hw.in hq)⟩, va_S.rf, hE, hw⟩
section CT
variable {l : Launch} {y : MethodName} {bytes : ByteArray} {maxL : Nat} {ret : Option FieldType} {rm : Room} {av : List Value} {wl : sT → va_W} {tys : List (ClassId × FieldType)} {ads : List Nat} {X : eX} {sz : Nat} {σ σ1 : sT}
theorem ct_of {Qc : Array Value → State → Outcome → State → Prop} (hy : plainName y.cls = true) (hav : (lg_sl av).length ≤ maxL)
    (body : ∀ (p : Program) (e : Env) (s : State) (m : MethodId) (args : Array Value) (below : List Frame) (meth : Method) (c : Code) (ls : Array Slot), sz = s.heap.size → Bd p s m args meth c y.cls bytes maxL ret → lv_has ls maxL (lv_args 0 av) → Wd wl tys ads X s σ s.heap [] →
      W p l e rm s m args below meth c s.heap [] 0 0 (MQ below Qc args s 0 0 (aA ads sz)) (F0 m 0 ls [])) :
    Met l y (wsy y bytes maxL ret) rm (va_Pc av (prW wl tys ads X σ sz)) Qc 0 0 (aA ads sz) := by
  refine Met.ofW (cc := bytes) (maxL := maxL) (ret := ret) hy rfl ?_
  intro p e s m args below meth c s₁ B hml hv
  obtain ⟨rfl, hv⟩ := hv
  obtain ⟨hsz, Z⟩ := wd_entry hv
  have hts := atoms_spec (ws := wsy y bytes maxL ret) B.pre
  have hl := lv_entry av (n := maxL) hav
  rw [lg_entry_eq]
  exact body p e s m _ below meth c _ hsz ⟨B.exec, B.bytes, hml, findClass_of_methodNamed B.named, fun w h => hts w (List.mem_cons_of_mem _ h), B.returns, B.notSynchronized⟩ hl Z
theorem ct_ofF {Qc : Array Value → State → Outcome → State → Prop} (hy : plainFor y = true) (hav : (lg_sl av).length ≤ maxL)
    (body : ∀ (p : Program) (e : Env) (s : State) (m : MethodId) (args : Array Value) (below : List Frame) (meth : Method) (c : Code) (ls : Array Slot), sz = s.heap.size → Bd p s m args meth c y.cls bytes maxL ret → lv_has ls maxL (lv_args 0 av) → Wd wl tys ads X s σ s.heap [] →
      W p l e rm s m args below meth c s.heap [] 0 0 (MQ below Qc args s 0 0 (aA ads sz)) (F0 m 0 ls [])) :
    Met l y (wsy y bytes maxL ret) rm (va_Pc av (prW wl tys ads X σ sz)) Qc 0 0 (aA ads sz) := by
  refine va_MetF (cc := bytes) (maxL := maxL) (ret := ret) hy rfl ?_
  intro p e s m args below meth c s₁ B hml hv
  obtain ⟨rfl, hv⟩ := hv
  obtain ⟨hsz, Z⟩ := wd_entry hv
  have hts := atoms_spec (ws := wsy y bytes maxL ret) B.pre
  have hl := lv_entry av (n := maxL) hav
  rw [lg_entry_eq]
  exact body p e s m _ below meth c _ hsz ⟨B.exec, B.bytes, hml, findClass_of_methodNamed B.named, fun w h => hts w (List.mem_cons_of_mem _ h), B.returns, B.notSynchronized⟩ hl Z
end CT
theorem lv_roomw {m : MethodId} {pc w : Nat} {ls : Array Slot} {rest st : List Value} (h : (st.map fun v => v.category).sum ≤ w) : 2 * (F0 m pc ls rest).monitorRoom + (st.map fun v => v.category).sum ≤ w := by
  show 2 * 0 + _ ≤ _
  omega
section RUNW
variable {p : Program} {l : Launch} {e : Env} {R : Room} {s : State} {m : MethodId} {args : Array Value} {below : List Frame} {meth : Method} {c : Code} {H : Heap} {locs : List Loc} {cells slots : Nat}
variable {y : MethodName} {bytes cc : ByteArray} {maxL nL mc ms n index : Nat} {ret : Option FieldType} {ws : List Cond} {rm : Room} {Pc : Array Value → State → Prop} {Qc : Array Value → State → Outcome → State → Prop} {free : Addr → Prop} {Ts : List Cond} {own C : String} {b : Addr} {As rest : List Value} {g : JFrame}
/-- as the kit's row of an instance call, with any bound w on what stays on the stack -/
theorem runVw (w : Nat) (S : CallFix p m c cc nL s args Ts own) (hM : Met l y ws rm Pc Qc mc ms free) (cw : CallW R s args own C index y bytes maxL ret ws rm mc ms n) (hw : w + (maxL + 11) + rm.locals ≤ R.locals) (hp : PreV s H C b Pc As)
    (hg : g.method = m) (hn : As.length = n) (hsize : g.locals.size = nL) (hstack : g.stack = As.reverse ++ .ref b :: rest) (hW : 2 * g.monitorRoom + (rest.map fun v => v.category).sum ≤ w) (hdg : decode cc g.pc = .ok (.invokevirtual index, 3)) (hf : cells + mc ≤ R.cells ∧ slots + ms ≤ R.slots) :
    va_Run p l e R s m args below meth c H locs cells slots mc ms g rest (Qc (Value.ref b :: As).toArray) (free) := by
  obtain ⟨⟨hrc, hrs, hfr, -, hws, hcw, hcode, hini, hy, hlen, hl⟩, hin, hse⟩ := cw
  have hK : Back l R p e below s args y 3 w (PreOf R mc ms Pc) (PostOf Qc mc ms free) := back_of (bytes := bytes) (maxL := maxL) (ret := ret) hM hp.1 hrc hrs hfr hw hws hcw (fun a' U hW => word_at hW (Or.inl (by first | rfl | simp [Cond.onTables, Cond.keeps, Cond.steady])) hini)
  obtain ⟨hx, hb, hml, ho, -⟩ := S
  obtain ⟨-, ⟨cellB, hcB, hoB, hclB⟩, hPc⟩ := hp
  intro T hT X
  obtain ⟨v, vm₁, ⟨U', l2, c2, s2⟩, hW₁, X', ⟨g', mk, t, L, e1, e2, hq, h1, hL, h2, h3⟩, st⟩ := callV X hx (C := C) (bytes := bytes) (maxL := maxL) (ret := ret) ho hl hin hse hcode hy hK (by rw [hT]; exact hcB) hoB hclB hg (hsize.trans hml.symm) (argsL := As) (rest := rest) (fun sig h => hn.trans (hlen sig h)) hstack hW (by rw [hb]; exact hdg)
    (fun vm₁ hW₁ => ⟨hf.1, hf.2, hPc (T.setVm vm₁) hT hW₁⟩)
  dsimp only [Pt.U, Pt.locs, Pt.cells, Pt.slots] at X' e1 e2 h1 h2 h3 st
  subst h1; subst h2; subst h3
  exact ⟨v, (T.setVm vm₁).calling g' mk (Value.ref b :: As).toArray, t, U', L, hT, X', hL, e1, e2, hq, st⟩
end RUNW
section RW
variable {p : Program} {l : Launch} {e : Env} {R : Room} {s : State} {m : MethodId} {args : Array Value} {below : List Frame} {meth : Method} {c : Code} {H : Heap} {locs : List Loc} {Q : State → Prop}
variable {cc : ByteArray} {pc nL : Nat} {ls : Array Slot} {rest : List Value} {own : String} {rty : Option FieldType}
variable {wl : sT → va_W} {tys : List (ClassId × FieldType)} {ads : List Nat} {X : eX} {σ σ1 : sT} {sz : Nat}
theorem reI {v r : Int32} {ty : FieldType} (B : Bd p s m args meth c own cc nL (some ty)) (Z : Wd wl tys ads X s σ H locs) (hn : narrow ty (.int v) = .int v) (hz : sz = s.heap.size) (h : some (v, σ) = some (r, σ1)) (hdg : decode cc pc = .ok (.ireturn, 1)) :
    W p l e R s m args below meth c H locs 0 0 (MQ below (va_Qi (fun a u => a = r ∧ u = σ1) (poW wl tys ads X sz) (aA ads sz)) args s 0 0 (aA ads sz)) (F0 m pc ls [.int v]) := by
  cases h
  subst hz
  obtain ⟨hx, hb, -, -, -, hr, hlk⟩ := B
  obtain ⟨hK, hP, hD, hS, hE, hw⟩ := Z
  exact W.zret hx hb hr hn (fun t ht hW => ⟨⟨v, σ, rfl, ⟨rfl, rfl⟩, by rw [ht]; exact hP, va_K.moved hW.alike hK, hD⟩, hS.F ht⟩) hS.2.2 hdg hlk
theorem reL {v r : Int64} (B : Bd p s m args meth c own cc nL (some .long)) (Z : Wd wl tys ads X s σ H locs) (hz : sz = s.heap.size) (h : some (v, σ) = some (r, σ1)) (hdg : decode cc pc = .ok (.lreturn, 1)) :
    W p l e R s m args below meth c H locs 0 0 (MQ below (va_Ql (fun a u => a = r ∧ u = σ1) (poW wl tys ads X sz) (aA ads sz)) args s 0 0 (aA ads sz)) (F0 m pc ls [.long v]) := by
  cases h
  subst hz
  obtain ⟨hx, hb, -, -, -, hr, hlk⟩ := B
  obtain ⟨hK, hP, hD, hS, hE, hw⟩ := Z
  exact W.lret hx hb hr (fun t ht hW => ⟨⟨v, σ, rfl, ⟨rfl, rfl⟩, by rw [ht]; exact hP, va_K.moved hW.alike hK, hD⟩, hS.F ht⟩) hS.2.2 hdg hlk
theorem reV (B : Bd p s m args meth c own cc nL none) (Z : Wd wl tys ads X s σ H locs) (hz : sz = s.heap.size) (h : some σ = some σ1) (hdg : decode cc pc = .ok (.return_, 1)) :
    W p l e R s m args below meth c H locs 0 0 (MQ below (va_Qv (fun u => u = σ1) (poW wl tys ads X sz) (aA ads sz)) args s 0 0 (aA ads sz)) (F0 m pc ls []) := by
  cases h
  subst hz
  obtain ⟨hx, hb, -, -, -, hr, hlk⟩ := B
  obtain ⟨hK, hP, hD, hS, hE, hw⟩ := Z
  exact W.vret hx hb hr (fun t ht hW => ⟨⟨σ, rfl, rfl, by rw [ht]; exact hP, va_K.moved hW.alike hK, hD⟩, hS.F ht⟩) hS.2.2 hdg hlk
/-! calls -/
variable {y : MethodName} {bytes : ByteArray} {maxL n index q0 ci : Nat} {ret : Option FieldType} {rm : Room} {As st0 : List Value} {b : Nat} {fs : List Value} {tT : u_T} {tN : Nat} {host : String}
theorem gt_good (h : Cond.code y bytes maxL ret ∈ GT) : GoodIn GT (wsy y bytes maxL ret) := by
  intro w hw
  rcases List.mem_cons.mp hw with rfl | hw
  · exact ⟨h, good_of_word rfl⟩
  · exact ⟨hw, good_of_word (List.mem_filter.mp hw).2⟩
/-- a method's own words -/
def Mx (y : MethodName) (bytes : ByteArray) (maxL : Nat) (ret : Option FieldType) (n : Nat) : Prop :=
  Cond.code y bytes maxL ret ∈ GT ∧ Cond.initialized y.cls ∈ GT ∧ y.cls ≠ "java/lang/invoke/MethodHandle" ∧ y.cls ≠ "java/lang/invoke/VarHandle" ∧ (parseMethodDescriptor y.desc).map (fun d => d.parameters.length) = some n
theorem cbOf (B : Bd p s m args meth c own cc nL rty) (M : Mx y bytes maxL ret n) (hrc : rm.cells = 0) (hrs : rm.slots = 0) (hR : rm.frames + 1 ≤ R.frames ∧ 8 + (maxL + 11) + rm.locals ≤ R.locals) (kl : Cond.methodLink own index y ∈ GT) : CallB R s args own index y bytes maxL ret (wsy y bytes maxL ret) rm 0 0 n :=
  callB_of n B.2.2.2.2.1 (gt_good M.1) rfl hrc hrs (B.2.2.2.2.1 _ M.2.1) (B.2.2.2.2.1 _ kl) M.2.2 hR
theorem cnOf (B : Bd p s m args meth c own cc nL rty) (M : Mx y bytes maxL ret n) (hrc : rm.cells = 0) (hrs : rm.slots = 0) (hR : rm.frames + 1 ≤ R.frames ∧ 8 + (maxL + 11) + rm.locals ≤ R.locals) (Z : Wd wl tys ads X s σ H locs) (kl : Cond.methodLinkNest own index y host ∈ exN) : va_CN R s args own index y host bytes maxL ret (wsy y bytes maxL ret) rm 0 0 n :=
  va_cnB n B.2.2.2.2.1 (gt_good M.1) rfl hrc hrs (Z.2.2.2.2.1.1 _ kl) (B.2.2.2.2.1 _ M.2.1) M.2.2 hR
theorem fxOf (B : Bd p s m args meth c own cc nL rty) : CallFix p m c cc nL s args GT own := ⟨B.1, B.2.1, B.2.2.1, B.2.2.2.1, B.2.2.2.2.1⟩
theorem pvOf (Z : Wd wl tys ads X s σ H locs) (he : (wl σ)[q0]? = some (b, .inr (ci, fs))) (hc : vwCl[ci]? = some (y.cls, tT, tN)) : PreV s H y.cls b (va_Pc (.ref b :: As) (prW wl tys ads X σ H.size)) As :=
  ⟨prW_blind, va_recv Z.1 Z.2.1 hc he, fun U hU hW => ⟨rfl, Z.pre hU hW⟩⟩
theorem psOf (Z : Wd wl tys ads X s σ H locs) : PreS s H (va_Pc As (prW wl tys ads X σ H.size)) As :=
  ⟨prW_blind, fun U hU hW => ⟨rfl, Z.pre hU hW⟩⟩
theorem afI {r : Int32} {a : Array Value} (Z : Wd wl tys ads X s σ H locs) (hr : va_Run p l e R s m args below meth c H locs 0 0 0 0 (F0 m pc ls st0) rest (va_Qi (fun a u => a = r ∧ u = σ1) (poW wl tys ads X H.size) (aA ads H.size) a) (aA ads H.size))
    (kk : ∀ (H : Heap) (locs : List Loc), Wd wl tys ads X s σ1 H locs → W p l e R s m args below meth c H locs 0 0 Q (F0 m (pc + 3) ls (.int r :: rest))) : W p l e R s m args below meth c H locs 0 0 Q (F0 m pc ls st0) := by
  refine va_calli hr Z.2.2.2.1 (fun q _ h => aA_mono Z.2.2.2.1.1 q h) (fun q h => aA_mono Z.2.2.2.1.1 q h) (fun r' u t H1 locs1 ht _ hw hB _ _ hS => ?_)
  obtain ⟨rfl, rfl⟩ := hw
  exact kk H1 locs1 (Z.after ht hB hS)
theorem afL {r : Int64} {a : Array Value} (Z : Wd wl tys ads X s σ H locs) (hr : va_Run p l e R s m args below meth c H locs 0 0 0 0 (F0 m pc ls st0) rest (va_Ql (fun a u => a = r ∧ u = σ1) (poW wl tys ads X H.size) (aA ads H.size) a) (aA ads H.size))
    (kk : ∀ (H : Heap) (locs : List Loc), Wd wl tys ads X s σ1 H locs → W p l e R s m args below meth c H locs 0 0 Q (F0 m (pc + 3) ls (.long r :: rest))) : W p l e R s m args below meth c H locs 0 0 Q (F0 m pc ls st0) := by
  refine va_calll hr Z.2.2.2.1 (fun q _ h => aA_mono Z.2.2.2.1.1 q h) (fun q h => aA_mono Z.2.2.2.1.1 q h) (fun r' u t H1 locs1 ht _ hw hB _ _ hS => ?_)
  obtain ⟨rfl, rfl⟩ := hw
  exact kk H1 locs1 (Z.after ht hB hS)
theorem afV {a : Array Value} (Z : Wd wl tys ads X s σ H locs) (hr : va_Run p l e R s m args below meth c H locs 0 0 0 0 (F0 m pc ls st0) rest (va_Qv (fun u => u = σ1) (poW wl tys ads X H.size) (aA ads H.size) a) (aA ads H.size))
    (kk : ∀ (H : Heap) (locs : List Loc), Wd wl tys ads X s σ1 H locs → W p l e R s m args below meth c H locs 0 0 Q (F0 m (pc + 3) ls rest)) : W p l e R s m args below meth c H locs 0 0 Q (F0 m pc ls st0) := by
  refine va_callv hr Z.2.2.2.1 (fun q _ h => aA_mono Z.2.2.2.1.1 q h) (fun q h => aA_mono Z.2.2.2.1.1 q h) (fun u t H1 locs1 ht _ hw hB _ _ hS => ?_)
  obtain rfl := hw
  exact kk H1 locs1 (Z.after ht hB hS)
theorem cV_I {r : Int32} {lv : List (Nat × Value)} (As rest : List Value) (B : Bd p s m args meth c own cc nL rty) (M : Mx y bytes maxL ret n) (hM : ctI l y bytes maxL ret rm (.ref b :: As) wl tys ads X H.size σ r σ1) (kl : Cond.methodLink own index y ∈ GT) (ki : Cond.instanceMethod y ∈ GT ∧ Cond.selects y.cls y y ∈ GT) (he : (wl σ)[q0]? = some (b, .inr (ci, fs))) (hc : vwCl[ci]? = some (y.cls, tT, tN)) (Z : Wd wl tys ads X s σ H locs) (hl : lv_has ls nL lv) (hrc : rm.cells = 0) (hrs : rm.slots = 0) (hR : rm.frames + 1 ≤ R.frames ∧ 8 + (maxL + 11) + rm.locals ≤ R.locals) (hn : As.length = n) (hst : st0 = As.reverse ++ .ref b :: rest) (hW : (rest.map fun v => v.category).sum ≤ 8) (hdg : decode cc pc = .ok (.invokevirtual index, 3))
    (kk : ∀ (H : Heap) (locs : List Loc), Wd wl tys ads X s σ1 H locs → W p l e R s m args below meth c H locs 0 0 Q (F0 m (pc + 3) ls (.int r :: rest))) : W p l e R s m args below meth c H locs 0 0 Q (F0 m pc ls st0) :=
  afI Z (va_runV (As := As) (rest := rest) (fxOf B) hM ⟨cbOf B M hrc hrs hR kl, B.2.2.2.2.1 _ ki.1, B.2.2.2.2.1 _ ki.2⟩ (pvOf Z he hc) rfl hn hl.1 hst (lv_room hW) hdg ⟨Nat.zero_le _, Nat.zero_le _⟩) kk
theorem cS_I {r : Int32} {lv : List (Nat × Value)} (As rest : List Value) (B : Bd p s m args meth c own cc nL rty) (M : Mx y bytes maxL ret n) (hM : ctI l y bytes maxL ret rm As wl tys ads X H.size σ r σ1) (kl : Cond.methodLink own index y ∈ GT) (ki : Cond.static y ∈ GT) (Z : Wd wl tys ads X s σ H locs) (hl : lv_has ls nL lv) (hrc : rm.cells = 0) (hrs : rm.slots = 0) (hR : rm.frames + 1 ≤ R.frames ∧ 8 + (maxL + 11) + rm.locals ≤ R.locals) (hn : As.length = n) (hst : st0 = As.reverse ++ rest) (hW : (rest.map fun v => v.category).sum ≤ 8) (hdg : decode cc pc = .ok (.invokestatic index, 3))
    (kk : ∀ (H : Heap) (locs : List Loc), Wd wl tys ads X s σ1 H locs → W p l e R s m args below meth c H locs 0 0 Q (F0 m (pc + 3) ls (.int r :: rest))) : W p l e R s m args below meth c H locs 0 0 Q (F0 m pc ls st0) :=
  afI Z (va_runS (As := As) (rest := rest) (fxOf B) hM ⟨cbOf B M hrc hrs hR kl, B.2.2.2.2.1 _ ki⟩ (psOf Z) rfl hn hl.1 hst (lv_room hW) hdg ⟨Nat.zero_le _, Nat.zero_le _⟩) kk
theorem cVN_I {r : Int32} {lv : List (Nat × Value)} (As rest : List Value) (B : Bd p s m args meth c own cc nL rty) (M : Mx y bytes maxL ret n) (hM : ctI l y bytes maxL ret rm (.ref b :: As) wl tys ads X H.size σ r σ1) (kl : Cond.methodLinkNest own index y host ∈ exN) (ki : Cond.instanceMethod y ∈ GT ∧ Cond.selects y.cls y y ∈ GT) (he : (wl σ)[q0]? = some (b, .inr (ci, fs))) (hc : vwCl[ci]? = some (y.cls, tT, tN)) (Z : Wd wl tys ads X s σ H locs) (hl : lv_has ls nL lv) (hrc : rm.cells = 0) (hrs : rm.slots = 0) (hR : rm.frames + 1 ≤ R.frames ∧ 8 + (maxL + 11) + rm.locals ≤ R.locals) (hn : As.length = n) (hst : st0 = As.reverse ++ .ref b :: rest) (hW : (rest.map fun v => v.category).sum ≤ 8) (hdg : decode cc pc = .ok (.invokevirtual index, 3))
    (kk : ∀ (H : Heap) (locs : List Loc), Wd wl tys ads X s σ1 H locs → W p l e R s m args below meth c H locs 0 0 Q (F0 m (pc + 3) ls (.int r :: rest))) : W p l e R s m args below meth c H locs 0 0 Q (F0 m pc ls st0) :=
  afI Z (va_runVN (As := As) (rest := rest) (fxOf B) hM ⟨cnOf B M hrc hrs hR Z kl, B.2.2.2.2.1 _ ki.1, B.2.2.2.2.1 _ ki.2⟩ (pvOf Z he hc) rfl hn hl.1 hst (lv_room hW) hdg ⟨Nat.zero_le _, Nat.zero_le _⟩) kk
theorem cSN_I {r : Int32} {lv : List (Nat × Value)} (As rest : List Value) (B : Bd p s m args meth c own cc nL rty) (M : Mx y bytes maxL ret n) (hM : ctI l y bytes maxL ret rm As wl tys ads X H.size σ r σ1) (kl : Cond.methodLinkNest own index y host ∈ exN) (ki : Cond.static y ∈ GT) (Z : Wd wl tys ads X s σ H locs) (hl : lv_has ls nL lv) (hrc : rm.cells = 0) (hrs : rm.slots = 0) (hR : rm.frames + 1 ≤ R.frames ∧ 8 + (maxL + 11) + rm.locals ≤ R.locals) (hn : As.length = n) (hst : st0 = As.reverse ++ rest) (hW : (rest.map fun v => v.category).sum ≤ 8) (hdg : decode cc pc = .ok (.invokestatic index, 3))
    (kk : ∀ (H : Heap) (locs : List Loc), Wd wl tys ads X s σ1 H locs → W p l e R s m args below meth c H locs 0 0 Q (F0 m (pc + 3) ls (.int r :: rest))) : W p l e R s m args below meth c H locs 0 0 Q (F0 m pc ls st0) :=
  afI Z (va_runSN (As := As) (rest := rest) (fxOf B) hM ⟨cnOf B M hrc hrs hR Z kl, B.2.2.2.2.1 _ ki, trivial⟩ (psOf Z) rfl hn hl.1 hst (lv_room hW) hdg ⟨Nat.zero_le _, Nat.zero_le _⟩) kk
theorem cV_L {r : Int64} {lv : List (Nat × Value)} (As rest : List Value) (B : Bd p s m args meth c own cc nL rty) (M : Mx y bytes maxL ret n) (hM : ctL l y bytes maxL ret rm (.ref b :: As) wl tys ads X H.size σ r σ1) (kl : Cond.methodLink own index y ∈ GT) (ki : Cond.instanceMethod y ∈ GT ∧ Cond.selects y.cls y y ∈ GT) (he : (wl σ)[q0]? = some (b, .inr (ci, fs))) (hc : vwCl[ci]? = some (y.cls, tT, tN)) (Z : Wd wl tys ads X s σ H locs) (hl : lv_has ls nL lv) (hrc : rm.cells = 0) (hrs : rm.slots = 0) (hR : rm.frames + 1 ≤ R.frames ∧ 8 + (maxL + 11) + rm.locals ≤ R.locals) (hn : As.length = n) (hst : st0 = As.reverse ++ .ref b :: rest) (hW : (rest.map fun v => v.category).sum ≤ 8) (hdg : decode cc pc = .ok (.invokevirtual index, 3))
    (kk : ∀ (H : Heap) (locs : List Loc), Wd wl tys ads X s σ1 H locs → W p l e R s m args below meth c H locs 0 0 Q (F0 m (pc + 3) ls (.long r :: rest))) : W p l e R s m args below meth c H locs 0 0 Q (F0 m pc ls st0) :=
  afL Z (va_runV (As := As) (rest := rest) (fxOf B) hM ⟨cbOf B M hrc hrs hR kl, B.2.2.2.2.1 _ ki.1, B.2.2.2.2.1 _ ki.2⟩ (pvOf Z he hc) rfl hn hl.1 hst (lv_room hW) hdg ⟨Nat.zero_le _, Nat.zero_le _⟩) kk
theorem cS_L {r : Int64} {lv : List (Nat × Value)} (As rest : List Value) (B : Bd p s m args meth c own cc nL rty) (M : Mx y bytes maxL ret n) (hM : ctL l y bytes maxL ret rm As wl tys ads X H.size σ r σ1) (kl : Cond.methodLink own index y ∈ GT) (ki : Cond.static y ∈ GT) (Z : Wd wl tys ads X s σ H locs) (hl : lv_has ls nL lv) (hrc : rm.cells = 0) (hrs : rm.slots = 0) (hR : rm.frames + 1 ≤ R.frames ∧ 8 + (maxL + 11) + rm.locals ≤ R.locals) (hn : As.length = n) (hst : st0 = As.reverse ++ rest) (hW : (rest.map fun v => v.category).sum ≤ 8) (hdg : decode cc pc = .ok (.invokestatic index, 3))
    (kk : ∀ (H : Heap) (locs : List Loc), Wd wl tys ads X s σ1 H locs → W p l e R s m args below meth c H locs 0 0 Q (F0 m (pc + 3) ls (.long r :: rest))) : W p l e R s m args below meth c H locs 0 0 Q (F0 m pc ls st0) :=
  afL Z (va_runS (As := As) (rest := rest) (fxOf B) hM ⟨cbOf B M hrc hrs hR kl, B.2.2.2.2.1 _ ki⟩ (psOf Z) rfl hn hl.1 hst (lv_room hW) hdg ⟨Nat.zero_le _, Nat.zero_le _⟩) kk
theorem cVN_L {r : Int64} {lv : List (Nat × Value)} (As rest : List Value) (B : Bd p s m args meth c own cc nL rty) (M : Mx y bytes maxL ret n) (hM : ctL l y bytes maxL ret rm (.ref b :: As) wl tys ads X H.size σ r σ1) (kl : Cond.methodLinkNest own index y host ∈ exN) (ki : Cond.instanceMethod y ∈ GT ∧ Cond.selects y.cls y y ∈ GT) (he : (wl σ)[q0]? = some (b, .inr (ci, fs))) (hc : vwCl[ci]? = some (y.cls, tT, tN)) (Z : Wd wl tys ads X s σ H locs) (hl : lv_has ls nL lv) (hrc : rm.cells = 0) (hrs : rm.slots = 0) (hR : rm.frames + 1 ≤ R.frames ∧ 8 + (maxL + 11) + rm.locals ≤ R.locals) (hn : As.length = n) (hst : st0 = As.reverse ++ .ref b :: rest) (hW : (rest.map fun v => v.category).sum ≤ 8) (hdg : decode cc pc = .ok (.invokevirtual index, 3))
    (kk : ∀ (H : Heap) (locs : List Loc), Wd wl tys ads X s σ1 H locs → W p l e R s m args below meth c H locs 0 0 Q (F0 m (pc + 3) ls (.long r :: rest))) : W p l e R s m args below meth c H locs 0 0 Q (F0 m pc ls st0) :=
  afL Z (va_runVN (As := As) (rest := rest) (fxOf B) hM ⟨cnOf B M hrc hrs hR Z kl, B.2.2.2.2.1 _ ki.1, B.2.2.2.2.1 _ ki.2⟩ (pvOf Z he hc) rfl hn hl.1 hst (lv_room hW) hdg ⟨Nat.zero_le _, Nat.zero_le _⟩) kk
theorem cSN_L {r : Int64} {lv : List (Nat × Value)} (As rest : List Value) (B : Bd p s m args meth c own cc nL rty) (M : Mx y bytes maxL ret n) (hM : ctL l y bytes maxL ret rm As wl tys ads X H.size σ r σ1) (kl : Cond.methodLinkNest own index y host ∈ exN) (ki : Cond.static y ∈ GT) (Z : Wd wl tys ads X s σ H locs) (hl : lv_has ls nL lv) (hrc : rm.cells = 0) (hrs : rm.slots = 0) (hR : rm.frames + 1 ≤ R.frames ∧ 8 + (maxL + 11) + rm.locals ≤ R.locals) (hn : As.length = n) (hst : st0 = As.reverse ++ rest) (hW : (rest.map fun v => v.category).sum ≤ 8) (hdg : decode cc pc = .ok (.invokestatic index, 3))
    (kk : ∀ (H : Heap) (locs : List Loc), Wd wl tys ads X s σ1 H locs → W p l e R s m args below meth c H locs 0 0 Q (F0 m (pc + 3) ls (.long r :: rest))) : W p l e R s m args below meth c H locs 0 0 Q (F0 m pc ls st0) :=
  afL Z (va_runSN (As := As) (rest := rest) (fxOf B) hM ⟨cnOf B M hrc hrs hR Z kl, B.2.2.2.2.1 _ ki, trivial⟩ (psOf Z) rfl hn hl.1 hst (lv_room hW) hdg ⟨Nat.zero_le _, Nat.zero_le _⟩) kk
theorem cV_V  {lv : List (Nat × Value)} (As rest : List Value) (B : Bd p s m args meth c own cc nL rty) (M : Mx y bytes maxL ret n) (hM : ctV l y bytes maxL ret rm (.ref b :: As) wl tys ads X H.size σ σ1) (kl : Cond.methodLink own index y ∈ GT) (ki : Cond.instanceMethod y ∈ GT ∧ Cond.selects y.cls y y ∈ GT) (he : (wl σ)[q0]? = some (b, .inr (ci, fs))) (hc : vwCl[ci]? = some (y.cls, tT, tN)) (Z : Wd wl tys ads X s σ H locs) (hl : lv_has ls nL lv) (hrc : rm.cells = 0) (hrs : rm.slots = 0) (hR : rm.frames + 1 ≤ R.frames ∧ 8 + (maxL + 11) + rm.locals ≤ R.locals) (hn : As.length = n) (hst : st0 = As.reverse ++ .ref b :: rest) (hW : (rest.map fun v => v.category).sum ≤ 8) (hdg : decode cc pc = .ok (.invokevirtual index, 3))
    (kk : ∀ (H : Heap) (locs : List Loc), Wd wl tys ads X s σ1 H locs → W p l e R s m args below meth c H locs 0 0 Q (F0 m (pc + 3) ls rest)) : W p l e R s m args below meth c H locs 0 0 Q (F0 m pc ls st0) :=
  afV Z (va_runV (As := As) (rest := rest) (fxOf B) hM ⟨cbOf B M hrc hrs hR kl, B.2.2.2.2.1 _ ki.1, B.2.2.2.2.1 _ ki.2⟩ (pvOf Z he hc) rfl hn hl.1 hst (lv_room hW) hdg ⟨Nat.zero_le _, Nat.zero_le _⟩) kk
theorem cS_V  {lv : List (Nat × Value)} (As rest : List Value) (B : Bd p s m args meth c own cc nL rty) (M : Mx y bytes maxL ret n) (hM : ctV l y bytes maxL ret rm As wl tys ads X H.size σ σ1) (kl : Cond.methodLink own index y ∈ GT) (ki : Cond.static y ∈ GT) (Z : Wd wl tys ads X s σ H locs) (hl : lv_has ls nL lv) (hrc : rm.cells = 0) (hrs : rm.slots = 0) (hR : rm.frames + 1 ≤ R.frames ∧ 8 + (maxL + 11) + rm.locals ≤ R.locals) (hn : As.length = n) (hst : st0 = As.reverse ++ rest) (hW : (rest.map fun v => v.category).sum ≤ 8) (hdg : decode cc pc = .ok (.invokestatic index, 3))
    (kk : ∀ (H : Heap) (locs : List Loc), Wd wl tys ads X s σ1 H locs → W p l e R s m args below meth c H locs 0 0 Q (F0 m (pc + 3) ls rest)) : W p l e R s m args below meth c H locs 0 0 Q (F0 m pc ls st0) :=
  afV Z (va_runS (As := As) (rest := rest) (fxOf B) hM ⟨cbOf B M hrc hrs hR kl, B.2.2.2.2.1 _ ki⟩ (psOf Z) rfl hn hl.1 hst (lv_room hW) hdg ⟨Nat.zero_le _, Nat.zero_le _⟩) kk
theorem cVN_V  {lv : List (Nat × Value)} (As rest : List Value) (B : Bd p s m args meth c own cc nL rty) (M : Mx y bytes maxL ret n) (hM : ctV l y bytes maxL ret rm (.ref b :: As) wl tys ads X H.size σ σ1) (kl : Cond.methodLinkNest own index y host ∈ exN) (ki : Cond.instanceMethod y ∈ GT ∧ Cond.selects y.cls y y ∈ GT) (he : (wl σ)[q0]? = some (b, .inr (ci, fs))) (hc : vwCl[ci]? = some (y.cls, tT, tN)) (Z : Wd wl tys ads X s σ H locs) (hl : lv_has ls nL lv) (hrc : rm.cells = 0) (hrs : rm.slots = 0) (hR : rm.frames + 1 ≤ R.frames ∧ 8 + (maxL + 11) + rm.locals ≤ R.locals) (hn : As.length = n) (hst : st0 = As.reverse ++ .ref b :: rest) (hW : (rest.map fun v => v.category).sum ≤ 8) (hdg : decode cc pc = .ok (.invokevirtual index, 3))
    (kk : ∀ (H : Heap) (locs : List Loc), Wd wl tys ads X s σ1 H locs → W p l e R s m args below meth c H locs 0 0 Q (F0 m (pc + 3) ls rest)) : W p l e R s m args below meth c H locs 0 0 Q (F0 m pc ls st0) :=
  afV Z (va_runVN (As := As) (rest := rest) (fxOf B) hM ⟨cnOf B M hrc hrs hR Z kl, B.2.2.2.2.1 _ ki.1, B.2.2.2.2.1 _ ki.2⟩ (pvOf Z he hc) rfl hn hl.1 hst (lv_room hW) hdg ⟨Nat.zero_le _, Nat.zero_le _⟩) kk
theorem cSN_V  {lv : List (Nat × Value)} (As rest : List Value) (B : Bd p s m args meth c own cc nL rty) (M : Mx y bytes maxL ret n) (hM : ctV l y bytes maxL ret rm As wl tys ads X H.size σ σ1) (kl : Cond.methodLinkNest own index y host ∈ exN) (ki : Cond.static y ∈ GT) (Z : Wd wl tys ads X s σ H locs) (hl : lv_has ls nL lv) (hrc : rm.cells = 0) (hrs : rm.slots = 0) (hR : rm.frames + 1 ≤ R.frames ∧ 8 + (maxL + 11) + rm.locals ≤ R.locals) (hn : As.length = n) (hst : st0 = As.reverse ++ rest) (hW : (rest.map fun v => v.category).sum ≤ 8) (hdg : decode cc pc = .ok (.invokestatic index, 3))
    (kk : ∀ (H : Heap) (locs : List Loc), Wd wl tys ads X s σ1 H locs → W p l e R s m args below meth c H locs 0 0 Q (F0 m (pc + 3) ls rest)) : W p l e R s m args below meth c H locs 0 0 Q (F0 m pc ls st0) :=
  afV Z (va_runSN (As := As) (rest := rest) (fxOf B) hM ⟨cnOf B M hrc hrs hR Z kl, B.2.2.2.2.1 _ ki, trivial⟩ (psOf Z) rfl hn hl.1 hst (lv_room hW) hdg ⟨Nat.zero_le _, Nat.zero_le _⟩) kk
theorem cVw_I {r : Int32} {lv : List (Nat × Value)} (As rest : List Value) (B : Bd p s m args meth c own cc nL rty) (M : Mx y bytes maxL ret n) (hM : ctI l y bytes maxL ret rm (.ref b :: As) wl tys ads X H.size σ r σ1) (kl : Cond.methodLink own index y ∈ GT) (ki : Cond.instanceMethod y ∈ GT ∧ Cond.selects y.cls y y ∈ GT) (he : (wl σ)[q0]? = some (b, .inr (ci, fs))) (hc : vwCl[ci]? = some (y.cls, tT, tN)) (Z : Wd wl tys ads X s σ H locs) (hl : lv_has ls nL lv) (hrc : rm.cells = 0) (hrs : rm.slots = 0) (hR : rm.frames + 1 ≤ R.frames ∧ 8 + (maxL + 11) + rm.locals ≤ R.locals) (hn : As.length = n) (hst : st0 = As.reverse ++ .ref b :: rest) (w : Nat) (hw : w + (maxL + 11) + rm.locals ≤ R.locals) (hW : (rest.map fun v => v.category).sum ≤ w) (hdg : decode cc pc = .ok (.invokevirtual index, 3))
    (kk : ∀ (H : Heap) (locs : List Loc), Wd wl tys ads X s σ1 H locs → W p l e R s m args below meth c H locs 0 0 Q (F0 m (pc + 3) ls (.int r :: rest))) : W p l e R s m args below meth c H locs 0 0 Q (F0 m pc ls st0) :=
  afI Z (runVw w (As := As) (rest := rest) (fxOf B) hM ⟨cbOf B M hrc hrs hR kl, B.2.2.2.2.1 _ ki.1, B.2.2.2.2.1 _ ki.2⟩ hw (pvOf Z he hc) rfl hn hl.1 hst (lv_roomw hW) hdg ⟨Nat.zero_le _, Nat.zero_le _⟩) kk
theorem cVw_L {r : Int64} {lv : List (Nat × Value)} (As rest : List Value) (B : Bd p s m args meth c own cc nL rty) (M : Mx y bytes maxL ret n) (hM : ctL l y bytes maxL ret rm (.ref b :: As) wl tys ads X H.size σ r σ1) (kl : Cond.methodLink own index y ∈ GT) (ki : Cond.instanceMethod y ∈ GT ∧ Cond.selects y.cls y y ∈ GT) (he : (wl σ)[q0]? = some (b, .inr (ci, fs))) (hc : vwCl[ci]? = some (y.cls, tT, tN)) (Z : Wd wl tys ads X s σ H locs) (hl : lv_has ls nL lv) (hrc : rm.cells = 0) (hrs : rm.slots = 0) (hR : rm.frames + 1 ≤ R.frames ∧ 8 + (maxL + 11) + rm.locals ≤ R.locals) (hn : As.length = n) (hst : st0 = As.reverse ++ .ref b :: rest) (w : Nat) (hw : w + (maxL + 11) + rm.locals ≤ R.locals) (hW : (rest.map fun v => v.category).sum ≤ w) (hdg : decode cc pc = .ok (.invokevirtual index, 3))
    (kk : ∀ (H : Heap) (locs : List Loc), Wd wl tys ads X s σ1 H locs → W p l e R s m args below meth c H locs 0 0 Q (F0 m (pc + 3) ls (.long r :: rest))) : W p l e R s m args below meth c H locs 0 0 Q (F0 m pc ls st0) :=
  afL Z (runVw w (As := As) (rest := rest) (fxOf B) hM ⟨cbOf B M hrc hrs hR kl, B.2.2.2.2.1 _ ki.1, B.2.2.2.2.1 _ ki.2⟩ hw (pvOf Z he hc) rfl hn hl.1 hst (lv_roomw hW) hdg ⟨Nat.zero_le _, Nat.zero_le _⟩) kk
theorem cVw_V  {lv : List (Nat × Value)} (As rest : List Value) (B : Bd p s m args meth c own cc nL rty) (M : Mx y bytes maxL ret n) (hM : ctV l y bytes maxL ret rm (.ref b :: As) wl tys ads X H.size σ σ1) (kl : Cond.methodLink own index y ∈ GT) (ki : Cond.instanceMethod y ∈ GT ∧ Cond.selects y.cls y y ∈ GT) (he : (wl σ)[q0]? = some (b, .inr (ci, fs))) (hc : vwCl[ci]? = some (y.cls, tT, tN)) (Z : Wd wl tys ads X s σ H locs) (hl : lv_has ls nL lv) (hrc : rm.cells = 0) (hrs : rm.slots = 0) (hR : rm.frames + 1 ≤ R.frames ∧ 8 + (maxL + 11) + rm.locals ≤ R.locals) (hn : As.length = n) (hst : st0 = As.reverse ++ .ref b :: rest) (w : Nat) (hw : w + (maxL + 11) + rm.locals ≤ R.locals) (hW : (rest.map fun v => v.category).sum ≤ w) (hdg : decode cc pc = .ok (.invokevirtual index, 3))
    (kk : ∀ (H : Heap) (locs : List Loc), Wd wl tys ads X s σ1 H locs → W p l e R s m args below meth c H locs 0 0 Q (F0 m (pc + 3) ls rest)) : W p l e R s m args below meth c H locs 0 0 Q (F0 m pc ls st0) :=
  afV Z (runVw w (As := As) (rest := rest) (fxOf B) hM ⟨cbOf B M hrc hrs hR kl, B.2.2.2.2.1 _ ki.1, B.2.2.2.2.1 _ ki.2⟩ hw (pvOf Z he hc) rfl hn hl.1 hst (lv_roomw hW) hdg ⟨Nat.zero_le _, Nat.zero_le _⟩) kk
end RW
theorem mx_yX11_init : Mx yX11_init cX11_init 1 none 0 := ⟨gt_t (tb1 21 rfl) rfl, kz_RX11, by decide, by decide, by decide +kernel⟩
theorem mx_yX0_init : Mx yX0_init cX0_init 1 none 0 := ⟨gt_t (tb1 29 rfl) rfl, kz_RX0, by decide, by decide, by decide +kernel⟩
theorem mx_yX7_init : Mx yX7_init cX7_init 2 none 1 := ⟨gt_t (tb1 58 rfl) rfl, kz_RX7, by decide, by decide, by decide +kernel⟩
theorem mx_yX4_init : Mx yX4_init cX4_init 3 none 1 := ⟨gt_t (tb1 64 rfl) rfl, kz_RX4, by decide, by decide, by decide +kernel⟩
theorem mx_yJ9_max_7cf53 : Mx yJ9_max_7cf53 cJ9_max_7cf53 2 (some .int) 2 := ⟨gt_t (tb1 68 rfl) rfl, kz_RJ9, by decide, by decide, by decide +kernel⟩
theorem mx_yX8_init : Mx yX8_init cX8_init 1 none 0 := ⟨gt_t (tb1 91 rfl) rfl, kz_RX8, by decide, by decide, by decide +kernel⟩
theorem mx_yX3_init : Mx yX3_init cX3_init 1 none 0 := ⟨gt_t (tb1 124 rfl) rfl, kz_RX3, by decide, by decide, by decide +kernel⟩
theorem mx_yX9_init : Mx yX9_init cX9_init 2 none 1 := ⟨gt_t (tb1 175 rfl) rfl, kz_RX9, by decide, by decide, by decide +kernel⟩
theorem mx_yX6_init : Mx yX6_init cX6_init 3 none 2 := ⟨gt_t (tb1 197 rfl) rfl, kz_RX6, by decide, by decide, by decide +kernel⟩
theorem mx_yX5_init : Mx yX5_init cX5_init 1 none 0 := ⟨gt_t (tb1 216 rfl) rfl, kz_RX5, by decide, by decide, by decide +kernel⟩
theorem mx_yX1_init : Mx yX1_init cX1_init 4 none 3 := ⟨gt_t (tb2 0 rfl) rfl, kz_RX1, by decide, by decide, by decide +kernel⟩
theorem mx_yX2_init : Mx yX2_init cX2_init 2 none 1 := ⟨gt_t (tb2 20 rfl) rfl, kz_RX2, by decide, by decide, by decide +kernel⟩
theorem mx_yX10_init : Mx yX10_init cX10_init 2 none 1 := ⟨gt_t (tb2 33 rfl) rfl, kz_RX10, by decide, by decide, by decide +kernel⟩
theorem mx_yX11_row : Mx yX11_row cX11_row 7 (some .int) 6 := ⟨gt_t (tb2 82 rfl) rfl, kz_RX11, by decide, by decide, by decide +kernel⟩
theorem mi_yX11_row : Cond.instanceMethod yX11_row ∈ GT ∧ Cond.selects yX11_row.cls yX11_row yX11_row ∈ GT := ⟨ki_yX11_row, gt_t (tb2 81 rfl) rfl⟩
theorem mx_yX11_isFactor : Mx yX11_isFactor cX11_isFactor 1 (some .boolean) 1 := ⟨gt_t (tb2 85 rfl) rfl, kz_RX11, by decide, by decide, by decide +kernel⟩
theorem mx_yX11_isWithin : Mx yX11_isWithin cX11_isWithin 3 (some .boolean) 3 := ⟨gt_t (tb2 88 rfl) rfl, kz_RX11, by decide, by decide, by decide +kernel⟩
theorem mx_yX11_bad : Mx yX11_bad cX11_bad 1 (some .int) 0 := ⟨gt_t (tb2 92 rfl) rfl, kz_RX11, by decide, by decide, by decide +kernel⟩
theorem mi_yX11_bad : Cond.instanceMethod yX11_bad ∈ GT ∧ Cond.selects yX11_bad.cls yX11_bad yX11_bad ∈ GT := ⟨ki_yX11_bad, gt_s (List.mem_append_left _ (List.mem_of_getElem? (i := 0) rfl))⟩
theorem mx_yX11_isProperty : Mx yX11_isProperty cX11_isProperty 2 (some .boolean) 2 := ⟨gt_t (tb2 96 rfl) rfl, kz_RX11, by decide, by decide, by decide +kernel⟩
theorem mx_yX11_full : Mx yX11_full cX11_full 1 (some .int) 0 := ⟨gt_t (tb2 100 rfl) rfl, kz_RX11, by decide, by decide, by decide +kernel⟩
theorem mi_yX11_full : Cond.instanceMethod yX11_full ∈ GT ∧ Cond.selects yX11_full.cls yX11_full yX11_full ∈ GT := ⟨ki_yX11_full, gt_s (List.mem_append_left _ (List.mem_of_getElem? (i := 1) rfl))⟩
theorem mx_yX0_remember : Mx yX0_remember cX0_remember 1 none 0 := ⟨gt_t (tb2 105 rfl) rfl, kz_RX0, by decide, by decide, by decide +kernel⟩
theorem mi_yX0_remember : Cond.instanceMethod yX0_remember ∈ GT ∧ Cond.selects yX0_remember.cls yX0_remember yX0_remember ∈ GT := ⟨ki_yX0_remember, gt_t (tb2 104 rfl) rfl⟩
theorem mx_yJ9_min_7cf53 : Mx yJ9_min_7cf53 cJ9_min_7cf53 2 (some .int) 2 := ⟨gt_t (tb2 111 rfl) rfl, kz_RJ9, by decide, by decide, by decide +kernel⟩
theorem mx_yX0_append : Mx yX0_append cX0_append 8 none 6 := ⟨gt_t (tb2 115 rfl) rfl, kz_RX0, by decide, by decide, by decide +kernel⟩
theorem mi_yX0_append : Cond.instanceMethod yX0_append ∈ GT ∧ Cond.selects yX0_append.cls yX0_append yX0_append ∈ GT := ⟨ki_yX0_append, gt_t (tb2 114 rfl) rfl⟩
theorem mx_yX11_drops : Mx yX11_drops cX11_drops 2 (some .int) 1 := ⟨gt_t (tb2 119 rfl) rfl, kz_RX11, by decide, by decide, by decide +kernel⟩
theorem mi_yX11_drops : Cond.instanceMethod yX11_drops ∈ GT ∧ Cond.selects yX11_drops.cls yX11_drops yX11_drops ∈ GT := ⟨ki_yX11_drops, gt_t (tb2 118 rfl) rfl⟩
theorem mx_yX0_has : Mx yX0_has cX0_has 2 (some .boolean) 1 := ⟨gt_t (tb2 123 rfl) rfl, kz_RX0, by decide, by decide, by decide +kernel⟩
theorem mi_yX0_has : Cond.instanceMethod yX0_has ∈ GT ∧ Cond.selects yX0_has.cls yX0_has yX0_has ∈ GT := ⟨ki_yX0_has, gt_t (tb2 122 rfl) rfl⟩
theorem mx_yX0_remove : Mx yX0_remove cX0_remove 3 none 1 := ⟨gt_t (tb2 127 rfl) rfl, kz_RX0, by decide, by decide, by decide +kernel⟩
theorem mi_yX0_remove : Cond.instanceMethod yX0_remove ∈ GT ∧ Cond.selects yX0_remove.cls yX0_remove yX0_remove ∈ GT := ⟨ki_yX0_remove, gt_t (tb2 126 rfl) rfl⟩
theorem mx_yX11_sets : Mx yX11_sets cX11_sets 5 (some .int) 3 := ⟨gt_t (tb2 132 rfl) rfl, kz_RX11, by decide, by decide, by decide +kernel⟩
theorem mi_yX11_sets : Cond.instanceMethod yX11_sets ∈ GT ∧ Cond.selects yX11_sets.cls yX11_sets yX11_sets ∈ GT := ⟨ki_yX11_sets, gt_t (tb2 131 rfl) rfl⟩
theorem mx_yX0_get : Mx yX0_get cX0_get 3 (some .int) 2 := ⟨gt_t (tb2 136 rfl) rfl, kz_RX0, by decide, by decide, by decide +kernel⟩
theorem mi_yX0_get : Cond.instanceMethod yX0_get ∈ GT ∧ Cond.selects yX0_get.cls yX0_get yX0_get ∈ GT := ⟨ki_yX0_get, gt_t (tb2 135 rfl) rfl⟩
theorem mx_yX0_put : Mx yX0_put cX0_put 4 none 3 := ⟨gt_t (tb2 141 rfl) rfl, kz_RX0, by decide, by decide, by decide +kernel⟩
theorem mi_yX0_put : Cond.instanceMethod yX0_put ∈ GT ∧ Cond.selects yX0_put.cls yX0_put yX0_put ∈ GT := ⟨ki_yX0_put, gt_t (tb2 140 rfl) rfl⟩
theorem mx_yX11_of : Mx yX11_of cX11_of 3 (some .int) 2 := ⟨gt_t (tb2 145 rfl) rfl, kz_RX11, by decide, by decide, by decide +kernel⟩
theorem mi_yX11_of : Cond.instanceMethod yX11_of ∈ GT ∧ Cond.selects yX11_of.cls yX11_of yX11_of ∈ GT := ⟨ki_yX11_of, gt_t (tb2 144 rfl) rfl⟩
theorem mx_yX11_can : Mx yX11_can cX11_can 2 (some .int) 1 := ⟨gt_t (tb2 149 rfl) rfl, kz_RX11, by decide, by decide, by decide +kernel⟩
theorem mi_yX11_can : Cond.instanceMethod yX11_can ∈ GT ∧ Cond.selects yX11_can.cls yX11_can yX11_can ∈ GT := ⟨ki_yX11_can, gt_t (tb2 148 rfl) rfl⟩
theorem mx_yX0_covers : Mx yX0_covers cX0_covers 2 (some .boolean) 1 := ⟨gt_t (tb2 153 rfl) rfl, kz_RX0, by decide, by decide, by decide +kernel⟩
theorem mi_yX0_covers : Cond.instanceMethod yX0_covers ∈ GT ∧ Cond.selects yX0_covers.cls yX0_covers yX0_covers ∈ GT := ⟨ki_yX0_covers, gt_t (tb2 152 rfl) rfl⟩
theorem mx_yX7_isSatisfiable : Mx yX7_isSatisfiable cX7_isSatisfiable 2 (some .boolean) 1 := ⟨gt_t (tb2 157 rfl) rfl, kz_RX7, by decide, by decide, by decide +kernel⟩
theorem mi_yX7_isSatisfiable : Cond.instanceMethod yX7_isSatisfiable ∈ GT ∧ Cond.selects yX7_isSatisfiable.cls yX7_isSatisfiable yX7_isSatisfiable ∈ GT := ⟨ki_yX7_isSatisfiable, gt_t (tb2 156 rfl) rfl⟩
theorem mx_yX7_measure : Mx yX7_measure cX7_measure 3 (some .boolean) 2 := ⟨gt_t (tb2 161 rfl) rfl, kz_RX7, by decide, by decide, by decide +kernel⟩
theorem mi_yX7_measure : Cond.instanceMethod yX7_measure ∈ GT ∧ Cond.selects yX7_measure.cls yX7_measure yX7_measure ∈ GT := ⟨ki_yX7_measure, gt_t (tb2 160 rfl) rfl⟩
theorem mx_yX7_load : Mx yX7_load cX7_load 3 none 1 := ⟨gt_t (tb2 165 rfl) rfl, kz_RX7, by decide, by decide, by decide +kernel⟩
theorem mi_yX7_load : Cond.instanceMethod yX7_load ∈ GT ∧ Cond.selects yX7_load.cls yX7_load yX7_load ∈ GT := ⟨ki_yX7_load, gt_s (List.mem_append_left _ (List.mem_of_getElem? (i := 2) rfl))⟩
theorem mx_yX4_empty : Mx yX4_empty cX4_empty 1 none 0 := ⟨gt_t (tb2 169 rfl) rfl, kz_RX4, by decide, by decide, by decide +kernel⟩
theorem mi_yX4_empty : Cond.instanceMethod yX4_empty ∈ GT ∧ Cond.selects yX4_empty.cls yX4_empty yX4_empty ∈ GT := ⟨ki_yX4_empty, gt_t (tb2 168 rfl) rfl⟩
theorem mx_yX11_isIn : Mx yX11_isIn cX11_isIn 2 (some .boolean) 2 := ⟨gt_t (tb2 172 rfl) rfl, kz_RX11, by decide, by decide, by decide +kernel⟩
theorem mx_yX7_keep : Mx yX7_keep cX7_keep 4 none 3 := ⟨gt_t (tb2 177 rfl) rfl, kz_RX7, by decide, by decide, by decide +kernel⟩
theorem mi_yX7_keep : Cond.instanceMethod yX7_keep ∈ GT ∧ Cond.selects yX7_keep.cls yX7_keep yX7_keep ∈ GT := ⟨ki_yX7_keep, gt_s (List.mem_append_left _ (List.mem_of_getElem? (i := 3) rfl))⟩
theorem mx_yX4_keep : Mx yX4_keep cX4_keep 11 none 5 := ⟨gt_t (tb2 181 rfl) rfl, kz_RX4, by decide, by decide, by decide +kernel⟩
theorem mi_yX4_keep : Cond.instanceMethod yX4_keep ∈ GT ∧ Cond.selects yX4_keep.cls yX4_keep yX4_keep ∈ GT := ⟨ki_yX4_keep, gt_t (tb2 180 rfl) rfl⟩
theorem mx_yX7_narrow : Mx yX7_narrow cX7_narrow 4 (some .boolean) 1 := ⟨gt_t (tb2 185 rfl) rfl, kz_RX7, by decide, by decide, by decide +kernel⟩
theorem mi_yX7_narrow : Cond.instanceMethod yX7_narrow ∈ GT ∧ Cond.selects yX7_narrow.cls yX7_narrow yX7_narrow ∈ GT := ⟨ki_yX7_narrow, gt_s (List.mem_append_left _ (List.mem_of_getElem? (i := 4) rfl))⟩
theorem mx_yX8_reset : Mx yX8_reset cX8_reset 1 none 0 := ⟨gt_t (tb2 189 rfl) rfl, kz_RX8, by decide, by decide, by decide +kernel⟩
theorem mi_yX8_reset : Cond.instanceMethod yX8_reset ∈ GT ∧ Cond.selects yX8_reset.cls yX8_reset yX8_reset ∈ GT := ⟨ki_yX8_reset, gt_t (tb2 188 rfl) rfl⟩
theorem mx_yX4_eliminate : Mx yX4_eliminate cX4_eliminate 10 none 2 := ⟨gt_t (tb2 193 rfl) rfl, kz_RX4, by decide, by decide, by decide +kernel⟩
theorem mi_yX4_eliminate : Cond.instanceMethod yX4_eliminate ∈ GT ∧ Cond.selects yX4_eliminate.cls yX4_eliminate yX4_eliminate ∈ GT := ⟨ki_yX4_eliminate, gt_t (tb2 192 rfl) rfl⟩
theorem mx_yX4_equalityWith : Mx yX4_equalityWith cX4_equalityWith 3 (some .int) 1 := ⟨gt_t (tb2 198 rfl) rfl, kz_RX4, by decide, by decide, by decide +kernel⟩
theorem mi_yX4_equalityWith : Cond.instanceMethod yX4_equalityWith ∈ GT ∧ Cond.selects yX4_equalityWith.cls yX4_equalityWith yX4_equalityWith ∈ GT := ⟨ki_yX4_equalityWith, gt_s (List.mem_append_left _ (List.mem_of_getElem? (i := 5) rfl))⟩
theorem mx_yX4_mix : Mx yX4_mix cX4_mix 10 none 5 := ⟨gt_t (tb2 202 rfl) rfl, kz_RX4, by decide, by decide, by decide +kernel⟩
theorem mi_yX4_mix : Cond.instanceMethod yX4_mix ∈ GT ∧ Cond.selects yX4_mix.cls yX4_mix yX4_mix ∈ GT := ⟨ki_yX4_mix, gt_s (List.mem_append_left _ (List.mem_of_getElem? (i := 6) rfl))⟩
theorem mx_yJ9_abs_067f4 : Mx yJ9_abs_067f4 cJ9_abs_067f4 2 (some .long) 1 := ⟨gt_t (tb2 207 rfl) rfl, kz_RJ9, by decide, by decide, by decide +kernel⟩
theorem mx_yX8_take : Mx yX8_take cX8_take 10 none 3 := ⟨gt_t (tb2 211 rfl) rfl, kz_RX8, by decide, by decide, by decide +kernel⟩
theorem mi_yX8_take : Cond.instanceMethod yX8_take ∈ GT ∧ Cond.selects yX8_take.cls yX8_take yX8_take ∈ GT := ⟨ki_yX8_take, gt_t (tb2 210 rfl) rfl⟩
theorem mx_yX8_lowerHigh : Mx yX8_lowerHigh cX8_lowerHigh 7 none 3 := ⟨gt_t (tb2 216 rfl) rfl, kz_RX8, by decide, by decide, by decide +kernel⟩
theorem mi_yX8_lowerHigh : Cond.instanceMethod yX8_lowerHigh ∈ GT ∧ Cond.selects yX8_lowerHigh.cls yX8_lowerHigh yX8_lowerHigh ∈ GT := ⟨ki_yX8_lowerHigh, gt_s (List.mem_append_left _ (List.mem_of_getElem? (i := 7) rfl))⟩
theorem mx_yX8_compare : Mx yX8_compare cX8_compare 25 (some .int) 4 := ⟨gt_t (tb2 219 rfl) rfl, kz_RX8, by decide, by decide, by decide +kernel⟩
theorem mx_yJ9_floorDiv_f86c9 : Mx yJ9_floorDiv_f86c9 cJ9_floorDiv_f86c9 6 (some .long) 2 := ⟨gt_t (tb2 222 rfl) rfl, kz_RJ9, by decide, by decide, by decide +kernel⟩
theorem mx_yX8_raiseLow : Mx yX8_raiseLow cX8_raiseLow 7 none 3 := ⟨gt_t (tb2 226 rfl) rfl, kz_RX8, by decide, by decide, by decide +kernel⟩
theorem mi_yX8_raiseLow : Cond.instanceMethod yX8_raiseLow ∈ GT ∧ Cond.selects yX8_raiseLow.cls yX8_raiseLow yX8_raiseLow ∈ GT := ⟨ki_yX8_raiseLow, gt_s (List.mem_append_left _ (List.mem_of_getElem? (i := 8) rfl))⟩
theorem mx_yX8_isEmpty : Mx yX8_isEmpty cX8_isEmpty 2 (some .boolean) 0 := ⟨gt_t (tb2 230 rfl) rfl, kz_RX8, by decide, by decide, by decide +kernel⟩
theorem mi_yX8_isEmpty : Cond.instanceMethod yX8_isEmpty ∈ GT ∧ Cond.selects yX8_isEmpty.cls yX8_isEmpty yX8_isEmpty ∈ GT := ⟨ki_yX8_isEmpty, gt_t (tb2 229 rfl) rfl⟩
theorem mx_yX11_dimension : Mx yX11_dimension cX11_dimension 2 (some .int) 1 := ⟨gt_t (tb2 234 rfl) rfl, kz_RX11, by decide, by decide, by decide +kernel⟩
theorem mi_yX11_dimension : Cond.instanceMethod yX11_dimension ∈ GT ∧ Cond.selects yX11_dimension.cls yX11_dimension yX11_dimension ∈ GT := ⟨ki_yX11_dimension, gt_t (tb2 233 rfl) rfl⟩
theorem mx_yX11_no : Mx yX11_no cX11_no 1 (some .int) 0 := ⟨gt_t (tb2 238 rfl) rfl, kz_RX11, by decide, by decide, by decide +kernel⟩
theorem mi_yX11_no : Cond.instanceMethod yX11_no ∈ GT ∧ Cond.selects yX11_no.cls yX11_no yX11_no ∈ GT := ⟨ki_yX11_no, gt_s (List.mem_append_left _ (List.mem_of_getElem? (i := 9) rfl))⟩
theorem mx_yX7_dimensionOf : Mx yX7_dimensionOf cX7_dimensionOf 4 (some .int) 1 := ⟨gt_t (tb3 3 rfl) rfl, kz_RX7, by decide, by decide, by decide +kernel⟩
theorem mi_yX7_dimensionOf : Cond.instanceMethod yX7_dimensionOf ∈ GT ∧ Cond.selects yX7_dimensionOf.cls yX7_dimensionOf yX7_dimensionOf ∈ GT := ⟨ki_yX7_dimensionOf, gt_t (tb3 2 rfl) rfl⟩
theorem mx_yX7_meets : Mx yX7_meets cX7_meets 5 (some .boolean) 4 := ⟨gt_t (tb3 7 rfl) rfl, kz_RX7, by decide, by decide, by decide +kernel⟩
theorem mi_yX7_meets : Cond.instanceMethod yX7_meets ∈ GT ∧ Cond.selects yX7_meets.cls yX7_meets yX7_meets ∈ GT := ⟨ki_yX7_meets, gt_s (List.mem_append_left _ (List.mem_of_getElem? (i := 10) rfl))⟩
theorem mx_yX3_add : Mx yX3_add cX3_add 13 none 3 := ⟨gt_t (tb3 11 rfl) rfl, kz_RX3, by decide, by decide, by decide +kernel⟩
theorem mi_yX3_add : Cond.instanceMethod yX3_add ∈ GT ∧ Cond.selects yX3_add.cls yX3_add yX3_add ∈ GT := ⟨ki_yX3_add, gt_t (tb3 10 rfl) rfl⟩
theorem mx_yX3_hold : Mx yX3_hold cX3_hold 7 none 3 := ⟨gt_t (tb3 15 rfl) rfl, kz_RX3, by decide, by decide, by decide +kernel⟩
theorem mi_yX3_hold : Cond.instanceMethod yX3_hold ∈ GT ∧ Cond.selects yX3_hold.cls yX3_hold yX3_hold ∈ GT := ⟨ki_yX3_hold, gt_s (List.mem_append_left _ (List.mem_of_getElem? (i := 11) rfl))⟩
theorem mx_yX11_bound : Mx yX11_bound cX11_bound 5 (some .long) 4 := ⟨gt_t (tb3 19 rfl) rfl, kz_RX11, by decide, by decide, by decide +kernel⟩
theorem mi_yX11_bound : Cond.instanceMethod yX11_bound ∈ GT ∧ Cond.selects yX11_bound.cls yX11_bound yX11_bound ∈ GT := ⟨ki_yX11_bound, gt_t (tb3 18 rfl) rfl⟩
theorem mx_yX8_highProperty : Mx yX8_highProperty cX8_highProperty 2 (some .long) 1 := ⟨gt_t (tb3 24 rfl) rfl, kz_RX8, by decide, by decide, by decide +kernel⟩
theorem mi_yX8_highProperty : Cond.instanceMethod yX8_highProperty ∈ GT ∧ Cond.selects yX8_highProperty.cls yX8_highProperty yX8_highProperty ∈ GT := ⟨ki_yX8_highProperty, gt_t (tb3 23 rfl) rfl⟩
theorem mx_yX8_property : Mx yX8_property cX8_property 8 (some .long) 4 := ⟨gt_t (tb3 27 rfl) rfl, kz_RX8, by decide, by decide, by decide +kernel⟩
theorem mx_yX11_gcd : Mx yX11_gcd cX11_gcd 11 (some .long) 2 := ⟨gt_t (tb3 31 rfl) rfl, kz_RX11, by decide, by decide, by decide +kernel⟩
theorem mx_yX8_lowProperty : Mx yX8_lowProperty cX8_lowProperty 2 (some .long) 1 := ⟨gt_t (tb3 36 rfl) rfl, kz_RX8, by decide, by decide, by decide +kernel⟩
theorem mi_yX8_lowProperty : Cond.instanceMethod yX8_lowProperty ∈ GT ∧ Cond.selects yX8_lowProperty.cls yX8_lowProperty yX8_lowProperty ∈ GT := ⟨ki_yX8_lowProperty, gt_t (tb3 35 rfl) rfl⟩
theorem mx_yX11_brings : Mx yX11_brings cX11_brings 3 (some .int) 2 := ⟨gt_t (tb3 40 rfl) rfl, kz_RX11, by decide, by decide, by decide +kernel⟩
theorem mi_yX11_brings : Cond.instanceMethod yX11_brings ∈ GT ∧ Cond.selects yX11_brings.cls yX11_brings yX11_brings ∈ GT := ⟨ki_yX11_brings, gt_t (tb3 39 rfl) rfl⟩
theorem mx_yX7_implies : Mx yX7_implies cX7_implies 4 (some .boolean) 2 := ⟨gt_t (tb3 44 rfl) rfl, kz_RX7, by decide, by decide, by decide +kernel⟩
theorem mi_yX7_implies : Cond.instanceMethod yX7_implies ∈ GT ∧ Cond.selects yX7_implies.cls yX7_implies yX7_implies ∈ GT := ⟨ki_yX7_implies, gt_t (tb3 43 rfl) rfl⟩
theorem mx_yX11_spare : Mx yX11_spare cX11_spare 4 (some .int) 1 := ⟨gt_t (tb3 48 rfl) rfl, kz_RX11, by decide, by decide, by decide +kernel⟩
theorem mi_yX11_spare : Cond.instanceMethod yX11_spare ∈ GT ∧ Cond.selects yX11_spare.cls yX11_spare yX11_spare ∈ GT := ⟨ki_yX11_spare, gt_t (tb3 47 rfl) rfl⟩
theorem mx_yX11_same : Mx yX11_same cX11_same 4 (some .int) 2 := ⟨gt_t (tb3 53 rfl) rfl, kz_RX11, by decide, by decide, by decide +kernel⟩
theorem mi_yX11_same : Cond.instanceMethod yX11_same ∈ GT ∧ Cond.selects yX11_same.cls yX11_same yX11_same ∈ GT := ⟨ki_yX11_same, gt_t (tb3 52 rfl) rfl⟩
theorem mx_yX11_point : Mx yX11_point cX11_point 4 (some .long) 3 := ⟨gt_t (tb3 57 rfl) rfl, kz_RX11, by decide, by decide, by decide +kernel⟩
theorem mi_yX11_point : Cond.instanceMethod yX11_point ∈ GT ∧ Cond.selects yX11_point.cls yX11_point yX11_point ∈ GT := ⟨ki_yX11_point, gt_t (tb3 56 rfl) rfl⟩
theorem mx_yX7_solve : Mx yX7_solve cX7_solve 4 none 2 := ⟨gt_t (tb3 61 rfl) rfl, kz_RX7, by decide, by decide, by decide +kernel⟩
theorem mi_yX7_solve : Cond.instanceMethod yX7_solve ∈ GT ∧ Cond.selects yX7_solve.cls yX7_solve yX7_solve ∈ GT := ⟨ki_yX7_solve, gt_t (tb3 60 rfl) rfl⟩
theorem mx_yX7_loadWithValues : Mx yX7_loadWithValues cX7_loadWithValues 4 none 2 := ⟨gt_t (tb3 65 rfl) rfl, kz_RX7, by decide, by decide, by decide +kernel⟩
theorem mi_yX7_loadWithValues : Cond.instanceMethod yX7_loadWithValues ∈ GT ∧ Cond.selects yX7_loadWithValues.cls yX7_loadWithValues yX7_loadWithValues ∈ GT := ⟨ki_yX7_loadWithValues, gt_s (List.mem_append_left _ (List.mem_of_getElem? (i := 12) rfl))⟩
theorem mx_yX7_putValues : Mx yX7_putValues cX7_putValues 7 none 2 := ⟨gt_t (tb3 69 rfl) rfl, kz_RX7, by decide, by decide, by decide +kernel⟩
theorem mi_yX7_putValues : Cond.instanceMethod yX7_putValues ∈ GT ∧ Cond.selects yX7_putValues.cls yX7_putValues yX7_putValues ∈ GT := ⟨ki_yX7_putValues, gt_s (List.mem_append_left _ (List.mem_of_getElem? (i := 13) rfl))⟩
theorem mx_yX8_pick : Mx yX8_pick cX8_pick 1 none 0 := ⟨gt_t (tb3 73 rfl) rfl, kz_RX8, by decide, by decide, by decide +kernel⟩
theorem mi_yX8_pick : Cond.instanceMethod yX8_pick ∈ GT ∧ Cond.selects yX8_pick.cls yX8_pick yX8_pick ∈ GT := ⟨ki_yX8_pick, gt_t (tb3 72 rfl) rfl⟩
theorem mx_yX8_choose : Mx yX8_choose cX8_choose 7 none 2 := ⟨gt_t (tb3 77 rfl) rfl, kz_RX8, by decide, by decide, by decide +kernel⟩
theorem mi_yX8_choose : Cond.instanceMethod yX8_choose ∈ GT ∧ Cond.selects yX8_choose.cls yX8_choose yX8_choose ∈ GT := ⟨ki_yX8_choose, gt_s (List.mem_append_left _ (List.mem_of_getElem? (i := 14) rfl))⟩
theorem mx_yX8_pickBetween : Mx yX8_pickBetween cX8_pickBetween 1 none 0 := ⟨gt_t (tb3 81 rfl) rfl, kz_RX8, by decide, by decide, by decide +kernel⟩
theorem mi_yX8_pickBetween : Cond.instanceMethod yX8_pickBetween ∈ GT ∧ Cond.selects yX8_pickBetween.cls yX8_pickBetween yX8_pickBetween ∈ GT := ⟨ki_yX8_pickBetween, gt_s (List.mem_append_left _ (List.mem_of_getElem? (i := 15) rfl))⟩
theorem mx_yX8_pickSimplest : Mx yX8_pickSimplest cX8_pickSimplest 31 none 4 := ⟨gt_t (tb3 85 rfl) rfl, kz_RX8, by decide, by decide, by decide +kernel⟩
theorem mi_yX8_pickSimplest : Cond.instanceMethod yX8_pickSimplest ∈ GT ∧ Cond.selects yX8_pickSimplest.cls yX8_pickSimplest yX8_pickSimplest ∈ GT := ⟨ki_yX8_pickSimplest, gt_s (List.mem_append_right _ (List.mem_append_left _ (List.mem_of_getElem? (i := 0) rfl)))⟩
theorem mx_yX11_core : Mx yX11_core cX11_core 2 (some .int) 1 := ⟨gt_t (tb3 89 rfl) rfl, kz_RX11, by decide, by decide, by decide +kernel⟩
theorem mi_yX11_core : Cond.instanceMethod yX11_core ∈ GT ∧ Cond.selects yX11_core.cls yX11_core yX11_core ∈ GT := ⟨ki_yX11_core, gt_t (tb3 88 rfl) rfl⟩
theorem mx_yX7_coreOf : Mx yX7_coreOf cX7_coreOf 5 (some .int) 1 := ⟨gt_t (tb3 93 rfl) rfl, kz_RX7, by decide, by decide, by decide +kernel⟩
theorem mi_yX7_coreOf : Cond.instanceMethod yX7_coreOf ∈ GT ∧ Cond.selects yX7_coreOf.cls yX7_coreOf yX7_coreOf ∈ GT := ⟨ki_yX7_coreOf, gt_t (tb3 92 rfl) rfl⟩
theorem mx_yX11_times : Mx yX11_times cX11_times 3 (some .int) 2 := ⟨gt_t (tb3 97 rfl) rfl, kz_RX11, by decide, by decide, by decide +kernel⟩
theorem mi_yX11_times : Cond.instanceMethod yX11_times ∈ GT ∧ Cond.selects yX11_times.cls yX11_times yX11_times ∈ GT := ⟨ki_yX11_times, gt_t (tb3 96 rfl) rfl⟩
theorem mx_yX9_find : Mx yX9_find cX9_find 4 none 1 := ⟨gt_t (tb3 101 rfl) rfl, kz_RX9, by decide, by decide, by decide +kernel⟩
theorem mi_yX9_find : Cond.instanceMethod yX9_find ∈ GT ∧ Cond.selects yX9_find.cls yX9_find yX9_find ∈ GT := ⟨ki_yX9_find, gt_t (tb3 100 rfl) rfl⟩
theorem mx_yJ6_bitCount_0f7a4 : Mx yJ6_bitCount_0f7a4 cJ6_bitCount_0f7a4 1 (some .int) 1 := ⟨gt_t (tb3 106 rfl) rfl, kz_RJ6, by decide, by decide, by decide +kernel⟩
theorem mx_yX9_isSolvedWith : Mx yX9_isSolvedWith cX9_isSolvedWith 6 (some .boolean) 1 := ⟨gt_t (tb3 113 rfl) rfl, kz_RX9, by decide, by decide, by decide +kernel⟩
theorem mi_yX9_isSolvedWith : Cond.instanceMethod yX9_isSolvedWith ∈ GT ∧ Cond.selects yX9_isSolvedWith.cls yX9_isSolvedWith yX9_isSolvedWith ∈ GT := ⟨ki_yX9_isSolvedWith, gt_s (List.mem_append_right _ (List.mem_append_left _ (List.mem_of_getElem? (i := 1) rfl)))⟩
theorem mx_yX9_determinant : Mx yX9_determinant cX9_determinant 7 (some .int) 3 := ⟨gt_t (tb3 117 rfl) rfl, kz_RX9, by decide, by decide, by decide +kernel⟩
theorem mi_yX9_determinant : Cond.instanceMethod yX9_determinant ∈ GT ∧ Cond.selects yX9_determinant.cls yX9_determinant yX9_determinant ∈ GT := ⟨ki_yX9_determinant, gt_s (List.mem_append_right _ (List.mem_append_left _ (List.mem_of_getElem? (i := 2) rfl)))⟩
theorem mx_yX9_shorten : Mx yX9_shorten cX9_shorten 4 none 0 := ⟨gt_t (tb3 121 rfl) rfl, kz_RX9, by decide, by decide, by decide +kernel⟩
theorem mi_yX9_shorten : Cond.instanceMethod yX9_shorten ∈ GT ∧ Cond.selects yX9_shorten.cls yX9_shorten yX9_shorten ∈ GT := ⟨ki_yX9_shorten, gt_s (List.mem_append_right _ (List.mem_append_left _ (List.mem_of_getElem? (i := 3) rfl)))⟩
theorem mx_yX9_turn : Mx yX9_turn cX9_turn 5 none 0 := ⟨gt_t (tb3 126 rfl) rfl, kz_RX9, by decide, by decide, by decide +kernel⟩
theorem mi_yX9_turn : Cond.instanceMethod yX9_turn ∈ GT ∧ Cond.selects yX9_turn.cls yX9_turn yX9_turn ∈ GT := ⟨ki_yX9_turn, gt_s (List.mem_append_right _ (List.mem_append_left _ (List.mem_of_getElem? (i := 4) rfl)))⟩
theorem mx_yX9_weightOf : Mx yX9_weightOf cX9_weightOf 3 (some .int) 1 := ⟨gt_t (tb3 130 rfl) rfl, kz_RX9, by decide, by decide, by decide +kernel⟩
theorem mi_yX9_weightOf : Cond.instanceMethod yX9_weightOf ∈ GT ∧ Cond.selects yX9_weightOf.cls yX9_weightOf yX9_weightOf ∈ GT := ⟨ki_yX9_weightOf, gt_t (tb3 129 rfl) rfl⟩
theorem mx_yX11_between : Mx yX11_between cX11_between 2 (some .int) 1 := ⟨gt_t (tb3 134 rfl) rfl, kz_RX11, by decide, by decide, by decide +kernel⟩
theorem mi_yX11_between : Cond.instanceMethod yX11_between ∈ GT ∧ Cond.selects yX11_between.cls yX11_between yX11_between ∈ GT := ⟨ki_yX11_between, gt_t (tb3 133 rfl) rfl⟩
theorem mx_yX0_every : Mx yX0_every cX0_every 1 (some .int) 0 := ⟨gt_t (tb3 138 rfl) rfl, kz_RX0, by decide, by decide, by decide +kernel⟩
theorem mi_yX0_every : Cond.instanceMethod yX0_every ∈ GT ∧ Cond.selects yX0_every.cls yX0_every yX0_every ∈ GT := ⟨ki_yX0_every, gt_t (tb3 137 rfl) rfl⟩
theorem mx_yX9_interpolantKind : Mx yX9_interpolantKind cX9_interpolantKind 3 (some .int) 0 := ⟨gt_t (tb3 142 rfl) rfl, kz_RX9, by decide, by decide, by decide +kernel⟩
theorem mi_yX9_interpolantKind : Cond.instanceMethod yX9_interpolantKind ∈ GT ∧ Cond.selects yX9_interpolantKind.cls yX9_interpolantKind yX9_interpolantKind ∈ GT := ⟨ki_yX9_interpolantKind, gt_t (tb3 141 rfl) rfl⟩
theorem mx_yX9_interpolantSum : Mx yX9_interpolantSum cX9_interpolantSum 4 (some .int) 1 := ⟨gt_t (tb3 147 rfl) rfl, kz_RX9, by decide, by decide, by decide +kernel⟩
theorem mi_yX9_interpolantSum : Cond.instanceMethod yX9_interpolantSum ∈ GT ∧ Cond.selects yX9_interpolantSum.cls yX9_interpolantSum yX9_interpolantSum ∈ GT := ⟨ki_yX9_interpolantSum, gt_t (tb3 146 rfl) rfl⟩
theorem mx_yX11_sides : Mx yX11_sides cX11_sides 3 (some .int) 1 := ⟨gt_t (tb3 151 rfl) rfl, kz_RX11, by decide, by decide, by decide +kernel⟩
theorem mi_yX11_sides : Cond.instanceMethod yX11_sides ∈ GT ∧ Cond.selects yX11_sides.cls yX11_sides yX11_sides ∈ GT := ⟨ki_yX11_sides, gt_t (tb3 150 rfl) rfl⟩
theorem mx_yX6_forget : Mx yX6_forget cX6_forget 1 none 0 := ⟨gt_t (tb3 156 rfl) rfl, kz_RX6, by decide, by decide, by decide +kernel⟩
theorem mi_yX6_forget : Cond.instanceMethod yX6_forget ∈ GT ∧ Cond.selects yX6_forget.cls yX6_forget yX6_forget ∈ GT := ⟨ki_yX6_forget, gt_t (tb3 155 rfl) rfl⟩
theorem mx_yX6_slotOf : Mx yX6_slotOf cX6_slotOf 3 (some .int) 1 := ⟨gt_t (tb3 160 rfl) rfl, kz_RX6, by decide, by decide, by decide +kernel⟩
theorem mi_yX6_slotOf : Cond.instanceMethod yX6_slotOf ∈ GT ∧ Cond.selects yX6_slotOf.cls yX6_slotOf yX6_slotOf ∈ GT := ⟨ki_yX6_slotOf, gt_t (tb3 159 rfl) rfl⟩
theorem mx_yX7_begin : Mx yX7_begin cX7_begin 1 none 0 := ⟨gt_t (tb3 164 rfl) rfl, kz_RX7, by decide, by decide, by decide +kernel⟩
theorem mi_yX7_begin : Cond.instanceMethod yX7_begin ∈ GT ∧ Cond.selects yX7_begin.cls yX7_begin yX7_begin ∈ GT := ⟨ki_yX7_begin, gt_t (tb3 163 rfl) rfl⟩
theorem mx_yX6_count : Mx yX6_count cX6_count 9 (some .int) 4 := ⟨gt_t (tb3 167 rfl) rfl, kz_RX6, by decide, by decide, by decide +kernel⟩
theorem mx_yX7_mark : Mx yX7_mark cX7_mark 1 (some .int) 0 := ⟨gt_t (tb3 171 rfl) rfl, kz_RX7, by decide, by decide, by decide +kernel⟩
theorem mi_yX7_mark : Cond.instanceMethod yX7_mark ∈ GT ∧ Cond.selects yX7_mark.cls yX7_mark yX7_mark ∈ GT := ⟨ki_yX7_mark, gt_t (tb3 170 rfl) rfl⟩
theorem mx_yX7_takesSign : Mx yX7_takesSign cX7_takesSign 3 (some .boolean) 2 := ⟨gt_t (tb3 175 rfl) rfl, kz_RX7, by decide, by decide, by decide +kernel⟩
theorem mi_yX7_takesSign : Cond.instanceMethod yX7_takesSign ∈ GT ∧ Cond.selects yX7_takesSign.cls yX7_takesSign yX7_takesSign ∈ GT := ⟨ki_yX7_takesSign, gt_t (tb3 174 rfl) rfl⟩
theorem mx_yX6_isTrue : Mx yX6_isTrue cX6_isTrue 4 (some .boolean) 2 := ⟨gt_t (tb3 179 rfl) rfl, kz_RX6, by decide, by decide, by decide +kernel⟩
theorem mi_yX6_isTrue : Cond.instanceMethod yX6_isTrue ∈ GT ∧ Cond.selects yX6_isTrue.cls yX6_isTrue yX6_isTrue ∈ GT := ⟨ki_yX6_isTrue, gt_s (List.mem_append_right _ (List.mem_append_left _ (List.mem_of_getElem? (i := 5) rfl)))⟩
theorem mx_yX7_returnTo : Mx yX7_returnTo cX7_returnTo 2 none 1 := ⟨gt_t (tb3 185 rfl) rfl, kz_RX7, by decide, by decide, by decide +kernel⟩
theorem mi_yX7_returnTo : Cond.instanceMethod yX7_returnTo ∈ GT ∧ Cond.selects yX7_returnTo.cls yX7_returnTo yX7_returnTo ∈ GT := ⟨ki_yX7_returnTo, gt_t (tb3 184 rfl) rfl⟩
theorem mx_yX11_formula : Mx yX11_formula cX11_formula 3 (some .int) 1 := ⟨gt_t (tb3 191 rfl) rfl, kz_RX11, by decide, by decide, by decide +kernel⟩
theorem mi_yX11_formula : Cond.instanceMethod yX11_formula ∈ GT ∧ Cond.selects yX11_formula.cls yX11_formula yX11_formula ∈ GT := ⟨ki_yX11_formula, gt_t (tb3 190 rfl) rfl⟩
theorem mx_yX1_read : Mx yX1_read cX1_read 2 (some .int) 0 := ⟨gt_t (tb3 195 rfl) rfl, kz_RX1, by decide, by decide, by decide +kernel⟩
theorem mi_yX1_read : Cond.instanceMethod yX1_read ∈ GT ∧ Cond.selects yX1_read.cls yX1_read yX1_read ∈ GT := ⟨ki_yX1_read, gt_t (tb3 194 rfl) rfl⟩
theorem mx_yX5_start : Mx yX5_start cX5_start 1 none 0 := ⟨gt_t (tb3 199 rfl) rfl, kz_RX5, by decide, by decide, by decide +kernel⟩
theorem mi_yX5_start : Cond.instanceMethod yX5_start ∈ GT ∧ Cond.selects yX5_start.cls yX5_start yX5_start ∈ GT := ⟨ki_yX5_start, gt_t (tb3 198 rfl) rfl⟩
theorem mx_yX1_readSum : Mx yX1_readSum cX1_readSum 4 (some .int) 1 := ⟨gt_t (tb3 204 rfl) rfl, kz_RX1, by decide, by decide, by decide +kernel⟩
theorem mi_yX1_readSum : Cond.instanceMethod yX1_readSum ∈ GT ∧ Cond.selects yX1_readSum.cls yX1_readSum yX1_readSum ∈ GT := ⟨ki_yX1_readSum, gt_s (List.mem_append_right _ (List.mem_append_left _ (List.mem_of_getElem? (i := 6) rfl)))⟩
theorem mx_yX1_readProduct : Mx yX1_readProduct cX1_readProduct 4 (some .int) 1 := ⟨gt_t (tb3 208 rfl) rfl, kz_RX1, by decide, by decide, by decide +kernel⟩
theorem mi_yX1_readProduct : Cond.instanceMethod yX1_readProduct ∈ GT ∧ Cond.selects yX1_readProduct.cls yX1_readProduct yX1_readProduct ∈ GT := ⟨ki_yX1_readProduct, gt_s (List.mem_append_right _ (List.mem_append_left _ (List.mem_of_getElem? (i := 7) rfl)))⟩
theorem mx_yX1_readFactor : Mx yX1_readFactor cX1_readFactor 4 (some .int) 1 := ⟨gt_t (tb3 212 rfl) rfl, kz_RX1, by decide, by decide, by decide +kernel⟩
theorem mi_yX1_readFactor : Cond.instanceMethod yX1_readFactor ∈ GT ∧ Cond.selects yX1_readFactor.cls yX1_readFactor yX1_readFactor ∈ GT := ⟨ki_yX1_readFactor, gt_s (List.mem_append_right _ (List.mem_append_left _ (List.mem_of_getElem? (i := 8) rfl)))⟩
theorem mx_yX5_peek : Mx yX5_peek cX5_peek 1 (some .int) 0 := ⟨gt_t (tb3 216 rfl) rfl, kz_RX5, by decide, by decide, by decide +kernel⟩
theorem mi_yX5_peek : Cond.instanceMethod yX5_peek ∈ GT ∧ Cond.selects yX5_peek.cls yX5_peek yX5_peek ∈ GT := ⟨ki_yX5_peek, gt_t (tb3 215 rfl) rfl⟩
theorem mx_yX5_step : Mx yX5_step cX5_step 1 none 0 := ⟨gt_t (tb3 220 rfl) rfl, kz_RX5, by decide, by decide, by decide +kernel⟩
theorem mi_yX5_step : Cond.instanceMethod yX5_step ∈ GT ∧ Cond.selects yX5_step.cls yX5_step yX5_step ∈ GT := ⟨ki_yX5_step, gt_t (tb3 219 rfl) rfl⟩
theorem mx_yX1_readInner : Mx yX1_readInner cX1_readInner 3 (some .int) 1 := ⟨gt_t (tb3 224 rfl) rfl, kz_RX1, by decide, by decide, by decide +kernel⟩
theorem mi_yX1_readInner : Cond.instanceMethod yX1_readInner ∈ GT ∧ Cond.selects yX1_readInner.cls yX1_readInner yX1_readInner ∈ GT := ⟨ki_yX1_readInner, gt_s (List.mem_append_right _ (List.mem_append_left _ (List.mem_of_getElem? (i := 9) rfl)))⟩
theorem mx_yX5_failAt : Mx yX5_failAt cX5_failAt 2 none 1 := ⟨gt_t (tb3 228 rfl) rfl, kz_RX5, by decide, by decide, by decide +kernel⟩
theorem mi_yX5_failAt : Cond.instanceMethod yX5_failAt ∈ GT ∧ Cond.selects yX5_failAt.cls yX5_failAt yX5_failAt ∈ GT := ⟨ki_yX5_failAt, gt_t (tb3 227 rfl) rfl⟩
theorem mx_yX5_hasFailed : Mx yX5_hasFailed cX5_hasFailed 1 (some .boolean) 0 := ⟨gt_t (tb3 232 rfl) rfl, kz_RX5, by decide, by decide, by decide +kernel⟩
theorem mi_yX5_hasFailed : Cond.instanceMethod yX5_hasFailed ∈ GT ∧ Cond.selects yX5_hasFailed.cls yX5_hasFailed yX5_hasFailed ∈ GT := ⟨ki_yX5_hasFailed, gt_t (tb3 231 rfl) rfl⟩
theorem mx_yX5_expect : Mx yX5_expect cX5_expect 2 none 1 := ⟨gt_t (tb3 236 rfl) rfl, kz_RX5, by decide, by decide, by decide +kernel⟩
theorem mi_yX5_expect : Cond.instanceMethod yX5_expect ∈ GT ∧ Cond.selects yX5_expect.cls yX5_expect yX5_expect ∈ GT := ⟨ki_yX5_expect, gt_t (tb3 235 rfl) rfl⟩
theorem mx_yX1_readConstraint : Mx yX1_readConstraint cX1_readConstraint 3 (some .int) 0 := ⟨gt_t (tb4 3 rfl) rfl, kz_RX1, by decide, by decide, by decide +kernel⟩
theorem mi_yX1_readConstraint : Cond.instanceMethod yX1_readConstraint ∈ GT ∧ Cond.selects yX1_readConstraint.cls yX1_readConstraint yX1_readConstraint ∈ GT := ⟨ki_yX1_readConstraint, gt_s (List.mem_append_right _ (List.mem_append_left _ (List.mem_of_getElem? (i := 10) rfl)))⟩
theorem mx_yX5_readNumber : Mx yX5_readNumber cX5_readNumber 5 (some .int) 1 := ⟨gt_t (tb4 7 rfl) rfl, kz_RX5, by decide, by decide, by decide +kernel⟩
theorem mi_yX5_readNumber : Cond.instanceMethod yX5_readNumber ∈ GT ∧ Cond.selects yX5_readNumber.cls yX5_readNumber yX5_readNumber ∈ GT := ⟨ki_yX5_readNumber, gt_t (tb4 6 rfl) rfl⟩
theorem mx_yX5_here : Mx yX5_here cX5_here 1 (some .int) 0 := ⟨gt_t (tb4 11 rfl) rfl, kz_RX5, by decide, by decide, by decide +kernel⟩
theorem mi_yX5_here : Cond.instanceMethod yX5_here ∈ GT ∧ Cond.selects yX5_here.cls yX5_here yX5_here ∈ GT := ⟨ki_yX5_here, gt_t (tb4 10 rfl) rfl⟩
theorem mx_yX11_type : Mx yX11_type cX11_type 2 (some .int) 1 := ⟨gt_t (tb4 20 rfl) rfl, kz_RX11, by decide, by decide, by decide +kernel⟩
theorem mi_yX11_type : Cond.instanceMethod yX11_type ∈ GT ∧ Cond.selects yX11_type.cls yX11_type yX11_type ∈ GT := ⟨ki_yX11_type, gt_t (tb4 19 rfl) rfl⟩
theorem mx_yX5_append : Mx yX5_append cX5_append 2 none 1 := ⟨gt_t (tb4 24 rfl) rfl, kz_RX5, by decide, by decide, by decide +kernel⟩
theorem mi_yX5_append : Cond.instanceMethod yX5_append ∈ GT ∧ Cond.selects yX5_append.cls yX5_append yX5_append ∈ GT := ⟨ki_yX5_append, gt_t (tb4 23 rfl) rfl⟩
theorem mx_yX11_clear : Mx yX11_clear cX11_clear 2 (some .int) 0 := ⟨gt_t (tb4 28 rfl) rfl, kz_RX11, by decide, by decide, by decide +kernel⟩
theorem mi_yX11_clear : Cond.instanceMethod yX11_clear ∈ GT ∧ Cond.selects yX11_clear.cls yX11_clear yX11_clear ∈ GT := ⟨ki_yX11_clear, gt_t (tb4 27 rfl) rfl⟩
theorem mx_yX11_reads : Mx yX11_reads cX11_reads 3 (some .int) 0 := ⟨gt_t (tb4 32 rfl) rfl, kz_RX11, by decide, by decide, by decide +kernel⟩
theorem mi_yX11_reads : Cond.instanceMethod yX11_reads ∈ GT ∧ Cond.selects yX11_reads.cls yX11_reads yX11_reads ∈ GT := ⟨ki_yX11_reads, gt_t (tb4 31 rfl) rfl⟩
theorem mx_yX2_read : Mx yX2_read cX2_read 2 (some .int) 0 := ⟨gt_t (tb4 36 rfl) rfl, kz_RX2, by decide, by decide, by decide +kernel⟩
theorem mi_yX2_read : Cond.instanceMethod yX2_read ∈ GT ∧ Cond.selects yX2_read.cls yX2_read yX2_read ∈ GT := ⟨ki_yX2_read, gt_t (tb4 35 rfl) rfl⟩
theorem mx_yX2_readOrder : Mx yX2_readOrder cX2_readOrder 3 none 1 := ⟨gt_t (tb4 42 rfl) rfl, kz_RX2, by decide, by decide, by decide +kernel⟩
theorem mi_yX2_readOrder : Cond.instanceMethod yX2_readOrder ∈ GT ∧ Cond.selects yX2_readOrder.cls yX2_readOrder yX2_readOrder ∈ GT := ⟨ki_yX2_readOrder, gt_s (List.mem_append_right _ (List.mem_append_left _ (List.mem_of_getElem? (i := 11) rfl)))⟩
theorem mx_yX2_readTerms : Mx yX2_readTerms cX2_readTerms 7 none 1 := ⟨gt_t (tb4 48 rfl) rfl, kz_RX2, by decide, by decide, by decide +kernel⟩
theorem mi_yX2_readTerms : Cond.instanceMethod yX2_readTerms ∈ GT ∧ Cond.selects yX2_readTerms.cls yX2_readTerms yX2_readTerms ∈ GT := ⟨ki_yX2_readTerms, gt_s (List.mem_append_right _ (List.mem_append_left _ (List.mem_of_getElem? (i := 12) rfl)))⟩
theorem mx_yX2_readSign : Mx yX2_readSign cX2_readSign 3 (some .int) 1 := ⟨gt_t (tb4 52 rfl) rfl, kz_RX2, by decide, by decide, by decide +kernel⟩
theorem mi_yX2_readSign : Cond.instanceMethod yX2_readSign ∈ GT ∧ Cond.selects yX2_readSign.cls yX2_readSign yX2_readSign ∈ GT := ⟨ki_yX2_readSign, gt_s (List.mem_append_right _ (List.mem_append_left _ (List.mem_of_getElem? (i := 13) rfl)))⟩
theorem mx_yX2_readDigit : Mx yX2_readDigit cX2_readDigit 2 (some .int) 0 := ⟨gt_t (tb4 56 rfl) rfl, kz_RX2, by decide, by decide, by decide +kernel⟩
theorem mi_yX2_readDigit : Cond.instanceMethod yX2_readDigit ∈ GT ∧ Cond.selects yX2_readDigit.cls yX2_readDigit yX2_readDigit ∈ GT := ⟨ki_yX2_readDigit, gt_s (List.mem_append_right _ (List.mem_append_left _ (List.mem_of_getElem? (i := 14) rfl)))⟩
theorem mx_yX2_readKind : Mx yX2_readKind cX2_readKind 2 (some .int) 0 := ⟨gt_t (tb4 64 rfl) rfl, kz_RX2, by decide, by decide, by decide +kernel⟩
theorem mi_yX2_readKind : Cond.instanceMethod yX2_readKind ∈ GT ∧ Cond.selects yX2_readKind.cls yX2_readKind yX2_readKind ∈ GT := ⟨ki_yX2_readKind, gt_s (List.mem_append_right _ (List.mem_append_left _ (List.mem_of_getElem? (i := 15) rfl)))⟩
theorem mx_yX2_readRight : Mx yX2_readRight cX2_readRight 3 (some .int) 0 := ⟨gt_t (tb4 69 rfl) rfl, kz_RX2, by decide, by decide, by decide +kernel⟩
theorem mi_yX2_readRight : Cond.instanceMethod yX2_readRight ∈ GT ∧ Cond.selects yX2_readRight.cls yX2_readRight yX2_readRight ∈ GT := ⟨ki_yX2_readRight, gt_s (List.mem_append_right _ (List.mem_append_right _ (List.mem_append_left _ (List.mem_of_getElem? (i := 0) rfl))))⟩
theorem mx_yX2_get : Mx yX2_get cX2_get 3 (some .int) 2 := ⟨gt_t (tb4 75 rfl) rfl, kz_RX2, by decide, by decide, by decide +kernel⟩
theorem mi_yX2_get : Cond.instanceMethod yX2_get ∈ GT ∧ Cond.selects yX2_get.cls yX2_get yX2_get ∈ GT := ⟨ki_yX2_get, gt_t (tb4 74 rfl) rfl⟩
theorem mx_yX11_shown : Mx yX11_shown cX11_shown 3 (some .int) 2 := ⟨gt_t (tb4 79 rfl) rfl, kz_RX11, by decide, by decide, by decide +kernel⟩
theorem mi_yX11_shown : Cond.instanceMethod yX11_shown ∈ GT ∧ Cond.selects yX11_shown.cls yX11_shown yX11_shown ∈ GT := ⟨ki_yX11_shown, gt_t (tb4 78 rfl) rfl⟩
theorem mx_yX10_write : Mx yX10_write cX10_write 3 none 1 := ⟨gt_t (tb4 83 rfl) rfl, kz_RX10, by decide, by decide, by decide +kernel⟩
theorem mi_yX10_write : Cond.instanceMethod yX10_write ∈ GT ∧ Cond.selects yX10_write.cls yX10_write yX10_write ∈ GT := ⟨ki_yX10_write, gt_t (tb4 82 rfl) rfl⟩
theorem mx_yX10_writeTerm : Mx yX10_writeTerm cX10_writeTerm 3 none 2 := ⟨gt_t (tb4 88 rfl) rfl, kz_RX10, by decide, by decide, by decide +kernel⟩
theorem mi_yX10_writeTerm : Cond.instanceMethod yX10_writeTerm ∈ GT ∧ Cond.selects yX10_writeTerm.cls yX10_writeTerm yX10_writeTerm ∈ GT := ⟨ki_yX10_writeTerm, gt_s (List.mem_append_right _ (List.mem_append_right _ (List.mem_append_left _ (List.mem_of_getElem? (i := 1) rfl))))⟩
theorem mx_yX10_put : Mx yX10_put cX10_put 2 none 1 := ⟨gt_t (tb4 92 rfl) rfl, kz_RX10, by decide, by decide, by decide +kernel⟩
theorem mi_yX10_put : Cond.instanceMethod yX10_put ∈ GT ∧ Cond.selects yX10_put.cls yX10_put yX10_put ∈ GT := ⟨ki_yX10_put, gt_s (List.mem_append_right _ (List.mem_append_right _ (List.mem_append_left _ (List.mem_of_getElem? (i := 2) rfl))))⟩
theorem mx_yJ9_abs_0f7a4 : Mx yJ9_abs_0f7a4 cJ9_abs_0f7a4 1 (some .int) 1 := ⟨gt_t (tb4 95 rfl) rfl, kz_RJ9, by decide, by decide, by decide +kernel⟩
theorem mx_yX10_writeKind : Mx yX10_writeKind cX10_writeKind 2 none 1 := ⟨gt_t (tb4 99 rfl) rfl, kz_RX10, by decide, by decide, by decide +kernel⟩
theorem mi_yX10_writeKind : Cond.instanceMethod yX10_writeKind ∈ GT ∧ Cond.selects yX10_writeKind.cls yX10_writeKind yX10_writeKind ∈ GT := ⟨ki_yX10_writeKind, gt_s (List.mem_append_right _ (List.mem_append_right _ (List.mem_append_left _ (List.mem_of_getElem? (i := 3) rfl))))⟩
theorem mx_yX10_writeRight : Mx yX10_writeRight cX10_writeRight 3 none 1 := ⟨gt_t (tb4 103 rfl) rfl, kz_RX10, by decide, by decide, by decide +kernel⟩
theorem mi_yX10_writeRight : Cond.instanceMethod yX10_writeRight ∈ GT ∧ Cond.selects yX10_writeRight.cls yX10_writeRight yX10_writeRight ∈ GT := ⟨ki_yX10_writeRight, gt_s (List.mem_append_right _ (List.mem_append_right _ (List.mem_append_left _ (List.mem_of_getElem? (i := 4) rfl))))⟩
theorem mx_yX10_byteAt : Mx yX10_byteAt cX10_byteAt 2 (some .int) 1 := ⟨gt_t (tb4 107 rfl) rfl, kz_RX10, by decide, by decide, by decide +kernel⟩
theorem mi_yX10_byteAt : Cond.instanceMethod yX10_byteAt ∈ GT ∧ Cond.selects yX10_byteAt.cls yX10_byteAt yX10_byteAt ∈ GT := ⟨ki_yX10_byteAt, gt_t (tb4 106 rfl) rfl⟩
theorem mx_yX11_back : Mx yX11_back cX11_back 1 (some .int) 0 := ⟨gt_t (tb4 112 rfl) rfl, kz_RX11, by decide, by decide, by decide +kernel⟩
theorem mi_yX11_back : Cond.instanceMethod yX11_back ∈ GT ∧ Cond.selects yX11_back.cls yX11_back yX11_back ∈ GT := ⟨ki_yX11_back, gt_t (tb4 111 rfl) rfl⟩
theorem mx_yX0_restore : Mx yX0_restore cX0_restore 1 none 0 := ⟨gt_t (tb4 116 rfl) rfl, kz_RX0, by decide, by decide, by decide +kernel⟩
theorem mi_yX0_restore : Cond.instanceMethod yX0_restore ∈ GT ∧ Cond.selects yX0_restore.cls yX0_restore yX0_restore ∈ GT := ⟨ki_yX0_restore, gt_t (tb4 115 rfl) rfl⟩
theorem mx_yX11_told : Mx yX11_told cX11_told 2 (some .int) 1 := ⟨gt_t (tb4 120 rfl) rfl, kz_RX11, by decide, by decide, by decide +kernel⟩
theorem mi_yX11_told : Cond.instanceMethod yX11_told ∈ GT ∧ Cond.selects yX11_told.cls yX11_told yX11_told ∈ GT := ⟨ki_yX11_told, gt_t (tb4 119 rfl) rfl⟩
theorem mx_yX11_countOf : Mx yX11_countOf cX11_countOf 2 (some .int) 1 := ⟨gt_t (tb4 124 rfl) rfl, kz_RX11, by decide, by decide, by decide +kernel⟩
theorem mi_yX11_countOf : Cond.instanceMethod yX11_countOf ∈ GT ∧ Cond.selects yX11_countOf.cls yX11_countOf yX11_countOf ∈ GT := ⟨ki_yX11_countOf, gt_s (List.mem_append_right _ (List.mem_append_right _ (List.mem_append_left _ (List.mem_of_getElem? (i := 5) rfl))))⟩
theorem mx_yX11_digest : Mx yX11_digest cX11_digest 5 (some .long) 0 := ⟨gt_t (tb4 128 rfl) rfl, kz_RX11, by decide, by decide, by decide +kernel⟩
theorem mi_yX11_digest : Cond.instanceMethod yX11_digest ∈ GT ∧ Cond.selects yX11_digest.cls yX11_digest yX11_digest ∈ GT := ⟨ki_yX11_digest, gt_t (tb4 127 rfl) rfl⟩
theorem mx_yX11_digestSolution : Mx yX11_digestSolution cX11_digestSolution 6 (some .long) 1 := ⟨gt_t (tb4 134 rfl) rfl, kz_RX11, by decide, by decide, by decide +kernel⟩
theorem mi_yX11_digestSolution : Cond.instanceMethod yX11_digestSolution ∈ GT ∧ Cond.selects yX11_digestSolution.cls yX11_digestSolution yX11_digestSolution ∈ GT := ⟨ki_yX11_digestSolution, gt_s (List.mem_append_right _ (List.mem_append_right _ (List.mem_append_left _ (List.mem_of_getElem? (i := 6) rfl))))⟩
theorem mx_yX11_digestWeights : Mx yX11_digestWeights cX11_digestWeights 6 (some .long) 1 := ⟨gt_t (tb4 138 rfl) rfl, kz_RX11, by decide, by decide, by decide +kernel⟩
theorem mi_yX11_digestWeights : Cond.instanceMethod yX11_digestWeights ∈ GT ∧ Cond.selects yX11_digestWeights.cls yX11_digestWeights yX11_digestWeights ∈ GT := ⟨ki_yX11_digestWeights, gt_s (List.mem_append_right _ (List.mem_append_right _ (List.mem_append_left _ (List.mem_of_getElem? (i := 7) rfl))))⟩
theorem mx_yX12_init : Mx yX12_init cX12_init 1 none 0 := ⟨gt_t (tb4 143 rfl) rfl, kz_RX12, by decide, by decide, by decide +kernel⟩
theorem mx_yX12_row : Mx yX12_row cX12_row 7 (some .int) 6 := ⟨gt_t (tb5 27 rfl) rfl, kz_RX12, by decide, by decide, by decide +kernel⟩
theorem mi_yX12_row : Cond.instanceMethod yX12_row ∈ GT ∧ Cond.selects yX12_row.cls yX12_row yX12_row ∈ GT := ⟨ki_yX12_row, gt_t (tb5 26 rfl) rfl⟩
theorem mx_yX12_isNumber : Mx yX12_isNumber cX12_isNumber 1 (some .boolean) 1 := ⟨gt_t (tb5 30 rfl) rfl, kz_RX12, by decide, by decide, by decide +kernel⟩
theorem mx_yX12_in : Mx yX12_in cX12_in 6 (some .boolean) 3 := ⟨gt_t (tb5 35 rfl) rfl, kz_RX12, by decide, by decide, by decide +kernel⟩
theorem mx_yX12_refuses : Mx yX12_refuses cX12_refuses 2 (some .int) 1 := ⟨gt_t (tb5 43 rfl) rfl, kz_RX12, by decide, by decide, by decide +kernel⟩
theorem mi_yX12_refuses : Cond.instanceMethod yX12_refuses ∈ GT ∧ Cond.selects yX12_refuses.cls yX12_refuses yX12_refuses ∈ GT := ⟨ki_yX12_refuses, gt_s (List.mem_append_right _ (List.mem_append_right _ (List.mem_append_left _ (List.mem_of_getElem? (i := 8) rfl))))⟩
theorem mx_yX12_keep : Mx yX12_keep cX12_keep 2 none 0 := ⟨gt_t (tb5 48 rfl) rfl, kz_RX12, by decide, by decide, by decide +kernel⟩
theorem mi_yX12_keep : Cond.instanceMethod yX12_keep ∈ GT ∧ Cond.selects yX12_keep.cls yX12_keep yX12_keep ∈ GT := ⟨ki_yX12_keep, gt_s (List.mem_append_right _ (List.mem_append_right _ (List.mem_append_left _ (List.mem_of_getElem? (i := 9) rfl))))⟩
theorem mx_yX12_rowNow : Mx yX12_rowNow cX12_rowNow 8 (some .int) 6 := ⟨gt_t (tb5 52 rfl) rfl, kz_RX12, by decide, by decide, by decide +kernel⟩
theorem mi_yX12_rowNow : Cond.instanceMethod yX12_rowNow ∈ GT ∧ Cond.selects yX12_rowNow.cls yX12_rowNow yX12_rowNow ∈ GT := ⟨ki_yX12_rowNow, gt_s (List.mem_append_right _ (List.mem_append_right _ (List.mem_append_left _ (List.mem_of_getElem? (i := 10) rfl))))⟩
theorem mx_yX12_drops : Mx yX12_drops cX12_drops 3 (some .int) 1 := ⟨gt_t (tb5 56 rfl) rfl, kz_RX12, by decide, by decide, by decide +kernel⟩
theorem mi_yX12_drops : Cond.instanceMethod yX12_drops ∈ GT ∧ Cond.selects yX12_drops.cls yX12_drops yX12_drops ∈ GT := ⟨ki_yX12_drops, gt_t (tb5 55 rfl) rfl⟩
theorem mx_yX12_isRow : Mx yX12_isRow cX12_isRow 2 (some .boolean) 1 := ⟨gt_t (tb5 60 rfl) rfl, kz_RX12, by decide, by decide, by decide +kernel⟩
theorem mi_yX12_isRow : Cond.instanceMethod yX12_isRow ∈ GT ∧ Cond.selects yX12_isRow.cls yX12_isRow yX12_isRow ∈ GT := ⟨ki_yX12_isRow, gt_s (List.mem_append_right _ (List.mem_append_right _ (List.mem_append_left _ (List.mem_of_getElem? (i := 11) rfl))))⟩
theorem mx_yX12_sets : Mx yX12_sets cX12_sets 6 (some .int) 3 := ⟨gt_t (tb5 64 rfl) rfl, kz_RX12, by decide, by decide, by decide +kernel⟩
theorem mi_yX12_sets : Cond.instanceMethod yX12_sets ∈ GT ∧ Cond.selects yX12_sets.cls yX12_sets yX12_sets ∈ GT := ⟨ki_yX12_sets, gt_t (tb5 63 rfl) rfl⟩
theorem mx_yX12_at : Mx yX12_at cX12_at 3 (some .int) 2 := ⟨gt_t (tb5 68 rfl) rfl, kz_RX12, by decide, by decide, by decide +kernel⟩
theorem mi_yX12_at : Cond.instanceMethod yX12_at ∈ GT ∧ Cond.selects yX12_at.cls yX12_at yX12_at ∈ GT := ⟨ki_yX12_at, gt_s (List.mem_append_right _ (List.mem_append_right _ (List.mem_append_left _ (List.mem_of_getElem? (i := 12) rfl))))⟩
theorem mx_yX12_of : Mx yX12_of cX12_of 3 (some .int) 2 := ⟨gt_t (tb5 72 rfl) rfl, kz_RX12, by decide, by decide, by decide +kernel⟩
theorem mi_yX12_of : Cond.instanceMethod yX12_of ∈ GT ∧ Cond.selects yX12_of.cls yX12_of yX12_of ∈ GT := ⟨ki_yX12_of, gt_t (tb5 71 rfl) rfl⟩
theorem mx_yX12_can : Mx yX12_can cX12_can 2 (some .int) 1 := ⟨gt_t (tb5 76 rfl) rfl, kz_RX12, by decide, by decide, by decide +kernel⟩
theorem mi_yX12_can : Cond.instanceMethod yX12_can ∈ GT ∧ Cond.selects yX12_can.cls yX12_can yX12_can ∈ GT := ⟨ki_yX12_can, gt_t (tb5 75 rfl) rfl⟩
theorem mx_yX12_isSet : Mx yX12_isSet cX12_isSet 2 (some .boolean) 1 := ⟨gt_t (tb5 80 rfl) rfl, kz_RX12, by decide, by decide, by decide +kernel⟩
theorem mi_yX12_isSet : Cond.instanceMethod yX12_isSet ∈ GT ∧ Cond.selects yX12_isSet.cls yX12_isSet yX12_isSet ∈ GT := ⟨ki_yX12_isSet, gt_s (List.mem_append_right _ (List.mem_append_right _ (List.mem_append_left _ (List.mem_of_getElem? (i := 13) rfl))))⟩
theorem mx_yX12_every : Mx yX12_every cX12_every 1 (some .int) 0 := ⟨gt_t (tb5 84 rfl) rfl, kz_RX12, by decide, by decide, by decide +kernel⟩
theorem mi_yX12_every : Cond.instanceMethod yX12_every ∈ GT ∧ Cond.selects yX12_every.cls yX12_every yX12_every ∈ GT := ⟨ki_yX12_every, gt_s (List.mem_append_right _ (List.mem_append_right _ (List.mem_append_left _ (List.mem_of_getElem? (i := 14) rfl))))⟩
theorem mx_yX12_canSet : Mx yX12_canSet cX12_canSet 2 (some .boolean) 1 := ⟨gt_t (tb5 88 rfl) rfl, kz_RX12, by decide, by decide, by decide +kernel⟩
theorem mi_yX12_canSet : Cond.instanceMethod yX12_canSet ∈ GT ∧ Cond.selects yX12_canSet.cls yX12_canSet yX12_canSet ∈ GT := ⟨ki_yX12_canSet, gt_s (List.mem_append_right _ (List.mem_append_right _ (List.mem_append_left _ (List.mem_of_getElem? (i := 15) rfl))))⟩
theorem mx_yX12_laysSet : Mx yX12_laysSet cX12_laysSet 3 none 1 := ⟨gt_t (tb5 92 rfl) rfl, kz_RX12, by decide, by decide, by decide +kernel⟩
theorem mi_yX12_laysSet : Cond.instanceMethod yX12_laysSet ∈ GT ∧ Cond.selects yX12_laysSet.cls yX12_laysSet yX12_laysSet ∈ GT := ⟨ki_yX12_laysSet, gt_s (List.mem_append_right _ (List.mem_append_right _ (List.mem_append_right _ (List.mem_append_left _ (List.mem_of_getElem? (i := 0) rfl)))))⟩
theorem mx_yX12_has : Mx yX12_has cX12_has 2 (some .boolean) 2 := ⟨gt_t (tb5 95 rfl) rfl, kz_RX12, by decide, by decide, by decide +kernel⟩
theorem mx_yX12_laysRow : Mx yX12_laysRow cX12_laysRow 3 none 2 := ⟨gt_t (tb5 99 rfl) rfl, kz_RX12, by decide, by decide, by decide +kernel⟩
theorem mi_yX12_laysRow : Cond.instanceMethod yX12_laysRow ∈ GT ∧ Cond.selects yX12_laysRow.cls yX12_laysRow yX12_laysRow ∈ GT := ⟨ki_yX12_laysRow, gt_s (List.mem_append_right _ (List.mem_append_right _ (List.mem_append_right _ (List.mem_append_left _ (List.mem_of_getElem? (i := 1) rfl)))))⟩
theorem mx_yX12_laysSum : Mx yX12_laysSum cX12_laysSum 10 none 5 := ⟨gt_t (tb5 103 rfl) rfl, kz_RX12, by decide, by decide, by decide +kernel⟩
theorem mi_yX12_laysSum : Cond.instanceMethod yX12_laysSum ∈ GT ∧ Cond.selects yX12_laysSum.cls yX12_laysSum yX12_laysSum ∈ GT := ⟨ki_yX12_laysSum, gt_s (List.mem_append_right _ (List.mem_append_right _ (List.mem_append_right _ (List.mem_append_left _ (List.mem_of_getElem? (i := 2) rfl)))))⟩
theorem mx_yX12_lays : Mx yX12_lays cX12_lays 11 none 5 := ⟨gt_t (tb5 107 rfl) rfl, kz_RX12, by decide, by decide, by decide +kernel⟩
theorem mi_yX12_lays : Cond.instanceMethod yX12_lays ∈ GT ∧ Cond.selects yX12_lays.cls yX12_lays yX12_lays ∈ GT := ⟨ki_yX12_lays, gt_s (List.mem_append_right _ (List.mem_append_right _ (List.mem_append_right _ (List.mem_append_left _ (List.mem_of_getElem? (i := 3) rfl)))))⟩
theorem mx_yX12_canLaid : Mx yX12_canLaid cX12_canLaid 1 (some .boolean) 0 := ⟨gt_t (tb5 111 rfl) rfl, kz_RX12, by decide, by decide, by decide +kernel⟩
theorem mi_yX12_canLaid : Cond.instanceMethod yX12_canLaid ∈ GT ∧ Cond.selects yX12_canLaid.cls yX12_canLaid yX12_canLaid ∈ GT := ⟨ki_yX12_canLaid, gt_s (List.mem_append_right _ (List.mem_append_right _ (List.mem_append_right _ (List.mem_append_left _ (List.mem_of_getElem? (i := 4) rfl)))))⟩
theorem mx_yX12_solves : Mx yX12_solves cX12_solves 10 none 1 := ⟨gt_t (tb5 115 rfl) rfl, kz_RX12, by decide, by decide, by decide +kernel⟩
theorem mi_yX12_solves : Cond.instanceMethod yX12_solves ∈ GT ∧ Cond.selects yX12_solves.cls yX12_solves yX12_solves ∈ GT := ⟨ki_yX12_solves, gt_s (List.mem_append_right _ (List.mem_append_right _ (List.mem_append_right _ (List.mem_append_left _ (List.mem_of_getElem? (i := 5) rfl)))))⟩
theorem mx_yX12_loses : Mx yX12_loses cX12_loses 12 none 3 := ⟨gt_t (tb5 119 rfl) rfl, kz_RX12, by decide, by decide, by decide +kernel⟩
theorem mi_yX12_loses : Cond.instanceMethod yX12_loses ∈ GT ∧ Cond.selects yX12_loses.cls yX12_loses yX12_loses ∈ GT := ⟨ki_yX12_loses, gt_s (List.mem_append_right _ (List.mem_append_right _ (List.mem_append_right _ (List.mem_append_left _ (List.mem_of_getElem? (i := 6) rfl)))))⟩
theorem mx_yX12_stages : Mx yX12_stages cX12_stages 9 none 4 := ⟨gt_t (tb5 123 rfl) rfl, kz_RX12, by decide, by decide, by decide +kernel⟩
theorem mi_yX12_stages : Cond.instanceMethod yX12_stages ∈ GT ∧ Cond.selects yX12_stages.cls yX12_stages yX12_stages ∈ GT := ⟨ki_yX12_stages, gt_s (List.mem_append_right _ (List.mem_append_right _ (List.mem_append_right _ (List.mem_append_left _ (List.mem_of_getElem? (i := 7) rfl)))))⟩
theorem mx_yX12_takes : Mx yX12_takes cX12_takes 8 none 3 := ⟨gt_t (tb5 127 rfl) rfl, kz_RX12, by decide, by decide, by decide +kernel⟩
theorem mi_yX12_takes : Cond.instanceMethod yX12_takes ∈ GT ∧ Cond.selects yX12_takes.cls yX12_takes yX12_takes ∈ GT := ⟨ki_yX12_takes, gt_s (List.mem_append_right _ (List.mem_append_right _ (List.mem_append_right _ (List.mem_append_left _ (List.mem_of_getElem? (i := 8) rfl)))))⟩
theorem mx_yX12_dimension : Mx yX12_dimension cX12_dimension 2 (some .int) 1 := ⟨gt_t (tb5 132 rfl) rfl, kz_RX12, by decide, by decide, by decide +kernel⟩
theorem mi_yX12_dimension : Cond.instanceMethod yX12_dimension ∈ GT ∧ Cond.selects yX12_dimension.cls yX12_dimension yX12_dimension ∈ GT := ⟨ki_yX12_dimension, gt_t (tb5 131 rfl) rfl⟩
theorem mx_yX12_dimensionOf : Mx yX12_dimensionOf cX12_dimensionOf 2 (some .int) 1 := ⟨gt_t (tb5 136 rfl) rfl, kz_RX12, by decide, by decide, by decide +kernel⟩
theorem mi_yX12_dimensionOf : Cond.instanceMethod yX12_dimensionOf ∈ GT ∧ Cond.selects yX12_dimensionOf.cls yX12_dimensionOf yX12_dimensionOf ∈ GT := ⟨ki_yX12_dimensionOf, gt_s (List.mem_append_right _ (List.mem_append_right _ (List.mem_append_right _ (List.mem_append_left _ (List.mem_of_getElem? (i := 9) rfl)))))⟩
theorem mx_yX12_fixed : Mx yX12_fixed cX12_fixed 4 (some .int) 1 := ⟨gt_t (tb5 140 rfl) rfl, kz_RX12, by decide, by decide, by decide +kernel⟩
theorem mi_yX12_fixed : Cond.instanceMethod yX12_fixed ∈ GT ∧ Cond.selects yX12_fixed.cls yX12_fixed yX12_fixed ∈ GT := ⟨ki_yX12_fixed, gt_s (List.mem_append_right _ (List.mem_append_right _ (List.mem_append_right _ (List.mem_append_left _ (List.mem_of_getElem? (i := 10) rfl)))))⟩
theorem mx_yX12_rank : Mx yX12_rank cX12_rank 6 (some .int) 1 := ⟨gt_t (tb5 144 rfl) rfl, kz_RX12, by decide, by decide, by decide +kernel⟩
theorem mi_yX12_rank : Cond.instanceMethod yX12_rank ∈ GT ∧ Cond.selects yX12_rank.cls yX12_rank yX12_rank ∈ GT := ⟨ki_yX12_rank, gt_s (List.mem_append_right _ (List.mem_append_right _ (List.mem_append_right _ (List.mem_append_left _ (List.mem_of_getElem? (i := 11) rfl)))))⟩
theorem mx_yX12_rankWith : Mx yX12_rankWith cX12_rankWith 11 (some .int) 2 := ⟨gt_t (tb5 148 rfl) rfl, kz_RX12, by decide, by decide, by decide +kernel⟩
theorem mi_yX12_rankWith : Cond.instanceMethod yX12_rankWith ∈ GT ∧ Cond.selects yX12_rankWith.cls yX12_rankWith yX12_rankWith ∈ GT := ⟨ki_yX12_rankWith, gt_s (List.mem_append_right _ (List.mem_append_right _ (List.mem_append_right _ (List.mem_append_left _ (List.mem_of_getElem? (i := 12) rfl)))))⟩
theorem mx_yX12_bound : Mx yX12_bound cX12_bound 12 (some .long) 4 := ⟨gt_t (tb5 153 rfl) rfl, kz_RX12, by decide, by decide, by decide +kernel⟩
theorem mi_yX12_bound : Cond.instanceMethod yX12_bound ∈ GT ∧ Cond.selects yX12_bound.cls yX12_bound yX12_bound ∈ GT := ⟨ki_yX12_bound, gt_t (tb5 152 rfl) rfl⟩
theorem mx_yX12_divisor : Mx yX12_divisor cX12_divisor 10 (some .long) 2 := ⟨gt_t (tb5 157 rfl) rfl, kz_RX12, by decide, by decide, by decide +kernel⟩
theorem mx_yX12_size : Mx yX12_size cX12_size 2 (some .long) 1 := ⟨gt_t (tb5 160 rfl) rfl, kz_RX12, by decide, by decide, by decide +kernel⟩
theorem mx_yX12_brings : Mx yX12_brings cX12_brings 3 (some .int) 2 := ⟨gt_t (tb5 164 rfl) rfl, kz_RX12, by decide, by decide, by decide +kernel⟩
theorem mi_yX12_brings : Cond.instanceMethod yX12_brings ∈ GT ∧ Cond.selects yX12_brings.cls yX12_brings yX12_brings ∈ GT := ⟨ki_yX12_brings, gt_t (tb5 163 rfl) rfl⟩
theorem mx_yX12_bringsRow : Mx yX12_bringsRow cX12_bringsRow 5 (some .boolean) 2 := ⟨gt_t (tb5 168 rfl) rfl, kz_RX12, by decide, by decide, by decide +kernel⟩
theorem mi_yX12_bringsRow : Cond.instanceMethod yX12_bringsRow ∈ GT ∧ Cond.selects yX12_bringsRow.cls yX12_bringsRow yX12_bringsRow ∈ GT := ⟨ki_yX12_bringsRow, gt_s (List.mem_append_right _ (List.mem_append_right _ (List.mem_append_right _ (List.mem_append_left _ (List.mem_of_getElem? (i := 13) rfl)))))⟩
theorem mx_yX12_canNot : Mx yX12_canNot cX12_canNot 5 (some .boolean) 4 := ⟨gt_t (tb5 172 rfl) rfl, kz_RX12, by decide, by decide, by decide +kernel⟩
theorem mi_yX12_canNot : Cond.instanceMethod yX12_canNot ∈ GT ∧ Cond.selects yX12_canNot.cls yX12_canNot yX12_canNot ∈ GT := ⟨ki_yX12_canNot, gt_s (List.mem_append_right _ (List.mem_append_right _ (List.mem_append_right _ (List.mem_append_left _ (List.mem_of_getElem? (i := 14) rfl)))))⟩
theorem mx_yX12_spare : Mx yX12_spare cX12_spare 4 (some .int) 1 := ⟨gt_t (tb5 176 rfl) rfl, kz_RX12, by decide, by decide, by decide +kernel⟩
theorem mi_yX12_spare : Cond.instanceMethod yX12_spare ∈ GT ∧ Cond.selects yX12_spare.cls yX12_spare yX12_spare ∈ GT := ⟨ki_yX12_spare, gt_t (tb5 175 rfl) rfl⟩
theorem mx_yX12_same : Mx yX12_same cX12_same 3 (some .int) 2 := ⟨gt_t (tb5 180 rfl) rfl, kz_RX12, by decide, by decide, by decide +kernel⟩
theorem mi_yX12_same : Cond.instanceMethod yX12_same ∈ GT ∧ Cond.selects yX12_same.cls yX12_same yX12_same ∈ GT := ⟨ki_yX12_same, gt_t (tb5 179 rfl) rfl⟩
theorem mx_yX12_bringsAll : Mx yX12_bringsAll cX12_bringsAll 5 (some .boolean) 2 := ⟨gt_t (tb5 184 rfl) rfl, kz_RX12, by decide, by decide, by decide +kernel⟩
theorem mi_yX12_bringsAll : Cond.instanceMethod yX12_bringsAll ∈ GT ∧ Cond.selects yX12_bringsAll.cls yX12_bringsAll yX12_bringsAll ∈ GT := ⟨ki_yX12_bringsAll, gt_s (List.mem_append_right _ (List.mem_append_right _ (List.mem_append_right _ (List.mem_append_left _ (List.mem_of_getElem? (i := 15) rfl)))))⟩
theorem mx_yX12_point : Mx yX12_point cX12_point 4 (some .long) 3 := ⟨gt_t (tb5 188 rfl) rfl, kz_RX12, by decide, by decide, by decide +kernel⟩
theorem mi_yX12_point : Cond.instanceMethod yX12_point ∈ GT ∧ Cond.selects yX12_point.cls yX12_point yX12_point ∈ GT := ⟨ki_yX12_point, gt_t (tb5 187 rfl) rfl⟩
theorem mx_yX12_findsPoint : Mx yX12_findsPoint cX12_findsPoint 5 none 1 := ⟨gt_t (tb5 192 rfl) rfl, kz_RX12, by decide, by decide, by decide +kernel⟩
theorem mi_yX12_findsPoint : Cond.instanceMethod yX12_findsPoint ∈ GT ∧ Cond.selects yX12_findsPoint.cls yX12_findsPoint yX12_findsPoint ∈ GT := ⟨ki_yX12_findsPoint, gt_s (List.mem_append_right _ (List.mem_append_right _ (List.mem_append_right _ (List.mem_append_right _ (List.mem_append_left _ (List.mem_of_getElem? (i := 0) rfl))))))⟩
theorem mx_yX12_laysWith : Mx yX12_laysWith cX12_laysWith 18 (some .long) 2 := ⟨gt_t (tb5 196 rfl) rfl, kz_RX12, by decide, by decide, by decide +kernel⟩
theorem mi_yX12_laysWith : Cond.instanceMethod yX12_laysWith ∈ GT ∧ Cond.selects yX12_laysWith.cls yX12_laysWith yX12_laysWith ∈ GT := ⟨ki_yX12_laysWith, gt_s (List.mem_append_right _ (List.mem_append_right _ (List.mem_append_right _ (List.mem_append_right _ (List.mem_append_left _ (List.mem_of_getElem? (i := 1) rfl))))))⟩
theorem mx_yX12_chooses : Mx yX12_chooses cX12_chooses 15 none 1 := ⟨gt_t (tb5 200 rfl) rfl, kz_RX12, by decide, by decide, by decide +kernel⟩
theorem mi_yX12_chooses : Cond.instanceMethod yX12_chooses ∈ GT ∧ Cond.selects yX12_chooses.cls yX12_chooses yX12_chooses ∈ GT := ⟨ki_yX12_chooses, gt_s (List.mem_append_right _ (List.mem_append_right _ (List.mem_append_right _ (List.mem_append_right _ (List.mem_append_left _ (List.mem_of_getElem? (i := 2) rfl))))))⟩
theorem mx_yX12_choosesBetween : Mx yX12_choosesBetween cX12_choosesBetween 9 none 4 := ⟨gt_t (tb5 204 rfl) rfl, kz_RX12, by decide, by decide, by decide +kernel⟩
theorem mi_yX12_choosesBetween : Cond.instanceMethod yX12_choosesBetween ∈ GT ∧ Cond.selects yX12_choosesBetween.cls yX12_choosesBetween yX12_choosesBetween ∈ GT := ⟨ki_yX12_choosesBetween, gt_s (List.mem_append_right _ (List.mem_append_right _ (List.mem_append_right _ (List.mem_append_right _ (List.mem_append_left _ (List.mem_of_getElem? (i := 3) rfl))))))⟩
theorem mx_yX12_between : Mx yX12_between cX12_between 24 none 4 := ⟨gt_t (tb5 208 rfl) rfl, kz_RX12, by decide, by decide, by decide +kernel⟩
theorem mi_yX12_between : Cond.instanceMethod yX12_between ∈ GT ∧ Cond.selects yX12_between.cls yX12_between yX12_between ∈ GT := ⟨ki_yX12_between, gt_s (List.mem_append_right _ (List.mem_append_right _ (List.mem_append_right _ (List.mem_append_right _ (List.mem_append_left _ (List.mem_of_getElem? (i := 4) rfl))))))⟩
theorem mx_yX12_floor : Mx yX12_floor cX12_floor 6 (some .long) 2 := ⟨gt_t (tb5 211 rfl) rfl, kz_RX12, by decide, by decide, by decide +kernel⟩
theorem mx_yX12_core : Mx yX12_core cX12_core 2 (some .int) 1 := ⟨gt_t (tb5 215 rfl) rfl, kz_RX12, by decide, by decide, by decide +kernel⟩
theorem mi_yX12_core : Cond.instanceMethod yX12_core ∈ GT ∧ Cond.selects yX12_core.cls yX12_core yX12_core ∈ GT := ⟨ki_yX12_core, gt_t (tb5 214 rfl) rfl⟩
theorem mx_yX12_coreOf : Mx yX12_coreOf cX12_coreOf 4 (some .int) 1 := ⟨gt_t (tb5 219 rfl) rfl, kz_RX12, by decide, by decide, by decide +kernel⟩
theorem mi_yX12_coreOf : Cond.instanceMethod yX12_coreOf ∈ GT ∧ Cond.selects yX12_coreOf.cls yX12_coreOf yX12_coreOf ∈ GT := ⟨ki_yX12_coreOf, gt_s (List.mem_append_right _ (List.mem_append_right _ (List.mem_append_right _ (List.mem_append_right _ (List.mem_append_left _ (List.mem_of_getElem? (i := 5) rfl))))))⟩
theorem mx_yX12_times : Mx yX12_times cX12_times 3 (some .int) 2 := ⟨gt_t (tb5 223 rfl) rfl, kz_RX12, by decide, by decide, by decide +kernel⟩
theorem mi_yX12_times : Cond.instanceMethod yX12_times ∈ GT ∧ Cond.selects yX12_times.cls yX12_times yX12_times ∈ GT := ⟨ki_yX12_times, gt_t (tb5 222 rfl) rfl⟩
theorem mx_yX12_timesOf : Mx yX12_timesOf cX12_timesOf 5 (some .int) 2 := ⟨gt_t (tb5 227 rfl) rfl, kz_RX12, by decide, by decide, by decide +kernel⟩
theorem mi_yX12_timesOf : Cond.instanceMethod yX12_timesOf ∈ GT ∧ Cond.selects yX12_timesOf.cls yX12_timesOf yX12_timesOf ∈ GT := ⟨ki_yX12_timesOf, gt_s (List.mem_append_right _ (List.mem_append_right _ (List.mem_append_right _ (List.mem_append_right _ (List.mem_append_left _ (List.mem_of_getElem? (i := 6) rfl))))))⟩
theorem mx_yX12_findsTimes : Mx yX12_findsTimes cX12_findsTimes 10 none 1 := ⟨gt_t (tb5 231 rfl) rfl, kz_RX12, by decide, by decide, by decide +kernel⟩
theorem mi_yX12_findsTimes : Cond.instanceMethod yX12_findsTimes ∈ GT ∧ Cond.selects yX12_findsTimes.cls yX12_findsTimes yX12_findsTimes ∈ GT := ⟨ki_yX12_findsTimes, gt_s (List.mem_append_right _ (List.mem_append_right _ (List.mem_append_right _ (List.mem_append_right _ (List.mem_append_left _ (List.mem_of_getElem? (i := 7) rfl))))))⟩
theorem mx_yX12_takesSome : Mx yX12_takesSome cX12_takesSome 2 none 0 := ⟨gt_t (tb5 235 rfl) rfl, kz_RX12, by decide, by decide, by decide +kernel⟩
theorem mi_yX12_takesSome : Cond.instanceMethod yX12_takesSome ∈ GT ∧ Cond.selects yX12_takesSome.cls yX12_takesSome yX12_takesSome ∈ GT := ⟨ki_yX12_takesSome, gt_s (List.mem_append_right _ (List.mem_append_right _ (List.mem_append_right _ (List.mem_append_right _ (List.mem_append_left _ (List.mem_of_getElem? (i := 8) rfl))))))⟩
theorem mx_yX12_number : Mx yX12_number cX12_number 3 (some .long) 2 := ⟨gt_t (tb5 239 rfl) rfl, kz_RX12, by decide, by decide, by decide +kernel⟩
theorem mi_yX12_number : Cond.instanceMethod yX12_number ∈ GT ∧ Cond.selects yX12_number.cls yX12_number yX12_number ∈ GT := ⟨ki_yX12_number, gt_s (List.mem_append_right _ (List.mem_append_right _ (List.mem_append_right _ (List.mem_append_right _ (List.mem_append_left _ (List.mem_of_getElem? (i := 9) rfl))))))⟩
theorem mx_yX12_takesThree : Mx yX12_takesThree cX12_takesThree 6 (some .boolean) 2 := ⟨gt_t (tb6 3 rfl) rfl, kz_RX12, by decide, by decide, by decide +kernel⟩
theorem mi_yX12_takesThree : Cond.instanceMethod yX12_takesThree ∈ GT ∧ Cond.selects yX12_takesThree.cls yX12_takesThree yX12_takesThree ∈ GT := ⟨ki_yX12_takesThree, gt_s (List.mem_append_right _ (List.mem_append_right _ (List.mem_append_right _ (List.mem_append_right _ (List.mem_append_left _ (List.mem_of_getElem? (i := 10) rfl))))))⟩
theorem mx_yX12_minor : Mx yX12_minor cX12_minor 10 (some .long) 3 := ⟨gt_t (tb6 7 rfl) rfl, kz_RX12, by decide, by decide, by decide +kernel⟩
theorem mi_yX12_minor : Cond.instanceMethod yX12_minor ∈ GT ∧ Cond.selects yX12_minor.cls yX12_minor yX12_minor ∈ GT := ⟨ki_yX12_minor, gt_s (List.mem_append_right _ (List.mem_append_right _ (List.mem_append_right _ (List.mem_append_right _ (List.mem_append_left _ (List.mem_of_getElem? (i := 11) rfl))))))⟩
theorem mx_yX12_between_ : Mx yX12_between_ cX12_between_ 2 (some .int) 1 := ⟨gt_t (tb6 11 rfl) rfl, kz_RX12, by decide, by decide, by decide +kernel⟩
theorem mi_yX12_between_ : Cond.instanceMethod yX12_between_ ∈ GT ∧ Cond.selects yX12_between_.cls yX12_between_ yX12_between_ ∈ GT := ⟨ki_yX12_between_, gt_t (tb6 10 rfl) rfl⟩
theorem mx_yX12_betweenOf : Mx yX12_betweenOf cX12_betweenOf 7 (some .int) 1 := ⟨gt_t (tb6 16 rfl) rfl, kz_RX12, by decide, by decide, by decide +kernel⟩
theorem mi_yX12_betweenOf : Cond.instanceMethod yX12_betweenOf ∈ GT ∧ Cond.selects yX12_betweenOf.cls yX12_betweenOf yX12_betweenOf ∈ GT := ⟨ki_yX12_betweenOf, gt_s (List.mem_append_right _ (List.mem_append_right _ (List.mem_append_right _ (List.mem_append_right _ (List.mem_append_left _ (List.mem_of_getElem? (i := 12) rfl))))))⟩
theorem mx_yX12_sides : Mx yX12_sides cX12_sides 4 (some .int) 1 := ⟨gt_t (tb6 20 rfl) rfl, kz_RX12, by decide, by decide, by decide +kernel⟩
theorem mi_yX12_sides : Cond.instanceMethod yX12_sides ∈ GT ∧ Cond.selects yX12_sides.cls yX12_sides yX12_sides ∈ GT := ⟨ki_yX12_sides, gt_t (tb6 19 rfl) rfl⟩
theorem mx_yX12_ones : Mx yX12_ones cX12_ones 3 (some .int) 1 := ⟨gt_t (tb6 23 rfl) rfl, kz_RX12, by decide, by decide, by decide +kernel⟩
theorem mx_yX12_laysSides : Mx yX12_laysSides cX12_laysSides 3 none 1 := ⟨gt_t (tb6 27 rfl) rfl, kz_RX12, by decide, by decide, by decide +kernel⟩
theorem mi_yX12_laysSides : Cond.instanceMethod yX12_laysSides ∈ GT ∧ Cond.selects yX12_laysSides.cls yX12_laysSides yX12_laysSides ∈ GT := ⟨ki_yX12_laysSides, gt_s (List.mem_append_right _ (List.mem_append_right _ (List.mem_append_right _ (List.mem_append_right _ (List.mem_append_left _ (List.mem_of_getElem? (i := 13) rfl))))))⟩
theorem mx_yX12_many : Mx yX12_many cX12_many 3 (some .int) 0 := ⟨gt_t (tb6 31 rfl) rfl, kz_RX12, by decide, by decide, by decide +kernel⟩
theorem mi_yX12_many : Cond.instanceMethod yX12_many ∈ GT ∧ Cond.selects yX12_many.cls yX12_many yX12_many ∈ GT := ⟨ki_yX12_many, gt_s (List.mem_append_right _ (List.mem_append_right _ (List.mem_append_right _ (List.mem_append_right _ (List.mem_append_left _ (List.mem_of_getElem? (i := 14) rfl))))))⟩
theorem mx_yX12_canSides : Mx yX12_canSides cX12_canSides 5 (some .boolean) 1 := ⟨gt_t (tb6 35 rfl) rfl, kz_RX12, by decide, by decide, by decide +kernel⟩
theorem mi_yX12_canSides : Cond.instanceMethod yX12_canSides ∈ GT ∧ Cond.selects yX12_canSides.cls yX12_canSides yX12_canSides ∈ GT := ⟨ki_yX12_canSides, gt_s (List.mem_append_right _ (List.mem_append_right _ (List.mem_append_right _ (List.mem_append_right _ (List.mem_append_left _ (List.mem_of_getElem? (i := 15) rfl))))))⟩
theorem mx_yX12_formula : Mx yX12_formula cX12_formula 3 (some .int) 1 := ⟨gt_t (tb6 39 rfl) rfl, kz_RX12, by decide, by decide, by decide +kernel⟩
theorem mi_yX12_formula : Cond.instanceMethod yX12_formula ∈ GT ∧ Cond.selects yX12_formula.cls yX12_formula yX12_formula ∈ GT := ⟨ki_yX12_formula, gt_t (tb6 38 rfl) rfl⟩
theorem mx_yX12_readsFormula : Mx yX12_readsFormula cX12_readsFormula 2 (some .boolean) 0 := ⟨gt_t (tb6 43 rfl) rfl, kz_RX12, by decide, by decide, by decide +kernel⟩
theorem mi_yX12_readsFormula : Cond.instanceMethod yX12_readsFormula ∈ GT ∧ Cond.selects yX12_readsFormula.cls yX12_readsFormula yX12_readsFormula ∈ GT := ⟨ki_yX12_readsFormula, gt_s (List.mem_append_right _ (List.mem_append_right _ (List.mem_append_right _ (List.mem_append_right _ (List.mem_append_right _ (List.mem_append_left _ (List.mem_of_getElem? (i := 0) rfl)))))))⟩
theorem mx_yX12_here : Mx yX12_here cX12_here 1 (some .int) 0 := ⟨gt_t (tb6 47 rfl) rfl, kz_RX12, by decide, by decide, by decide +kernel⟩
theorem mi_yX12_here : Cond.instanceMethod yX12_here ∈ GT ∧ Cond.selects yX12_here.cls yX12_here yX12_here ∈ GT := ⟨ki_yX12_here, gt_s (List.mem_append_right _ (List.mem_append_right _ (List.mem_append_right _ (List.mem_append_right _ (List.mem_append_right _ (List.mem_append_left _ (List.mem_of_getElem? (i := 1) rfl)))))))⟩
theorem mx_yX12_takesPart : Mx yX12_takesPart cX12_takesPart 3 (some .boolean) 0 := ⟨gt_t (tb6 51 rfl) rfl, kz_RX12, by decide, by decide, by decide +kernel⟩
theorem mi_yX12_takesPart : Cond.instanceMethod yX12_takesPart ∈ GT ∧ Cond.selects yX12_takesPart.cls yX12_takesPart yX12_takesPart ∈ GT := ⟨ki_yX12_takesPart, gt_s (List.mem_append_right _ (List.mem_append_right _ (List.mem_append_right _ (List.mem_append_right _ (List.mem_append_right _ (List.mem_append_left _ (List.mem_of_getElem? (i := 2) rfl)))))))⟩
theorem mx_yX12_takesRow : Mx yX12_takesRow cX12_takesRow 2 (some .boolean) 0 := ⟨gt_t (tb6 57 rfl) rfl, kz_RX12, by decide, by decide, by decide +kernel⟩
theorem mi_yX12_takesRow : Cond.instanceMethod yX12_takesRow ∈ GT ∧ Cond.selects yX12_takesRow.cls yX12_takesRow yX12_takesRow ∈ GT := ⟨ki_yX12_takesRow, gt_s (List.mem_append_right _ (List.mem_append_right _ (List.mem_append_right _ (List.mem_append_right _ (List.mem_append_right _ (List.mem_append_left _ (List.mem_of_getElem? (i := 3) rfl)))))))⟩
theorem mx_yX12_takesNumber : Mx yX12_takesNumber cX12_takesNumber 2 (some .boolean) 0 := ⟨gt_t (tb6 61 rfl) rfl, kz_RX12, by decide, by decide, by decide +kernel⟩
theorem mi_yX12_takesNumber : Cond.instanceMethod yX12_takesNumber ∈ GT ∧ Cond.selects yX12_takesNumber.cls yX12_takesNumber yX12_takesNumber ∈ GT := ⟨ki_yX12_takesNumber, gt_s (List.mem_append_right _ (List.mem_append_right _ (List.mem_append_right _ (List.mem_append_right _ (List.mem_append_right _ (List.mem_append_left _ (List.mem_of_getElem? (i := 4) rfl)))))))⟩
theorem mx_yX12_isFigure : Mx yX12_isFigure cX12_isFigure 2 (some .boolean) 1 := ⟨gt_t (tb6 65 rfl) rfl, kz_RX12, by decide, by decide, by decide +kernel⟩
theorem mi_yX12_isFigure : Cond.instanceMethod yX12_isFigure ∈ GT ∧ Cond.selects yX12_isFigure.cls yX12_isFigure yX12_isFigure ∈ GT := ⟨ki_yX12_isFigure, gt_s (List.mem_append_right _ (List.mem_append_right _ (List.mem_append_right _ (List.mem_append_right _ (List.mem_append_right _ (List.mem_append_left _ (List.mem_of_getElem? (i := 5) rfl)))))))⟩
theorem mx_yX12_says : Mx yX12_says cX12_says 2 none 1 := ⟨gt_t (tb6 69 rfl) rfl, kz_RX12, by decide, by decide, by decide +kernel⟩
theorem mi_yX12_says : Cond.instanceMethod yX12_says ∈ GT ∧ Cond.selects yX12_says.cls yX12_says yX12_says ∈ GT := ⟨ki_yX12_says, gt_s (List.mem_append_right _ (List.mem_append_right _ (List.mem_append_right _ (List.mem_append_right _ (List.mem_append_right _ (List.mem_append_left _ (List.mem_of_getElem? (i := 6) rfl)))))))⟩
theorem mx_yX12_saysNots : Mx yX12_saysNots cX12_saysNots 1 none 0 := ⟨gt_t (tb6 73 rfl) rfl, kz_RX12, by decide, by decide, by decide +kernel⟩
theorem mi_yX12_saysNots : Cond.instanceMethod yX12_saysNots ∈ GT ∧ Cond.selects yX12_saysNots.cls yX12_saysNots yX12_saysNots ∈ GT := ⟨ki_yX12_saysNots, gt_s (List.mem_append_right _ (List.mem_append_right _ (List.mem_append_right _ (List.mem_append_right _ (List.mem_append_right _ (List.mem_append_left _ (List.mem_of_getElem? (i := 7) rfl)))))))⟩
theorem mx_yX12_isWaiting : Mx yX12_isWaiting cX12_isWaiting 2 (some .boolean) 1 := ⟨gt_t (tb6 77 rfl) rfl, kz_RX12, by decide, by decide, by decide +kernel⟩
theorem mi_yX12_isWaiting : Cond.instanceMethod yX12_isWaiting ∈ GT ∧ Cond.selects yX12_isWaiting.cls yX12_isWaiting yX12_isWaiting ∈ GT := ⟨ki_yX12_isWaiting, gt_s (List.mem_append_right _ (List.mem_append_right _ (List.mem_append_right _ (List.mem_append_right _ (List.mem_append_right _ (List.mem_append_left _ (List.mem_of_getElem? (i := 8) rfl)))))))⟩
theorem mx_yX12_saysWaiting : Mx yX12_saysWaiting cX12_saysWaiting 1 none 0 := ⟨gt_t (tb6 81 rfl) rfl, kz_RX12, by decide, by decide, by decide +kernel⟩
theorem mi_yX12_saysWaiting : Cond.instanceMethod yX12_saysWaiting ∈ GT ∧ Cond.selects yX12_saysWaiting.cls yX12_saysWaiting yX12_saysWaiting ∈ GT := ⟨ki_yX12_saysWaiting, gt_s (List.mem_append_right _ (List.mem_append_right _ (List.mem_append_right _ (List.mem_append_right _ (List.mem_append_right _ (List.mem_append_left _ (List.mem_of_getElem? (i := 9) rfl)))))))⟩
theorem mx_yX12_waitsFor : Mx yX12_waitsFor cX12_waitsFor 2 none 1 := ⟨gt_t (tb6 85 rfl) rfl, kz_RX12, by decide, by decide, by decide +kernel⟩
theorem mi_yX12_waitsFor : Cond.instanceMethod yX12_waitsFor ∈ GT ∧ Cond.selects yX12_waitsFor.cls yX12_waitsFor yX12_waitsFor ∈ GT := ⟨ki_yX12_waitsFor, gt_s (List.mem_append_right _ (List.mem_append_right _ (List.mem_append_right _ (List.mem_append_right _ (List.mem_append_right _ (List.mem_append_left _ (List.mem_of_getElem? (i := 10) rfl)))))))⟩
theorem mx_yX12_takesSign : Mx yX12_takesSign cX12_takesSign 2 (some .boolean) 1 := ⟨gt_t (tb6 89 rfl) rfl, kz_RX12, by decide, by decide, by decide +kernel⟩
theorem mi_yX12_takesSign : Cond.instanceMethod yX12_takesSign ∈ GT ∧ Cond.selects yX12_takesSign.cls yX12_takesSign yX12_takesSign ∈ GT := ⟨ki_yX12_takesSign, gt_s (List.mem_append_right _ (List.mem_append_right _ (List.mem_append_right _ (List.mem_append_right _ (List.mem_append_right _ (List.mem_append_left _ (List.mem_of_getElem? (i := 11) rfl)))))))⟩
theorem mx_yX12_named : Mx yX12_named cX12_named 3 (some .int) 0 := ⟨gt_t (tb6 93 rfl) rfl, kz_RX12, by decide, by decide, by decide +kernel⟩
theorem mi_yX12_named : Cond.instanceMethod yX12_named ∈ GT ∧ Cond.selects yX12_named.cls yX12_named yX12_named ∈ GT := ⟨ki_yX12_named, gt_s (List.mem_append_right _ (List.mem_append_right _ (List.mem_append_right _ (List.mem_append_right _ (List.mem_append_right _ (List.mem_append_left _ (List.mem_of_getElem? (i := 12) rfl)))))))⟩
theorem mx_yX12_formulaOf : Mx yX12_formulaOf cX12_formulaOf 4 (some .int) 1 := ⟨gt_t (tb6 97 rfl) rfl, kz_RX12, by decide, by decide, by decide +kernel⟩
theorem mi_yX12_formulaOf : Cond.instanceMethod yX12_formulaOf ∈ GT ∧ Cond.selects yX12_formulaOf.cls yX12_formulaOf yX12_formulaOf ∈ GT := ⟨ki_yX12_formulaOf, gt_s (List.mem_append_right _ (List.mem_append_right _ (List.mem_append_right _ (List.mem_append_right _ (List.mem_append_right _ (List.mem_append_left _ (List.mem_of_getElem? (i := 13) rfl)))))))⟩
theorem mx_yX12_holds : Mx yX12_holds cX12_holds 4 (some .boolean) 0 := ⟨gt_t (tb6 101 rfl) rfl, kz_RX12, by decide, by decide, by decide +kernel⟩
theorem mi_yX12_holds : Cond.instanceMethod yX12_holds ∈ GT ∧ Cond.selects yX12_holds.cls yX12_holds yX12_holds ∈ GT := ⟨ki_yX12_holds, gt_s (List.mem_append_right _ (List.mem_append_right _ (List.mem_append_right _ (List.mem_append_right _ (List.mem_append_right _ (List.mem_append_left _ (List.mem_of_getElem? (i := 14) rfl)))))))⟩
theorem mx_yX12_isTrue : Mx yX12_isTrue cX12_isTrue 4 (some .boolean) 1 := ⟨gt_t (tb6 105 rfl) rfl, kz_RX12, by decide, by decide, by decide +kernel⟩
theorem mi_yX12_isTrue : Cond.instanceMethod yX12_isTrue ∈ GT ∧ Cond.selects yX12_isTrue.cls yX12_isTrue yX12_isTrue ∈ GT := ⟨ki_yX12_isTrue, gt_s (List.mem_append_right _ (List.mem_append_right _ (List.mem_append_right _ (List.mem_append_right _ (List.mem_append_right _ (List.mem_append_left _ (List.mem_of_getElem? (i := 15) rfl)))))))⟩
theorem mx_yX12_type : Mx yX12_type cX12_type 2 (some .int) 1 := ⟨gt_t (tb6 109 rfl) rfl, kz_RX12, by decide, by decide, by decide +kernel⟩
theorem mi_yX12_type : Cond.instanceMethod yX12_type ∈ GT ∧ Cond.selects yX12_type.cls yX12_type yX12_type ∈ GT := ⟨ki_yX12_type, gt_t (tb6 108 rfl) rfl⟩
theorem mx_yX12_clear : Mx yX12_clear cX12_clear 2 (some .int) 0 := ⟨gt_t (tb6 114 rfl) rfl, kz_RX12, by decide, by decide, by decide +kernel⟩
theorem mi_yX12_clear : Cond.instanceMethod yX12_clear ∈ GT ∧ Cond.selects yX12_clear.cls yX12_clear yX12_clear ∈ GT := ⟨ki_yX12_clear, gt_t (tb6 113 rfl) rfl⟩
theorem mx_yX12_reads : Mx yX12_reads cX12_reads 5 (some .int) 0 := ⟨gt_t (tb6 118 rfl) rfl, kz_RX12, by decide, by decide, by decide +kernel⟩
theorem mi_yX12_reads : Cond.instanceMethod yX12_reads ∈ GT ∧ Cond.selects yX12_reads.cls yX12_reads yX12_reads ∈ GT := ⟨ki_yX12_reads, gt_t (tb6 117 rfl) rfl⟩
theorem mx_yX12_readsOrder : Mx yX12_readsOrder cX12_readsOrder 2 (some .boolean) 0 := ⟨gt_t (tb6 122 rfl) rfl, kz_RX12, by decide, by decide, by decide +kernel⟩
theorem mi_yX12_readsOrder : Cond.instanceMethod yX12_readsOrder ∈ GT ∧ Cond.selects yX12_readsOrder.cls yX12_readsOrder yX12_readsOrder ∈ GT := ⟨ki_yX12_readsOrder, gt_s (List.mem_append_right _ (List.mem_append_right _ (List.mem_append_right _ (List.mem_append_right _ (List.mem_append_right _ (List.mem_append_right _ (List.mem_of_getElem? (i := 0) rfl)))))))⟩
theorem mx_yX12_takesTerms : Mx yX12_takesTerms cX12_takesTerms 2 (some .boolean) 0 := ⟨gt_t (tb6 126 rfl) rfl, kz_RX12, by decide, by decide, by decide +kernel⟩
theorem mi_yX12_takesTerms : Cond.instanceMethod yX12_takesTerms ∈ GT ∧ Cond.selects yX12_takesTerms.cls yX12_takesTerms yX12_takesTerms ∈ GT := ⟨ki_yX12_takesTerms, gt_s (List.mem_append_right _ (List.mem_append_right _ (List.mem_append_right _ (List.mem_append_right _ (List.mem_append_right _ (List.mem_append_right _ (List.mem_of_getElem? (i := 1) rfl)))))))⟩
theorem mx_yX12_takesTerm : Mx yX12_takesTerm cX12_takesTerm 8 (some .boolean) 1 := ⟨gt_t (tb6 130 rfl) rfl, kz_RX12, by decide, by decide, by decide +kernel⟩
theorem mi_yX12_takesTerm : Cond.instanceMethod yX12_takesTerm ∈ GT ∧ Cond.selects yX12_takesTerm.cls yX12_takesTerm yX12_takesTerm ∈ GT := ⟨ki_yX12_takesTerm, gt_s (List.mem_append_right _ (List.mem_append_right _ (List.mem_append_right _ (List.mem_append_right _ (List.mem_append_right _ (List.mem_append_right _ (List.mem_of_getElem? (i := 2) rfl)))))))⟩
theorem mx_yX12_takesKind : Mx yX12_takesKind cX12_takesKind 3 (some .boolean) 0 := ⟨gt_t (tb6 136 rfl) rfl, kz_RX12, by decide, by decide, by decide +kernel⟩
theorem mi_yX12_takesKind : Cond.instanceMethod yX12_takesKind ∈ GT ∧ Cond.selects yX12_takesKind.cls yX12_takesKind yX12_takesKind ∈ GT := ⟨ki_yX12_takesKind, gt_s (List.mem_append_right _ (List.mem_append_right _ (List.mem_append_right _ (List.mem_append_right _ (List.mem_append_right _ (List.mem_append_right _ (List.mem_of_getElem? (i := 3) rfl)))))))⟩
theorem mx_yX12_takesBound : Mx yX12_takesBound cX12_takesBound 4 (some .boolean) 0 := ⟨gt_t (tb6 140 rfl) rfl, kz_RX12, by decide, by decide, by decide +kernel⟩
theorem mi_yX12_takesBound : Cond.instanceMethod yX12_takesBound ∈ GT ∧ Cond.selects yX12_takesBound.cls yX12_takesBound yX12_takesBound ∈ GT := ⟨ki_yX12_takesBound, gt_s (List.mem_append_right _ (List.mem_append_right _ (List.mem_append_right _ (List.mem_append_right _ (List.mem_append_right _ (List.mem_append_right _ (List.mem_of_getElem? (i := 4) rfl)))))))⟩
theorem mx_yX12_shown : Mx yX12_shown cX12_shown 3 (some .int) 2 := ⟨gt_t (tb6 144 rfl) rfl, kz_RX12, by decide, by decide, by decide +kernel⟩
theorem mi_yX12_shown : Cond.instanceMethod yX12_shown ∈ GT ∧ Cond.selects yX12_shown.cls yX12_shown yX12_shown ∈ GT := ⟨ki_yX12_shown, gt_t (tb6 143 rfl) rfl⟩
theorem mx_yX12_shownOf : Mx yX12_shownOf cX12_shownOf 3 (some .int) 2 := ⟨gt_t (tb6 148 rfl) rfl, kz_RX12, by decide, by decide, by decide +kernel⟩
theorem mi_yX12_shownOf : Cond.instanceMethod yX12_shownOf ∈ GT ∧ Cond.selects yX12_shownOf.cls yX12_shownOf yX12_shownOf ∈ GT := ⟨ki_yX12_shownOf, gt_s (List.mem_append_right _ (List.mem_append_right _ (List.mem_append_right _ (List.mem_append_right _ (List.mem_append_right _ (List.mem_append_right _ (List.mem_of_getElem? (i := 5) rfl)))))))⟩
theorem mx_yX12_writesRow : Mx yX12_writesRow cX12_writesRow 4 none 1 := ⟨gt_t (tb6 152 rfl) rfl, kz_RX12, by decide, by decide, by decide +kernel⟩
theorem mi_yX12_writesRow : Cond.instanceMethod yX12_writesRow ∈ GT ∧ Cond.selects yX12_writesRow.cls yX12_writesRow yX12_writesRow ∈ GT := ⟨ki_yX12_writesRow, gt_s (List.mem_append_right _ (List.mem_append_right _ (List.mem_append_right _ (List.mem_append_right _ (List.mem_append_right _ (List.mem_append_right _ (List.mem_of_getElem? (i := 6) rfl)))))))⟩
theorem mx_yX12_writes : Mx yX12_writes cX12_writes 2 none 1 := ⟨gt_t (tb6 156 rfl) rfl, kz_RX12, by decide, by decide, by decide +kernel⟩
theorem mi_yX12_writes : Cond.instanceMethod yX12_writes ∈ GT ∧ Cond.selects yX12_writes.cls yX12_writes yX12_writes ∈ GT := ⟨ki_yX12_writes, gt_s (List.mem_append_right _ (List.mem_append_right _ (List.mem_append_right _ (List.mem_append_right _ (List.mem_append_right _ (List.mem_append_right _ (List.mem_of_getElem? (i := 7) rfl)))))))⟩
theorem mx_yX12_writesNumber : Mx yX12_writesNumber cX12_writesNumber 2 none 1 := ⟨gt_t (tb6 160 rfl) rfl, kz_RX12, by decide, by decide, by decide +kernel⟩
theorem mi_yX12_writesNumber : Cond.instanceMethod yX12_writesNumber ∈ GT ∧ Cond.selects yX12_writesNumber.cls yX12_writesNumber yX12_writesNumber ∈ GT := ⟨ki_yX12_writesNumber, gt_s (List.mem_append_right _ (List.mem_append_right _ (List.mem_append_right _ (List.mem_append_right _ (List.mem_append_right _ (List.mem_append_right _ (List.mem_of_getElem? (i := 8) rfl)))))))⟩
theorem mx_yX12_back : Mx yX12_back cX12_back 2 (some .int) 0 := ⟨gt_t (tb6 165 rfl) rfl, kz_RX12, by decide, by decide, by decide +kernel⟩
theorem mi_yX12_back : Cond.instanceMethod yX12_back ∈ GT ∧ Cond.selects yX12_back.cls yX12_back yX12_back ∈ GT := ⟨ki_yX12_back, gt_t (tb6 164 rfl) rfl⟩
theorem mx_yX12_told : Mx yX12_told cX12_told 2 (some .int) 1 := ⟨gt_t (tb6 169 rfl) rfl, kz_RX12, by decide, by decide, by decide +kernel⟩
theorem mi_yX12_told : Cond.instanceMethod yX12_told ∈ GT ∧ Cond.selects yX12_told.cls yX12_told yX12_told ∈ GT := ⟨ki_yX12_told, gt_t (tb6 168 rfl) rfl⟩
theorem mx_yX12_toldOf : Mx yX12_toldOf cX12_toldOf 2 (some .int) 1 := ⟨gt_t (tb6 173 rfl) rfl, kz_RX12, by decide, by decide, by decide +kernel⟩
theorem mi_yX12_toldOf : Cond.instanceMethod yX12_toldOf ∈ GT ∧ Cond.selects yX12_toldOf.cls yX12_toldOf yX12_toldOf ∈ GT := ⟨ki_yX12_toldOf, gt_s (List.mem_append_right _ (List.mem_append_right _ (List.mem_append_right _ (List.mem_append_right _ (List.mem_append_right _ (List.mem_append_right _ (List.mem_of_getElem? (i := 9) rfl)))))))⟩
theorem mx_yX12_digest : Mx yX12_digest cX12_digest 6 (some .long) 0 := ⟨gt_t (tb6 177 rfl) rfl, kz_RX12, by decide, by decide, by decide +kernel⟩
theorem mi_yX12_digest : Cond.instanceMethod yX12_digest ∈ GT ∧ Cond.selects yX12_digest.cls yX12_digest yX12_digest ∈ GT := ⟨ki_yX12_digest, gt_t (tb6 176 rfl) rfl⟩
