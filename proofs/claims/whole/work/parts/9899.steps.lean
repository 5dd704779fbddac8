/-! formulas: the model's steps -/
def FX (n : Nat) (τ : sT) (S : List Int) (W : List Nat) (d : Nat) (op : Bool) : Prop := SaAt τ S ∧ WaAt τ W ∧ τ.1 33 33 = nI d ∧ τ.1 33 34 = b01 op ∧ τ.1 34 0 = nI n
def FM (T : List Nat) (n : Nat) (τ : sT) (p : Nat) (S : List Int) (W : List Nat) (d : Nat) (op : Bool) : Prop := MP T τ p ∧ FX n τ S W d op ∧ ∀ x ∈ W, x < 1000
def MO (τ τ1 : sT) : Prop := mOff [46, 47] [27, 29, 31, 32, 33, 34] τ τ1
theorem MO.trans {a b c : sT} (h : MO a b) (k : MO b c) : MO a c := mOff.trans h k
theorem MO_of {C F : List Nat} {a b : sT} (h : mOff C F a b) (hC : ∀ q ∈ C, q ∈ [46, 47]) (hF : ∀ q ∈ F, q ∈ [27, 29, 31, 32, 33, 34]) : MO a b := mOff.mono h hC hF
theorem FX.of {n : Nat} {τ τ1 : sT} {S : List Int} {W : List Nat} {d : Nat} {op : Bool} (h : FX n τ S W d op) {F : List Nat} (o : mOff [] F τ τ1) (h1 : 29 ∉ F) (h2 : 31 ∉ F) (h3 : 33 ∉ F) (h4 : 34 ∉ F) : FX n τ1 S W d op :=
  ⟨h.1.of o (by simp) h1, h.2.1.of o (by simp) h2, (o.2 33 h3).1.trans h.2.2.1, (o.2 34 h4).1.trans h.2.2.2.1, by rw [(o.1 34 (by simp) (by decide)).1]; exact h.2.2.2.2⟩
def tpB (r2 : Int32) (σ3 : sT) : Option (Int32 × sT) :=
  if (σ3.1 33 34) = 0 then
    db2 (fMM_takesSign r2 σ3) fun r6 σ7 =>
    dck (okZ r6) <|
    some (r6, σ7)
  else
    db1 (fMM_in r2.toInt64 (48 : Int64) (57 : Int64)) fun r10 =>
    if r10 = 0 then
      dlt (fun (x12 : Int32) =>
        if x12 = 0 then
          dck (okZ x12) <|
          some (x12, σ3)
        else
          db1 (fMM_waitsFor r2 σ3) fun σ17 =>
          dlt (fun (x18 : Int32) (x19 : Int32) =>
            dlt (siW σ17 33 33 (x18 + x19)) fun σ21 =>
            dlt (siW σ21 33 27 ((σ21.1 33 27) + (1 : Int32))) fun σ22 =>
            dck (okZ x12) <|
            some (x12, σ22)) fun J20 =>
          if r2 = (40 : Int32) then
            J20 (σ17.1 33 33) (1 : Int32)
          else
            J20 (σ17.1 33 33) (0 : Int32)) fun J13 =>
      dlt (fun (_u : Unit) =>
        J13 (1 : Int32)) fun J25 =>
      if r2 = (33 : Int32) then
        J25 ()
      else
        dlt (fun (_u : Unit) =>
          J13 (0 : Int32)) fun J27 =>
        if r2 = (40 : Int32) then
          if (8 : Int32) ≤ (σ3.1 33 33) then
            J27 ()
          else
            J25 ()
        else
          J27 ()
    else
      db2 (fMM_takesRow σ3) fun r31 σ32 =>
      if r31 = 0 then
        dck (okZ r31) <|
        some (r31, σ32)
      else
        db1 (fMM_says (σ32.1 33 32) σ32) fun σ36 =>
        db1 (fMM_saysNots σ36) fun σ38 =>
        dlt (siW σ38 33 34 (0 : Int32)) fun σ39 =>
        dck (okZ r31) <|
        some (r31, σ39)
theorem tp_eq (σ : sT) : fMM_takesPart σ = db2 (fMM_here σ) tpB := by
  unfold fMM_takesPart tpB
  rfl
theorem it_0 {K : Int32 → sT → Option (Int32 × sT)} {f : Nat} {τ : sT} : fMM_readsFormula_L27 K (f + 1) 0 τ = K 0 τ := by
  unfold fMM_readsFormula_L27
  rw [if_pos rfl]
theorem it_go {T : List Nat} (hT : TxOk T) {n : Nat} {τ : sT} {p : Nat} {S : List Int} {W : List Nat} {d : Nat} {op : Bool} (h : FM T n τ p S W d op) (c : ch T (sk T p) ≠ -1) :
    ∃ τ2, MsAt τ2 T (sk T p) ∧ FX n τ2 S W d op ∧ mOff [] [27] τ τ2 ∧ ∀ K f, fMM_readsFormula_L27 K (f + 1) 1 τ = db2 (tpB (iI (ch T (sk T p))) τ2) fun r s => if r = 0 then fMM_readsFormula_L27 K f 0 s else fMM_readsFormula_L27 K f 1 s := by
  obtain ⟨hM, hX, hw⟩ := h
  obtain ⟨τa, e1, e2, e3⟩ := mhere hT hM
  obtain ⟨τb, f1, f2, f3⟩ := mhere hT (mp_sk hM.1 e2)
  obtain ⟨τc, g1, g2, g3⟩ := mhere hT (mp_sk hM.1 f2)
  have o := (e3.trans f3).trans g3
  refine ⟨τc, g2, hX.of o (by decide) (by decide) (by decide) (by decide), o, fun K f => ?_⟩
  have hc : ¬ iI (ch T (sk T p)) = (-1 : Int32) := chn hT (k := -1) c (by omega)
  conv => lhs; unfold fMM_readsFormula_L27
  rw [if_neg (show ¬ (1 : Int32) = 0 by decide), db2_t e1, dlt_u, if_neg hc]
  try dsimp only
  rw [db2_t f1, if_neg hc, tp_eq, db2_t g1]
theorem it_end {T : List Nat} (hT : TxOk T) {n : Nat} {τ : sT} {p : Nat} {S : List Int} {W : List Nat} {d : Nat} {op : Bool} (h : FM T n τ p S W d op) (c : ch T (sk T p) = -1) (hd : d < 1000) (ho : op = true ∨ 0 < d) :
    ∃ τ1, MF T τ1 (sk T p) ∧ MO τ τ1 ∧ ∀ K f, fMM_readsFormula_L27 K (f + 1 + 1) 1 τ = K 0 τ1 := by
  obtain ⟨hM, hX, hw⟩ := h
  obtain ⟨τa, e1, e2, e3⟩ := mhere_k hT hM c
  obtain ⟨τb, f1, f2, f3⟩ := mhere_k hT (mp_sk hM.1 e2) c
  have hXa := hX.of e3 (by decide) (by decide) (by decide) (by decide)
  refine ⟨τb, ⟨sk_le hM.1, f2⟩, MO_of (e3.trans f3) (by simp) (by simp), fun K f => ?_⟩
  have fin : (db2 (fMM_here τa) fun r26 σ27 => if r26 = (-1 : Int32) then fMM_readsFormula_L27 K (f + 1) (0 : Int32) σ27 else db2 (fMM_takesPart σ27) fun r30 σ31 => if r30 = 0 then fMM_readsFormula_L27 K (f + 1) (0 : Int32) σ31 else fMM_readsFormula_L27 K (f + 1) (1 : Int32) σ31) = K 0 τb := by
    rw [db2_t f1, if_pos (show iI (-1) = (-1 : Int32) from rfl), it_0]
  conv => lhs; unfold fMM_readsFormula_L27
  rw [if_neg (show ¬ (1 : Int32) = 0 by decide), db2_t e1, dlt_u, if_pos (show iI (-1) = (-1 : Int32) from rfl), hXa.2.2.2.1, hXa.2.2.1]
  cases op
  · rw [if_pos b0]
    have hd0 : 0 < d := by
      rcases ho with z | z
      · cases z
      · exact z
    rw [if_neg (show ¬ nI d ≤ (0 : Int32) from nI_ge (a := 0) hd0 (by omega))]
    exact fin
  · rw [if_neg b1]
    exact fin
theorem it_done {T : List Nat} (hT : TxOk T) {n : Nat} {τ : sT} {p : Nat} {S : List Int} {W : List Nat} (h : FM T n τ p S W 0 false) (c : ch T (sk T p) = -1) :
    ∃ τ1, FX n τ1 S W 0 false ∧ MO τ τ1 ∧ ∀ K f, fMM_readsFormula_L27 K (f + 1) 1 τ = K 1 τ1 := by
  obtain ⟨hM, hX, hw⟩ := h
  obtain ⟨τa, e1, e2, e3⟩ := mhere_k hT hM c
  have hXa := hX.of e3 (by decide) (by decide) (by decide) (by decide)
  refine ⟨τa, hXa, MO_of e3 (by simp) (by simp), fun K f => ?_⟩
  unfold fMM_readsFormula_L27
  rw [if_neg (show ¬ (1 : Int32) = 0 by decide), db2_t e1, dlt_u, if_pos (show iI (-1) = (-1 : Int32) from rfl), hXa.2.2.2.1, hXa.2.2.1, if_pos b0, if_pos (show nI 0 ≤ (0 : Int32) by decide)]
/-- a step that goes on, and one that is refused -/
def Go (T : List Nat) (n : Nat) (τ : sT) (q : Nat) (S : List Int) (W : List Nat) (d : Nat) (op : Bool) : Prop := ∃ τ1, FM T n τ1 q S W d op ∧ MO τ τ1 ∧ ∀ K f, fMM_readsFormula_L27 K (f + 1) 1 τ = fMM_readsFormula_L27 K f 1 τ1
def No (T : List Nat) (τ : sT) (q : Nat) : Prop := ∃ τ1, MF T τ1 q ∧ MO τ τ1 ∧ ∀ K f, fMM_readsFormula_L27 K (f + 1 + 1) 1 τ = K 0 τ1
theorem inM9 {T : List Nat} (hT : TxOk T) (p : Nat) : fMM_in (iI (ch T p)).toInt64 (48 : Int64) (57 : Int64) = some (b01 (dg T p)) := by
  have : dg T p = wi (iI (ch T p)) 48 57 := by rw [wi_ch hT]; rfl
  rw [this]
  exact wiM _ 48 57 rfl rfl (by decide) (by decide)
theorem no_open {T : List Nat} (hT : TxOk T) {n : Nat} {τ : sT} {p : Nat} {S : List Int} {W : List Nat} {d : Nat} (h : FM T n τ p S W d true) (hd : d < 1000) (hg : dg T (sk T p) = false) (c33 : ch T (sk T p) ≠ 33) (c40 : ch T (sk T p) = 40 → 8 ≤ d) : No T τ (sk T p) := by
  by_cases c : ch T (sk T p) = -1
  · exact it_end hT h c hd (Or.inl rfl)
  · obtain ⟨τ2, e1, e2, e3, e4⟩ := it_go hT h c
    refine ⟨τ2, ⟨sk_le h.1.1, e1⟩, MO_of e3 (by simp) (by simp), fun K f => ?_⟩
    have hb : tpB (iI (ch T (sk T p))) τ2 = some (0, τ2) := by
      unfold tpB
      rw [e2.2.2.2.1, if_neg b1, db1_t (inM9 hT _), hg, if_pos b0, dlt_u, dlt_u, if_neg (show ¬ iI (ch T (sk T p)) = (33 : Int32) from chn hT (k := 33) c33 (by omega)), dlt_u]
      by_cases z : ch T (sk T p) = 40
      · rw [if_pos (show iI (ch T (sk T p)) = (40 : Int32) by rw [z]; rfl), e2.2.2.1, if_pos (show (8 : Int32) ≤ nI d from nI_le (a := 8) (c40 z) (by omega))]
        try dsimp only
        rw [if_pos rfl, dck_t (by decide)]
      · rw [if_neg (show ¬ iI (ch T (sk T p)) = (40 : Int32) from chn hT (k := 40) z (by omega))]
        try dsimp only
        rw [if_pos rfl, dck_t (by decide)]
    rw [e4, db2_t hb, if_pos rfl, it_0]
theorem go_push {T : List Nat} (hT : TxOk T) {n : Nat} {τ : sT} {p : Nat} {S : List Int} {W : List Nat} {d : Nat} (h : FM T n τ p S W d true) (hl : W.length < 160) {x : Nat} (hx : ch T (sk T p) = (x : Int)) (hc : x = 33 ∨ (x = 40 ∧ d < 8)) : Go T n τ (sk T p + 1) S (W ++ [x]) (if x = 40 then d + 1 else d) true := by
  obtain ⟨τ2, e1, e2, e3, e4⟩ := it_go hT h (by omega)
  have hlt : sk T p < T.length := ch_lt (by omega)
  obtain ⟨τ3, f1, f2, f3⟩ := mwaits e2.2.1 hl x
  have h33 : τ3.1 33 33 = nI d := (f3.2 33 (by decide)).1.trans e2.2.2.1
  have h27 : τ3.1 33 27 = nI (sk T p) := (f3.2 27 (by decide)).1.trans e1.2
  obtain ⟨τ4, h4⟩ : ∃ t, t = siW (siW τ3 33 33 (nI (if x = 40 then d + 1 else d))) 33 27 (nI (sk T p + 1)) := ⟨_, rfl⟩
  have o4 : mOff [] [27, 33] τ3 τ4 := by rw [h4]; exact (mOff_si (by simp)).trans (mOff_si (by simp))
  have oo : mOff [47] [27, 31, 33] τ2 τ4 := (f3.mono (by simp) (by simp)).trans (o4.mono (by simp) (by simp))
  refine ⟨τ4, ⟨mp_at hlt ⟨e1.1.ms oo (by decide) (by decide), by rw [h4, siW_s, if_pos rfl]⟩, ⟨e2.1.of oo (by decide) (by decide), f2.of o4 (by decide) (by decide), by rw [h4, siW_s, if_neg (by decide), siW_s, if_pos rfl], ?_, ?_⟩, ?_⟩, (MO_of e3 (by simp) (by simp)).trans (MO_of oo (by simp) (by simp)), fun K f => ?_⟩
  · rw [(oo.2 34 (by decide)).1]; exact e2.2.2.2.1
  · rw [(oo.1 34 (by decide) (by decide)).1]; exact e2.2.2.2.2
  · intro y hy
    rcases List.mem_append.mp hy with hy | hy
    · exact h.2.2 y hy
    · rw [List.mem_singleton.mp hy]; omega
  · have hg : dg T (sk T p) = false := by
      unfold dg; rw [hx]; exact decide_eq_false (by omega)
    have hb : tpB (iI (ch T (sk T p))) τ2 = some (1, τ4) := by
      unfold tpB
      rw [e2.2.2.2.1, if_neg b1, db1_t (inM9 hT _), hg, if_pos b0, dlt_u, dlt_u, hx, iI_nI]
      rcases hc with rfl | ⟨rfl, hd⟩
      · rw [if_pos (show nI 33 = (33 : Int32) from rfl)]
        try dsimp only
        rw [if_neg (show ¬ (1 : Int32) = 0 by decide), db1_t f1, dlt_u, if_neg (show ¬ nI 33 = (40 : Int32) by decide), h33]
        try dsimp only
        rw [Int32.add_zero, dlt_u, siW_s, if_neg (by decide), h27, nI_1, dlt_u, dck_t (by decide), h4]
        rfl
      · rw [if_neg (show ¬ nI 40 = (33 : Int32) by decide), dlt_u, if_pos (show nI 40 = (40 : Int32) from rfl), e2.2.2.1, if_neg (show ¬ (8 : Int32) ≤ nI d from nI_ge (b := 8) hd (by omega))]
        try dsimp only
        rw [if_neg (show ¬ (1 : Int32) = 0 by decide), db1_t f1, dlt_u, if_pos (show nI 40 = (40 : Int32) from rfl), h33]
        try dsimp only
        rw [nI_1, dlt_u, siW_s, if_neg (by decide), h27, nI_1, dlt_u, dck_t (by decide), h4]
        rfl
    rw [e4, db2_t hb, if_neg (show ¬ (1 : Int32) = 0 by decide)]
