/-! reading orders: the head of an order, an order -/
def ordH (x0 : Int32) (J : sT → Option sT) (σ : sT) : Option sT :=
  db2 (fSc_peek σ) fun r6 σ7 =>
  if r6 = (48 : Int32) then
    db1 (fSc_step σ7) fun σ39 =>
    J σ39
  else
    db1 (fOR_readTerms x0 σ7) fun σ37 =>
    J σ37
def ordT (a1 : Int32) (σ8 : sT) : Option sT :=
      db1 (fSc_hasFailed σ8) fun r11 =>
      dlt (fun (σ12 : sT) =>
        db1 (fSc_hasFailed σ12) fun r15 =>
        dlt (fun (σ16 : sT) =>
          db1 (fSc_hasFailed σ16) fun r19 =>
          if r19 = 0 then
            db1 (fSc_expect (59 : Int32) σ16) fun σ22 =>
            some σ22
          else
            some σ16) fun J17 =>
        if r15 = 0 then
          db2 (fOR_readRight σ12) fun r25 σ26 =>
          dck (okI (a1 + (4 : Int32)) 78) <|
          dlt (siW σ26 30 (a1 + (4 : Int32)).toNatClampNeg r25) fun σ28 =>
          J17 σ28
        else
          J17 σ12) fun J13 =>
      if r11 = 0 then
        db2 (fOR_readKind σ8) fun r31 σ32 =>
        dck (okI (a1 + (3 : Int32)) 78) <|
        dlt (siW σ32 30 (a1 + (3 : Int32)).toNatClampNeg r31) fun σ34 =>
        J13 σ34
      else
        J13 σ8
theorem ord_eq (x0 : Int32) (σ : sT) : fOR_readOrder x0 σ = fOR_readOrder_L2 x0 (fun σ3 => ordH x0 (ordT x0) σ3) FU (0 : Int32) σ := by
  unfold fOR_readOrder
  generalize FU = A
  rfl
theorem rterms_eq (x0 : Int32) (σ : sT) : fOR_readTerms x0 σ = fOR_readTerms_L4 x0 kFl FU (0 : Int32) (0 : Int32) σ := by
  unfold fOR_readTerms kFl
  rw [dlt_u]
def OtF (T : List Nat) (p q : Nat) : Prop :=
  (∀ (σ : sT) (s : Nat), s ≤ 12 → CP T σ p → CSt σ s cs0 → ∃ σ1, (∀ J, ordH (nI (6 * s)) J σ = J σ1) ∧ CF T σ1 q ∧ scO [30] σ σ1 ∧ fr6 s σ σ1) ∧
  (∀ τ : sT, MP T τ p → GSt τ cs0 → ∃ τ1, fMM_takesTerms τ = some (0, τ1) ∧ MF T τ1 q ∧ mOff [49] [27] τ τ1)
def OtN (T : List Nat) (p q : Nat) : Prop :=
  (∀ (σ : sT) (s : Nat), s ≤ 12 → CP T σ p → CSt σ s cs0 → ∃ σ1, (∀ J, ordH (nI (6 * s)) J σ = J σ1) ∧ CP T σ1 q ∧ scO [30] σ σ1 ∧ fr6 s σ σ1) ∧
  (∀ τ : sT, MP T τ p → GSt τ cs0 → ∃ τ1, fMM_takesTerms τ = some (0, τ1) ∧ MF T τ1 (sk T q) ∧ mOff [49] [27] τ τ1)
def OtS (T : List Nat) (p q : Nat) (cs : Nat → Int) : Prop :=
  (∀ (σ : sT) (s : Nat), s ≤ 12 → CP T σ p → CSt σ s cs0 → ∃ σ1, (∀ J, ordH (nI (6 * s)) J σ = J σ1) ∧ CP T σ1 q ∧ CSt σ1 s cs ∧ scO [30] σ σ1 ∧ fr6 s σ σ1) ∧
  (∀ τ : sT, MP T τ p → GSt τ cs0 → ∃ τ1, fMM_takesTerms τ = some (1, τ1) ∧ MP T τ1 q ∧ GSt τ1 cs ∧ mOff [49] [27] τ τ1)
theorem ubs_0 : ubs 0 cs0 := ⟨by omega, fun l _ => by rw [Nat.zero_testBit]; rfl⟩
theorem head_x {T : List Nat} (hT : TxOk T) {p : Nat} (hp : p ≤ T.length) :
    (∃ q, OtF T p q) ∨ (∃ q, q ≤ T.length ∧ ch T (sk T q) ≠ 60 ∧ ch T (sk T q) ≠ 61 ∧ OtN T p q) ∨ (∃ q cs, p ≤ q ∧ q ≤ T.length ∧ csB cs ∧ OtS T p q cs) := by
  have hg := sk_ge T p
  have hq := sk_le hp
  by_cases c48 : ch T (sk T p) = 48
  · have hlt : sk T p < T.length := ch_lt (by omega)
    refine Or.inr (Or.inr ⟨sk T p + 1, cs0, by omega, by omega, fun l _ => by unfold cs0; omega, fun σ s hs12 h hC => ?_, fun τ h hG => ?_⟩)
    · obtain ⟨σ1, e1, e2, e3⟩ := cpeek_k hT h c48
      have o := e3.trans (scO_p σ1 (nI (sk T p + 1)))
      refine ⟨siW σ1 26 2 (nI (sk T p + 1)), fun J => ?_, cp_at hlt e2.p, CSt_o hC o (by decide), o.mono (by simp), fr6_o o (by decide)⟩
      unfold ordH
      rw [db2_t e1, if_pos (show iI 48 = (48 : Int32) from rfl), db1_t (sstep_spec e2)]
    · obtain ⟨τ1, e1, e2, e3⟩ := mhere_k hT h c48
      have o : mOff [] [27] τ (siW τ1 33 27 (nI (sk T p + 1))) := e3.trans (mOff_si (by simp))
      refine ⟨siW τ1 33 27 (nI (sk T p + 1)), ?_, mp_at hlt e2.p, fun l hl => by rw [(o.1 49 (by decide) (by decide)).1]; exact hG l hl, o.mono (by simp) (by simp)⟩
      unfold fMM_takesTerms
      rw [db2_t e1, if_pos (show iI 48 = (48 : Int32) from rfl), e2.2, nI_1, dlt_u]
  · have hsa : (sgd T true p || true) = true := Bool.or_true _
    have hqL := qL_le (a := true) hp
    -- both sides come to the first term
    have inC : ∀ (σ : sT) (s : Nat), CP T σ p → ∃ σ1, CP T σ1 p ∧ scO [] σ σ1 ∧ ∀ J, ordH (nI (6 * s)) J σ = db1 (fOR_readTerms_L4 (nI (6 * s)) kFl FU (nI 0) (nI 0) σ1) fun σ37 => J σ37 := by
      intro σ s h
      obtain ⟨σ1, e1, e2, e3⟩ := cpeek hT h
      refine ⟨σ1, cp_sk hp e2, e3, fun J => ?_⟩
      unfold ordH
      rw [db2_t e1, if_neg (show ¬ iI (ch T (sk T p)) = (48 : Int32) from chn hT (k := 48) c48 (by omega)), rterms_eq, nI_0]
    have inM : ∀ τ : sT, MP T τ p → ∃ τ1, MP T τ1 p ∧ mOff [] [27] τ τ1 ∧ fMM_takesTerms τ = db2 (fMM_takesTerm (b01 true) τ1) fun r6 σ7 => fMM_takesTerms_L27 FU r6 σ7 := by
      intro τ h
      obtain ⟨τ1, e1, e2, e3⟩ := mhere hT h
      refine ⟨τ1, mp_sk hp e2, e3, ?_⟩
      unfold fMM_takesTerms
      rw [db2_t e1, if_neg (show ¬ iI (ch T (sk T p)) = (48 : Int32) from chn hT (k := 48) c48 (by omega))]
      rfl
    obtain ⟨N, hN, hN9⟩ := FU_s
    by_cases good : ∃ k : Nat, k < 3 ∧ lL T true p = (k : Int)
    · obtain ⟨k, hk3, hk⟩ := good
      obtain ⟨w, hw⟩ : ∃ w, w = vAx T p * vBx T (pA T true p) := ⟨_, rfl⟩
      have hwv := wv (T := T) (p := p) (q := pA T true p)
      rw [← hw] at hwv
      have hlt : qL T true p < T.length := ch_lt (by unfold lL at hk; omega)
      have hcn : cnt3 (upC cs0 k w) = 1 := cnt3_up hk3 rfl hwv.1
      have stC : ∀ (σ : sT) (s : Nat), s ≤ 12 → CP T σ p → CSt σ s cs0 → ∃ σ1, (∀ J, ordH (nI (6 * s)) J σ = db1 (fOR_readTerms_L4 (nI (6 * s)) kFl N (nI (0 ||| 2 ^ k)) (nI (cnt3 (upC cs0 k w))) σ1) fun σ37 => J σ37) ∧ CP T σ1 (qL T true p + 1) ∧ CSt σ1 s (upC cs0 k w) ∧ ubs (0 ||| 2 ^ k) (upC cs0 k w) ∧ scO [30] σ σ1 ∧ fr6 s σ σ1 := by
        intro σ s hs12 h hC
        obtain ⟨σ1, e1, e2, e3⟩ := inC σ s h
        obtain ⟨σ2, g1, g2, g3, g4⟩ := cterm_good hT true e1 hsa hs12 (K := kFl) (f := N) (m := 0) (u := 0) (by omega) rfl (by omega) hk3 hk (Nat.zero_testBit _)
        rw [← hw] at g4
        refine ⟨σ2, fun J => ?_, g2, CSt_up (CSt_o hC e2 (by decide)) g4, ubs_up ubs_0 hk3 hwv.1, (e2.mono (by simp)).trans g3, (fr6_o e2 (by decide)).trans (fun j hj => ?_)⟩
        · rw [e3 J, hN, g1, hcn]
        · rw [g4, if_neg (by omega)]
      have stM : ∀ τ : sT, MP T τ p → GSt τ cs0 → ∃ τ1, fMM_takesTerms τ = fMM_takesTerms_L27 FU 1 τ1 ∧ MP T τ1 (qL T true p + 1) ∧ GSt τ1 (upC cs0 k w) ∧ mOff [49] [27] τ τ1 := by
        intro τ h hG
        obtain ⟨τ1, e1, e2, e3⟩ := inM τ h
        have hG1 : GSt τ1 cs0 := fun l hl => by rw [(e2.1 49 (by decide) (by decide)).1]; exact hG l hl
        obtain ⟨τ2, g1, g2, g3, g4⟩ := mterm_good hT true e1 hsa hG1 hk3 hk rfl
        rw [← hw] at g4
        exact ⟨τ2, by rw [e3, db2_t g1], g3, GSt_up hG1 g4, (e2.mono (by simp) (by simp)).trans g2⟩
      rcases terms_x hT 4 (qL T true p + 1) (upC cs0 k w) (by omega) (by omega) (csB_up (fun l _ => by unfold cs0; omega) hwv.2) hlt with ⟨q, oC, oM⟩ | ⟨q, hq, q60, q61, oC, oM⟩ | ⟨q, cs', hq1, hq2, hb', oC, oM⟩
      · refine Or.inl ⟨q, fun σ s hs12 h hC => ?_, fun τ h hG => ?_⟩
        · obtain ⟨σ1, e0, e1, e2, e3, e5, e6⟩ := stC σ s hs12 h hC
          obtain ⟨σ2, g1, g2, g3, g4⟩ := oC σ1 s _ N hs12 e1 e2 e3 (by omega)
          exact ⟨σ2, fun J => by rw [e0, db1_t g1], g2, e5.trans g3, e6.trans g4⟩
        · obtain ⟨τ1, e0, e1, e2, e4⟩ := stM τ h hG
          obtain ⟨τ2, g1, g2, g3⟩ := oM τ1 FU e1 e2 (by omega)
          exact ⟨τ2, by rw [e0]; exact g1, g2, e4.trans g3⟩
      · refine Or.inr (Or.inl ⟨q, hq, q60, q61, fun σ s hs12 h hC => ?_, fun τ h hG => ?_⟩)
        · obtain ⟨σ1, e0, e1, e2, e3, e5, e6⟩ := stC σ s hs12 h hC
          obtain ⟨σ2, g1, g2, g3, g4⟩ := oC σ1 s _ N hs12 e1 e2 e3 (by omega)
          exact ⟨σ2, fun J => by rw [e0, db1_t g1], g2, e5.trans g3, e6.trans g4⟩
        · obtain ⟨τ1, e0, e1, e2, e4⟩ := stM τ h hG
          obtain ⟨τ2, g1, g2, g3⟩ := oM τ1 FU e1 e2 (by omega)
          exact ⟨τ2, by rw [e0]; exact g1, g2, e4.trans g3⟩
      · refine Or.inr (Or.inr ⟨q, cs', by omega, hq2, hb', fun σ s hs12 h hC => ?_, fun τ h hG => ?_⟩)
        · obtain ⟨σ1, e0, e1, e2, e3, e5, e6⟩ := stC σ s hs12 h hC
          obtain ⟨σ2, g1, g2, g2', g3, g4⟩ := oC σ1 s _ N hs12 e1 e2 e3 (by omega)
          exact ⟨σ2, fun J => by rw [e0, db1_t g1], g2, g2', e5.trans g3, e6.trans g4⟩
        · obtain ⟨τ1, e0, e1, e2, e4⟩ := stM τ h hG
          obtain ⟨τ2, g1, g2, g2', g3⟩ := oM τ1 FU e1 e2 (by omega)
          exact ⟨τ2, by rw [e0]; exact g1, g2, g2', e4.trans g3⟩
    · refine Or.inl ⟨qL T true p, fun σ s hs12 h hC => ?_, fun τ h hG => ?_⟩
      · obtain ⟨σ1, e1, e2, e3⟩ := inC σ s h
        obtain ⟨σ2, g1, g2, g3⟩ := cterm_bad hT true e1 hsa (x0 := nI (6 * s)) (K := kFl) (f := N) (m := 0) (u := 0) (by omega) rfl (by omega) (fun k hk3 hk => absurd ⟨k, hk3, hk⟩ good)
        obtain ⟨σ3, k1, k2, k3⟩ := kFl_s hqL.2 g2
        have o := (e2.trans g3).trans k3
        refine ⟨σ3, fun J => ?_, k2, o.mono (by simp), fr6_o o (by decide)⟩
        rw [hN] at e3
        rw [e3 J, g1, db1_t k1]
      · obtain ⟨τ1, e1, e2, e3⟩ := inM τ h
        obtain ⟨τ2, g1, g2, g3⟩ := mterm_bad hT true e1 hsa (cs := cs0) (fun l _ => by unfold cs0; omega) (fun l hl => by rw [(e2.1 49 (by decide) (by decide)).1]; exact hG l hl) (fun k hk3 hk => absurd ⟨k, hk3, hk⟩ good)
        refine ⟨τ2, ?_, g3, (e2.mono (by simp) (by simp)).trans g2⟩
        rw [e3, db2_t g1, hN, mloop_0]
/-! the tail of an order: kind, right side, semicolon -/
theorem ordT_F {T : List Nat} (hT : TxOk T) {σ : sT} {q : Nat} {x0 : Int32} (h : CF T σ q) : ordT x0 σ = some σ := by
  unfold ordT
  rw [db1_t (h.yes hT), dlt_u, if_neg (show ¬ (1 : Int32) = 0 by decide)]
  try dsimp only
  rw [db1_t (h.yes hT), dlt_u, if_neg (show ¬ (1 : Int32) = 0 by decide)]
  try dsimp only
  rw [db1_t (h.yes hT), if_neg (show ¬ (1 : Int32) = 0 by decide)]
theorem cell3 {s : Nat} (hs : s ≤ 12) {k : Nat} (hk : k < 6) {x : Int32} (hx : x = nI k) : okI (nI (6 * s) + x) 78 = true ∧ (nI (6 * s) + x).toNatClampNeg = 6 * s + k := by
  rw [hx, na]
  exact ⟨okI_n (by omega) (by omega), nc (by omega)⟩
theorem ordT_K {T : List Nat} (hT : TxOk T) {σ : sT} {p q s : Nat} (hs : s ≤ 12) (h : CP T σ p) (hk : KdF T p q) : ∃ σ1, ordT (nI (6 * s)) σ = some σ1 ∧ CF T σ1 q ∧ scO [30] σ σ1 ∧ fr6 s σ σ1 := by
  obtain ⟨x, σ1, e1, e2, e3⟩ := hk.1 σ h
  have e4 := e3.w (c := 30) (k := 6 * s + 3) (v := x) (by decide) (by decide)
  obtain ⟨c1, c2⟩ := cell3 hs (k := 3) (by omega) (x := (3 : Int32)) rfl
  refine ⟨_, ?_, e4, (e2.mono (by simp)).trans (scO_c (by simp) (by decide)), (fr6_o e2 (by decide)).trans (fr6_w (by omega))⟩
  unfold ordT
  rw [db1_t h.no, dlt_u, if_pos rfl, db2_t e1, dck_t c1, c2, dlt_u]
  try dsimp only
  rw [db1_t (e4.yes hT), dlt_u, if_neg (show ¬ (1 : Int32) = 0 by decide)]
  try dsimp only
  rw [db1_t (e4.yes hT), if_neg (show ¬ (1 : Int32) = 0 by decide)]
theorem ordT_R {T : List Nat} (hT : TxOk T) {σ : sT} {p q s p1 k : Nat} (hs : s ≤ 12) (h : CP T σ p) (hk : KdS T p p1 k) (hr : RtF T p1 q) : ∃ σ1, ordT (nI (6 * s)) σ = some σ1 ∧ CF T σ1 q ∧ scO [30] σ σ1 ∧ fr6 s σ σ1 := by
  obtain ⟨σ1, e1, e2, e3⟩ := hk.1 σ h
  have e4 := e3.w (c := 30) (k := 6 * s + 3) (v := nI k) (by decide) (by decide)
  obtain ⟨c1, c2⟩ := cell3 hs (k := 3) (by omega) (x := (3 : Int32)) rfl
  obtain ⟨d1, d2⟩ := cell3 hs (k := 4) (by omega) (x := (4 : Int32)) rfl
  obtain ⟨x, σ2, f1, f2, f3⟩ := hr.1 _ e4
  have f4 := f3.w (c := 30) (k := 6 * s + 4) (v := x) (by decide) (by decide)
  refine ⟨_, ?_, f4, ((e2.mono (by simp)).trans (scO_c (by simp) (by decide))).trans ((f2.mono (by simp)).trans (scO_c (by simp) (by decide))), ((fr6_o e2 (by decide)).trans (fr6_w (by omega))).trans ((fr6_o f2 (by decide)).trans (fr6_w (by omega)))⟩
  unfold ordT
  rw [db1_t h.no, dlt_u, if_pos rfl, db2_t e1, dck_t c1, c2, dlt_u]
  try dsimp only
  rw [db1_t e4.no, dlt_u, if_pos rfl, db2_t f1, dck_t d1, d2, dlt_u]
  try dsimp only
  rw [db1_t (f4.yes hT), if_neg (show ¬ (1 : Int32) = 0 by decide)]
theorem ordT_S {T : List Nat} (hT : TxOk T) {σ : sT} {p s p1 p2 k : Nat} {d : Int} (hs : s ≤ 12) (h : CP T σ p) (hk : KdS T p p1 k) (hr : RtS T p1 p2 d) : ∃ σ1 σ2, ordT (nI (6 * s)) σ = (db1 (fSc_expect (59 : Int32) σ1) fun σ22 => some σ22) ∧ CP T σ1 p2 ∧ scO [30] σ σ1 ∧ fr6 s σ σ1 ∧ (∀ j, σ2 j = if j = 6 * s + 4 then iI d else if j = 6 * s + 3 then nI k else σ.1 30 j) ∧ σ1.1 30 = σ2 := by
  obtain ⟨σ1, e1, e2, e3⟩ := hk.1 σ h
  have e4 := e3.w (c := 30) (k := 6 * s + 3) (v := nI k) (by decide) (by decide)
  obtain ⟨c1, c2⟩ := cell3 hs (k := 3) (by omega) (x := (3 : Int32)) rfl
  obtain ⟨d1, d2⟩ := cell3 hs (k := 4) (by omega) (x := (4 : Int32)) rfl
  obtain ⟨σ2, f1, f2, f3⟩ := hr.1 _ e4
  have f4 := f3.w (c := 30) (k := 6 * s + 4) (v := iI d) (by decide) (by decide)
  refine ⟨siW σ2 30 (6 * s + 4) (iI d), _, ?_, f4, ((e2.mono (by simp)).trans (scO_c (by simp) (by decide))).trans ((f2.mono (by simp)).trans (scO_c (by simp) (by decide))), ((fr6_o e2 (by decide)).trans (fr6_w (by omega))).trans ((fr6_o f2 (by decide)).trans (fr6_w (by omega))), fun j => ?_, rfl⟩
  · unfold ordT
    rw [db1_t h.no, dlt_u, if_pos rfl, db2_t e1, dck_t c1, c2, dlt_u]
    try dsimp only
    rw [db1_t e4.no, dlt_u, if_pos rfl, db2_t f1, dck_t d1, d2, dlt_u]
    try dsimp only
    rw [db1_t f4.no, if_pos rfl]
  · rw [siW_s, (f2.1 30 (by simp) (by decide)).1, siW_s, (e2.1 30 (by simp) (by decide)).1]
theorem exp_y {T : List Nat} (hT : TxOk T) {σ : sT} {p : Nat} {k : Int} {x : Int32} (hx : iI k = x) (h : CP T σ p) (c : ch T (sk T p) = k) (hk : k ≠ -1) : ∃ σ1, fSc_expect x σ = some σ1 ∧ CP T σ1 (sk T p + 1) ∧ scO [] σ σ1 := by
  obtain ⟨σ1, e1, e2, e3⟩ := cpeek_k hT h c
  have hlt : sk T p < T.length := ch_lt (by omega)
  refine ⟨siW σ1 26 2 (nI (sk T p + 1)), ?_, cp_at hlt e2.p, e3.trans (scO_p _ _)⟩
  unfold fSc_expect
  rw [db2_t e1, if_pos hx, db1_t (sstep_spec e2)]
theorem exp_n {T : List Nat} (hT : TxOk T) {σ : sT} {p : Nat} {k : Int} {x : Int32} (hx : iI k = x) (h : CP T σ p) (c : ch T (sk T p) ≠ k) (hk : 0 ≤ k ∧ k < 1000) : ∃ σ1, fSc_expect x σ = some σ1 ∧ CF T σ1 (sk T p) ∧ scO [] σ σ1 := by
  obtain ⟨σ1, e1, e2, e3⟩ := cpeek hT h
  obtain ⟨f1, f2⟩ := cfail (sk_le h.1) e2
  refine ⟨_, ?_, f2, e3.trans (scO_q _ _)⟩
  unfold fSc_expect
  rw [db2_t e1, if_neg (by rw [← hx]; exact chn hT c (by omega)), db1_t f1]
