/-! reading orders: an order, orders one behind another -/
def vOk (v : Nat → Int) : Prop := (∀ l, l < 3 → -5 ≤ v l ∧ v l ≤ 5) ∧ (0 ≤ v 3 ∧ v 3 ≤ 2) ∧ (-50 ≤ v 4 ∧ v 4 ≤ 50)
def OdF (T : List Nat) (p q : Nat) : Prop :=
  (∀ (σ : sT) (s : Nat), s ≤ 12 → CP T σ p → ∃ σ1, fOR_readOrder (nI (6 * s)) σ = some σ1 ∧ CF T σ1 q ∧ scO [30] σ σ1 ∧ fr6 s σ σ1) ∧
  (∀ τ : sT, MP T τ p → ∃ τ1, fMM_readsOrder τ = some (0, τ1) ∧ MF T τ1 q ∧ mOff [49] [27, 32] τ τ1)
def OdS (T : List Nat) (p q : Nat) (v : Nat → Int) : Prop :=
  (∀ (σ : sT) (s : Nat), s ≤ 12 → CP T σ p → ∃ σ1, fOR_readOrder (nI (6 * s)) σ = some σ1 ∧ CP T σ1 q ∧ (∀ k, k < 5 → σ1.1 30 (6 * s + k) = iI (v k)) ∧ scO [30] σ σ1 ∧ fr6 s σ σ1) ∧
  (∀ τ : sT, MP T τ p → ∃ τ1, fMM_readsOrder τ = some (1, τ1) ∧ MP T τ1 q ∧ (∀ k, k < 5 → τ1.1 49 k = iI (v k)) ∧ mOff [49] [27, 32] τ τ1)
theorem MP.of {T : List Nat} {C F : List Nat} {τ τ1 : sT} {p : Nat} (h : MP T τ p) (o : mOff C F τ τ1) (h1 : 45 ∉ C) (h2 : 26 ∉ F) (h3 : 27 ∉ F) : MP T τ1 p := by
  obtain ⟨hp, r, hr, e, hS⟩ := h
  exact ⟨hp, r, hr, e, hS.1.ms o h1 h2, (o.2 27 h3).1.trans hS.2⟩
theorem oz_C {T : List Nat} {p s : Nat} (hs : s ≤ 12) : ∀ (c i f : Nat) (σ : sT), i + c = 3 → c < f → (∀ l, l < i → σ.1 30 (6 * s + l) = 0) → CP T σ p →
    ∃ σ1, (∀ K : sT → Option sT, fOR_readOrder_L2 (nI (6 * s)) K f (nI i) σ = K σ1) ∧ CSt σ1 s cs0 ∧ CP T σ1 p ∧ scO [30] σ σ1 ∧ fr6 s σ σ1 := by
  intro c
  induction c with
  | zero =>
    intro i f σ h1 h2 hz h
    obtain ⟨f', rfl⟩ : ∃ f', f = f' + 1 := ⟨f - 1, by omega⟩
    refine ⟨σ, fun K => ?_, fun l hl => hz l (by omega), h, scO.refl _ _, fun j _ => rfl⟩
    unfold fOR_readOrder_L2
    rw [if_pos (show (3 : Int32) ≤ nI i from nI_le (a := 3) (by omega) (by omega))]
  | succ c ih =>
    intro i f σ h1 h2 hz h
    obtain ⟨f', rfl⟩ : ∃ f', f = f' + 1 := ⟨f - 1, by omega⟩
    obtain ⟨σ1, e1, e2, e3, e4, e5⟩ := ih (i + 1) f' (siW σ 30 (6 * s + i) 0) (by omega) (by omega) (fun l hl => by
      rw [siW_s]
      by_cases z : l = i
      · rw [if_pos (by omega)]
      · rw [if_neg (by omega)]; exact hz l (by omega)) (h.w (by decide) (by decide))
    refine ⟨σ1, fun K => ?_, e2, e3, (scO_c (by simp) (by decide)).trans e4, (fr6_w (by omega)).trans e5⟩
    unfold fOR_readOrder_L2
    rw [if_neg (show ¬ (3 : Int32) ≤ nI i from nI_ge (b := 3) (by omega) (by omega)), na, dck_t (okI_n (by omega) (by omega)), nc (by omega), dlt_u, nI_1]
    exact e1 K
theorem oz_M : ∀ (c i f : Nat) (τ : sT), i + c = 5 → c < f → (∀ l, l < i → τ.1 49 l = 0) →
    ∃ τ1, (∀ K : sT → Option (Int32 × sT), fMM_readsOrder_L2 K f (nI i) τ = K τ1) ∧ (∀ l, l < 5 → τ1.1 49 l = 0) ∧ mOff [49] [] τ τ1 := by
  intro c
  induction c with
  | zero =>
    intro i f τ h1 h2 hz
    obtain ⟨f', rfl⟩ : ∃ f', f = f' + 1 := ⟨f - 1, by omega⟩
    refine ⟨τ, fun K => ?_, fun l hl => hz l (by omega), mOff.refl _ _ _⟩
    unfold fMM_readsOrder_L2
    rw [if_pos (show (5 : Int32) ≤ nI i from nI_le (a := 5) (by omega) (by omega))]
  | succ c ih =>
    intro i f τ h1 h2 hz
    obtain ⟨f', rfl⟩ : ∃ f', f = f' + 1 := ⟨f - 1, by omega⟩
    obtain ⟨τ1, e1, e2, e3⟩ := ih (i + 1) f' (siW τ 49 i 0) (by omega) (by omega) (fun l hl => by
      rw [siW_s]
      by_cases z : l = i
      · rw [if_pos z]
      · rw [if_neg z]; exact hz l (by omega))
    refine ⟨τ1, fun K => ?_, e2, (mOff_ci (by simp) (by decide)).trans e3⟩
    unfold fMM_readsOrder_L2
    rw [if_neg (show ¬ (5 : Int32) ≤ nI i from nI_ge (b := 5) (by omega) (by omega)), dck_t (okI_n (by omega) (by omega)), nc (by omega), dlt_u, nI_1]
    exact e1 K
theorem ord_pre {T : List Nat} {σ : sT} {p s : Nat} (hs : s ≤ 12) (h : CP T σ p) : ∃ σa, CP T σa p ∧ CSt σa s cs0 ∧ scO [30] σ σa ∧ fr6 s σ σa ∧ fOR_readOrder (nI (6 * s)) σ = ordH (nI (6 * s)) (ordT (nI (6 * s))) σa := by
  obtain ⟨σ1, e1, e2, e3, e4, e5⟩ := oz_C hs 3 0 FU σ (by omega) (by unfold FU; omega) (fun l hl => by omega) h
  rw [nI_0] at e1
  refine ⟨σ1, e3, e2, e4, e5, ?_⟩
  obtain ⟨A, hA⟩ : ∃ A, FU = A := ⟨_, rfl⟩
  rw [ord_eq, hA]
  rw [hA] at e1
  rw [e1]
def mOrd (σ3 : sT) : Option (Int32 × sT) :=
    db2 (fMM_takesTerms σ3) fun r6 σ7 =>
    if r6 = 0 then
      some ((0 : Int32), σ7)
    else
      db2 (fMM_takesKind σ7) fun r10 σ11 =>
      if r10 = 0 then
        some ((0 : Int32), σ11)
      else
        db2 (fMM_takesBound σ11) fun r14 σ15 =>
        if r14 = 0 then
          some ((0 : Int32), σ15)
        else
          db2 (fMM_here σ15) fun r18 σ19 =>
          if r18 = (59 : Int32) then
            dlt (siW σ19 33 27 ((σ19.1 33 27) + (1 : Int32))) fun σ21 =>
            some ((1 : Int32), σ21)
          else
            some ((0 : Int32), σ19)
theorem mord_eq (τ : sT) : fMM_readsOrder τ = fMM_readsOrder_L2 mOrd FU (0 : Int32) τ := by
  unfold fMM_readsOrder mOrd
  rw [dlt_u]
theorem mord_pre {T : List Nat} {τ : sT} {p : Nat} (h : MP T τ p) : ∃ τa, MP T τa p ∧ GSt τa cs0 ∧ mOff [49] [27, 32] τ τa ∧ fMM_readsOrder τ = mOrd τa := by
  obtain ⟨τ1, e1, e2, e3⟩ := oz_M 5 0 FU τ (by omega) (by unfold FU; omega) (fun l hl => by omega)
  rw [nI_0] at e1
  refine ⟨τ1, h.of e3 (by decide) (by decide) (by decide), fun l hl => e2 l (by omega), e3.mono (by simp) (by simp), ?_⟩
  obtain ⟨A, hA⟩ : ∃ A, FU = A := ⟨_, rfl⟩
  rw [mord_eq, hA]
  rw [hA] at e1
  rw [e1]
theorem order_x {T : List Nat} (hT : TxOk T) {p : Nat} (hp : p ≤ T.length) : (∃ q, OdF T p q) ∨ ∃ q v, p + 2 ≤ q ∧ q ≤ T.length ∧ vOk v ∧ OdS T p q v := by
  rcases head_x hT hp with ⟨q, oC, oM⟩ | ⟨q, hq, q60, q61, oC, oM⟩ | ⟨q, cs, hq1, hq2, hb, oC, oM⟩
  · refine Or.inl ⟨q, fun σ s hs h => ?_, fun τ h => ?_⟩
    · obtain ⟨σa, a1, a2, a3, a4, a5⟩ := ord_pre hs h
      obtain ⟨σ1, e1, e2, e3, e4⟩ := oC σa s hs a1 a2
      exact ⟨σ1, by rw [a5, e1, ordT_F hT e2], e2, a3.trans e3, a4.trans e4⟩
    · obtain ⟨τa, a1, a2, a3, a4⟩ := mord_pre h
      obtain ⟨τ1, e1, e2, e3⟩ := oM τa a1 a2
      refine ⟨τ1, ?_, e2, a3.trans (e3.mono (by simp) (by simp))⟩
      rw [a4]
      unfold mOrd
      rw [db2_t e1, if_pos rfl]
  · have hk := kind_f hT hq q60 q61
    refine Or.inl ⟨sk T q, fun σ s hs h => ?_, fun τ h => ?_⟩
    · obtain ⟨σa, a1, a2, a3, a4, a5⟩ := ord_pre hs h
      obtain ⟨σ1, e1, e2, e3, e4⟩ := oC σa s hs a1 a2
      obtain ⟨σ2, f1, f2, f3, f4⟩ := ordT_K hT hs e2 hk
      exact ⟨σ2, by rw [a5, e1, f1], f2, (a3.trans e3).trans f3, (a4.trans e4).trans f4⟩
    · obtain ⟨τa, a1, a2, a3, a4⟩ := mord_pre h
      obtain ⟨τ1, e1, e2, e3⟩ := oM τa a1 a2
      refine ⟨τ1, ?_, e2, a3.trans (e3.mono (by simp) (by simp))⟩
      rw [a4]
      unfold mOrd
      rw [db2_t e1, if_pos rfl]
  · rcases kind_x hT hq2 with hk | ⟨q1, k, hk2, hk3, hk4, hk⟩
    · refine Or.inl ⟨sk T q, fun σ s hs h => ?_, fun τ h => ?_⟩
      · obtain ⟨σa, a1, a2, a3, a4, a5⟩ := ord_pre hs h
        obtain ⟨σ1, e1, e2, e2', e3, e4⟩ := oC σa s hs a1 a2
        obtain ⟨σ2, f1, f2, f3, f4⟩ := ordT_K hT hs e2 hk
        exact ⟨σ2, by rw [a5, e1, f1], f2, (a3.trans e3).trans f3, (a4.trans e4).trans f4⟩
      · obtain ⟨τa, a1, a2, a3, a4⟩ := mord_pre h
        obtain ⟨τ1, e1, e2, e2', e3⟩ := oM τa a1 a2
        obtain ⟨τ2, f1, f2, f3⟩ := hk.2 τ1 e2
        refine ⟨τ2, ?_, f3, (a3.trans (e3.mono (by simp) (by simp))).trans (f2.mono (by simp) (by simp))⟩
        rw [a4]
        unfold mOrd
        rw [db2_t e1, if_neg (show ¬ (1 : Int32) = 0 by decide), db2_t f1, if_pos rfl]
    · rcases right_x hT hk4 with ⟨q2, hr⟩ | ⟨q2, d, hd, hr1, hr2, hr⟩
      · refine Or.inl ⟨q2, fun σ s hs h => ?_, fun τ h => ?_⟩
        · obtain ⟨σa, a1, a2, a3, a4, a5⟩ := ord_pre hs h
          obtain ⟨σ1, e1, e2, e2', e3, e4⟩ := oC σa s hs a1 a2
          obtain ⟨σ2, f1, f2, f3, f4⟩ := ordT_R hT hs e2 hk hr
          exact ⟨σ2, by rw [a5, e1, f1], f2, (a3.trans e3).trans f3, (a4.trans e4).trans f4⟩
        · obtain ⟨τa, a1, a2, a3, a4⟩ := mord_pre h
          obtain ⟨τ1, e1, e2, e2', e3⟩ := oM τa a1 a2
          obtain ⟨τ2, f1, f2, f3, f4⟩ := hk.2 τ1 e2
          obtain ⟨τ3, g1, g2, g3⟩ := hr.2 τ2 f3
          refine ⟨τ3, ?_, g3, ((a3.trans (e3.mono (by simp) (by simp))).trans (f2.mono (by simp) (by simp))).trans g2⟩
          rw [a4]
          unfold mOrd
          rw [db2_t e1, if_neg (show ¬ (1 : Int32) = 0 by decide), db2_t f1, if_neg (show ¬ (1 : Int32) = 0 by decide), db2_t g1, if_pos rfl]
      · by_cases c59 : ch T (sk T q2) = 59
        · have hlt : sk T q2 < T.length := ch_lt (by omega)
          have hge := sk_ge T q2
          obtain ⟨v, hv⟩ : ∃ v : Nat → Int, v = fun j => if j = 4 then d else if j = 3 then (k : Int) else cs j := ⟨_, rfl⟩
          refine Or.inr ⟨sk T q2 + 1, v, by omega, by omega, ⟨fun l hl => ?_, ?_, ?_⟩, fun σ s hs h => ?_, fun τ h => ?_⟩
          · rw [hv]
            show -5 ≤ (if l = 4 then d else if l = 3 then (k : Int) else cs l) ∧ (if l = 4 then d else if l = 3 then (k : Int) else cs l) ≤ 5
            rw [if_neg (by omega), if_neg (by omega)]
            exact hb l hl
          · rw [hv]
            show 0 ≤ (k : Int) ∧ (k : Int) ≤ 2
            omega
          · rw [hv]; exact hd
          · obtain ⟨σa, a1, a2, a3, a4, a5⟩ := ord_pre hs h
            obtain ⟨σ1, e1, e2, e2', e3, e4⟩ := oC σa s hs a1 a2
            obtain ⟨σ2, z2, f1, f2, f3, f4, f5, f6⟩ := ordT_S hT hs e2 hk hr
            obtain ⟨σ3, g1, g2, g3⟩ := exp_y hT (x := (59 : Int32)) rfl f2 c59 (by omega)
            refine ⟨σ3, by rw [a5, e1, f1, db1_t g1], g2, fun j hj => ?_, ((a3.trans e3).trans f3).trans (g3.mono (by simp)), ((a4.trans e4).trans f4).trans (fr6_o g3 (by decide))⟩
            rw [(g3.1 30 (by simp) (by decide)).1, f6, f5, hv]
            show (if 6 * s + j = 6 * s + 4 then iI d else if 6 * s + j = 6 * s + 3 then nI k else σ1.1 30 (6 * s + j)) = iI (if j = 4 then d else if j = 3 then (k : Int) else cs j)
            by_cases z4 : j = 4
            · rw [if_pos (by omega), if_pos z4]
            · rw [if_neg (by omega), if_neg z4]
              by_cases z3 : j = 3
              · rw [if_pos (by omega), if_pos z3, nI_iI]
              · rw [if_neg (by omega), if_neg z3]
                exact e2' j (by omega)
          · obtain ⟨τa, a1, a2, a3, a4⟩ := mord_pre h
            obtain ⟨τ1, e1, e2, e2', e3⟩ := oM τa a1 a2
            obtain ⟨τ2, f1, f2, f3, f4⟩ := hk.2 τ1 e2
            obtain ⟨τ3, g1, g2, g3, g4⟩ := hr.2 τ2 f3
            obtain ⟨τ4, k1, k2, k3⟩ := mhere_k hT g3 c59
            have o5 : mOff [] [27] τ4 (siW τ4 33 27 (nI (sk T q2 + 1))) := mOff_si (by simp)
            refine ⟨siW τ4 33 27 (nI (sk T q2 + 1)), ?_, mp_at hlt k2.p, fun j hj => ?_, (((a3.trans (e3.mono (by simp) (by simp))).trans (f2.mono (by simp) (by simp))).trans g2).trans ((k3.trans o5).mono (by simp) (by simp))⟩
            · rw [a4]
              unfold mOrd
              rw [db2_t e1, if_neg (show ¬ (1 : Int32) = 0 by decide), db2_t f1, if_neg (show ¬ (1 : Int32) = 0 by decide), db2_t g1, if_neg (show ¬ (1 : Int32) = 0 by decide), db2_t k1, if_pos (show iI 59 = (59 : Int32) from rfl), k2.2, nI_1, dlt_u]
            · rw [siW_n (by decide), (k3.1 49 (by simp) (by decide)).1, g4, f4, hv]
              show (if j = 4 then iI d else if j = 3 then nI k else τ1.1 49 j) = iI (if j = 4 then d else if j = 3 then (k : Int) else cs j)
              by_cases z4 : j = 4
              · rw [if_pos z4, if_pos z4]
              · rw [if_neg z4, if_neg z4]
                by_cases z3 : j = 3
                · rw [if_pos z3, if_pos z3, nI_iI]
                · rw [if_neg z3, if_neg z3]
                  exact e2' j (by omega)
        · refine Or.inl ⟨sk T q2, fun σ s hs h => ?_, fun τ h => ?_⟩
          · obtain ⟨σa, a1, a2, a3, a4, a5⟩ := ord_pre hs h
            obtain ⟨σ1, e1, e2, e2', e3, e4⟩ := oC σa s hs a1 a2
            obtain ⟨σ2, z2, f1, f2, f3, f4, f5, f6⟩ := ordT_S hT hs e2 hk hr
            obtain ⟨σ3, g1, g2, g3⟩ := exp_n hT (x := (59 : Int32)) rfl f2 c59 (by omega)
            exact ⟨σ3, by rw [a5, e1, f1, db1_t g1], g2, ((a3.trans e3).trans f3).trans (g3.mono (by simp)), ((a4.trans e4).trans f4).trans (fr6_o g3 (by decide))⟩
          · obtain ⟨τa, a1, a2, a3, a4⟩ := mord_pre h
            obtain ⟨τ1, e1, e2, e2', e3⟩ := oM τa a1 a2
            obtain ⟨τ2, f1, f2, f3, f4⟩ := hk.2 τ1 e2
            obtain ⟨τ3, g1, g2, g3, g4⟩ := hr.2 τ2 f3
            obtain ⟨τ4, k1, k2, k3⟩ := mhere hT g3
            refine ⟨τ4, ?_, ⟨sk_le hr2, k2⟩, (((a3.trans (e3.mono (by simp) (by simp))).trans (f2.mono (by simp) (by simp))).trans g2).trans (k3.mono (by simp) (by simp))⟩
            rw [a4]
            unfold mOrd
            rw [db2_t e1, if_neg (show ¬ (1 : Int32) = 0 by decide), db2_t f1, if_neg (show ¬ (1 : Int32) = 0 by decide), db2_t g1, if_neg (show ¬ (1 : Int32) = 0 by decide), db2_t k1, if_neg (show ¬ iI (ch T (sk T q2)) = (59 : Int32) from chn hT (k := 59) c59 (by omega))]
