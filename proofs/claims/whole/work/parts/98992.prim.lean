/-! formulas: both sides; what stands alone -/
def FC (T : List Nat) (n : Nat) (σ : sT) (p : Nat) (L : List Nat) (O : Nat) : Prop := CP T σ p ∧ SgAt σ L ∧ σ.1 28 3 = nI O ∧ σ.1 1 3 = nI n ∧ slOk n L ∧ O < 4096
def CO (σ σ1 : sT) : Prop := scO [24, 25, 28] σ σ1
theorem CO.trans {a b c : sT} (h : CO a b) (k : CO b c) : CO a c := scO.trans h k
theorem CO_of {C : List Nat} {a b : sT} (h : scO C a b) (hC : ∀ q ∈ C, q ∈ [24, 25, 28]) : CO a b := scO.mono h hC
theorem FC.sc {T : List Nat} {n : Nat} {σ σ1 : sT} {p q : Nat} {L : List Nat} {O : Nat} (h : FC T n σ p L O) (o : scO [] σ σ1) (hp : CP T σ1 q) : FC T n σ1 q L O := by
  obtain ⟨h0, h1, h2, h3, h4⟩ := h
  refine ⟨hp, ?_, ?_, ?_, h4⟩
  · unfold SgAt at *
    rw [(o.1 24 (by simp) (by decide)).1, (o.1 25 (by simp) (by decide)).1]; exact h1
  · rw [(o.1 28 (by simp) (by decide)).1]; exact h2
  · rw [(o.1 1 (by simp) (by decide)).1]; exact h3
theorem scO_off {C : List Nat} {σ σ1 : sT} (h : offC C σ σ1) (hc : 26 ∉ C) : scO C σ σ1 := ⟨fun q hq _ => h q hq, fun k _ _ => by rw [(h 26 hc).1]⟩
theorem ScAt.off {T C : List Nat} {σ σ1 : sT} {p : Nat} {q : Int} (h : ScAt σ T p q) (o : offC C σ σ1) (h1 : 26 ∉ C) (h2 : 27 ∉ C) : ScAt σ1 T p q := by
  unfold ScAt at *
  refine ⟨h.1.of o h1 h2, ?_⟩
  rw [(o 26 h1).1]; exact h.2
theorem cons_F {T : List Nat} (hT : TxOk T) {n : Nat} (hn : n ≤ 12) {σ : sT} {p : Nat} (hp : p ≤ T.length) (h : ScAt σ T p (-1)) (h1 : σ.1 1 3 = nI n) (hb : (nuOk T p && decide ((nuL T 2 p 0).2 < n)) = false) :
    ∃ σ1, fFR_readConstraint σ = some (0, σ1) ∧ CF T σ1 (if nuOk T p = true then p else (nuL T 2 p 0).1) ∧ scO [] σ σ1 := by
  have hTl := hT.1
  obtain ⟨σ1, e1, e2, e3⟩ := rnum_spec hT hp (lim := (n : Int) - 1) (by omega) h
  have hle := (nuL_pl (T := T) 2 p 0 hp).2.1
  have hl : σ.1 1 3 - (1 : Int32) = iI ((n : Int) - 1) := by rw [h1, nI_iI, show (1 : Int32) = iI 1 from rfl, iI_sub]
  have hf : CF T σ1 (if nuOk T p = true then p else (nuL T 2 p 0).1) := by
    by_cases z : nuOk T p = true
    · rw [z, Bool.true_and] at hb
      have hv := of_decide_eq_false hb
      rw [if_pos z, if_neg (by omega)] at e2
      rw [if_pos z]
      exact ⟨hp, _, hle, e2⟩
    · rw [if_neg z] at e2 ⊢
      exact ⟨hle, _, hle, e2⟩
  refine ⟨σ1, ?_, hf, e3⟩
  unfold fFR_readConstraint
  rw [hl, db2_t e1, db1_t (hf.yes hT), if_neg (show ¬ (1 : Int32) = 0 by decide)]
theorem cons_S {T : List Nat} (hT : TxOk T) {n : Nat} (hn : n ≤ 12) {σ : sT} {p : Nat} {L : List Nat} {O : Nat} (hp : p ≤ T.length) (h : ScAt σ T p (-1)) (hF : FC T n σ p L O) (hb : (nuOk T p && decide ((nuL T 2 p 0).2 < n)) = true) :
    ∃ y σ1, fFR_readConstraint σ = some (y, σ1) ∧ FC T n σ1 (nuL T 2 p 0).1 (addL L (numsR [((nuL T 2 p 0).2 : Int)])) (orL O (numsR [((nuL T 2 p 0).2 : Int)])) ∧ CO σ σ1 ∧ tbOk L [((nuL T 2 p 0).2 : Int)] (fun v => v (nuL T 2 p 0).2) y := by
  have hTl := hT.1
  obtain ⟨σ1, e1, e2, e3⟩ := rnum_spec hT hp (lim := (n : Int) - 1) (by omega) h
  have hle := (nuL_pl (T := T) 2 p 0 hp).2.1
  have hl : σ.1 1 3 - (1 : Int32) = iI ((n : Int) - 1) := by rw [hF.2.2.2.1, nI_iI, show (1 : Int32) = iI 1 from rfl, iI_sub]
  rw [Bool.and_eq_true] at hb
  have hv := of_decide_eq_true hb.2
  rw [if_pos hb.1, if_pos (by omega)] at e2
  have hF1 := hF.sc e3 (cp_at hle e2)
  generalize nuL T 2 p 0 = r at *
  obtain ⟨r, v⟩ := r
  dsimp only at *
  have hpow : 2 ^ v < 4096 := Nat.lt_of_lt_of_le (Nat.pow_lt_pow_right (by omega) (show v < 12 by omega)) (by decide)
  obtain ⟨σ2, h2⟩ : ∃ t, t = siW σ1 28 3 (nI (O ||| 2 ^ v)) := ⟨_, rfl⟩
  have o2 : offC [28] σ1 σ2 := by rw [h2]; exact offC_si (by simp)
  obtain ⟨σ3, y, g1, g2, g3, g4⟩ := slot_x hn (hF1.2.1.of o2 (by decide) (by decide)) hF1.2.2.2.2.1 hv
  have hL : addL L (numsR [(v : Int)]) = addS L v := by rw [numsR_num]; rfl
  have hO : orL O (numsR [(v : Int)]) = O ||| 2 ^ v := by rw [numsR_num]; rfl
  refine ⟨y, σ3, ?_, ?_, ?_, ?_⟩
  · unfold fFR_readConstraint
    rw [hl, db2_t e1, db1_t (hasF0 e2.2.2), if_pos rfl, hF1.2.2.1, shl_n (by omega), nI_or' hF1.2.2.2.2.2 hpow, dlt_u, ← h2]
    exact g1
  · rw [hL, hO]
    refine ⟨cp_at hle ((e2.off o2 (by decide) (by decide)).off g3 (by decide) (by decide)), g2, ?_, ?_, slOk_add hF1.2.2.2.2.1 hv, Nat.or_lt_two_pow (n := 12) hF1.2.2.2.2.2 hpow⟩
    · rw [(g3 28 (by decide)).1, h2, siW_s, if_pos rfl]
    · rw [(g3 1 (by decide)).1, (o2 1 (by decide)).1]; exact hF1.2.2.2.1
  · exact ((CO_of e3 (by simp)).trans (CO_of (scO_off o2 (by decide)) (by simp))).trans (CO_of (scO_off g3 (by decide)) (by simp))
  · rintro ⟨M, hM, hm1, hm2⟩ pl w hpl hw
    rw [hL] at hw
    rw [numsR_num] at hm2
    exact g4 (addS_room hF1.2.2.2.2.1.1 hM hm1 (hm2 v (by simp))).1 pl w hpl hw
/-! outcomes: level t (0 sum, 1 product, 2 factor), depth d, place p -/
def kb (t d : Nat) : Nat := 4 * (9 - d) - t
def OCF (T : List Nat) (n t d p q : Nat) : Prop := ∀ (k : Nat) (σ : sT) (L : List Nat) (O : Nat), kb t d ≤ k → FC T n σ p L O → ∃ y σ1, fFR_rec k t (nI d) σ = some (y, σ1) ∧ CF T σ1 q ∧ CO σ σ1
def OCS (T : List Nat) (n t d p q : Nat) (R : List Int) (F : (Nat → Bool) → Bool) : Prop := ∀ (k : Nat) (σ : sT) (L : List Nat) (O : Nat), kb t d ≤ k → FC T n σ p L O → ∃ y σ1, fFR_rec k t (nI d) σ = some (y, σ1) ∧ FC T n σ1 q (addL L (numsR R)) (orL O (numsR R)) ∧ CO σ σ1 ∧ tbOk L R F y
def OMF (T : List Nat) (n t d p q : Nat) : Prop := ∀ (τ : sT) (S : List Int) (W : List Nat) (f : Nat), FM T n τ p S W d true → Wk t W → S.length + W.length ≤ p → T.length + 1 < f + p → ∃ τ1, (∀ K, fMM_readsFormula_L27 K f 1 τ = K 0 τ1) ∧ MF T τ1 q ∧ MO τ τ1
def OMS (T : List Nat) (n t d p q : Nat) (R : List Int) : Prop := ∀ (τ : sT) (S : List Int) (W : List Nat) (f : Nat), FM T n τ p S W d true → Wk t W → S.length + W.length ≤ p → T.length + 1 < f + p → ∃ τ1 f' S' Z, (∀ K, fMM_readsFormula_L27 K f 1 τ = fMM_readsFormula_L27 K f' 1 τ1) ∧ (∀ z ∈ Z, al t z) ∧ S' ++ ngs Z = S ++ R ∧ FM T n τ1 q S' (W ++ Z.reverse) d false ∧ T.length + 1 < f' + q ∧ MO τ τ1
def gdR (T : List Nat) (n p q : Nat) (R : List Int) (F : (Nat → Bool) → Bool) : Prop := q ≤ T.length ∧ p < q ∧ R.length + p ≤ q ∧ Says R F ∧ ∀ i ∈ numsR R, i < n
def XX (T : List Nat) (n t d p : Nat) : Prop := (∃ q, q ≤ T.length ∧ OCF T n t d p q ∧ OMF T n t d p q) ∨ ∃ q R F, gdR T n p q R F ∧ (∀ z : Nat, al t z → ch T (sk T q) ≠ (z : Int)) ∧ OCS T n t d p q R F ∧ OMS T n t d p q R
/-- the class behind the nots -/
def kF6 (recF : Nat → Int32 → sT → Option (Int32 × sT)) (a1 : Int32) : Int32 → sT → Option (Int32 × sT) := fun (x4 : Int32) (σ5 : sT) =>
    db2 (fSc_peek σ5) fun r8 σ9 =>
    dlt (fun (x10 : Int32) (σ11 : sT) =>
      if (x4 - x4 / (2 : Int32) * (2 : Int32)) = 0 then
        some (x10, σ11)
      else
        some (x10 ^^^ (-1 : Int32), σ11)) fun J12 =>
    if r8 = (40 : Int32) then
      db2 (recF 3 a1 σ9) fun r19 σ20 =>
      J12 r19 σ20
    else
      db2 (fFR_readConstraint σ9) fun r16 σ17 =>
      J12 r16 σ17
def PrF (T : List Nat) (n d p q : Nat) : Prop :=
  (∀ (k : Nat) (σ : sT) (L : List Nat) (O : Nat), kb 3 d ≤ k → FC T n σ p L O → ∃ σ1, (∀ x4, ∃ y, kF6 (fFR_rec k) (nI d) x4 σ = some (y, σ1)) ∧ CF T σ1 q ∧ CO σ σ1) ∧
  (∀ (m : Nat) (τ : sT) (S : List Int) (W : List Nat) (f : Nat), FM T n τ p S (W ++ List.replicate m 33) d true → W.getLast? ≠ some 33 → S.length + (W.length + m) ≤ p → T.length + 1 < f + p → ∃ τ1, (∀ K, fMM_readsFormula_L27 K f 1 τ = K 0 τ1) ∧ MF T τ1 q ∧ MO τ τ1)
def PrS (T : List Nat) (n d p q : Nat) (R : List Int) (F : (Nat → Bool) → Bool) : Prop :=
  (∀ (k : Nat) (σ : sT) (L : List Nat) (O : Nat), kb 3 d ≤ k → FC T n σ p L O → ∃ y σ1, (∀ x4 : Int32, kF6 (fFR_rec k) (nI d) x4 σ = if (x4 - x4 / (2 : Int32) * (2 : Int32)) = 0 then some (y, σ1) else some (y ^^^ (-1 : Int32), σ1)) ∧ FC T n σ1 q (addL L (numsR R)) (orL O (numsR R)) ∧ CO σ σ1 ∧ tbOk L R F y) ∧
  (∀ (m : Nat) (τ : sT) (S : List Int) (W : List Nat) (f : Nat), FM T n τ p S (W ++ List.replicate m 33) d true → W.getLast? ≠ some 33 → S.length + (W.length + m) ≤ p → T.length + 1 < f + p → ∃ τ1 f', (∀ K, fMM_readsFormula_L27 K f 1 τ = fMM_readsFormula_L27 K f' 1 τ1) ∧ FM T n τ1 q (S ++ R ++ List.replicate m (-33)) W d false ∧ T.length + 1 < f' + q ∧ MO τ τ1)
theorem f2 {f p l : Nat} (h : l + 1 < f + p) (hp : p ≤ l) : ∃ f', f = f' + 1 + 1 := ⟨f - 2, by omega⟩
/-- a number or nothing that may stand here -/
theorem prim_n {T : List Nat} (hT : TxOk T) {n d : Nat} (hn : n ≤ 12) (hd : d ≤ 8) {p : Nat} (hp : p ≤ T.length) (c33 : ch T (sk T p) ≠ 33) (c40 : ch T (sk T p) ≠ 40) :
    (∃ q, q ≤ T.length ∧ PrF T n d p q) ∨ ∃ q R F, gdR T n p q R F ∧ PrS T n d p q R F := by
  have hTl := hT.1
  have hq := sk_le hp
  have hge := sk_ge T p
  obtain ⟨l1, l2, l3⟩ := nuL_pl (T := T) 2 (sk T p) 0 hq
  have n40 : ¬ iI (ch T (sk T p)) = (40 : Int32) := chn hT (k := 40) c40 (by omega)
  cases hb : (nuOk T (sk T p) && decide ((nuL T 2 (sk T p) 0).2 < n))
  · refine Or.inl ⟨if nuOk T (sk T p) = true then sk T p else (nuL T 2 (sk T p) 0).1, ?_, fun k σ L O hk h => ?_, fun m τ S W f h hW hl hf => ?_⟩
    · split
      · exact hq
      · exact l2
    · obtain ⟨σ1, e1, e2, e3⟩ := cpeek hT h.1
      have h1 := h.sc e3 (cp_sk hp e2)
      obtain ⟨σ2, g1, g2, g3⟩ := cons_F hT hn hq e2 h1.2.2.2.1 hb
      refine ⟨σ2, fun x4 => ?_, g2, (CO_of e3 (by simp)).trans (CO_of g3 (by simp))⟩
      unfold kF6
      rw [db2_t e1, dlt_u, if_neg n40, db2_t g1]
      try dsimp only
      by_cases z : (x4 - x4 / (2 : Int32) * (2 : Int32)) = 0
      · rw [if_pos z]; exact ⟨_, rfl⟩
      · rw [if_neg z]; exact ⟨_, rfl⟩
    · obtain ⟨f', rfl⟩ := f2 hf hp
      cases hg : dg T (sk T p)
      · have hnu : nuL T 2 (sk T p) 0 = (sk T p, 0) := by rw [nuL, hg, if_neg (by decide)]
        have hno : nuOk T (sk T p) = false := by unfold nuOk; rw [hnu]; simp
        obtain ⟨τ1, g1, g2, g3⟩ := no_open hT h (by omega) hg c33 (fun z => absurd z c40)
        rw [hno, if_neg (by decide), hnu]
        exact ⟨τ1, fun K => g3 K f', g1, g2⟩
      · obtain ⟨τ1, g1, g2, g3⟩ := no_num hT hn h hg hb
        exact ⟨τ1, fun K => g3 K f', g1, g2⟩
  · have hb' := hb
    rw [Bool.and_eq_true] at hb'
    have hv := of_decide_eq_true hb'.2
    have hnu1 : (nuL T 2 (sk T p) 0).1 ≠ sk T p := by
      have := hb'.1
      unfold nuOk at this
      rw [Bool.and_eq_true] at this
      exact of_decide_eq_true this.1
    have hg : dg T (sk T p) = true := by
      cases hg : dg T (sk T p)
      · exact absurd (by rw [nuL, hg, if_neg (by decide)]) hnu1
      · rfl
    refine Or.inr ⟨(nuL T 2 (sk T p) 0).1, [((nuL T 2 (sk T p) 0).2 : Int)], fun v => v (nuL T 2 (sk T p) 0).2, ⟨l2, by omega, by rw [List.length_singleton]; omega, says_num _ (by have := nuL_v2 T (sk T p); omega), fun i hi => ?_⟩, fun k σ L O hk h => ?_, fun m τ S W f h hW hl hf => ?_⟩
    · rw [numsR_num, List.mem_singleton] at hi
      rw [hi]; exact hv
    · obtain ⟨σ1, e1, e2, e3⟩ := cpeek hT h.1
      have h1 := h.sc e3 (cp_at hq e2)
      obtain ⟨y, σ2, g1, g2, g3, g4⟩ := cons_S hT hn hq e2 h1 hb
      refine ⟨y, σ2, fun x4 => ?_, g2, (CO_of e3 (by simp)).trans g3, g4⟩
      unfold kF6
      rw [db2_t e1, dlt_u, if_neg n40, db2_t g1]
    · obtain ⟨f', rfl⟩ := f2 hf hp
      obtain ⟨τ1, g1, g2, g3⟩ := go_num hT hn h hg hb hW (by omega)
      exact ⟨τ1, f' + 1, fun K => g3 K (f' + 1), g1, by omega, g2⟩
