/-! formulas: the whole text on both sides; the set that is named -/
theorem L77_0 {f : Nat} {τ : sT} : fMM_readsFormula_L77 (0 : Int32) (f + 1) τ = some ((0 : Int32), τ) := by
  unfold fMM_readsFormula_L77
  rw [if_pos rfl, dck_t (by decide)]
def RfF (T : List Nat) (n q : Nat) : Prop :=
  (∀ σ : sT, TxC σ T → σ.1 1 3 = nI n → ∃ y σ1, fFR_read σ = some (y, σ1) ∧ CF T σ1 q ∧ CO σ σ1) ∧
  (∀ τ : sT, TxM τ T → τ.1 34 0 = nI n → ∃ τ1, fMM_readsFormula τ = some (0, τ1) ∧ MF T τ1 q ∧ MO τ τ1)
def RfS (T : List Nat) (n : Nat) (R : List Int) (F : (Nat → Bool) → Bool) : Prop :=
  (∀ σ : sT, TxC σ T → σ.1 1 3 = nI n → ∃ y q σ1, fFR_read σ = some (y, σ1) ∧ FC T n σ1 q (addL [] (numsR R)) (orL 0 (numsR R)) ∧ CO σ σ1 ∧ tbOk [] R F y) ∧
  (∀ τ : sT, TxM τ T → τ.1 34 0 = nI n → ∃ τ1, fMM_readsFormula τ = some (1, τ1) ∧ SaAt τ1 R ∧ MO τ τ1)
theorem form_x {T : List Nat} (hT : TxOk T) {n : Nat} (hn : n ≤ 12) : (∃ q, RfF T n q) ∨ ∃ R F, R.length ≤ 80 ∧ Says R F ∧ (∀ i ∈ numsR R, i < n) ∧ RfS T n R F := by
  have hTl := hT.1
  obtain ⟨N, hN, hN9⟩ := FU_s
  have inC : ∀ σ : sT, TxC σ T → σ.1 1 3 = nI n → ∃ σ5, FC T n σ5 0 [] 0 ∧ CO σ σ5 ∧ fFR_read σ = (db2 (fFR_rec RDFR 0 (nI 0) σ5) fun r7 σ8 =>
  db2 (fSc_peek σ8) fun r10 σ11 =>
  if r10 = (-1 : Int32) then
    some (r7, σ11)
  else
    db1 (fSc_failAt (σ11.1 26 2) σ11) fun σ14 =>
    some (r7, σ14)) := by
    intro σ hx h1
    obtain ⟨σa, e1, e2, e3⟩ := start_C hx
    obtain ⟨σb, hb⟩ : ∃ t, t = siW σa 24 3 (0 : Int32) := ⟨_, rfl⟩
    obtain ⟨σc, hc⟩ : ∃ t, t = siW σb 28 3 (0 : Int32) := ⟨_, rfl⟩
    have o : offC [24, 28] σa σc := by rw [hc, hb]; exact (offC_si (by simp)).trans (offC_si (by simp))
    have hf : fSg_forget σa = some σb := by rw [hb]; rfl
    have hcp : CP T σc 0 := by rw [hc, hb]; exact (e2.w (by decide) (by decide)).w (by decide) (by decide)
    refine ⟨σc, ⟨hcp, ⟨?_, fun p y h => by simp at h⟩, ?_, ?_, ⟨List.nodup_nil, by simp, fun i h => by cases h⟩, by omega⟩, (CO_of e3 (by simp)).trans (CO_of (scO_off o (by decide)) (by simp)), ?_⟩
    · rw [hc, siW_n (by decide), hb, siW_s, if_pos rfl]; rfl
    · rw [hc, siW_s, if_pos rfl]; rfl
    · rw [(o 1 (by decide)).1, (e3.1 1 (by simp) (by decide)).1]; exact h1
    · unfold fFR_read
      rw [db1_t e1, db1_t hf, dlt_u, ← hc, nI_0]
  have inM : ∀ τ : sT, TxM τ T → τ.1 34 0 = nI n → ∃ τ5, FM T n τ5 0 [] [] 0 true ∧ MO τ τ5 ∧ fMM_readsFormula τ = fMM_readsFormula_L27 (fun x8 σ9 => fMM_readsFormula_L77 x8 FU σ9) FU 1 τ5 := by
    intro τ hx h1
    obtain ⟨τ5, h5⟩ : ∃ t, t = siW (siW (siW (siW (siW τ 33 27 (0 : Int32)) 33 29 (0 : Int32)) 33 31 (0 : Int32)) 33 33 (0 : Int32)) 33 34 (1 : Int32) := ⟨_, rfl⟩
    have o : mOff [] [27, 29, 31, 33, 34] τ τ5 := by
      rw [h5]
      exact ((((mOff_si (by simp)).trans (mOff_si (by simp))).trans (mOff_si (by simp))).trans (mOff_si (by simp))).trans (mOff_si (by simp))
    refine ⟨τ5, ⟨mp_at (Nat.zero_le _) ⟨hx.ms o (by decide) (by decide), ?_⟩, ⟨⟨?_, fun j x h => by simp at h⟩, ⟨?_, fun j x h => by simp at h⟩, ?_, ?_, ?_⟩, fun x h => by cases h⟩, MO_of o (by simp) (by simp), ?_⟩
    · rw [h5, siW_s, if_neg (by decide), siW_s, if_neg (by decide), siW_s, if_neg (by decide), siW_s, if_neg (by decide), siW_s, if_pos rfl]; rfl
    · rw [h5, siW_s, if_neg (by decide), siW_s, if_neg (by decide), siW_s, if_neg (by decide), siW_s, if_pos rfl]; rfl
    · rw [h5, siW_s, if_neg (by decide), siW_s, if_neg (by decide), siW_s, if_pos rfl]; rfl
    · rw [h5, siW_s, if_neg (by decide), siW_s, if_pos rfl]; rfl
    · rw [h5, siW_s, if_pos rfl]; rfl
    · rw [(o.1 34 (by decide) (by decide)).1]; exact h1
    · unfold fMM_readsFormula
      rw [dlt_u, dlt_u, dlt_u, dlt_u, dlt_u, ← h5, dlt_u]
  have wk0 : Wk 0 [] := ⟨by simp, fun z _ => by simp⟩
  rcases sum_x hT hn 8 0 (by omega) 0 (Nat.zero_le _) with ⟨q, hq', oC, oM⟩ | ⟨q, R, F, ⟨gq, gp, gl, gs, gn⟩, gz, oC, oM⟩
  · refine Or.inl ⟨q, fun σ hx h1 => ?_, fun τ hx h1 => ?_⟩
    · obtain ⟨σ5, a1, a2, a3⟩ := inC σ hx h1
      obtain ⟨y, σ1, e1, e2, e3⟩ := oC RDFR σ5 [] 0 (by decide) a1
      obtain ⟨hq, r, hr, hS⟩ := e2
      obtain ⟨σ2, f1, f2', f3⟩ := speek_spec hT hS hr
      have hcf : CF T σ2 q := ⟨hq, _, sk_le hr, f2'⟩
      refine ⟨y, σ2, ?_, hcf, (a2.trans e3).trans (CO_of f3 (by simp))⟩
      obtain ⟨D, hD⟩ : ∃ D, RDFR = D := ⟨_, rfl⟩
      rw [hD] at a3 e1
      rw [a3, db2_t e1, db2_t f1, db1_t (fail1 f2'.2.2 (by omega) _)]
      split <;> rfl
    · obtain ⟨τ5, a1, a2, a3⟩ := inM τ hx h1
      obtain ⟨τ1, e1, e2, e3⟩ := oM τ5 [] [] FU a1 wk0 (by simp) (by omega)
      refine ⟨τ1, ?_, e2, a2.trans e3⟩
      rw [a3, e1, hN, L77_0]
  · by_cases ce : ch T (sk T q) = -1
    · refine Or.inr ⟨R, F, by omega, gs, gn, fun σ hx h1 => ?_, fun τ hx h1 => ?_⟩
      · obtain ⟨σ5, a1, a2, a3⟩ := inC σ hx h1
        obtain ⟨y, σ1, e1, e2, e3, e4⟩ := oC RDFR σ5 [] 0 (by decide) a1
        obtain ⟨σ2, f1, f2', f3⟩ := cpeek_k hT e2.1 ce
        refine ⟨y, q, σ2, ?_, e2.sc f3 (cp_sk gq f2'), (a2.trans e3).trans (CO_of f3 (by simp)), e4⟩
        obtain ⟨D, hD⟩ : ∃ D, RDFR = D := ⟨_, rfl⟩
        rw [hD] at a3 e1
        rw [a3, db2_t e1, db2_t f1, if_pos (show iI (-1) = (-1 : Int32) from rfl)]
      · obtain ⟨τ5, a1, a2, a3⟩ := inM τ hx h1
        obtain ⟨τ1, f', S', Z, e1, e2, e3, e4, e5, e6⟩ := oM τ5 [] [] FU a1 wk0 (by simp) (by omega)
        rw [List.nil_append] at e3 e4
        have hlen := congrArg List.length e3
        simp only [List.length_append] at hlen
        have hng : (ngs Z).length = Z.length := by unfold ngs; rw [List.length_map]
        obtain ⟨f3, rfl⟩ : ∃ f3, f' = f3 + 1 := ⟨f' - 1, by omega⟩
        obtain ⟨τ2, g1, g2, g3⟩ := it_done hT e4 ce
        obtain ⟨τ3, k1, k2, k3⟩ := pop_all Z FU τ2 S' (by omega) g1.1 g1.2.1 ⟨by rw [List.length_reverse]; omega, e4.2.2⟩ (by omega)
        refine ⟨τ3, ?_, by rw [e3] at k2; exact k2, ((a2.trans e6).trans g2).trans (MO_of k3 (by simp) (by simp))⟩
        rw [a3, e1, g3]
        exact k1
    · refine Or.inl ⟨sk T q, fun σ hx h1 => ?_, fun τ hx h1 => ?_⟩
      · obtain ⟨σ5, a1, a2, a3⟩ := inC σ hx h1
        obtain ⟨y, σ1, e1, e2, e3, e4⟩ := oC RDFR σ5 [] 0 (by decide) a1
        obtain ⟨σ2, f1, f2', f3⟩ := cpeek hT e2.1
        obtain ⟨g1, g2⟩ := cfail (sk_le gq) f2'
        refine ⟨y, _, ?_, g2, ((a2.trans e3).trans (CO_of f3 (by simp))).trans (CO_of (scO_q (C := []) _ _) (by simp))⟩
        obtain ⟨D, hD⟩ : ∃ D, RDFR = D := ⟨_, rfl⟩
        rw [hD] at a3 e1
        rw [a3, db2_t e1, db2_t f1, if_neg (show ¬ iI (ch T (sk T q)) = (-1 : Int32) from chn hT (k := -1) ce (by omega)), db1_t g1]
      · obtain ⟨τ5, a1, a2, a3⟩ := inM τ hx h1
        obtain ⟨τ1, f', S', Z, e1, e2, e3, e4, e5, e6⟩ := oM τ5 [] [] FU a1 wk0 (by simp) (by omega)
        obtain ⟨f3, rfl⟩ := f2 e5 gq
        obtain ⟨τ2, g1, g2, g3⟩ := no_sgn hT e4 (by omega) (gz 38 (Or.inl ⟨by omega, rfl⟩)) (gz 124 (Or.inr ⟨rfl, rfl⟩)) (fun _ => rfl) (fun z => absurd z ce)
        refine ⟨τ2, ?_, g1, (a2.trans e6).trans g2⟩
        rw [a3, e1, g3, hN, L77_0]
/-! the set that is named -/
theorem named_loop {τ : sT} {R : List Int} (hS : SaAt τ R) (hl : R.length ≤ 80) (hb : ∀ x ∈ R, -1000 < x ∧ x < 1000) (hn : ∀ i ∈ numsR R, i < 12) : ∀ (R2 R1 : List Int) (O f : Nat), R = R1 ++ R2 → O < 4096 → R2.length < f → fMM_named_L4 τ f (nI O) (nI R1.length) = some (nI (orL O (numsR R2))) := by
  intro R2
  induction R2 with
  | nil =>
    intro R1 O f hR hO hf
    obtain ⟨f', rfl⟩ : ∃ f', f = f' + 1 := ⟨f - 1, by omega⟩
    have hlen : R.length = R1.length := by rw [hR, List.append_nil]
    unfold fMM_named_L4
    rw [hS.1, if_pos (nI_le (by omega) (by omega))]
    rfl
  | cons x R2 ih =>
    intro R1 O f hR hO hf
    rw [List.length_cons] at hf
    obtain ⟨f', rfl⟩ : ∃ f', f = f' + 1 := ⟨f - 1, by omega⟩
    have hlen : R.length = R1.length + (R2.length + 1) := by rw [hR, List.length_append, List.length_cons]
    have hx := hb x (by rw [hR]; simp)
    have hget : τ.1 46 R1.length = iI x := hS.2 R1.length x (by rw [hR, List.getElem?_append_right (Nat.le_refl _), Nat.sub_self]; rfl)
    have hnx : ∀ O', O' < 4096 → fMM_named_L4 τ f' (nI O') (nI R1.length + (1 : Int32)) = some (nI (orL O' (numsR R2))) := by
      intro O' hO'
      have := ih (R1 ++ [x]) O' f' (by rw [hR, List.append_assoc]; rfl) hO' (by omega)
      rw [List.length_append, List.length_singleton] at this
      rw [nI_1]; exact this
    unfold fMM_named_L4
    rw [hS.1, if_neg (nI_ge (by omega) (by omega)), dck_t (okI_n (by omega) (by omega)), nc (by omega), hget]
    by_cases z : x < 0
    · rw [if_pos (show iI x < (0 : Int32) from (iI_lt (b := 0) (by unfold inI; omega) (by unfold inI; omega)).mpr z), dlt_u, Int32.or_zero, hnx O hO]
      have : numsR (x :: R2) = numsR R2 := by
        unfold numsR
        rw [List.filter_cons_of_neg (by simp; omega)]
      rw [this]
    · obtain ⟨i, hi⟩ : ∃ i : Nat, x = (i : Int) := ⟨x.toNat, by omega⟩
      subst hi
      have hnum : numsR ((i : Int) :: R2) = i :: numsR R2 := by
        unfold numsR
        rw [List.filter_cons_of_pos (by simp)]
        rfl
      have hi12 : i < 12 := hn i (by rw [hR, numsR_app, hnum]; simp)
      have hpow : 2 ^ i < 4096 := Nat.lt_of_lt_of_le (Nat.pow_lt_pow_right (by omega) hi12) (by decide)
      rw [if_neg (show ¬ iI (i : Int) < (0 : Int32) from fun w => by have := (iI_lt (b := 0) (by unfold inI; omega) (by unfold inI; omega)).mp w; omega), dck_t (okI_n (by omega) (by omega)), iI_nI, shl_n (by omega), nI_or' hO hpow, dlt_u, hnx _ (Nat.or_lt_two_pow (n := 12) hO hpow), hnum]
      rfl
theorem named_x {τ : sT} {R : List Int} (hS : SaAt τ R) (hl : R.length ≤ 80) (hb : ∀ x ∈ R, -1000 < x ∧ x < 1000) (hn : ∀ i ∈ numsR R, i < 12) : fMM_named τ = some (nI (orL 0 (numsR R))) := by
  have := named_loop hS hl hb hn R [] 0 FU rfl (by omega) (by unfold FU; omega)
  rw [List.length_nil, nI_0] at this
  unfold fMM_named
  exact this
