/-! reads -/
def RsF (T : List Nat) (p q : Nat) : Prop :=
  (∀ (σ : sT) (x f : Nat), 2 * x ≤ p → T.length - p < f → CP T σ p → ∃ y σ1, fOR_read_L9 f (nI x) σ = some (y, σ1) ∧ CF T σ1 q ∧ scO [30] σ σ1) ∧
  (∀ (τ : sT) (x f : Nat), T.length - p < f → MP T τ p → ∃ x' τ1, (∀ K, (db2 (fMM_readsOrder τ) fun r s => fMM_reads_L12 K f (nI x) r s) = K x' (0 : Int32) τ1) ∧ MF T τ1 q ∧ mOff [49] [27, 32] τ τ1)
def RsS (T : List Nat) (p q : Nat) (vs : List (Nat → Int)) : Prop :=
  (∀ (σ : sT) (x f : Nat), 2 * x ≤ p → T.length - p < f → CP T σ p → ∃ σ1, fOR_read_L9 f (nI x) σ = some (nI (x + vs.length), σ1) ∧ CP T σ1 q ∧ scO [30] σ σ1 ∧ (∀ j v, vs[j]? = some v → x + j < 12 → ∀ k, k < 5 → σ1.1 30 (6 * (x + j) + k) = iI (v k)) ∧ (∀ j, j < 6 * min x 12 → σ1.1 30 j = σ.1 30 j)) ∧
  (∀ (τ : sT) (x f : Nat), T.length - p < f → MP T τ p → ∃ τ1, (∀ K, (db2 (fMM_readsOrder τ) fun r s => fMM_reads_L12 K f (nI (x + 1)) r s) = K (nI (x + vs.length)) (1 : Int32) τ1) ∧ MP T τ1 q ∧ mOff [49] [27, 32] τ τ1)
def Chn (T : List Nat) : Nat → List (Nat → Int) → Prop
  | _, [] => True
  | p, v :: vs => ∃ q, OdS T p q v ∧ Chn T q vs
theorem slot12 {x : Nat} (hx : x < 100) : (if (12 : Int32) < nI x then (12 : Int32) else nI x) * (6 : Int32) = nI (6 * min x 12) := by
  by_cases z : 12 < x
  · rw [if_pos (show (12 : Int32) < nI x from nI_lt (a := 12) z (by omega)), show min x 12 = 12 by omega]; rfl
  · rw [if_neg (show ¬ (12 : Int32) < nI x from nI_nlt (a := 12) (by omega) (by omega)), show min x 12 = x by omega, show (6 : Int32) = nI 6 from rfl, pk_mul, Nat.mul_comm]
theorem seq_x {T : List Nat} (hT : TxOk T) : ∀ (c p : Nat), T.length - p < c → p ≤ T.length →
    (∃ q, RsF T p q) ∨ ∃ q vs, 1 ≤ vs.length ∧ p + 2 * vs.length ≤ T.length ∧ (∀ v ∈ vs, vOk v) ∧ Chn T p vs ∧ RsS T p q vs := by
  have hl := hT.1
  intro c
  induction c with
  | zero => intro p h; omega
  | succ c ih =>
    intro p hc hp
    rcases order_x hT hp with ⟨q, oC, oM⟩ | ⟨q, v, hq1, hq2, hv, oC, oM⟩
    · refine Or.inl ⟨q, fun σ x f hx hf h => ?_, fun τ x f hf h => ?_⟩
      · obtain ⟨f', rfl⟩ : ∃ f', f = f' + 1 := ⟨f - 1, by omega⟩
        obtain ⟨σ1, e1, e2, e3, e4⟩ := oC σ (min x 12) (by omega) h
        unfold fOR_read_L9
        rw [slot12 (by omega), db1_t e1, nI_1]
        by_cases z : 80 ≤ x + 1
        · rw [if_pos (show (80 : Int32) ≤ nI (x + 1) from nI_le (a := 80) z (by omega))]
          exact ⟨_, σ1, rfl, e2, e3⟩
        · rw [if_neg (show ¬ (80 : Int32) ≤ nI (x + 1) from nI_ge (b := 80) (by omega) (by omega)), db1_t (e2.yes hT), if_neg (show ¬ (1 : Int32) = 0 by decide)]
          exact ⟨_, σ1, rfl, e2, e3⟩
      · obtain ⟨f', rfl⟩ : ∃ f', f = f' + 1 := ⟨f - 1, by omega⟩
        obtain ⟨τ1, e1, e2, e3⟩ := oM τ h
        refine ⟨nI x, τ1, fun K => ?_, e2, e3⟩
        rw [db2_t e1]
        unfold fMM_reads_L12
        rw [if_pos rfl]
    · by_cases ce : ch T (sk T q) = -1
      · refine Or.inr ⟨q, [v], by simp, by simp; omega, fun u hu => by rw [List.mem_singleton.mp hu]; exact hv, ⟨q, ⟨oC, oM⟩, trivial⟩, fun σ x f hx hf h => ?_, fun τ x f hf h => ?_⟩
        · obtain ⟨f', rfl⟩ : ∃ f', f = f' + 1 := ⟨f - 1, by omega⟩
          obtain ⟨σ1, e1, e2, e3, e4, e5⟩ := oC σ (min x 12) (by omega) h
          obtain ⟨σ2, g1, g2, g3⟩ := cpeek_k hT e2 ce
          refine ⟨σ2, ?_, cp_sk hq2 g2, e4.trans (g3.mono (by simp)), fun j w hw hj k hk => ?_, fun j hj => ?_⟩
          · unfold fOR_read_L9
            rw [slot12 (by omega), db1_t e1, nI_1, if_neg (show ¬ (80 : Int32) ≤ nI (x + 1) from nI_ge (b := 80) (by omega) (by omega)), db1_t e2.no, if_pos rfl, db2_t g1, if_pos (show iI (-1) = (-1 : Int32) from rfl)]
            rfl
          · have hj0 : j = 0 := by
              have := (List.getElem?_eq_some_iff.mp hw).1
              simp at this
              exact this
            subst hj0
            simp at hw
            subst hw
            rw [(g3.1 30 (by simp) (by decide)).1]
            have := e3 k hk
            rw [show min x 12 = x by omega] at this
            exact this
          · rw [(g3.1 30 (by simp) (by decide)).1]
            exact e5 j (by omega)
        · obtain ⟨f', rfl⟩ : ∃ f', f = f' + 1 := ⟨f - 1, by omega⟩
          obtain ⟨τ1, e1, e2, e3, e4⟩ := oM τ h
          obtain ⟨τ2, g1, g2, g3⟩ := mhere_k hT e2 ce
          refine ⟨τ2, fun K => ?_, mp_sk hq2 g2, e4.trans (g3.mono (by simp) (by simp))⟩
          rw [db2_t e1]
          unfold fMM_reads_L12
          rw [if_neg (show ¬ (1 : Int32) = 0 by decide), db2_t g1, if_pos (show iI (-1) = (-1 : Int32) from rfl)]
          rfl
      · -- a step on both sides
        have stC : ∀ (σ : sT) (x f : Nat), 2 * x ≤ p → T.length - p < f → CP T σ p → ∃ σ1 f', fOR_read_L9 f (nI x) σ = fOR_read_L9 f' (nI (x + 1)) σ1 ∧ T.length - q < f' ∧ CP T σ1 q ∧ scO [30] σ σ1 ∧ (x < 12 → ∀ k, k < 5 → σ1.1 30 (6 * x + k) = iI (v k)) ∧ (∀ j, j < 6 * min x 12 → σ1.1 30 j = σ.1 30 j) := by
          intro σ x f hx hf h
          obtain ⟨f', rfl⟩ : ∃ f', f = f' + 1 := ⟨f - 1, by omega⟩
          obtain ⟨σ1, e1, e2, e3, e4, e5⟩ := oC σ (min x 12) (by omega) h
          obtain ⟨σ2, g1, g2, g3⟩ := cpeek hT e2
          refine ⟨σ2, f', ?_, by omega, cp_sk hq2 g2, e4.trans (g3.mono (by simp)), fun hx12 k hk => ?_, fun j hj => ?_⟩
          · conv => lhs; unfold fOR_read_L9
            rw [slot12 (by omega), db1_t e1, nI_1, if_neg (show ¬ (80 : Int32) ≤ nI (x + 1) from nI_ge (b := 80) (by omega) (by omega)), db1_t e2.no, if_pos rfl, db2_t g1, if_neg (show ¬ iI (ch T (sk T q)) = (-1 : Int32) from chn hT (k := -1) ce (by omega))]
          · rw [(g3.1 30 (by simp) (by decide)).1]
            have := e3 k hk
            rw [show min x 12 = x by omega] at this
            exact this
          · rw [(g3.1 30 (by simp) (by decide)).1]
            exact e5 j (by omega)
        have stM : ∀ (τ : sT) (x f : Nat), T.length - p < f → MP T τ p → ∃ τ1 f', (∀ K, (db2 (fMM_readsOrder τ) fun r s => fMM_reads_L12 K f (nI x) r s) = db2 (fMM_readsOrder τ1) fun r s => fMM_reads_L12 K f' (nI (x + 1)) r s) ∧ T.length - q < f' ∧ MP T τ1 q ∧ mOff [49] [27, 32] τ τ1 := by
          intro τ x f hf h
          obtain ⟨f', rfl⟩ : ∃ f', f = f' + 1 := ⟨f - 1, by omega⟩
          obtain ⟨τ1, e1, e2, e3, e4⟩ := oM τ h
          obtain ⟨τ2, g1, g2, g3⟩ := mhere hT e2
          refine ⟨τ2, f', fun K => ?_, by omega, mp_sk hq2 g2, e4.trans (g3.mono (by simp) (by simp))⟩
          rw [db2_t e1]
          conv => lhs; unfold fMM_reads_L12
          rw [if_neg (show ¬ (1 : Int32) = 0 by decide), db2_t g1, if_neg (show ¬ iI (ch T (sk T q)) = (-1 : Int32) from chn hT (k := -1) ce (by omega)), nI_1]
        rcases ih q (by omega) hq2 with ⟨r, rC, rM⟩ | ⟨r, vs, hn, hlen, hvs, hch, rC, rM⟩
        · refine Or.inl ⟨r, fun σ x f hx hf h => ?_, fun τ x f hf h => ?_⟩
          · obtain ⟨σ1, f', e0, e1, e2, e3, e4, e5⟩ := stC σ x f hx hf h
            obtain ⟨y, σ2, g1, g2, g3⟩ := rC σ1 (x + 1) f' (by omega) e1 e2
            exact ⟨y, σ2, by rw [e0]; exact g1, g2, e3.trans g3⟩
          · obtain ⟨τ1, f', e0, e1, e2, e3⟩ := stM τ x f hf h
            obtain ⟨x', τ2, g1, g2, g3⟩ := rM τ1 (x + 1) f' e1 e2
            exact ⟨x', τ2, fun K => by rw [e0]; exact g1 K, g2, e3.trans g3⟩
        · refine Or.inr ⟨r, v :: vs, by simp, by rw [List.length_cons]; omega, fun u hu => ?_, ⟨q, ⟨oC, oM⟩, hch⟩, fun σ x f hx hf h => ?_, fun τ x f hf h => ?_⟩
          · rcases List.mem_cons.mp hu with rfl | hu
            · exact hv
            · exact hvs u hu
          · obtain ⟨σ1, f', e0, e1, e2, e3, e4, e5⟩ := stC σ x f hx hf h
            obtain ⟨σ2, g1, g2, g3, g4, g5⟩ := rC σ1 (x + 1) f' (by omega) e1 e2
            refine ⟨σ2, ?_, g2, e3.trans g3, fun j w hw hj k hk => ?_, fun j hj => ?_⟩
            · rw [e0, g1, List.length_cons, show x + 1 + vs.length = x + (vs.length + 1) by omega]
            · cases j with
              | zero =>
                simp at hw
                subst hw
                rw [Nat.add_zero, g5 _ (by omega)]
                exact e4 (by omega) k hk
              | succ j =>
                have := g4 j w (by simpa using hw) (by omega) k hk
                rw [show x + (j + 1) = x + 1 + j by omega]; exact this
            · rw [g5 j (by omega)]; exact e5 j hj
          · obtain ⟨τ1, f', e0, e1, e2, e3⟩ := stM τ (x + 1) f hf h
            obtain ⟨τ2, g1, g2, g3⟩ := rM τ1 (x + 1) f' e1 e2
            refine ⟨τ2, fun K => ?_, g2, e3.trans g3⟩
            rw [e0, g1 K, List.length_cons, show x + 1 + vs.length = x + (vs.length + 1) by omega]
/-! the rows are added -/
def appL (g : gT) (n : Nat) : List (Nat → Int) → gT
  | [] => g
  | v :: vs => appL (appG g n (v6 (v 0) (v 1) (v 2) (v 3) (v 4) 0)) (n + 1) vs
theorem appL_ok : ∀ (vs : List (Nat → Int)) {n : Nat} {g : gT}, BkOk n g → n + vs.length ≤ 12 → (∀ v ∈ vs, vOk v) → BkOk (n + vs.length) (appL g n vs)
  | [], n, g, ok, _, _ => ok
  | v :: vs, n, g, ok, hl, hv => by
    rw [List.length_cons] at hl ⊢
    obtain ⟨h1, h2, h3⟩ := hv v List.mem_cons_self
    have := appL_ok vs (appG_ok ok (by omega) (h1 0 (by omega)) (h1 1 (by omega)) (h1 2 (by omega)) h2 h3 (show (0 : Int) ≤ 0 ∧ (0 : Int) ≤ 1 by omega)) (by omega) (fun u hu => hv u (List.mem_cons_of_mem _ hu))
    rw [appL, show n + (vs.length + 1) = n + 1 + vs.length by omega]
    exact this
theorem oget {σ : sT} {j k : Nat} (hj : j ≤ 12) (hk : k ≤ 5) {x : Int32} (hx : x = nI k) : fOR_get (nI j) x σ = some (σ.1 30 (6 * j + k)) := by
  have w1 : fRM_isWithin (nI j) (0 : Int32) (12 : Int32) = some (b01 (wi (nI j) 0 12)) := wiC _ 0 12 rfl rfl (by decide) (by decide)
  have w2 : fRM_isWithin (nI k) (0 : Int32) (5 : Int32) = some (b01 (wi (nI k) 0 5)) := wiC _ 0 5 rfl rfl (by decide) (by decide)
  have h1 : wi (nI j) 0 12 = true := by unfold wi; rw [nI_toInt (by omega)]; exact decide_eq_true (by omega)
  have h2 : wi (nI k) 0 5 = true := by unfold wi; rw [nI_toInt (by omega)]; exact decide_eq_true (by omega)
  subst hx
  unfold fOR_get
  rw [db1_t w1, h1, if_neg b1, db1_t w2, h2, if_neg b1, show (6 : Int32) = nI 6 from rfl, pk_mul, na, dck_t (okI_n (by omega) (by omega)), nc (by omega), Nat.mul_comm]
theorem addC : ∀ (vs : List (Nat → Int)) (j n L f : Nat) (g : gT) (σ : sT), j + vs.length = L → L ≤ 12 → n + vs.length ≤ 12 → vs.length < f → BkC σ n g → (∀ i v, vs[i]? = some v → ∀ k, k < 5 → σ.1 30 (6 * (j + i) + k) = iI (v k)) →
    ∃ σ1, fRM_reads_L57 (nI L) f (nI j) σ = some (nI L, σ1) ∧ BkC σ1 (n + vs.length) (appL g n vs) ∧ offC [1, 2] σ σ1 ∧ σ1.1 1 4 = σ.1 1 4 ∧ σ1.1 1 5 = σ.1 1 5 := by
  intro vs
  induction vs with
  | nil =>
    intro j n L f g σ h1 h2 h3 h4 hB hc
    obtain ⟨f', rfl⟩ : ∃ f', f = f' + 1 := ⟨f - 1, by omega⟩
    have h1' : j = L := h1
    refine ⟨σ, ?_, hB, offC.refl _ _, rfl, rfl⟩
    unfold fRM_reads_L57
    rw [if_pos (nI_le (by omega) (by omega))]
  | cons v vs ih =>
    intro j n L f g σ h1 h2 h3 h4 hB hc
    rw [List.length_cons] at h1 h3 h4
    obtain ⟨f', rfl⟩ : ∃ f', f = f' + 1 := ⟨f - 1, by omega⟩
    obtain ⟨σ1, e1, e2, e3, e4, e5⟩ := append_spec hB (by omega) (v 0) (v 1) (v 2) (v 3) (v 4) 0
    have e1' : fBk_append (iI (v 0)) (iI (v 1)) (iI (v 2)) (iI (v 3)) (iI (v 4)) (0 : Int32) σ = some σ1 := e1
    obtain ⟨σ2, f1, f2, f3, f4, f5⟩ := ih (j + 1) (n + 1) L f' _ σ1 (by omega) h2 (by omega) (by omega) e2 (fun i w hw k hk => by
      rw [(e3 30 (by decide)).1, show j + 1 + i = j + (i + 1) by omega]
      exact hc (i + 1) w (by simpa using hw) k hk)
    have c := hc 0 v rfl
    rw [Nat.add_zero] at c
    refine ⟨σ2, ?_, by rw [List.length_cons, show n + (vs.length + 1) = n + 1 + vs.length by omega]; exact f2, e3.trans f3, f4.trans e4, f5.trans e5⟩
    unfold fRM_reads_L57
    rw [if_neg (nI_ge (by omega) (by omega)), db1_t (oget (k := 0) (x := (0 : Int32)) (by omega) (by omega) rfl), db1_t (oget (k := 1) (x := (1 : Int32)) (by omega) (by omega) rfl), db1_t (oget (k := 2) (x := (2 : Int32)) (by omega) (by omega) rfl), db1_t (oget (k := 3) (x := (3 : Int32)) (by omega) (by omega) rfl), db1_t (oget (k := 4) (x := (4 : Int32)) (by omega) (by omega) rfl), c 0 (by omega), c 1 (by omega), c 2 (by omega), c 3 (by omega), c 4 (by omega), db1_t e1', nI_1]
    exact f1
theorem BkM.of' {C F : List Nat} {τ τ1 : sT} {n : Nat} {g : gT} (h : BkM τ n g) (o : mOff C F τ τ1) (h1 : 34 ∉ C) : BkM τ1 n g := h.of o h1
theorem addM {T : List Nat} : ∀ (vs : List (Nat → Int)) (p j n L f : Nat) (g : gT) (τ : sT), j + vs.length = L → L ≤ 12 → n + vs.length ≤ 12 → vs.length < f → BkM τ n g → MP T τ p → Chn T p vs →
    ∃ τ1, fMM_reads_L78 (nI L) f (nI j) τ = some (nI L, τ1) ∧ BkM τ1 (n + vs.length) (appL g n vs) ∧ mOff [34, 49] [27, 32] τ τ1 := by
  intro vs
  induction vs with
  | nil =>
    intro p j n L f g τ h1 h2 h3 h4 hB hp hc
    obtain ⟨f', rfl⟩ : ∃ f', f = f' + 1 := ⟨f - 1, by omega⟩
    have h1' : j = L := h1
    refine ⟨τ, ?_, hB, mOff.refl _ _ _⟩
    unfold fMM_reads_L78
    rw [if_pos (nI_le (by omega) (by omega))]
  | cons v vs ih =>
    intro p j n L f g τ h1 h2 h3 h4 hB hp hc
    rw [List.length_cons] at h1 h3 h4
    obtain ⟨f', rfl⟩ : ∃ f', f = f' + 1 := ⟨f - 1, by omega⟩
    obtain ⟨q, hO, hc'⟩ := hc
    obtain ⟨τ1, e1, e2, e3, e4⟩ := hO.2 τ hp
    obtain ⟨τ2, f1, f2, f3⟩ := rowNow_spec (hB.of e4 (by decide)) (by omega) (v 0) (v 1) (v 2) (v 3) (v 4) 0
    have f1' : fMM_rowNow (iI (v 0)) (iI (v 1)) (iI (v 2)) (iI (v 3)) (iI (v 4)) (0 : Int32) τ1 = some (nI n, τ2) := f1
    obtain ⟨τ3, g1, g2, g3⟩ := ih q (j + 1) (n + 1) L f' _ τ2 (by omega) h2 (by omega) (by omega) f2 (e2.of f3 (by decide) (by decide) (by decide)) hc'
    refine ⟨τ3, ?_, by rw [List.length_cons, show n + (vs.length + 1) = n + 1 + vs.length by omega]; exact g2, ((e4.mono (by simp) (by simp)).trans (f3.mono (by simp) (by simp))).trans g3⟩
    unfold fMM_reads_L78
    rw [if_neg (nI_ge (by omega) (by omega)), db2_t e1, dck_t (by decide), dck_t (by decide), dck_t (by decide), dck_t (by decide), dck_t (by decide), show (0 : Int32).toNatClampNeg = 0 from rfl, show (1 : Int32).toNatClampNeg = 1 from rfl, show (2 : Int32).toNatClampNeg = 2 from rfl, show (3 : Int32).toNatClampNeg = 3 from rfl, show (4 : Int32).toNatClampNeg = 4 from rfl, e3 0 (by omega), e3 1 (by omega), e3 2 (by omega), e3 3 (by omega), e3 4 (by omega), db2_t f1', nI_1]
    exact g1
theorem sameC.sc {C : List Nat} {σ σ1 : sT} (o : scO C σ σ1) (hc : ∀ q ∈ [0, 1, 2, 3, 4, 27], q ∉ C) : sameC σ σ1 :=
  ⟨(o.1 0 (hc 0 (by simp)) (by decide)).1, (o.1 1 (hc 1 (by simp)) (by decide)).1, (o.1 2 (hc 2 (by simp)) (by decide)).1, (o.1 3 (hc 3 (by simp)) (by decide)).1, (o.1 4 (hc 4 (by simp)) (by decide)).1, o.2 1 (by decide) (by decide), (o.1 27 (hc 27 (by simp)) (by decide)).1⟩
/-- the scanner begins anew -/
theorem start_C {σ : sT} {T : List Nat} (h : TxC σ T) : ∃ σ1, fSc_start σ = some σ1 ∧ CP T σ1 0 ∧ scO [] σ σ1 := by
  have o : scO [] σ (siW (siW σ 26 2 (0 : Int32)) 26 3 (-1 : Int32)) := (scO_p _ _).trans (scO_q _ _)
  refine ⟨siW (siW σ 26 2 (0 : Int32)) 26 3 (-1 : Int32), rfl, cp_at (Nat.zero_le _) ⟨h.sc o (by decide), ?_, ?_⟩, o⟩
  · rw [siW_s, if_neg (by decide), siW_s, if_pos rfl]; rfl
  · rw [siW_s, if_pos rfl]; rfl
theorem start_M {τ : sT} {T : List Nat} (h : TxM τ T) : MP T (siW τ 33 27 (0 : Int32)) 0 := by
  have o : mOff [] [27] τ (siW τ 33 27 (0 : Int32)) := mOff_si (by simp)
  exact mp_at (Nat.zero_le _) ⟨h.ms o (by decide) (by decide), by rw [siW_s, if_pos rfl]; rfl⟩
theorem do_reads : op_reads Inv := by
  intro σ τ hI x1
  obtain ⟨n, g, U, T, h⟩ := id hI
  obtain ⟨a1, a2, a3, a4, a5, a6, a7, a8, a9, a10⟩ := id h
  have hn := a1.1
  have hT : TxOk T := a9
  have hl := hT.1
  obtain ⟨σa, s1, s2, s3⟩ := start_C a7
  have ms := start_M a8
  obtain ⟨τa, hta⟩ : ∃ t, t = siW τ 33 27 (0 : Int32) := ⟨_, rfl⟩
  have oa : mOff [49] [27, 32] τ τa := by rw [hta]; exact mOff_si (by simp)
  rw [← hta] at ms
  rcases seq_x hT 81 0 (by omega) (by omega) with ⟨q, rC, rM⟩ | ⟨q, vs, hv1, hvl, hvs, hch, rC, rM⟩
  · obtain ⟨y, σ1, e1, e2, e3⟩ := rC σa 0 FU (by omega) (by unfold FU; omega) s2
    obtain ⟨x', τ1, f1, f2, f3⟩ := rM τa 1 FU (by unfold FU; omega) ms
    obtain ⟨A, hA⟩ : ∃ A, FU = A := ⟨_, rfl⟩
    refine ⟨(-10 : Int32) - nI q, σ1, τ1, ?_, ?_, hI.same (sameC.sc ((s3.mono (by simp)).trans e3) (by decide)) (sameM.off (oa.trans f3) (by decide) (by decide))⟩
    · have hr : fOR_read σ = some (y, σ1) := by
        unfold fOR_read
        rw [hA] at e1 ⊢
        rw [db1_t s1]; exact e1
      obtain ⟨hq, r, hr', hS⟩ := id e2
      unfold fRM_reads
      rw [db2_t hr, db1_t (e2.yes hT), if_neg (show ¬ (1 : Int32) = 0 by decide), hS.2.2, iI_nI]
    · unfold fMM_reads
      rw [hA] at f1 ⊢
      rw [dlt_u, ← hta, show (1 : Int32) = nI 1 from rfl]
      simp only [dlt_u]
      rw [f1, if_pos rfl, f2.2.2]
  · obtain ⟨σ1, e1, e2, e3, e4, e5⟩ := rC σa 0 FU (by omega) (by unfold FU; omega) s2
    obtain ⟨τ1, f1, f2, f3⟩ := rM τa 0 FU (by unfold FU; omega) ms
    obtain ⟨L, hL⟩ : ∃ L, L = vs.length := ⟨_, rfl⟩
    rw [← hL] at hv1 hvl
    rw [← hL, Nat.zero_add] at e1 f1
    obtain ⟨A, hA⟩ : ∃ A, FU = A := ⟨_, rfl⟩
    have sC : sameC σ σ1 := sameC.sc ((s3.mono (by simp)).trans e3) (by decide)
    have sM : sameM τ τ1 := sameM.off (oa.trans f3) (by decide) (by decide)
    obtain ⟨b1x, b2, b3, b4, b5, b6, b7, b8, b9, b10⟩ := h.same sC sM
    have hr : fOR_read σ = some (nI L, σ1) := by
      unfold fOR_read
      rw [hA] at e1 ⊢
      rw [db1_t s1, ← nI_0]; exact e1
    have h12 : (12 : Int32) - nI n = nI (12 - n) := pk_sub (a := 12) hn
    by_cases hfull : L ≤ 12 - n
    · obtain ⟨σ2, g1, g2, g3, g4⟩ := remember_spec b2 hn b5 (fun q hq => (b4.1 q hq).1) b4.2
      obtain ⟨τ2, p1, p2, p3, p4⟩ := mkeep_spec b3 hn b6 (fun q hq => (b4.1 q hq).1) b4.2
      obtain ⟨σ3, c1, c2, c3, c4, c5⟩ := addC vs 0 n L FU g σ2 (by omega) (by omega) (by omega) (by unfold FU; omega) g2 (fun i v hv k hk => by
        rw [(g4 30 (by decide)).1]
        have hi := (List.getElem?_eq_some_iff.mp hv).1
        exact e4 i v hv (by omega) k hk)
      obtain ⟨τb, htb⟩ : ∃ t, t = siW τ2 33 27 (0 : Int32) := ⟨_, rfl⟩
      have ob : mOff [] [27] τ2 τb := by rw [htb]; exact mOff_si (by simp)
      have hb2 := b8.of p4 (by decide) (by decide)
      have hmb : MP T τb 0 := by rw [htb]; exact start_M hb2
      obtain ⟨τ3, d1, d2, d3⟩ := addM vs 0 0 n L FU g τb (by omega) (by omega) (by omega) (by unfold FU; omega) (p2.of ob (by decide)) hmb hch
      have oc : offC [1, 2, 3, 4] σ1 σ3 := (g4.mono (by simp)).trans (c3.mono (by simp))
      have om : mOff [34, 35, 49] [2, 27, 32] τ1 τ3 := ((p4.mono (by simp) (by simp)).trans (ob.mono (by simp) (by simp))).trans (d3.mono (by simp) (by simp))
      have ok1 : BkOk (n + vs.length) (appL g n vs) := appL_ok vs a1 (by omega) hvs
      rw [nI_0] at c1 d1
      refine ⟨nI L, σ3, τ3, ?_, ?_, n + vs.length, appL g n vs, _, T, ok1, c2, d2, past_ok a1 a4, g3.of' c4 c5 (c3 3 (by decide)).1 (c3 4 (by decide)).1, (p3.of ob (by decide) (by decide)).of d3 (by decide) (by decide), b7.of oc (by decide) (by decide), b8.of om (by decide) (by decide), a9, b10.of oc om (by decide) (by decide)⟩
      · unfold fRM_reads
        rw [hA] at c1 ⊢
        rw [db2_t hr, db1_t e2.no, if_pos rfl, b2.1, h12, if_pos (nI_le hfull (by omega)), db1_t g1]
        exact c1
      · unfold fMM_reads
        rw [hA] at f1 d1 ⊢
        rw [dlt_u, ← hta, show (1 : Int32) = nI (0 + 1) from rfl]
        simp only [dlt_u]
        rw [f1, Nat.zero_add, if_neg (show ¬ (1 : Int32) = 0 by decide), dck_t (by decide), show (0 : Int32).toNatClampNeg = 0 from rfl, b3.1, na, if_pos (show nI (n + L) ≤ (12 : Int32) from nI_le (b := 12) (by omega) (by omega)), db1_t p1, ← htb]
        exact d1
    · obtain ⟨σ2, τ2, r1, r2, r3⟩ := ref_F (hI.same sC sM)
      refine ⟨-1000004, σ2, τ2, ?_, ?_, r3⟩
      · unfold fRM_reads
        rw [db2_t hr, db1_t e2.no, if_pos rfl, b2.1, h12, if_neg (nI_ge (by omega) (by omega)), db2_t r1]
      · unfold fMM_reads
        rw [hA] at f1 ⊢
        rw [dlt_u, ← hta, show (1 : Int32) = nI (0 + 1) from rfl]
        simp only [dlt_u]
        rw [f1, Nat.zero_add, if_neg (show ¬ (1 : Int32) = 0 by decide), dck_t (by decide), show (0 : Int32).toNatClampNeg = 0 from rfl, b3.1, na, if_neg (show ¬ nI (n + L) ≤ (12 : Int32) from nI_ge (a := 12) (by omega) (by omega)), db2_t r2]
