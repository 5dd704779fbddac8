/-! formulas: parentheses, nots, factors -/
theorem rec_3 (k : Nat) (a1 : Int32) (σ : sT) : fFR_rec (k + 1) 3 a1 σ = fFR_readInner_B (fFR_rec k) a1 σ := by
  rw [fFR_rec, if_neg (by decide), if_neg (by decide), if_neg (by decide)]
theorem rec_2 (k : Nat) (a1 : Int32) (σ : sT) : fFR_rec (k + 1) 2 a1 σ = fFR_readFactor_B_L4 (kF6 (fFR_rec k) a1) FU (0 : Int32) (0 : Int32) σ := by
  rw [fFR_rec, if_neg (by decide), if_neg (by decide), if_pos rfl]
  unfold fFR_readFactor_B kF6
  rw [dlt_u]
theorem prim_p {T : List Nat} (hT : TxOk T) {n d : Nat} (hd : d ≤ 8) {p : Nat} (hp : p ≤ T.length) (c40 : ch T (sk T p) = 40) (hs : d < 8 → ∀ p, p ≤ T.length → XX T n 0 (d + 1) p) :
    (∃ q, q ≤ T.length ∧ PrF T n d p q) ∨ ∃ q R F, gdR T n p q R F ∧ PrS T n d p q R F := by
  have hTl := hT.1
  have hq := sk_le hp
  have hge := sk_ge T p
  have hlt : sk T p < T.length := ch_lt (by omega)
  have ng : dg T (sk T p) = false := by unfold dg; rw [c40]; rfl
  by_cases d8 : d < 8
  · -- inside
    have inC : ∀ (k : Nat) (σ : sT) (L : List Nat) (O : Nat), kb 3 d ≤ k → FC T n σ p L O → ∃ k' σ1, kb 0 (d + 1) ≤ k' ∧ FC T n σ1 (sk T p + 1) L O ∧ CO σ σ1 ∧ ∀ x4, kF6 (fFR_rec k) (nI d) x4 σ = db2 (db2 (fFR_rec k' 0 (nI (d + 1)) σ1) fun r5 σ6 =>
    db1 (fSc_hasFailed σ6) fun r8 =>
    if r8 = 0 then
      db1 (fSc_expect (41 : Int32) σ6) fun σ11 =>
      some (r5, σ11)
    else
      some (r5, σ6)) fun x10 σ11 => if (x4 - x4 / (2 : Int32) * (2 : Int32)) = 0 then some (x10, σ11) else some (x10 ^^^ (-1 : Int32), σ11) := by
      intro k σ L O hk h
      unfold kb at hk ⊢
      obtain ⟨k', rfl⟩ : ∃ k', k = k' + 1 := ⟨k - 1, by omega⟩
      obtain ⟨σ1, e1, e2, e3⟩ := cpeek_k hT h.1 c40
      have h1 := h.sc (e3.trans (scO_p σ1 (nI (sk T p + 1)))) (cp_at hlt e2.p)
      refine ⟨k', _, by omega, h1, CO_of (e3.trans (scO_p _ _)) (by simp), fun x4 => ?_⟩
      unfold kF6
      rw [db2_t e1, dlt_u, if_pos (show iI 40 = (40 : Int32) from rfl), rec_3]
      unfold fFR_readInner_B
      rw [if_pos (show nI d < (8 : Int32) from nI_lt (b := 8) d8 (by omega)), db1_t (sstep_spec e2), nI_1]
    have inM : ∀ (m : Nat) (τ : sT) (S : List Int) (W : List Nat) (f : Nat), FM T n τ p S (W ++ List.replicate m 33) d true → S.length + (W.length + m) ≤ p → T.length + 1 < f + p → ∃ τ1 f', (∀ K, fMM_readsFormula_L27 K f 1 τ = fMM_readsFormula_L27 K f' 1 τ1) ∧ FM T n τ1 (sk T p + 1) S (W ++ List.replicate m 33 ++ [40]) (d + 1) true ∧ S.length + (W ++ List.replicate m 33 ++ [40]).length ≤ sk T p + 1 ∧ T.length + 1 < f' + (sk T p + 1) ∧ MO τ τ1 := by
      intro m τ S W f h hl hf
      obtain ⟨f', rfl⟩ := f2 hf hp
      obtain ⟨τ1, g1, g2, g3⟩ := go_push hT h (by rw [List.length_append, List.length_replicate]; omega) (x := 40) (by omega) (Or.inr ⟨rfl, d8⟩)
      rw [if_pos rfl] at g1
      exact ⟨τ1, f' + 1, fun K => g3 K (f' + 1), g1, by simp only [List.length_append, List.length_replicate, List.length_singleton]; omega, by omega, g2⟩
    have wk : ∀ V : List Nat, Wk 0 (V ++ [40]) := by
      intro V
      refine ⟨by rw [last_snoc]; decide, fun z hz => ?_⟩
      rw [last_snoc]
      intro e
      have := Option.some.inj e
      rcases hz with ⟨_, h⟩ | ⟨_, h⟩ <;> omega
    rcases hs d8 (sk T p + 1) hlt with ⟨q, hq', oC, oM⟩ | ⟨q, R, F, gd, hz, oC, oM⟩
    · refine Or.inl ⟨q, hq', fun k σ L O hk h => ?_, fun m τ S W f h hW hl hf => ?_⟩
      · obtain ⟨k', σ1, a1, a2, a3, a4⟩ := inC k σ L O hk h
        obtain ⟨y, σ2, e1, e2, e3⟩ := oC k' σ1 L O a1 a2
        refine ⟨σ2, fun x4 => ?_, e2, a3.trans e3⟩
        rw [a4, db2_t e1, db1_t (e2.yes hT), if_neg (show ¬ (1 : Int32) = 0 by decide)]
        by_cases z : (x4 - x4 / (2 : Int32) * (2 : Int32)) = 0
        · exact ⟨y, by rw [db2_t rfl, if_pos z]⟩
        · exact ⟨y ^^^ (-1 : Int32), by rw [db2_t rfl, if_neg z]⟩
      · obtain ⟨τ1, f', a1, a2, a3, a4, a5⟩ := inM m τ S W f h hl hf
        obtain ⟨τ2, e1, e2, e3⟩ := oM τ1 S _ f' a2 (wk _) a3 a4
        exact ⟨τ2, fun K => by rw [a1, e1], e2, a5.trans e3⟩
    · obtain ⟨gq, gp, gl, gs, gn⟩ := gd
      have hq1 := sk_le gq
      have hge1 := sk_ge T q
      by_cases c41 : ch T (sk T q) = 41
      · have hlt1 : sk T q < T.length := ch_lt (by omega)
        refine Or.inr ⟨sk T q + 1, R, F, ⟨hlt1, by omega, by omega, gs, gn⟩, fun k σ L O hk h => ?_, fun m τ S W f h hW hl hf => ?_⟩
        · obtain ⟨k', σ1, a1, a2, a3, a4⟩ := inC k σ L O hk h
          obtain ⟨y, σ2, e1, e2, e3, e4⟩ := oC k' σ1 L O a1 a2
          obtain ⟨σ3, g1, g2, g3⟩ := exp_y hT (x := (41 : Int32)) rfl e2.1 c41 (by omega)
          refine ⟨y, σ3, fun x4 => ?_, e2.sc g3 g2, (a3.trans e3).trans (CO_of g3 (by simp)), e4⟩
          rw [a4, db2_t e1, db1_t e2.1.no, if_pos rfl, db1_t g1, db2_t rfl]
        · obtain ⟨τ1, f', a1, a2, a3, a4, a5⟩ := inM m τ S W f h hl hf
          obtain ⟨τ2, f'', S', Z, e1, e2, e3, e4, e5, e6⟩ := oM τ1 S _ f' a2 (wk _) a3 a4
          have hlen := congrArg List.length e3
          simp only [List.length_append] at hlen
          have hng : (ngs Z).length = Z.length := by unfold ngs; rw [List.length_map]
          obtain ⟨f3, rfl⟩ := f2 e5 gq
          simp only [List.length_append, List.length_replicate, List.length_singleton] at a3
          obtain ⟨τ3, g1, g2, g3⟩ := go_close hT e4 (by omega) c41 hW (fun z hz' => by rcases e2 z hz' with ⟨_, h⟩ | ⟨_, h⟩ <;> omega) (by omega)
          rw [e3] at g1
          exact ⟨τ3, f3 + 1, fun K => by rw [a1, e1, g3], g1, by omega, (a5.trans e6).trans g2⟩
      · refine Or.inl ⟨sk T q, hq1, fun k σ L O hk h => ?_, fun m τ S W f h hW hl hf => ?_⟩
        · obtain ⟨k', σ1, a1, a2, a3, a4⟩ := inC k σ L O hk h
          obtain ⟨y, σ2, e1, e2, e3, e4⟩ := oC k' σ1 L O a1 a2
          obtain ⟨σ3, g1, g2, g3⟩ := exp_n hT (x := (41 : Int32)) rfl e2.1 c41 (by omega)
          refine ⟨σ3, fun x4 => ?_, g2, (a3.trans e3).trans (CO_of g3 (by simp))⟩
          rw [a4, db2_t e1, db1_t e2.1.no, if_pos rfl, db1_t g1]
          by_cases z : (x4 - x4 / (2 : Int32) * (2 : Int32)) = 0
          · exact ⟨y, by rw [db2_t rfl, if_pos z]⟩
          · exact ⟨y ^^^ (-1 : Int32), by rw [db2_t rfl, if_neg z]⟩
        · obtain ⟨τ1, f', a1, a2, a3, a4, a5⟩ := inM m τ S W f h hl hf
          obtain ⟨τ2, f'', S', Z, e1, e2, e3, e4, e5, e6⟩ := oM τ1 S _ f' a2 (wk _) a3 a4
          obtain ⟨f3, rfl⟩ := f2 e5 gq
          obtain ⟨τ3, g1, g2, g3⟩ := no_sgn hT e4 (by omega) (hz 38 (Or.inl ⟨by omega, rfl⟩)) (hz 124 (Or.inr ⟨rfl, rfl⟩)) (fun z => absurd z c41) (fun _ => by omega)
          exact ⟨τ3, fun K => by rw [a1, e1, g3], g1, (a5.trans e6).trans g2⟩
  · refine Or.inl ⟨sk T p, hq, fun k σ L O hk h => ?_, fun m τ S W f h hW hl hf => ?_⟩
    · unfold kb at hk
      obtain ⟨k', rfl⟩ : ∃ k', k = k' + 1 := ⟨k - 1, by omega⟩
      obtain ⟨σ1, e1, e2, e3⟩ := cpeek_k hT h.1 c40
      obtain ⟨g1, g2⟩ := cfail hq e2
      refine ⟨_, fun x4 => ?_, g2, CO_of (e3.trans (scO_q _ _)) (by simp)⟩
      unfold kF6
      rw [db2_t e1, dlt_u, if_pos (show iI 40 = (40 : Int32) from rfl), rec_3]
      unfold fFR_readInner_B
      rw [if_neg (show ¬ nI d < (8 : Int32) from nI_nlt (b := 8) (by omega) (by omega)), db1_t g1]
      by_cases z : (x4 - x4 / (2 : Int32) * (2 : Int32)) = 0
      · exact ⟨0, by rw [db2_t rfl]; dsimp only; rw [if_pos z]⟩
      · exact ⟨(0 : Int32) ^^^ (-1 : Int32), by rw [db2_t rfl]; dsimp only; rw [if_neg z]⟩
    · obtain ⟨f', rfl⟩ := f2 hf hp
      obtain ⟨τ1, g1, g2, g3⟩ := no_open hT h (by omega) ng (by omega) (fun _ => by omega)
      exact ⟨τ1, fun K => g3 K f', g1, g2⟩
/-! nots -/
def NtF (T : List Nat) (n d m p q : Nat) : Prop :=
  (∀ (k : Nat) (σ : sT) (L : List Nat) (O : Nat) (f : Nat), kb 3 d ≤ k → FC T n σ p L O → 200 ≤ f + m → ∃ y σ1, fFR_readFactor_B_L4 (kF6 (fFR_rec k) (nI d)) f (nI m) (nI m) σ = some (y, σ1) ∧ CF T σ1 q ∧ CO σ σ1) ∧
  (∀ (τ : sT) (S : List Int) (W : List Nat) (f : Nat), FM T n τ p S (W ++ List.replicate m 33) d true → W.getLast? ≠ some 33 → S.length + (W.length + m) ≤ p → T.length + 1 < f + p → ∃ τ1, (∀ K, fMM_readsFormula_L27 K f 1 τ = K 0 τ1) ∧ MF T τ1 q ∧ MO τ τ1)
def NtS (T : List Nat) (n d m p q : Nat) (R : List Int) (F : (Nat → Bool) → Bool) : Prop :=
  (∀ (k : Nat) (σ : sT) (L : List Nat) (O : Nat) (f : Nat), kb 3 d ≤ k → FC T n σ p L O → 200 ≤ f + m → ∃ y σ1, fFR_readFactor_B_L4 (kF6 (fFR_rec k) (nI d)) f (nI m) (nI m) σ = some (y, σ1) ∧ FC T n σ1 q (addL L (numsR R)) (orL O (numsR R)) ∧ CO σ σ1 ∧ tbOk L R F y) ∧
  (∀ (τ : sT) (S : List Int) (W : List Nat) (f : Nat), FM T n τ p S (W ++ List.replicate m 33) d true → W.getLast? ≠ some 33 → S.length + (W.length + m) ≤ p → T.length + 1 < f + p → ∃ τ1 f', (∀ K, fMM_readsFormula_L27 K f 1 τ = fMM_readsFormula_L27 K f' 1 τ1) ∧ FM T n τ1 q (S ++ R) W d false ∧ T.length + 1 < f' + q ∧ MO τ τ1)
theorem m1_bits : ∀ pl : Fin 32, (-1 : Int32).toBitVec.getLsbD pl.1 = true := by decide +kernel
theorem tb_not {L : List Nat} {R : List Int} {F : (Nat → Bool) → Bool} {y : Int32} {m : Nat} (hm : m < 1000) (h : tbOk L R F y) : tbOk L (R ++ List.replicate m (-33)) (fun v => if m % 2 = 0 then F v else !F v) (if (nI m - nI m / (2 : Int32) * (2 : Int32)) = 0 then y else y ^^^ (-1 : Int32)) := by
  have hn : numsR (R ++ List.replicate m (-33)) = numsR R := by rw [numsR_app, numsR_nots, List.append_nil]
  unfold tbOk
  rw [hn]
  intro hM pl v hpl hv
  have := h hM pl v hpl hv
  have hr : nI m - nI m / (2 : Int32) * (2 : Int32) = nI (m % 2) := pk_rem (d := 2) (by omega) (by omega) (by omega)
  rw [hr]
  dsimp only
  by_cases z : m % 2 = 0
  · rw [if_pos z, z, if_pos (show nI 0 = (0 : Int32) from rfl)]; exact this
  · rw [if_neg z, show m % 2 = 1 by omega, if_neg (show ¬ nI 1 = (0 : Int32) by decide), Int32.toBitVec_xor, BitVec.getLsbD_xor, this, m1_bits ⟨pl, hpl⟩, Bool.xor_true]
theorem nots_x {T : List Nat} (hT : TxOk T) {n d : Nat} (hn : n ≤ 12) (hd : d ≤ 8) (hs : d < 8 → ∀ p, p ≤ T.length → XX T n 0 (d + 1) p) : ∀ (c p m : Nat), T.length - p < c → p ≤ T.length → m ≤ p →
    (∃ q, q ≤ T.length ∧ NtF T n d m p q) ∨ ∃ q R F, (q ≤ T.length ∧ p < q ∧ R.length + p ≤ q + m ∧ Says R F ∧ ∀ i ∈ numsR R, i < n) ∧ NtS T n d m p q R F := by
  have hTl := hT.1
  intro c
  induction c with
  | zero => intro p m h; omega
  | succ c ih =>
    intro p m hc hp hm
    have hq := sk_le hp
    have hge := sk_ge T p
    by_cases c33 : ch T (sk T p) = 33
    · have hlt : sk T p < T.length := ch_lt (by omega)
      have stC : ∀ (k : Nat) (σ : sT) (L : List Nat) (O : Nat) (f : Nat), FC T n σ p L O → 200 ≤ f + m → ∃ f' σ1, fFR_readFactor_B_L4 (kF6 (fFR_rec k) (nI d)) f (nI m) (nI m) σ = fFR_readFactor_B_L4 (kF6 (fFR_rec k) (nI d)) f' (nI (m + 1)) (nI (m + 1)) σ1 ∧ FC T n σ1 (sk T p + 1) L O ∧ 200 ≤ f' + (m + 1) ∧ CO σ σ1 := by
        intro k σ L O f h hf
        obtain ⟨f', rfl⟩ : ∃ f', f = f' + 1 := ⟨f - 1, by omega⟩
        obtain ⟨σ1, e1, e2, e3⟩ := cpeek_k hT h.1 c33
        have o := e3.trans (scO_p σ1 (nI (sk T p + 1)))
        refine ⟨f', _, ?_, h.sc o (cp_at hlt e2.p), by omega, CO_of o (by simp)⟩
        conv => lhs; unfold fFR_readFactor_B_L4
        rw [if_neg (show ¬ (80 : Int32) ≤ nI m from nI_ge (b := 80) (by omega) (by omega)), db2_t e1, if_pos (show iI 33 = (33 : Int32) from rfl), db1_t (sstep_spec e2), nI_1]
      have stM : ∀ (τ : sT) (S : List Int) (W : List Nat) (f : Nat), FM T n τ p S (W ++ List.replicate m 33) d true → S.length + (W.length + m) ≤ p → T.length + 1 < f + p → ∃ τ1 f', (∀ K, fMM_readsFormula_L27 K f 1 τ = fMM_readsFormula_L27 K f' 1 τ1) ∧ FM T n τ1 (sk T p + 1) S (W ++ List.replicate (m + 1) 33) d true ∧ T.length + 1 < f' + (sk T p + 1) ∧ MO τ τ1 := by
        intro τ S W f h hl hf
        obtain ⟨f', rfl⟩ := f2 hf hp
        obtain ⟨τ1, g1, g2, g3⟩ := go_push hT h (by rw [List.length_append, List.length_replicate]; omega) (x := 33) (by omega) (Or.inl rfl)
        rw [if_neg (by decide), List.append_assoc, ← List.replicate_succ'] at g1
        exact ⟨τ1, f' + 1, fun K => g3 K (f' + 1), g1, by omega, g2⟩
      rcases ih (sk T p + 1) (m + 1) (by omega) hlt (by omega) with ⟨q, hq', oC, oM⟩ | ⟨q, R, F, ⟨gq, gp, gl, gs, gn⟩, oC, oM⟩
      · refine Or.inl ⟨q, hq', fun k σ L O f hk h hf => ?_, fun τ S W f h hW hl hf => ?_⟩
        · obtain ⟨f', σ1, a1, a2, a3, a4⟩ := stC k σ L O f h hf
          obtain ⟨y, σ2, e1, e2, e3⟩ := oC k σ1 L O f' hk a2 a3
          exact ⟨y, σ2, by rw [a1]; exact e1, e2, a4.trans e3⟩
        · obtain ⟨τ1, f', a1, a2, a3, a4⟩ := stM τ S W f h hl hf
          obtain ⟨τ2, e1, e2, e3⟩ := oM τ1 S W f' a2 hW (by omega) a3
          exact ⟨τ2, fun K => by rw [a1, e1], e2, a4.trans e3⟩
      · refine Or.inr ⟨q, R, F, ⟨gq, by omega, by omega, gs, gn⟩, fun k σ L O f hk h hf => ?_, fun τ S W f h hW hl hf => ?_⟩
        · obtain ⟨f', σ1, a1, a2, a3, a4⟩ := stC k σ L O f h hf
          obtain ⟨y, σ2, e1, e2, e3, e4⟩ := oC k σ1 L O f' hk a2 a3
          exact ⟨y, σ2, by rw [a1]; exact e1, e2, a4.trans e3, e4⟩
        · obtain ⟨τ1, f', a1, a2, a3, a4⟩ := stM τ S W f h hl hf
          obtain ⟨τ2, f'', e1, e2, e3, e4⟩ := oM τ1 S W f' a2 hW (by omega) a3
          exact ⟨τ2, f'', fun K => by rw [a1, e1], e2, e3, a4.trans e4⟩
    · have stC : ∀ (k : Nat) (σ : sT) (L : List Nat) (O : Nat) (f : Nat), FC T n σ p L O → 200 ≤ f + m → ∃ σ1, fFR_readFactor_B_L4 (kF6 (fFR_rec k) (nI d)) f (nI m) (nI m) σ = kF6 (fFR_rec k) (nI d) (nI m) σ1 ∧ FC T n σ1 p L O ∧ CO σ σ1 := by
        intro k σ L O f h hf
        obtain ⟨f', rfl⟩ : ∃ f', f = f' + 1 := ⟨f - 1, by omega⟩
        unfold fFR_readFactor_B_L4
        by_cases z : 80 ≤ m
        · rw [if_pos (show (80 : Int32) ≤ nI m from nI_le (a := 80) z (by omega))]
          exact ⟨σ, rfl, h, CO_of (scO.refl [] σ) (by simp)⟩
        · obtain ⟨σ1, e1, e2, e3⟩ := cpeek hT h.1
          rw [if_neg (show ¬ (80 : Int32) ≤ nI m from nI_ge (b := 80) (by omega) (by omega)), db2_t e1, if_neg (show ¬ iI (ch T (sk T p)) = (33 : Int32) from chn hT (k := 33) c33 (by omega))]
          exact ⟨σ1, rfl, h.sc e3 (cp_sk hp e2), CO_of e3 (by simp)⟩
      have hx : (∃ q, q ≤ T.length ∧ PrF T n d p q) ∨ ∃ q R F, gdR T n p q R F ∧ PrS T n d p q R F := by
        by_cases c40 : ch T (sk T p) = 40
        · exact prim_p hT hd hp c40 hs
        · exact prim_n hT hn hd hp c33 c40
      rcases hx with ⟨q, hq', oC, oM⟩ | ⟨q, R, F, ⟨gq, gp, gl, gs, gn⟩, oC, oM⟩
      · refine Or.inl ⟨q, hq', fun k σ L O f hk h hf => ?_, fun τ S W f h hW hl hf => oM m τ S W f h hW hl hf⟩
        obtain ⟨σ1, a1, a2, a3⟩ := stC k σ L O f h hf
        obtain ⟨σ2, e1, e2, e3⟩ := oC k σ1 L O hk a2
        obtain ⟨y, hy⟩ := e1 (nI m)
        exact ⟨y, σ2, by rw [a1]; exact hy, e2, a3.trans e3⟩
      · have hnum : numsR (R ++ List.replicate m (-33)) = numsR R := by rw [numsR_app, numsR_nots, List.append_nil]
        refine Or.inr ⟨q, R ++ List.replicate m (-33), fun v => if m % 2 = 0 then F v else !F v, ⟨gq, gp, by rw [List.length_append, List.length_replicate]; omega, says_nots gs m, by rw [hnum]; exact gn⟩, fun k σ L O f hk h hf => ?_, fun τ S W f h hW hl hf => ?_⟩
        · obtain ⟨σ1, a1, a2, a3⟩ := stC k σ L O f h hf
          obtain ⟨y, σ2, e1, e2, e3, e4⟩ := oC k σ1 L O hk a2
          refine ⟨if (nI m - nI m / (2 : Int32) * (2 : Int32)) = 0 then y else y ^^^ (-1 : Int32), σ2, ?_, by rw [hnum]; exact e2, a3.trans e3, tb_not (by omega) e4⟩
          rw [a1, e1]
          by_cases z : (nI m - nI m / (2 : Int32) * (2 : Int32)) = 0
          · rw [if_pos z, if_pos z]
          · rw [if_neg z, if_neg z]
        · obtain ⟨τ1, f', e1, e2, e3, e4⟩ := oM m τ S W f h hW hl hf
          rw [List.append_assoc] at e2
          exact ⟨τ1, f', e1, e2, e3, e4⟩
theorem fac_x {T : List Nat} (hT : TxOk T) {n d : Nat} (hn : n ≤ 12) (hd : d ≤ 8) (hs : d < 8 → ∀ p, p ≤ T.length → XX T n 0 (d + 1) p) {p : Nat} (hp : p ≤ T.length) : XX T n 2 d p := by
  have noal : ∀ z, ¬ al 2 z := by
    rintro z (⟨h, _⟩ | ⟨h, _⟩) <;> omega
  rcases nots_x hT hn hd hs (T.length + 1) p 0 (by omega) hp (Nat.zero_le _) with ⟨q, hq', oC, oM⟩ | ⟨q, R, F, ⟨gq, gp, gl, gs, gn⟩, oC, oM⟩
  · refine Or.inl ⟨q, hq', fun k σ L O hk h => ?_, fun τ S W f h hW hl hf => ?_⟩
    · unfold kb at hk
      obtain ⟨k', rfl⟩ : ∃ k', k = k' + 1 := ⟨k - 1, by omega⟩
      rw [rec_2, ← nI_0]
      exact oC k' σ L O FU (by unfold kb; omega) h (by unfold FU; omega)
    · exact oM τ S W f (by rw [List.replicate_zero, List.append_nil]; exact h) hW.1 (by omega) hf
  · refine Or.inr ⟨q, R, F, ⟨gq, gp, by omega, gs, gn⟩, fun z hz => absurd hz (noal z), fun k σ L O hk h => ?_, fun τ S W f h hW hl hf => ?_⟩
    · unfold kb at hk
      obtain ⟨k', rfl⟩ : ∃ k', k = k' + 1 := ⟨k - 1, by omega⟩
      rw [rec_2, ← nI_0]
      exact oC k' σ L O FU (by unfold kb; omega) h (by unfold FU; omega)
    · obtain ⟨τ1, f', e1, e2, e3, e4⟩ := oM τ S W f (by rw [List.replicate_zero, List.append_nil]; exact h) hW.1 (by omega) hf
      exact ⟨τ1, f', S ++ R, [], e1, fun z hz => (by cases hz), by rw [show ngs [] = [] from rfl, List.append_nil], by rw [List.reverse_nil, List.append_nil]; exact e2, e3, e4⟩
