/-! formulas: products and sums -/
def loopC (t : Nat) (recF : Nat → Int32 → sT → Option (Int32 × sT)) (a1 : Int32) (f : Nat) (x4 x5 : Int32) (σ : sT) : Option (Int32 × sT) :=
  if t = 0 then fFR_readSum_B_L8 recF a1 f x4 x5 σ else fFR_readProduct_B_L8 recF a1 f x4 x5 σ
def opI (t : Nat) (x y : Int32) : Int32 := if t = 0 then x ||| y else x &&& y
theorem lp_80 {t : Nat} (ht : t ≤ 1) {recF : Nat → Int32 → sT → Option (Int32 × sT)} {a1 x4 : Int32} {f x5 : Nat} {σ : sT} (h : 80 ≤ x5) (h' : x5 < 1000) : loopC t recF a1 (f + 1) x4 (nI x5) σ = some (x4, σ) := by
  have h80 : (80 : Int32) ≤ nI x5 := nI_le (a := 80) h (by omega)
  unfold loopC
  rcases (show t = 0 ∨ t = 1 by omega) with rfl | rfl
  · rw [if_pos rfl]
    unfold fFR_readSum_B_L8
    rw [if_pos h80]
  · rw [if_neg (by decide)]
    unfold fFR_readProduct_B_L8
    rw [if_pos h80]
theorem lp_fail {T : List Nat} (hT : TxOk T) {t : Nat} (ht : t ≤ 1) {recF : Nat → Int32 → sT → Option (Int32 × sT)} {a1 x4 : Int32} {f x5 q : Nat} {σ : sT} (h : CF T σ q) (h' : x5 < 1000) : loopC t recF a1 (f + 1) x4 (nI x5) σ = some (x4, σ) := by
  by_cases z : 80 ≤ x5
  · exact lp_80 ht z h'
  · have h80 : ¬ (80 : Int32) ≤ nI x5 := nI_ge (b := 80) (by omega) (by omega)
    unfold loopC
    rcases (show t = 0 ∨ t = 1 by omega) with rfl | rfl
    · rw [if_pos rfl]
      unfold fFR_readSum_B_L8
      rw [if_neg h80, db1_t (h.yes hT), if_neg (show ¬ (1 : Int32) = 0 by decide)]
    · rw [if_neg (by decide)]
      unfold fFR_readProduct_B_L8
      rw [if_neg h80, db1_t (h.yes hT), if_neg (show ¬ (1 : Int32) = 0 by decide)]
theorem lp_stop {T : List Nat} (hT : TxOk T) {t : Nat} (ht : t ≤ 1) {recF : Nat → Int32 → sT → Option (Int32 × sT)} {a1 x4 : Int32} {f x5 p : Nat} {σ : sT} (h : CP T σ p) (h' : x5 < 1000) (hc : ch T (sk T p) ≠ (sgn t : Int)) : ∃ σ1, loopC t recF a1 (f + 1) x4 (nI x5) σ = some (x4, σ1) ∧ CP T σ1 p ∧ scO [] σ σ1 := by
  by_cases z : 80 ≤ x5
  · exact ⟨σ, lp_80 ht z h', h, scO.refl _ _⟩
  · have h80 : ¬ (80 : Int32) ≤ nI x5 := nI_ge (b := 80) (by omega) (by omega)
    obtain ⟨σ1, e1, e2, e3⟩ := cpeek hT h
    refine ⟨σ1, ?_, cp_sk h.1 e2, e3⟩
    unfold loopC
    rcases (show t = 0 ∨ t = 1 by omega) with rfl | rfl
    · rw [if_pos rfl]
      unfold fFR_readSum_B_L8
      rw [if_neg h80, db1_t h.no, if_pos rfl, db2_t e1, if_neg (show ¬ iI (ch T (sk T p)) = (124 : Int32) from chn hT (k := 124) hc (by omega))]
    · rw [if_neg (by decide)]
      unfold fFR_readProduct_B_L8
      rw [if_neg h80, db1_t h.no, if_pos rfl, db2_t e1, if_neg (show ¬ iI (ch T (sk T p)) = (38 : Int32) from chn hT (k := 38) hc (by omega))]
theorem lp_go {T : List Nat} (hT : TxOk T) {t : Nat} (ht : t ≤ 1) {recF : Nat → Int32 → sT → Option (Int32 × sT)} {a1 x4 : Int32} {f x5 p : Nat} {σ : sT} (h : CP T σ p) (h' : x5 < 80) (hc : ch T (sk T p) = (sgn t : Int)) : ∃ σ1, CP T σ1 (sk T p + 1) ∧ scO [] σ σ1 ∧ loopC t recF a1 (f + 1) x4 (nI x5) σ = db2 (recF (t + 1) a1 σ1) fun r19 σ20 => loopC t recF a1 f (opI t x4 r19) (nI (x5 + 1)) σ20 := by
  have h80 : ¬ (80 : Int32) ≤ nI x5 := nI_ge (b := 80) (by omega) (by omega)
  have hs : sgn t = 124 ∨ sgn t = 38 := by unfold sgn; split <;> omega
  have hlt : sk T p < T.length := ch_lt (by omega)
  obtain ⟨σ1, e1, e2, e3⟩ := cpeek_k hT h hc
  refine ⟨siW σ1 26 2 (nI (sk T p + 1)), cp_at hlt e2.p, e3.trans (scO_p _ _), ?_⟩
  rcases (show t = 0 ∨ t = 1 by omega) with rfl | rfl
  · unfold loopC opI
    rw [if_pos rfl]
    conv => lhs; unfold fFR_readSum_B_L8
    rw [if_neg h80, db1_t h.no, if_pos rfl, db2_t e1, if_pos (show iI ((sgn 0 : Nat) : Int) = (124 : Int32) from rfl), db1_t (sstep_spec e2), nI_1]
    rfl
  · unfold loopC opI
    rw [if_neg (by decide)]
    conv => lhs; unfold fFR_readProduct_B_L8
    rw [if_neg h80, db1_t h.no, if_pos rfl, db2_t e1, if_pos (show iI ((sgn 1 : Nat) : Int) = (38 : Int32) from rfl), db1_t (sstep_spec e2), nI_1]
    rfl
theorem rec_t {t : Nat} (ht : t ≤ 1) (k : Nat) (a1 : Int32) (σ : sT) : fFR_rec (k + 1) t a1 σ = db2 (fFR_rec k (t + 1) a1 σ) fun r2 σ3 => loopC t (fFR_rec k) a1 FU r2 (0 : Int32) σ3 := by
  rcases (show t = 0 ∨ t = 1 by omega) with rfl | rfl
  · rw [fFR_rec, if_pos rfl]
    unfold fFR_readSum_B loopC
    simp only [if_pos]
  · rw [fFR_rec, if_neg (by decide), if_pos rfl]
    unfold fFR_readProduct_B loopC
    simp only [if_neg (show ¬ (1 : Nat) = 0 by decide)]
theorem tb_op {n : Nat} {L : List Nat} {R R1 : List Int} {F F1 : (Nat → Bool) → Bool} {x y : Int32} {t : Nat} (ht : t ≤ 1) (ok : slOk n L) (hn : ∀ i ∈ numsR R, i < n) (h : tbOk L R F x) (h1 : tbOk (addL L (numsR R)) R1 F1 y) :
    tbOk L (R ++ R1 ++ [-((sgn t : Nat) : Int)]) (fun v => if sgn t = 38 then F v && F1 v else F v || F1 v) (opI t x y) := by
  have hs : sgn t = 124 ∨ sgn t = 38 := by unfold sgn; split <;> omega
  have hnum : numsR (R ++ R1 ++ [-((sgn t : Nat) : Int)]) = numsR R ++ numsR R1 := by rw [numsR_app, numsR_app, numsR_neg (by omega), List.append_nil]
  unfold tbOk
  rw [hnum]
  rintro ⟨M, hM, hm1, hm2⟩ pl v hpl hv
  obtain ⟨r1, r2⟩ := addL_room hM (numsR R) ok hn hm1 (fun i hi => hm2 i (List.mem_append_left _ hi))
  rw [addL_app] at hv
  have a := h ⟨M, hM, hm1, fun i hi => hm2 i (List.mem_append_left _ hi)⟩ pl v hpl (fun j i hj => by
    obtain ⟨X, hX⟩ := addL_pre (numsR R1) (addL L (numsR R))
    refine hv j i ?_
    rw [hX, List.getElem?_append_left (List.getElem?_eq_some_iff.mp hj).1]
    exact hj)
  have b := h1 ⟨M, hM, r2, fun i hi => hm2 i (List.mem_append_right _ hi)⟩ pl v hpl hv
  unfold opI
  dsimp only
  rcases (show t = 0 ∨ t = 1 by omega) with rfl | rfl
  · rw [if_pos rfl, if_neg (show ¬ sgn 0 = 38 by decide), Int32.toBitVec_or, BitVec.getLsbD_or, a, b]
  · rw [if_neg (by decide), if_pos (show sgn 1 = 38 from rfl), Int32.toBitVec_and, BitVec.getLsbD_and, a, b]
theorem al_s {t z : Nat} (h : al (t + 1) z) : al t z := by
  rcases h with ⟨h1, h2⟩ | ⟨h1, h2⟩
  · exact Or.inl ⟨by omega, h2⟩
  · omega
theorem al_g {t : Nat} (ht : t ≤ 1) : al t (sgn t) := by
  rcases (show t = 0 ∨ t = 1 by omega) with rfl | rfl
  · exact Or.inr ⟨rfl, rfl⟩
  · exact Or.inl ⟨by omega, rfl⟩
theorem al_n {t z : Nat} (ht : t ≤ 1) (h : al t z) : al (t + 1) z ∨ z = sgn t := by
  rcases (show t = 0 ∨ t = 1 by omega) with rfl | rfl
  · rcases h with ⟨h1, h2⟩ | ⟨h1, h2⟩
    · exact Or.inl (Or.inl ⟨by omega, h2⟩)
    · exact Or.inr h2
  · rcases h with ⟨h1, h2⟩ | ⟨h1, h2⟩
    · exact Or.inr h2
    · omega
theorem Wk_s {t : Nat} {W : List Nat} (h : Wk t W) : Wk (t + 1) W := ⟨h.1, fun z hz => h.2 z (al_s hz)⟩
theorem Wk_p {t : Nat} (ht : t ≤ 1) (W : List Nat) : Wk (t + 1) (W ++ [sgn t]) := by
  have hs : sgn t = 124 ∨ sgn t = 38 := by unfold sgn; split <;> omega
  refine ⟨by rw [last_snoc]; intro e; have := Option.some.inj e; omega, fun z hz => ?_⟩
  rw [last_snoc]
  intro e
  have e' := Option.some.inj e
  rcases (show t = 0 ∨ t = 1 by omega) with rfl | rfl
  · have : sgn 0 = 124 := rfl
    rcases hz with ⟨_, h⟩ | ⟨h, _⟩ <;> omega
  · rcases hz with ⟨h, _⟩ | ⟨h, _⟩ <;> omega
/-! the loop over signs -/
def LpF (T : List Nat) (n t d p q : Nat) (R0 : List Int) (F0 : (Nat → Bool) → Bool) : Prop :=
  (∀ (k : Nat) (σ : sT) (L : List Nat) (O : Nat) (x4 : Int32) (x5 f : Nat), kb (t + 1) d ≤ k → slOk n L → FC T n σ p (addL L (numsR R0)) (orL O (numsR R0)) → tbOk L R0 F0 x4 → x5 ≤ p → 200 ≤ f + x5 → ∃ y σ1, loopC t (fFR_rec k) (nI d) f x4 (nI x5) σ = some (y, σ1) ∧ CF T σ1 q ∧ CO σ σ1) ∧
  (∀ (τ : sT) (S S' : List Int) (W Z : List Nat) (f : Nat), FM T n τ p S' (W ++ Z.reverse) d false → Wk t W → (∀ z ∈ Z, al t z) → S' ++ ngs Z = S ++ R0 → S.length + W.length + R0.length ≤ p → T.length + 1 < f + p → ∃ τ1, (∀ K, fMM_readsFormula_L27 K f 1 τ = K 0 τ1) ∧ MF T τ1 q ∧ MO τ τ1)
def LpS (T : List Nat) (n t d p q : Nat) (R0 : List Int) (F0 : (Nat → Bool) → Bool) (R : List Int) (F : (Nat → Bool) → Bool) : Prop :=
  (∀ (k : Nat) (σ : sT) (L : List Nat) (O : Nat) (x4 : Int32) (x5 f : Nat), kb (t + 1) d ≤ k → slOk n L → FC T n σ p (addL L (numsR R0)) (orL O (numsR R0)) → tbOk L R0 F0 x4 → x5 ≤ p → 200 ≤ f + x5 → ∃ y σ1, loopC t (fFR_rec k) (nI d) f x4 (nI x5) σ = some (y, σ1) ∧ FC T n σ1 q (addL L (numsR R)) (orL O (numsR R)) ∧ CO σ σ1 ∧ tbOk L R F y) ∧
  (∀ (τ : sT) (S S' : List Int) (W Z : List Nat) (f : Nat), FM T n τ p S' (W ++ Z.reverse) d false → Wk t W → (∀ z ∈ Z, al t z) → S' ++ ngs Z = S ++ R0 → S.length + W.length + R0.length ≤ p → T.length + 1 < f + p → ∃ τ1 f' S1 Z1, (∀ K, fMM_readsFormula_L27 K f 1 τ = fMM_readsFormula_L27 K f' 1 τ1) ∧ (∀ z ∈ Z1, al t z) ∧ S1 ++ ngs Z1 = S ++ R ∧ FM T n τ1 q S1 (W ++ Z1.reverse) d false ∧ T.length + 1 < f' + q ∧ MO τ τ1)
theorem loop_x {T : List Nat} (hT : TxOk T) {n t d : Nat} (ht : t ≤ 1) (hi : ∀ p, p ≤ T.length → XX T n (t + 1) d p) : ∀ (c p : Nat) (R0 : List Int) (F0 : (Nat → Bool) → Bool), T.length - p < c → p ≤ T.length → Says R0 F0 → (∀ i ∈ numsR R0, i < n) → (∀ z : Nat, al (t + 1) z → ch T (sk T p) ≠ (z : Int)) →
    (∃ q, q ≤ T.length ∧ LpF T n t d p q R0 F0) ∨ ∃ q R F, (q ≤ T.length ∧ p ≤ q ∧ R.length + p ≤ q + R0.length ∧ Says R F ∧ ∀ i ∈ numsR R, i < n) ∧ (∀ z : Nat, al t z → ch T (sk T q) ≠ (z : Int)) ∧ LpS T n t d p q R0 F0 R F := by
  have hTl := hT.1
  have hsg : sgn t = 124 ∨ sgn t = 38 := by unfold sgn; split <;> omega
  intro c
  induction c with
  | zero => intro p R0 F0 h; omega
  | succ c ih =>
    intro p R0 F0 hc hp hS0 hN0 hz0
    have hq := sk_le hp
    have hge := sk_ge T p
    by_cases cs : ch T (sk T p) = (sgn t : Int)
    · have hlt : sk T p < T.length := ch_lt (by omega)
      have stM : ∀ (τ : sT) (S S' : List Int) (W Z : List Nat) (f : Nat), FM T n τ p S' (W ++ Z.reverse) d false → Wk t W → (∀ z ∈ Z, al t z) → S' ++ ngs Z = S ++ R0 → S.length + W.length + R0.length ≤ p → T.length + 1 < f + p → ∃ τ1 f', (∀ K, fMM_readsFormula_L27 K f 1 τ = fMM_readsFormula_L27 K f' 1 τ1) ∧ FM T n τ1 (sk T p + 1) (S ++ R0) (W ++ [sgn t]) d true ∧ (S ++ R0).length + (W ++ [sgn t]).length ≤ sk T p + 1 ∧ T.length + 1 < f' + (sk T p + 1) ∧ MO τ τ1 := by
        intro τ S S' W Z f h hW hZ hSS hl hf
        obtain ⟨f', rfl⟩ := f2 hf hp
        have hlen := congrArg List.length hSS
        simp only [List.length_append] at hlen
        have hng : (ngs Z).length = Z.length := by unfold ngs; rw [List.length_map]
        obtain ⟨τ1, g1, g2, g3⟩ := go_sgn hT ht h cs hW.2 hZ (by omega)
        rw [hSS] at g1
        exact ⟨τ1, f' + 1, fun K => g3 K (f' + 1), g1, by simp only [List.length_append, List.length_singleton]; omega, by omega, g2⟩
      have stC : ∀ (k : Nat) (σ : sT) (L : List Nat) (O : Nat) (x4 : Int32) (x5 f : Nat), FC T n σ p L O → x5 ≤ p → 200 ≤ f + x5 → ∃ σ1 f', FC T n σ1 (sk T p + 1) L O ∧ CO σ σ1 ∧ 200 ≤ f' + (x5 + 1) ∧ loopC t (fFR_rec k) (nI d) f x4 (nI x5) σ = db2 (fFR_rec k (t + 1) (nI d) σ1) fun r19 σ20 => loopC t (fFR_rec k) (nI d) f' (opI t x4 r19) (nI (x5 + 1)) σ20 := by
        intro k σ L O x4 x5 f h hx hf
        obtain ⟨f', rfl⟩ : ∃ f', f = f' + 1 := ⟨f - 1, by omega⟩
        obtain ⟨σ1, e1, e2, e3⟩ := lp_go hT ht (recF := fFR_rec k) (a1 := nI d) (x4 := x4) (f := f') h.1 (show x5 < 80 by omega) cs
        exact ⟨σ1, f', h.sc e2 e1, CO_of e2 (by simp), by omega, e3⟩
      rcases hi (sk T p + 1) hlt with ⟨q, hq', oC, oM⟩ | ⟨q, R1, F1, ⟨gq, gp, gl, gs, gn⟩, gz, oC, oM⟩
      · refine Or.inl ⟨q, hq', fun k σ L O x4 x5 f hk ok h htb hx hf => ?_, fun τ S S' W Z f h hW hZ hSS hl hf => ?_⟩
        · obtain ⟨σ1, f', a1, a2, a3, a4⟩ := stC k σ _ _ x4 x5 f h hx hf
          obtain ⟨y, σ2, e1, e2, e3⟩ := oC k σ1 _ _ hk a1
          obtain ⟨f'', rfl⟩ : ∃ f'', f' = f'' + 1 := ⟨f' - 1, by omega⟩
          refine ⟨opI t x4 y, σ2, ?_, e2, a2.trans e3⟩
          rw [a4, db2_t e1, lp_fail hT ht e2 (by omega)]
        · obtain ⟨τ1, f', a1, a2, a3, a4, a5⟩ := stM τ S S' W Z f h hW hZ hSS hl hf
          obtain ⟨τ2, e1, e2, e3⟩ := oM τ1 _ _ f' a2 (Wk_p ht W) a3 a4
          exact ⟨τ2, fun K => by rw [a1, e1], e2, a5.trans e3⟩
      · have hnum : numsR (R0 ++ R1 ++ [-((sgn t : Nat) : Int)]) = numsR R0 ++ numsR R1 := by rw [numsR_app, numsR_app, numsR_neg (by omega), List.append_nil]
        have goC : ∀ (k : Nat) (σ : sT) (L : List Nat) (O : Nat) (x4 : Int32) (x5 f : Nat), kb (t + 1) d ≤ k → slOk n L → FC T n σ p (addL L (numsR R0)) (orL O (numsR R0)) → tbOk L R0 F0 x4 → x5 ≤ p → 200 ≤ f + x5 → ∃ σ1 f' x4', loopC t (fFR_rec k) (nI d) f x4 (nI x5) σ = loopC t (fFR_rec k) (nI d) f' x4' (nI (x5 + 1)) σ1 ∧ FC T n σ1 q (addL L (numsR (R0 ++ R1 ++ [-((sgn t : Nat) : Int)]))) (orL O (numsR (R0 ++ R1 ++ [-((sgn t : Nat) : Int)]))) ∧ tbOk L (R0 ++ R1 ++ [-((sgn t : Nat) : Int)]) (fun v => if sgn t = 38 then F0 v && F1 v else F0 v || F1 v) x4' ∧ 200 ≤ f' + (x5 + 1) ∧ CO σ σ1 := by
          intro k σ L O x4 x5 f hk ok h htb hx hf
          obtain ⟨σ1, f', a1, a2, a3, a4⟩ := stC k σ _ _ x4 x5 f h hx hf
          obtain ⟨y, σ2, e1, e2, e3, e4⟩ := oC k σ1 _ _ hk a1
          refine ⟨σ2, f', opI t x4 y, by rw [a4, db2_t e1], ?_, tb_op ht ok hN0 htb e4, a3, a2.trans e3⟩
          rw [hnum, addL_app, orL_app]
          exact e2
        have goM : ∀ (τ : sT) (S S' : List Int) (W Z : List Nat) (f : Nat), FM T n τ p S' (W ++ Z.reverse) d false → Wk t W → (∀ z ∈ Z, al t z) → S' ++ ngs Z = S ++ R0 → S.length + W.length + R0.length ≤ p → T.length + 1 < f + p → ∃ τ1 f' S1 Z1, (∀ K, fMM_readsFormula_L27 K f 1 τ = fMM_readsFormula_L27 K f' 1 τ1) ∧ FM T n τ1 q S1 (W ++ Z1.reverse) d false ∧ (∀ z ∈ Z1, al t z) ∧ S1 ++ ngs Z1 = S ++ (R0 ++ R1 ++ [-((sgn t : Nat) : Int)]) ∧ T.length + 1 < f' + q ∧ MO τ τ1 := by
          intro τ S S' W Z f h hW hZ hSS hl hf
          obtain ⟨τ1, f', a1, a2, a3, a4, a5⟩ := stM τ S S' W Z f h hW hZ hSS hl hf
          obtain ⟨τ2, f'', S1, Z1, e1, e2, e3, e4, e5, e6⟩ := oM τ1 _ _ f' a2 (Wk_p ht W) a3 a4
          refine ⟨τ2, f'', S1, Z1 ++ [sgn t], fun K => by rw [a1, e1], ?_, fun z hz => ?_, ?_, e5, a5.trans e6⟩
          · rw [List.reverse_append, List.reverse_singleton, ← List.append_assoc]
            exact e4
          · rcases List.mem_append.mp hz with hz | hz
            · exact al_s (e2 z hz)
            · rw [List.mem_singleton.mp hz]; exact al_g ht
          · have : ngs (Z1 ++ [sgn t]) = ngs Z1 ++ [-((sgn t : Nat) : Int)] := by unfold ngs; rw [List.map_append]; rfl
            rw [this, ← List.append_assoc, e3]
            simp only [List.append_assoc]
        have hN1 : ∀ i ∈ numsR (R0 ++ R1 ++ [-((sgn t : Nat) : Int)]), i < n := by
          rw [hnum]
          intro i hi
          rcases List.mem_append.mp hi with hi | hi
          · exact hN0 i hi
          · exact gn i hi
        have hlen1 : (R0 ++ R1 ++ [-((sgn t : Nat) : Int)]).length = R0.length + R1.length + 1 := by simp only [List.length_append, List.length_singleton]
        rcases ih q (R0 ++ R1 ++ [-((sgn t : Nat) : Int)]) (fun v => if sgn t = 38 then F0 v && F1 v else F0 v || F1 v) (by omega) gq (says_op hS0 gs (by omega)) hN1 gz with ⟨q2, hq2, rC, rM⟩ | ⟨q2, R2, F2, ⟨kq, kp, kl, ks, kn⟩, kz, rC, rM⟩
        · refine Or.inl ⟨q2, hq2, fun k σ L O x4 x5 f hk ok h htb hx hf => ?_, fun τ S S' W Z f h hW hZ hSS hl hf => ?_⟩
          · obtain ⟨σ1, f', x4', a1, a2, a3, a4, a5⟩ := goC k σ L O x4 x5 f hk ok h htb hx hf
            obtain ⟨y, σ2, e1, e2, e3⟩ := rC k σ1 L O x4' (x5 + 1) f' hk ok a2 a3 (by omega) a4
            exact ⟨y, σ2, by rw [a1]; exact e1, e2, a5.trans e3⟩
          · obtain ⟨τ1, f', S1, Z1, a1, a2, a3, a4, a5, a6⟩ := goM τ S S' W Z f h hW hZ hSS hl hf
            obtain ⟨τ2, e1, e2, e3⟩ := rM τ1 S S1 W Z1 f' a2 hW a3 a4 (by omega) a5
            exact ⟨τ2, fun K => by rw [a1, e1], e2, a6.trans e3⟩
        · refine Or.inr ⟨q2, R2, F2, ⟨kq, by omega, by omega, ks, kn⟩, kz, fun k σ L O x4 x5 f hk ok h htb hx hf => ?_, fun τ S S' W Z f h hW hZ hSS hl hf => ?_⟩
          · obtain ⟨σ1, f', x4', a1, a2, a3, a4, a5⟩ := goC k σ L O x4 x5 f hk ok h htb hx hf
            obtain ⟨y, σ2, e1, e2, e3, e4⟩ := rC k σ1 L O x4' (x5 + 1) f' hk ok a2 a3 (by omega) a4
            exact ⟨y, σ2, by rw [a1]; exact e1, e2, a5.trans e3, e4⟩
          · obtain ⟨τ1, f', S1, Z1, a1, a2, a3, a4, a5, a6⟩ := goM τ S S' W Z f h hW hZ hSS hl hf
            obtain ⟨τ2, f'', S2, Z2, e1, e2, e3, e4, e5, e6⟩ := rM τ1 S S1 W Z1 f' a2 hW a3 a4 (by omega) a5
            exact ⟨τ2, f'', S2, Z2, fun K => by rw [a1, e1], e2, e3, e4, e5, a6.trans e6⟩
    · refine Or.inr ⟨p, R0, F0, ⟨hp, Nat.le_refl _, by omega, hS0, hN0⟩, fun z hz => ?_, fun k σ L O x4 x5 f hk ok h htb hx hf => ?_, fun τ S S' W Z f h hW hZ hSS hl hf => ?_⟩
      · rcases al_n ht hz with h | h
        · exact hz0 z h
        · rw [h]; exact cs
      · obtain ⟨f', rfl⟩ : ∃ f', f = f' + 1 := ⟨f - 1, by omega⟩
        obtain ⟨σ1, e1, e2, e3⟩ := lp_stop hT ht (recF := fFR_rec k) (a1 := nI d) (x4 := x4) (f := f') h.1 (show x5 < 1000 by omega) cs
        exact ⟨x4, σ1, e1, h.sc e3 e2, CO_of e3 (by simp), htb⟩
      · exact ⟨τ, f, S', Z, fun K => rfl, hZ, hSS, h, hf, mOff.refl _ _ _⟩
theorem lev_x {T : List Nat} (hT : TxOk T) {n t d : Nat} (ht : t ≤ 1) (hd : d ≤ 8) (hi : ∀ p, p ≤ T.length → XX T n (t + 1) d p) {p : Nat} (hp : p ≤ T.length) : XX T n t d p := by
  have hTl := hT.1
  rcases hi p hp with ⟨q, hq', oC, oM⟩ | ⟨q, R1, F1, ⟨gq, gp, gl, gs, gn⟩, gz, oC, oM⟩
  · refine Or.inl ⟨q, hq', fun k σ L O hk h => ?_, fun τ S W f h hW hl hf => oM τ S W f h (Wk_s hW) hl hf⟩
    unfold kb at hk
    obtain ⟨k', rfl⟩ : ∃ k', k = k' + 1 := ⟨k - 1, by omega⟩
    obtain ⟨y, σ1, e1, e2, e3⟩ := oC k' σ L O (by unfold kb; omega) h
    obtain ⟨N, hN, hN9⟩ := FU_s
    refine ⟨y, σ1, ?_, e2, e3⟩
    rw [rec_t ht, db2_t e1, hN, ← nI_0, lp_fail hT ht e2 (by omega)]
  · rcases loop_x hT ht hi (T.length + 1) q R1 F1 (by omega) gq gs gn gz with ⟨q2, hq2, rC, rM⟩ | ⟨q2, R2, F2, ⟨kq, kp, kl, ks, kn⟩, kz, rC, rM⟩
    · refine Or.inl ⟨q2, hq2, fun k σ L O hk h => ?_, fun τ S W f h hW hl hf => ?_⟩
      · unfold kb at hk
        obtain ⟨k', rfl⟩ : ∃ k', k = k' + 1 := ⟨k - 1, by omega⟩
        obtain ⟨y, σ1, e1, e2, e3, e4⟩ := oC k' σ L O (by unfold kb; omega) h
        obtain ⟨y2, σ2, f1, f2', f3⟩ := rC k' σ1 L O y 0 FU (by unfold kb; omega) h.2.2.2.2.1 e2 e4 (by omega) (by unfold FU; omega)
        refine ⟨y2, σ2, ?_, f2', e3.trans f3⟩
        rw [rec_t ht, db2_t e1, ← nI_0]
        exact f1
      · obtain ⟨τ1, f', S1, Z1, e1, e2, e3, e4, e5, e6⟩ := oM τ S W f h (Wk_s hW) hl hf
        obtain ⟨τ2, g1, g2, g3⟩ := rM τ1 S S1 W Z1 f' e4 hW (fun z hz => al_s (e2 z hz)) e3 (by omega) e5
        exact ⟨τ2, fun K => by rw [e1, g1], g2, e6.trans g3⟩
    · refine Or.inr ⟨q2, R2, F2, ⟨kq, by omega, by omega, ks, kn⟩, kz, fun k σ L O hk h => ?_, fun τ S W f h hW hl hf => ?_⟩
      · unfold kb at hk
        obtain ⟨k', rfl⟩ : ∃ k', k = k' + 1 := ⟨k - 1, by omega⟩
        obtain ⟨y, σ1, e1, e2, e3, e4⟩ := oC k' σ L O (by unfold kb; omega) h
        obtain ⟨y2, σ2, f1, f2', f3, f4⟩ := rC k' σ1 L O y 0 FU (by unfold kb; omega) h.2.2.2.2.1 e2 e4 (by omega) (by unfold FU; omega)
        refine ⟨y2, σ2, ?_, f2', e3.trans f3, f4⟩
        rw [rec_t ht, db2_t e1, ← nI_0]
        exact f1
      · obtain ⟨τ1, f', S1, Z1, e1, e2, e3, e4, e5, e6⟩ := oM τ S W f h (Wk_s hW) hl hf
        obtain ⟨τ2, f'', S2, Z2, g1, g2, g3, g4, g5, g6⟩ := rM τ1 S S1 W Z1 f' e4 hW (fun z hz => al_s (e2 z hz)) e3 (by omega) e5
        exact ⟨τ2, f'', S2, Z2, fun K => by rw [e1, g1], g2, g3, g4, g5, e6.trans g6⟩
theorem sum_x {T : List Nat} (hT : TxOk T) {n : Nat} (hn : n ≤ 12) : ∀ (e d : Nat), d + e = 8 → ∀ p, p ≤ T.length → XX T n 0 d p := by
  intro e
  induction e with
  | zero =>
    intro d hd p hp
    exact lev_x hT (by omega) (by omega) (fun p hp => lev_x hT (by omega) (by omega) (fun p hp => fac_x hT hn (by omega) (fun h => by omega) hp) hp) hp
  | succ e ih =>
    intro d hd p hp
    exact lev_x hT (by omega) (by omega) (fun p hp => lev_x hT (by omega) (by omega) (fun p hp => fac_x hT hn (by omega) (fun _ => ih (d + 1) (by omega)) hp) hp) hp
