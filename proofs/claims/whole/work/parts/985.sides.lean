/-! sign vectors: the model; sides -/
def SdAt (τ : sT) (L : List Nat) : Prop := τ.1 33 23 = nI L.length ∧ ∀ p y, L[p]? = some y → τ.1 43 p = nI y
theorem SdAt.of {C F : List Nat} {τ τ1 : sT} {L : List Nat} (h : SdAt τ L) (ho : mOff C F τ τ1) (h1 : 43 ∉ C) (h2 : 23 ∉ F) : SdAt τ1 L := by
  unfold SdAt at *
  rw [(ho.1 43 h1 (by decide)).1, (ho.2 23 h2).1]; exact h
theorem ls7_loop {n C : Nat} {g : gT} (ok : BkOk n g) (hC : C < 2 ^ n) : ∀ (c i f : Nat) (τ : sT) (P : List Nat), i + c = n → c < f → BkM τ n g → SdAt τ P → P.length + (idxL C c i).length ≤ 5 →
    ∃ τ1, fMM_laysSides_L7 (nI C) f (nI i) τ = some τ1 ∧ SdAt τ1 (P ++ idxL C c i) ∧ mOff [43] [23] τ τ1 := by
  have hC' := lt_4096 ok.1 hC
  have hn := ok.1
  intro c
  induction c with
  | zero =>
    intro i f τ P h1 h2 hB hS hl
    obtain ⟨f', rfl⟩ : ∃ f', f = f' + 1 := ⟨f - 1, by omega⟩
    unfold fMM_laysSides_L7
    rw [dck_t (by decide), show (0 : Int32).toNatClampNeg = 0 from rfl, hB.1, if_pos (nI_le (by omega) (by omega))]
    exact ⟨τ, rfl, by simpa [idxL] using hS, mOff.refl _ _ _⟩
  | succ c ih =>
    intro i f τ P h1 h2 hB hS hl
    obtain ⟨f', rfl⟩ : ∃ f', f = f' + 1 := ⟨f - 1, by omega⟩
    rw [idxL] at hl ⊢
    unfold fMM_laysSides_L7
    rw [dck_t (by decide), show (0 : Int32).toNatClampNeg = 0 from rfl, hB.1, if_neg (nI_ge (by omega) (by omega)), db1_t (has_spec hC' (by omega)), nI_1]
    cases b : C.testBit i
    · rw [b, if_neg (by decide), List.nil_append] at hl
      obtain ⟨τ1, e1, e2, e3⟩ := ih (i + 1) f' τ P (by omega) (by omega) hB hS hl
      rw [if_pos b0, if_neg (by decide), List.nil_append]
      exact ⟨τ1, e1, e2, e3⟩
    · rw [b, if_pos rfl, List.length_append, List.length_singleton] at hl
      obtain ⟨τc, hc⟩ : ∃ z, z = siW (siW τ 43 P.length (nI i)) 33 23 (nI (P.length + 1)) := ⟨_, rfl⟩
      have oc : mOff [43] [23] τ τc := by
        rw [hc]; exact (mOff_ci (by simp) (by decide)).trans (mOff_si (by simp))
      have hVc : SdAt τc (P ++ [i]) := by
        refine ⟨by rw [hc, siW_s, if_pos rfl, List.length_append, List.length_singleton], ?_⟩
        intro p y hy
        exact Tx_snoc hS.2 (f1 := τc.1 43) (fun j => by rw [hc, siW_n (by decide), siW_s]) p y hy
      obtain ⟨τ1, e1, e2, e3⟩ := ih (i + 1) f' τc (P ++ [i]) (by omega) (by omega) (hB.of oc (by decide)) hVc (by rw [List.length_append, List.length_singleton]; omega)
      rw [if_neg b1, if_pos rfl, hS.1, dck_t (okI_n (by omega) (by omega)), nc (by omega), dlt_u, siW_n (by decide), hS.1, nI_1, dlt_u, ← hc, ← List.append_assoc]
      exact ⟨τ1, e1, e2, oc.trans e3⟩
theorem many_loop {τ : sT} {s : Nat} (h : τ.1 33 23 = nI s) (hs : s ≤ 5) : ∀ (c p f x : Nat), p + c = s → c < f → fMM_many_L4 τ f (nI x) (nI p) = some (nI (x * 3 ^ c)) := by
  intro c
  induction c with
  | zero =>
    intro p f x h1 h2
    obtain ⟨f', rfl⟩ : ∃ f', f = f' + 1 := ⟨f - 1, by omega⟩
    unfold fMM_many_L4
    rw [h, if_pos (nI_le (by omega) (by omega)), Nat.pow_zero, Nat.mul_one]
  | succ c ih =>
    intro p f x h1 h2
    obtain ⟨f', rfl⟩ : ∃ f', f = f' + 1 := ⟨f - 1, by omega⟩
    unfold fMM_many_L4
    rw [h, if_neg (nI_ge (by omega) (by omega)), n3', dlt_u, nI_1, ih (p + 1) f' (x * 3) (by omega) (by omega), Nat.pow_succ, Nat.mul_assoc, Nat.mul_comm 3]
theorem many_spec {τ : sT} {s : Nat} (h : τ.1 33 23 = nI s) (hs : s ≤ 5) : fMM_many τ = some (nI (3 ^ s)) := by
  have := many_loop h hs s 0 FU 1 (by omega) (by unfold FU; omega)
  rw [Nat.one_mul, nI_0] at this
  unfold fMM_many; exact this
def SideAt (τ : sT) (Q : List (Nat × Nat)) : Prop := ∀ p q, Q[p]? = some q → τ.1 44 p = iI ((q.2 : Int) - 1)
def lR (g : gT) (Q : List (Nat × Nat)) : List rT := (Q.map (fun q => srw g q.1 q.2)).flatMap dbl
theorem lR_snoc (g : gT) (Q : List (Nat × Nat)) (q : Nat × Nat) : lR g (Q ++ [q]) = lR g Q ++ dbl (srw g q.1 q.2) := by
  unfold lR; rw [List.map_append, List.flatMap_append]; simp
theorem lR_len (g : gT) (Q : List (Nat × Nat)) : (lR g Q).length ≤ 2 * Q.length := by
  have := flat_len (Q.map (fun q => srw g q.1 q.2))
  rw [List.length_map] at this
  exact this
theorem cs9_loop {n : Nat} {g : gT} (ok : BkOk n g) {L : List Nat} (hL : ∀ i ∈ L, i < n) (hs : L.length ≤ 5) : ∀ (R : List Nat) (Q : List (Nat × Nat)) (k f : Nat) (τ : sT), L = Q.map Prod.fst ++ R → R.length < f → k < 1000 → BkM τ n g → SdAt τ L → LaidAt τ (lR g Q) → SideAt τ Q →
    ∃ τ1, (∀ K : sT → Option (Int32 × sT), fMM_canSides_L9 K f (nI k) (nI Q.length) τ = K τ1) ∧ LaidAt τ1 (lR g (Q ++ mQ R k)) ∧ SideAt τ1 (Q ++ mQ R k) ∧ mOff [37, 44] [5] τ τ1 := by
  have hn := ok.1
  intro R
  induction R with
  | nil =>
    intro Q k f τ hLQ h2 hk hB hS hA hD
    obtain ⟨f', rfl⟩ : ∃ f', f = f' + 1 := ⟨f - 1, by omega⟩
    have hlen : L.length = Q.length := by rw [hLQ, List.append_nil, List.length_map]
    refine ⟨τ, fun K => ?_, by rw [mQ, List.append_nil]; exact hA, by rw [mQ, List.append_nil]; exact hD, mOff.refl _ _ _⟩
    unfold fMM_canSides_L9
    rw [hS.1, hlen, if_pos (nI_le (Nat.le_refl _) (by omega))]
  | cons i R ih =>
    intro Q k f τ hLQ h2 hk hB hS hA hD
    obtain ⟨f', rfl⟩ : ∃ f', f = f' + 1 := ⟨f - 1, by omega⟩
    rw [List.length_cons] at h2
    have hlen : L.length = Q.length + (R.length + 1) := by rw [hLQ, List.length_append, List.length_map, List.length_cons]
    have hi : i < n := hL i (by rw [hLQ]; simp)
    have hget : L[Q.length]? = some i := by
      rw [hLQ, List.getElem?_append_right (by rw [List.length_map]; omega), List.length_map, Nat.sub_self]; rfl
    have hll := lR_len g Q
    obtain ⟨e, he⟩ : ∃ e, e = k % 3 := ⟨_, rfl⟩
    have he3 : e < 3 := by omega
    obtain ⟨τa, ha⟩ : ∃ z, z = siW τ 44 Q.length (iI ((e : Int) - 1)) := ⟨_, rfl⟩
    have oa : mOff [37, 44] [5] τ τa := by rw [ha]; exact mOff_ci (by simp) (by decide)
    have oa' : mOff [44] [] τ τa := by rw [ha]; exact mOff_ci (by simp) (by decide)
    have hBa := hB.of oa (by decide)
    have hAa := hA.of oa' (by decide) (by decide)
    have h44 : τa.1 44 Q.length = iI ((e : Int) - 1) := by rw [ha, siW_s, if_pos rfl]
    have hcode : nI k - nI k / (3 : Int32) * (3 : Int32) - (1 : Int32) = iI ((e : Int) - 1) := by
      rw [show (3 : Int32) = nI 3 from rfl, pk_rem (by omega) (by omega) (by omega), nI_iI, show (1 : Int32) = iI 1 from rfl, iI_sub, ← he]
    have hdiv : nI k / (3 : Int32) = nI (k / 3) := pk_div (d := 3) (by omega) (by omega) (by omega)
    -- the row is laid
    obtain ⟨τb, b1', b2', b3'⟩ : ∃ τb, (∀ J : sT → Option (Int32 × sT), (if (τa.1 44 Q.length) = (1 : Int32) then
        db1 (fMM_at (nI i) (0 : Int32) τa) fun r28 =>
        db1 (fMM_at (nI i) (1 : Int32) τa) fun r30 =>
        db1 (fMM_at (nI i) (2 : Int32) τa) fun r32 =>
        db1 (fMM_at (nI i) (4 : Int32) τa) fun r34 =>
        db1 (fMM_lays ((-r28).toInt64) ((-r30).toInt64) ((-r32).toInt64) ((-r34).toInt64) (1 : Int32) τa) fun σ36 =>
        J σ36
      else if (τa.1 44 Q.length) = 0 then (db1 (fMM_laysRow (nI i) (2 : Int32) τa) fun σ25 => J σ25) else (db1 (fMM_laysRow (nI i) (0 : Int32) τa) fun σ25 => J σ25)) = J τb) ∧ LaidAt τb (lR g (Q ++ [(i, e)])) ∧ mOff [37] [5] τa τb := by
      rw [h44, lR_snoc]
      rcases (show e = 0 ∨ e = 1 ∨ e = 2 by omega) with z | z | z
      · obtain ⟨τb, f1, f2, f3⟩ := laysRow_spec hBa ok hAa (by omega) hi (k := 0) (by omega)
        have f1' : fMM_laysRow (nI i) (0 : Int32) τa = some τb := f1
        refine ⟨τb, fun J => by rw [z, if_neg (by decide), if_neg (by decide), db1_t f1'], ?_, f3⟩
        rw [z]
        have : srw g i 0 = (g i 0, g i 1, g i 2, g i 4, 0) := sgR_1' g i 0
        rw [this]; exact f2
      · obtain ⟨τb, f1, f2, f3⟩ := laysRow_spec hBa ok hAa (by omega) hi (k := 2) (by omega)
        have f1' : fMM_laysRow (nI i) (2 : Int32) τa = some τb := f1
        refine ⟨τb, fun J => by rw [z, if_neg (by decide), if_pos (by decide), db1_t f1'], ?_, f3⟩
        rw [z]
        have : srw g i 1 = (g i 0, g i 1, g i 2, g i 4, 2) := sgR_1' g i 2
        rw [this]; exact f2
      · obtain ⟨c3, -, d, -⟩ := ok.2 i hi
        have c0 := c3 0 (by omega)
        have c1 := c3 1 (by omega)
        have c2 := c3 2 (by omega)
        obtain ⟨τb, f1, f2, f3⟩ := lays_spec hAa (by omega) (sgR (-1) g i 0) (x := 1) rfl
        have f1' : fMM_lays (jI (-g i 0)) (jI (-g i 1)) (jI (-g i 2)) (jI (-g i 4)) (1 : Int32) τa = some τb := by
          have := f1
          simpa [sgR] using this
        have t0 : fMM_at (nI i) (0 : Int32) τa = some (iI (g i 0)) := at_spec hBa hn hi (k := 0) (by omega)
        have t1 : fMM_at (nI i) (1 : Int32) τa = some (iI (g i 1)) := at_spec hBa hn hi (k := 1) (by omega)
        have t2 : fMM_at (nI i) (2 : Int32) τa = some (iI (g i 2)) := at_spec hBa hn hi (k := 2) (by omega)
        have t4 : fMM_at (nI i) (4 : Int32) τa = some (iI (g i 4)) := at_spec hBa hn hi (k := 4) (by omega)
        refine ⟨τb, fun J => by rw [z, if_pos (by decide), db1_t t0, db1_t t1, db1_t t2, db1_t t4, iI_neg, iI_neg, iI_neg, iI_neg, iI_l (by unfold inI; omega), iI_l (by unfold inI; omega), iI_l (by unfold inI; omega), iI_l (by unfold inI; omega), db1_t f1'], ?_, f3⟩
        rw [z]
        have : dbl (srw g i 2) = [sgR (-1) g i 0] := by unfold dbl; exact if_neg (show ¬ (0 : Nat) = 2 by decide)
        rw [this]; exact f2
    have ob : mOff [37, 44] [5] τ τb := oa.trans (b3'.mono (by simp) (by simp))
    have hQl : (Q ++ [(i, e)]).length = Q.length + 1 := by rw [List.length_append, List.length_singleton]
    have hDb : SideAt τb (Q ++ [(i, e)]) := by
      intro p q hq
      have h44b : τb.1 44 = τa.1 44 := by rw [(b3'.1 44 (by decide) (by decide)).1]
      rw [h44b]
      by_cases hp : p < Q.length
      · rw [List.getElem?_append_left hp] at hq
        rw [ha, siW_s, if_neg (by omega)]; exact hD p q hq
      · rw [List.getElem?_append_right (by omega)] at hq
        have hz : p - Q.length < 1 := (List.getElem?_eq_some_iff.mp hq).1
        have hp0 : p = Q.length := by omega
        subst hp0
        rw [Nat.sub_self] at hq
        cases hq
        exact h44
    obtain ⟨τ1, e1, e2, e3, e4⟩ := ih (Q ++ [(i, e)]) (k / 3) f' τb (by rw [hLQ, List.map_append, List.append_assoc]; rfl) (by omega) (by omega) (hB.of ob (by decide)) (hS.of ob (by decide) (by decide)) b2' hDb
    rw [hQl] at e1
    have hm : Q ++ mQ (i :: R) k = Q ++ [(i, e)] ++ mQ R (k / 3) := by rw [mQ, ← he, List.append_assoc]; rfl
    refine ⟨τ1, fun K => ?_, by rw [hm]; exact e2, by rw [hm]; exact e3, ob.trans e4⟩
    unfold fMM_canSides_L9
    rw [hS.1, if_neg (nI_ge (by omega) (by omega)), dck_t (okI_n (by omega) (by omega)), dlt_u, dck_t (okI_n (by omega) (by omega)), nc (by omega), hS.2 _ _ hget, hcode, dlt_u, ← ha, hdiv, dlt_u, dck_t (okI_n (by omega) (by omega)), nI_1]
    simp only [dlt_u]
    simp only [dck_t (okI_n (show Q.length < 5 by omega) (show Q.length < 2147483648 by omega))]
    have := b1' (fun σ36 => fMM_canSides_L9 K f' (nI (k / 3)) (nI (Q.length + 1)) σ36)
    rw [this]
    exact e1 K
