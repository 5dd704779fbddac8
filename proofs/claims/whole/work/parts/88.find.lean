/-! the class finds the multipliers: members, and unit vectors beside them -/
def VAt (g : gT) (σ : sT) (P : List Nat) : Prop := σ.1 20 4 = nI P.length ∧ ∀ p y, P[p]? = some y → σ.1 21 p = nI y ∧ ∀ k, k < 3 → σ.1 22 (p * 3 + k) = iI (g y k)
theorem n3' (i : Nat) : nI i * (3 : Int32) = nI (i * 3) := pk_mul i 3
theorem fd41_loop {n i s : Nat} {g : gT} (ok : BkOk n g) (hi : i < n) (hs : s < 4) : ∀ (c k f : Nat) (σ : sT), k + c = 3 → c < f → BkC σ n g → σ.1 20 4 = nI s → (∀ j, j < k → σ.1 22 (s * 3 + j) = iI (g i j)) →
    ∃ σ1, (∀ K : sT → Option sT, fWt_find_L41 (nI i) K f (nI k) σ = K σ1) ∧ (∀ j, j < 3 → σ1.1 22 (s * 3 + j) = iI (g i j)) ∧ (∀ j, j < s * 3 → σ1.1 22 j = σ.1 22 j) ∧ offC [22] σ σ1 := by
  intro c
  induction c with
  | zero =>
    intro k f σ h1 h2 hB h20 hP
    obtain ⟨f', rfl⟩ : ∃ f', f = f' + 1 := ⟨f - 1, by omega⟩
    obtain rfl : k = 3 := by omega
    refine ⟨σ, fun K => ?_, hP, fun _ _ => rfl, offC.refl _ _⟩
    unfold fWt_find_L41
    rw [show (3 : Int32) = nI 3 from rfl, if_pos (nI_le (by omega) (by omega))]
  | succ c ih =>
    intro k f σ h1 h2 hB h20 hP
    obtain ⟨f', rfl⟩ : ∃ f', f = f' + 1 := ⟨f - 1, by omega⟩
    have o1 : offC [22] σ (siW σ 22 (s * 3 + k) (iI (g i k))) := offC_si (by simp)
    obtain ⟨σ1, e1, e2, e3, e4⟩ := ih (k + 1) f' (siW σ 22 (s * 3 + k) (iI (g i k))) (by omega) (by omega) (hB.of o1 (by decide) (by decide)) (by rw [siW_n (by decide)]; exact h20) (fun j hj => by
      rw [siW_s]
      by_cases e : j = k
      · rw [if_pos (by omega), e]
      · rw [if_neg (by omega)]; exact hP j (by omega))
    refine ⟨σ1, fun K => ?_, e2, fun j hj => by rw [e3 j hj, siW_s, if_neg (by omega)], o1.trans e4⟩
    unfold fWt_find_L41
    rw [show (3 : Int32) = nI 3 from rfl, if_neg (nI_ge (by omega) (by omega)), db1_t (get_spec hB ok.1 hi (by omega)), h20, show (nI 3 : Int32) = 3 from rfl, n3', na, dck_t (okI_n (by omega) (by omega)), nc (by omega), dlt_u, nI_1]
    exact e1 K
theorem fd7_loop {n C : Nat} {g : gT} (ok : BkOk n g) (hC : C < 2 ^ n) : ∀ (c i f : Nat) (σ : sT) (P : List Nat), i + c = 12 → c < f → BkC σ n g → VAt g σ P → P.length + (idxL C c i).length ≤ 4 →
    ∃ σ1, (∀ K : sT → Option sT, fWt_find_L7 (nI C) K f (nI i) σ = K σ1) ∧ VAt g σ1 (P ++ idxL C c i) ∧ offC [20, 21, 22] σ σ1 := by
  have hC' := lt_4096 ok.1 hC
  intro c
  induction c with
  | zero =>
    intro i f σ P h1 h2 hB hV hl
    obtain ⟨f', rfl⟩ : ∃ f', f = f' + 1 := ⟨f - 1, by omega⟩
    refine ⟨σ, fun K => ?_, by simpa [idxL] using hV, offC.refl _ _⟩
    unfold fWt_find_L7
    rw [show (12 : Int32) = nI 12 from rfl, if_pos (nI_le (by omega) (by omega))]
  | succ c ih =>
    intro i f σ P h1 h2 hB hV hl
    obtain ⟨f', rfl⟩ : ∃ f', f = f' + 1 := ⟨f - 1, by omega⟩
    rw [idxL] at hl ⊢
    cases b : C.testBit i
    · rw [b, if_neg (by decide), List.nil_append] at hl
      obtain ⟨σ1, e1, e2, e3⟩ := ih (i + 1) f' σ P (by omega) (by omega) hB hV hl
      refine ⟨σ1, fun K => ?_, by rw [if_neg (by decide), List.nil_append]; exact e2, e3⟩
      unfold fWt_find_L7
      rw [show (12 : Int32) = nI 12 from rfl, if_neg (nI_ge (by omega) (by omega)), db1_t (isIn_spec hC' (by omega)), b, if_pos b0, nI_1]
      exact e1 K
    · rw [b, if_pos rfl, List.length_append, List.length_singleton] at hl
      have hi := bit_lt hC b
      obtain ⟨σa, ha⟩ : ∃ z, z = siW σ 21 P.length (nI i) := ⟨_, rfl⟩
      have oa : offC [21] σ σa := by rw [ha]; exact offC_si (by simp)
      have h20 : σa.1 20 4 = nI P.length := by rw [(oa 20 (by decide)).1]; exact hV.1
      obtain ⟨σb, f1, f2, f3, f4⟩ := fd41_loop ok hi (show P.length < 4 by omega) 3 0 FU σa (by omega) (by unfold FU; omega) (hB.of oa (by decide) (by decide)) h20 (fun j hj => by omega)
      rw [nI_0] at f1
      obtain ⟨σc, hc⟩ : ∃ z, z = siW σb 20 4 (nI (P.length + 1)) := ⟨_, rfl⟩
      have oc : offC [20, 21, 22] σ σc := by
        rw [hc]; exact ((oa.mono (by simp)).trans (f4.mono (by simp))).trans (offC_si (by simp))
      have hVc : VAt g σc (P ++ [i]) := by
        refine ⟨by rw [hc, siW_s, if_pos rfl, List.length_append, List.length_singleton], fun p y hy => ?_⟩
        have c21 : σc.1 21 = σa.1 21 := by
          funext j; rw [hc, siW_n (by decide), (f4 21 (by decide)).1]
        have c22 : σc.1 22 = σb.1 22 := by
          funext j; rw [hc, siW_n (by decide)]
        rw [c21, c22]
        by_cases hp : p < P.length
        · rw [List.getElem?_append_left hp] at hy
          obtain ⟨v1, v2⟩ := hV.2 p y hy
          refine ⟨by rw [ha, siW_s, if_neg (by omega)]; exact v1, fun k hk => ?_⟩
          rw [f3 _ (by omega), (oa 22 (by decide)).1]; exact v2 k hk
        · rw [List.getElem?_append_right (by omega)] at hy
          have hz : p - P.length < 1 := (List.getElem?_eq_some_iff.mp hy).1
          have hp0 : p = P.length := by omega
          subst hp0
          rw [Nat.sub_self] at hy
          cases hy
          exact ⟨by rw [ha, siW_s, if_pos rfl], f2⟩
      obtain ⟨σ1, e1, e2, e3⟩ := ih (i + 1) f' σc (P ++ [i]) (by omega) (by omega) (hB.of oc (by decide) (by decide)) hVc (by rw [List.length_append, List.length_singleton]; omega)
      refine ⟨σ1, fun K => ?_, by rw [if_pos rfl, ← List.append_assoc]; exact e2, oc.trans e3⟩
      obtain ⟨G, hG⟩ : ∃ G, FU = G := ⟨_, rfl⟩
      rw [hG] at f1
      unfold fWt_find_L7
      rw [hG, show (12 : Int32) = nI 12 from rfl, if_neg (nI_ge (by omega) (by omega)), db1_t (isIn_spec hC' (by omega)), b, if_neg b1, hV.1, if_neg (show ¬ (4 : Int32) ≤ nI P.length from nI_ge (b := 4) (by omega) (by omega)), dck_t (okI_n (by omega) (by omega)), nc (by omega), dlt_u, ← ha, dlt_u, f1]
      have h20b : σb.1 20 4 = nI P.length := by rw [(f4 20 (by decide)).1]; exact h20
      rw [h20b, nI_1, dlt_u, ← hc, nI_1]
      exact e1 K
/-! unit vectors -/
def vrowS (V : Nat → Int) (r a : Nat) : Nat → Int := fun j => if r * 3 ≤ j ∧ j < r * 3 + 3 then (if j = r * 3 + a then 1 else 0) else V j
def VecAt (σ : sT) (V : Nat → Int) : Prop := ∀ j, j < 12 → σ.1 22 j = iI (V j)
theorem is28_loop {r a : Nat} (hr : r < 4) (ha : a < 3) (V : Nat → Int) : ∀ (c k f : Nat) (σ : sT), k + c = 3 → c < f → (∀ j, j < 12 → σ.1 22 j = iI (if r * 3 ≤ j ∧ j < r * 3 + k then (if j = r * 3 + a then 1 else 0) else V j)) →
    ∃ σ1, (∀ K : sT → Option (Int32 × sT), fWt_isSolvedWith_L28 (nI r) (nI a) K f (nI k) σ = K σ1) ∧ VecAt σ1 (vrowS V r a) ∧ offC [22] σ σ1 := by
  intro c
  induction c with
  | zero =>
    intro k f σ h1 h2 hV
    obtain ⟨f', rfl⟩ : ∃ f', f = f' + 1 := ⟨f - 1, by omega⟩
    obtain rfl : k = 3 := by omega
    refine ⟨σ, fun K => ?_, hV, offC.refl _ _⟩
    unfold fWt_isSolvedWith_L28
    rw [show (3 : Int32) = nI 3 from rfl, if_pos (nI_le (by omega) (by omega))]
  | succ c ih =>
    intro k f σ h1 h2 hV
    obtain ⟨f', rfl⟩ : ∃ f', f = f' + 1 := ⟨f - 1, by omega⟩
    obtain ⟨e, he⟩ : ∃ e : Int, e = if k = a then 1 else 0 := ⟨_, rfl⟩
    have o1 : offC [22] σ (siW σ 22 (r * 3 + k) (iI e)) := offC_si (by simp)
    obtain ⟨σ1, e1, e2, e3⟩ := ih (k + 1) f' (siW σ 22 (r * 3 + k) (iI e)) (by omega) (by omega) (fun j hj => by
      rw [siW_s]
      by_cases q : j = r * 3 + k
      · rw [if_pos q, if_pos (by omega), he]
        congr 1
        by_cases z : k = a
        · rw [if_pos z, if_pos (by omega)]
        · rw [if_neg z, if_neg (by omega)]
      · rw [if_neg q, hV j hj]
        by_cases z : r * 3 ≤ j ∧ j < r * 3 + k
        · rw [if_pos z, if_pos (show r * 3 ≤ j ∧ j < r * 3 + (k + 1) by omega)]
        · rw [if_neg z, if_neg (show ¬ (r * 3 ≤ j ∧ j < r * 3 + (k + 1)) by omega)])
    refine ⟨σ1, fun K => ?_, e2, o1.trans e3⟩
    unfold fWt_isSolvedWith_L28
    rw [show (3 : Int32) = nI 3 from rfl, if_neg (nI_ge (by omega) (by omega)), show (nI 3 : Int32) = 3 from rfl, n3', na, nI_1]
    simp only [dlt_u]
    rw [dck_t (okI_n (by omega) (by omega)), dck_t (okI_n (by omega) (by omega)), nc (by omega)]
    by_cases z : k = a
    · rw [if_pos (by rw [z])]
      rw [if_pos z] at he
      rw [he] at e1; exact e1 K
    · rw [if_neg (fun w => z ((nI_eq (by omega) (by omega)).mp w))]
      rw [if_neg z] at he
      rw [he] at e1; exact e1 K
def uV (u : Nat) : Nat → Nat → Nat → (Nat → Int) → (Nat → Int)
  | 0, _, _, V => V
  | c + 1, a, r, V => if u.testBit a = true ∧ r < 4 then uV u c (a + 1) (r + 1) (vrowS V r a) else uV u c (a + 1) r V
theorem is7_loop {u : Nat} (hu : u < 8) : ∀ (c a r f : Nat) (σ : sT) (V : Nat → Int), a + c = 3 → c < f → r ≤ 4 → VecAt σ V →
    ∃ σ1, (∀ K : sT → Option (Int32 × sT), fWt_isSolvedWith_L7 (nI u) K f (nI r) (nI a) σ = K σ1) ∧ VecAt σ1 (uV u c a r V) ∧ offC [22] σ σ1 := by
  intro c
  induction c with
  | zero =>
    intro a r f σ V h1 h2 hr hV
    obtain ⟨f', rfl⟩ : ∃ f', f = f' + 1 := ⟨f - 1, by omega⟩
    refine ⟨σ, fun K => ?_, hV, offC.refl _ _⟩
    unfold fWt_isSolvedWith_L7
    rw [show (3 : Int32) = nI 3 from rfl, if_pos (nI_le (by omega) (by omega))]
  | succ c ih =>
    intro a r f σ V h1 h2 hr hV
    obtain ⟨f', rfl⟩ : ∃ f', f = f' + 1 := ⟨f - 1, by omega⟩
    rw [uV]
    by_cases hb : u.testBit a = true ∧ r < 4
    · obtain ⟨σa, f1, f2, f3⟩ := is28_loop hb.2 (show a < 3 by omega) V 3 0 FU σ (by omega) (by unfold FU; omega) (fun j hj => by rw [if_neg (by omega)]; exact hV j hj)
      rw [nI_0] at f1
      obtain ⟨σ1, e1, e2, e3⟩ := ih (a + 1) (r + 1) f' σa _ (by omega) (by omega) (by omega) f2
      refine ⟨σ1, fun K => ?_, by rw [if_pos hb]; exact e2, f3.trans e3⟩
      obtain ⟨G, hG⟩ : ∃ G, FU = G := ⟨_, rfl⟩
      rw [hG] at f1
      unfold fWt_isSolvedWith_L7
      rw [hG, show (3 : Int32) = nI 3 from rfl, if_neg (nI_ge (by omega) (by omega)), db1_t (isIn_spec (by omega) (by omega)), hb.1, if_neg b1, if_neg (show ¬ (4 : Int32) ≤ nI r from nI_ge (b := 4) (by omega) (by omega)), dlt_u, f1, nI_1, nI_1]
      exact e1 K
    · obtain ⟨σ1, e1, e2, e3⟩ := ih (a + 1) r f' σ V (by omega) (by omega) hr hV
      refine ⟨σ1, fun K => ?_, by rw [if_neg hb]; exact e2, e3⟩
      unfold fWt_isSolvedWith_L7
      rw [show (3 : Int32) = nI 3 from rfl, if_neg (nI_ge (by omega) (by omega)), db1_t (isIn_spec (by omega) (by omega))]
      cases b : u.testBit a
      · rw [if_pos b0, nI_1]; exact e1 K
      · rw [if_neg b1, if_pos (show (4 : Int32) ≤ nI r from nI_le (a := 4) (by
          apply Decidable.byContradiction
          intro z; exact hb ⟨b, by omega⟩) (by omega)), nI_1]
        exact e1 K
