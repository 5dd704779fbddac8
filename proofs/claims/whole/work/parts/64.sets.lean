/-! sets, drops -/
def setG (g : gT) (i0 k0 : Nat) (v : Int) : gT := fun i k => if i = i0 ∧ k = k0 then v else g i k
theorem put_spec {σ : sT} {n : Nat} {g : gT} (hB : BkC σ n g) (hn : n ≤ 12) {i k : Nat} (hi : i < n) (hk : k < 6) (v : Int) :
    ∃ σ1, fBk_put (nI i) (nI k) (iI v) σ = some σ1 ∧ BkC σ1 n (setG g i k v) ∧ offC [2] σ σ1 := by
  have hw : fRM_isWithin (nI k) (0 : Int32) (5 : Int32) = some (b01 true) := by
    have : ∀ j : Fin 6, fRM_isWithin (nI j.1) (0 : Int32) (5 : Int32) = some (b01 true) := by decide
    exact this ⟨k, hk⟩
  refine ⟨siW σ 2 (i * 6 + k) (iI v), ?_, ⟨?_, fun j hj l hl => ?_⟩, offC_si (by simp)⟩
  · unfold fBk_put
    rw [db1_t (bhas_spec hB hn i (by omega)), decide_eq_true hi, if_neg b1, db1_t hw, if_neg b1, show (6 : Int32) = nI 6 from rfl, pk_mul, na, dck_t (okI_n (by omega) (by omega)), nc (by omega), dlt_u]
  · rw [siW_n (by decide)]; exact hB.1
  · rw [siW_s]
    unfold setG
    by_cases h : j = i ∧ l = k
    · rw [if_pos h, if_pos (by rw [h.1, h.2])]
    · rw [if_neg h, if_neg (by omega)]; exact hB.2 j hj l hl
def mSets (x1 a1 a2 a3 : Int32) (σ : sT) : Option (Int32 × sT) :=
    db1 (fMM_isRow a1 σ) fun r4 =>
    if r4 = 0 then
      db2 (fMM_refuses (-1000002 : Int32) σ) fun r7 σ8 =>
      some (r7, σ8)
    else
      db1 (fMM_in a2.toInt64 (0 : Int64) (2 : Int64)) fun r11 =>
      if r11 = 0 then
        db2 (fMM_refuses (-1000002 : Int32) σ) fun r7 σ8 =>
        some (r7, σ8)
      else
        if x1 = 0 then
          db2 (fMM_refuses (-1000002 : Int32) σ) fun r7 σ8 =>
          some (r7, σ8)
        else
          db1 (fMM_keep σ) fun σ15 =>
          db1 (fMM_at a1 ((3 : Int32) + a2) σ15) fun r17 =>
          dck (okI ((((1 : Int32) + ((6 : Int32) * a1)) + (3 : Int32)) + a2) 73) <|
          some (r17, siW σ15 34 ((((1 : Int32) + ((6 : Int32) * a1)) + (3 : Int32)) + a2).toNatClampNeg a3)
theorem sets_eq (a1 a2 a3 : Int32) (σ : sT) : fMM_sets a1 a2 a3 σ = if a2 = 0 then db1 (fMM_in a3.toInt64 (0 : Int64) (2 : Int64)) fun r => mSets r a1 a2 a3 σ else if a2 = (1 : Int32) then db1 (fMM_in a3.toInt64 (-50 : Int64) (50 : Int64)) fun r => mSets r a1 a2 a3 σ else db1 (fMM_in a3.toInt64 (0 : Int64) (1 : Int64)) fun r => mSets r a1 a2 a3 σ := by
  unfold fMM_sets mSets
  simp only [dlt_u]
theorem sets_fit (a1 a2 a3 : Int32) (σ : sT) : ∃ fb : Bool, fMM_sets a1 a2 a3 σ = mSets (b01 fb) a1 a2 a3 σ ∧ (wi a2 0 2 = true → fRM_isProperty ((3 : Int32) + a2) a3 = some (b01 fb)) := by
  have m4 : fMM_in a3.toInt64 (0 : Int64) (2 : Int64) = some (b01 (wi a3 0 2)) := wiM a3 0 2 rfl rfl (by decide) (by decide)
  have m5 : fMM_in a3.toInt64 (-50 : Int64) (50 : Int64) = some (b01 (wi a3 (-50) 50)) := wiM a3 (-50) 50 rfl rfl (by decide) (by decide)
  have m6 : fMM_in a3.toInt64 (0 : Int64) (1 : Int64) = some (b01 (wi a3 0 1)) := wiM a3 0 1 rfl rfl (by decide) (by decide)
  rw [sets_eq]
  by_cases h0 : a2 = 0
  · rw [if_pos h0, db1_t m4]
    exact ⟨_, rfl, fun _ => by rw [h0]; exact prop_3 a3⟩
  · rw [if_neg h0]
    by_cases h1 : a2 = 1
    · rw [if_pos h1, db1_t m5]
      exact ⟨_, rfl, fun _ => by rw [h1]; exact prop_4 a3⟩
    · rw [if_neg h1, db1_t m6]
      refine ⟨_, rfl, fun hw => ?_⟩
      obtain ⟨k, hk, rfl⟩ := wi_n hw
      have h2 : k = 2 := by
        rcases (show k = 0 ∨ k = 1 ∨ k = 2 by omega) with rfl | rfl | rfl
        · exact absurd rfl h0
        · exact absurd rfl h1
        · rfl
      rw [h2]; exact prop_5 a3
theorem setG_ok {n : Nat} {g : gT} (ok : BkOk n g) (i k : Nat) (v : Int) (h : (k = 3 ∧ 0 ≤ v ∧ v ≤ 2) ∨ (k = 4 ∧ -50 ≤ v ∧ v ≤ 50) ∨ (k = 5 ∧ 0 ≤ v ∧ v ≤ 1)) : BkOk n (setG g i k v) := by
  refine ⟨ok.1, fun j hj => ?_⟩
  obtain ⟨o1, o2, o3, o4⟩ := ok.2 j hj
  unfold setG
  refine ⟨fun l hl => ?_, ?_, ?_, ?_⟩
  · rw [if_neg (by omega)]; exact o1 l hl
  · by_cases c : j = i ∧ 3 = k
    · rw [if_pos c]; omega
    · rw [if_neg c]; exact o2
  · by_cases c : j = i ∧ 4 = k
    · rw [if_pos c]; omega
    · rw [if_neg c]; exact o3
  · by_cases c : j = i ∧ 5 = k
    · rw [if_pos c]; omega
    · rw [if_neg c]; exact o4
theorem do_sets : op_sets Inv := by
  intro σ τ hI x1 x2 x3
  obtain ⟨n, g, U, T, h⟩ := id hI
  obtain ⟨a1, a2, a3, a4, a5, a6, a7, a8, a9, a10⟩ := id h
  have hn := a1.1
  obtain ⟨σ1, τ1, e1, e2, e3⟩ := ref_B hI
  obtain ⟨fb, s1, s2⟩ := sets_fit x1 x2 x3 τ
  rw [s1]
  have w1 : fRM_isWithin x2 (0 : Int32) (2 : Int32) = some (b01 (wi x2 0 2)) := wiC x2 0 2 rfl rfl (by decide) (by decide)
  have w2 : fMM_in x2.toInt64 (0 : Int64) (2 : Int64) = some (b01 (wi x2 0 2)) := wiM x2 0 2 rfl rfl (by decide) (by decide)
  unfold fRM_sets mSets
  simp only [dlt_u]
  rw [db2_t e1, db2_t e2, db1_t (bhas_wi a2.1 hn x1), db1_t (isRow_wi a3.1 hn x1)]
  cases h1 : wi x1 0 ((n : Int) - 1)
  · rw [if_pos b0, if_pos b0]
    exact ⟨_, _, _, rfl, rfl, e3⟩
  rw [if_neg b1, if_neg b1, db1_t w1, db1_t w2]
  cases h2 : wi x2 0 2
  · rw [if_pos b0, if_pos b0]
    exact ⟨_, _, _, rfl, rfl, e3⟩
  rw [if_neg b1, if_neg b1, db1_t (s2 h2)]
  cases hf : fb
  · rw [if_pos b0, if_pos b0]
    exact ⟨_, _, _, rfl, rfl, e3⟩
  rw [if_neg b1, if_neg b1]
  rw [hf] at s2
  have s3 := s2 h2
  obtain ⟨i, hi, rfl⟩ := wi_n h1
  obtain ⟨k, hk, rfl⟩ := wi_n h2
  have hv : ((3 + k) = 3 ∧ 0 ≤ x3.toInt ∧ x3.toInt ≤ 2) ∨ ((3 + k) = 4 ∧ -50 ≤ x3.toInt ∧ x3.toInt ≤ 50) ∨ ((3 + k) = 5 ∧ 0 ≤ x3.toInt ∧ x3.toInt ≤ 1) := by
    have bt : ∀ b : Bool, (some (b01 b) = some (b01 true)) → b = true := by decide
    rcases (show k = 0 ∨ k = 1 ∨ k = 2 by omega) with rfl | rfl | rfl
    · have := wi_i (bt _ ((prop_3 x3).symm.trans s3)); omega
    · have := wi_i (bt _ ((prop_4 x3).symm.trans s3)); omega
    · have := wi_i (bt _ ((prop_5 x3).symm.trans s3)); omega
  obtain ⟨σ2, f1, f2, f3, f4⟩ := remember_spec a2 hn a5 (fun q hq => (a4.1 q hq).1) a4.2
  obtain ⟨τ2, p1, p2, p3, p4⟩ := mkeep_spec a3 hn a6 (fun q hq => (a4.1 q hq).1) a4.2
  obtain ⟨σ3, g1, g2, g3⟩ := put_spec f2 hn (i := i) (k := 3 + k) (by omega) (by omega) x3.toInt
  rw [← iI_self] at g1
  rw [show (3 : Int32) = nI 3 from rfl, na, db1_t (get_spec a2 hn (by omega) (by omega)), db1_t f1, db1_t g1, db1_t p1, db1_t (at_spec p2 hn (by omega) (by omega)), n6', show (1 : Int32) = nI 1 from rfl, na, na, na, dck_t (okI_n (by omega) (by omega)), nc (by omega)]
  have om1 : mOff [34] [] τ2 (siW τ2 34 (1 + 6 * i + 3 + k) x3) := mOff_ci (by simp) (by decide)
  have oc : offC [1, 2, 3, 4] σ σ3 := (f4.mono (by simp)).trans (g3.mono (by simp))
  have om : mOff [34, 35] [2] τ (siW τ2 34 (1 + 6 * i + 3 + k) x3) := (p4.mono (by simp) (by simp)).trans (om1.mono (by simp) (by simp))
  refine ⟨_, _, _, rfl, rfl, n, setG g i (3 + k) x3.toInt, _, T, setG_ok a1 _ _ _ hv, g2, ⟨?_, fun j hj l hl => ?_⟩, past_ok a1 a4, f3.of g3 (by decide) (by decide) (by decide), p3.of om1 (by decide) (by decide), a7.of oc (by decide) (by decide), a8.of om (by decide) (by decide), a9, a10.of oc om (by decide) (by decide)⟩
  · rw [siW_s, if_neg (by omega)]; exact p2.1
  · rw [siW_s]
    unfold setG
    by_cases c : j = i ∧ l = 3 + k
    · rw [if_pos c, if_pos (by omega)]; exact iI_self x3
    · rw [if_neg c, if_neg (by omega)]; exact p2.2 j hj l hl
/-! drops -/
def delG (g : gT) (i0 : Nat) : gT := fun i k => if i < i0 then g i k else g (i + 1) k
theorem remove_loop {n i : Nat} (hn : n + 1 ≤ 12) (hi : i ≤ n) (F : Nat → Int32) (K : sT → Option sT) : ∀ (c x f : Nat) (σ : sT), x + c = n * 6 → i * 6 ≤ x → c < f → σ.1 1 3 = nI (n + 1) → (∀ k, σ.1 2 k = if i * 6 ≤ k ∧ k < x then F (k + 6) else F k) →
    ∃ σ1, fBk_remove_L14 K f (nI x) σ = K σ1 ∧ (∀ k, σ1.1 2 k = if i * 6 ≤ k ∧ k < n * 6 then F (k + 6) else F k) ∧ offC [2] σ σ1 := by
  intro c
  induction c with
  | zero =>
    intro x f σ h1 h2 h3 h4 hF
    obtain ⟨f', rfl⟩ : ∃ f', f = f' + 1 := ⟨f - 1, by omega⟩
    unfold fBk_remove_L14
    rw [h4, nI_pred, show (6 : Int32) = nI 6 from rfl, pk_mul, if_pos (nI_le (by omega) (by omega))]
    obtain rfl : x = n * 6 := by omega
    exact ⟨σ, rfl, hF, offC.refl _ _⟩
  | succ c ih =>
    intro x f σ h1 h2 h3 h4 hF
    obtain ⟨f', rfl⟩ : ∃ f', f = f' + 1 := ⟨f - 1, by omega⟩
    unfold fBk_remove_L14
    rw [h4, nI_pred, show (6 : Int32) = nI 6 from rfl, pk_mul, if_neg (nI_ge (by omega) (by omega)), na, dck_t (okI_n (by omega) (by omega)), dck_t (okI_n (by omega) (by omega)), nc (by omega), nc (by omega), dlt_u, nI_1]
    obtain ⟨σ1, e1, e2, e3⟩ := ih (x + 1) f' (siW σ 2 x (σ.1 2 (x + 6))) (by omega) (by omega) (by omega) (by rw [siW_n (by decide)]; exact h4) (fun k => by
      rw [siW_s]
      by_cases hk : k = x
      · subst hk
        rw [if_pos rfl, if_pos (by omega), hF, if_neg (by omega)]
      · rw [if_neg hk, hF]
        by_cases hl : i * 6 ≤ k ∧ k < x
        · rw [if_pos hl, if_pos (by omega)]
        · rw [if_neg hl, if_neg (by omega)])
    exact ⟨σ1, e1, e2, (offC_si (by simp)).trans e3⟩
theorem remove_spec {σ : sT} {n : Nat} {g : gT} (hB : BkC σ (n + 1) g) (hn : n + 1 ≤ 12) {i : Nat} (hi : i ≤ n) :
    ∃ σ1, fBk_remove (nI i) σ = some σ1 ∧ BkC σ1 n (delG g i) ∧ offC [1, 2] σ σ1 ∧ σ1.1 1 4 = σ.1 1 4 ∧ σ1.1 1 5 = σ.1 1 5 := by
  obtain ⟨σ1, e1, e2, e3⟩ := remove_loop hn hi (σ.1 2) (fun σ7 => some (siW σ7 1 3 ((σ7.1 1 3) - (1 : Int32)))) (n * 6 - i * 6) (i * 6) FU σ (by omega) (by omega) (by unfold FU; omega) hB.1 (fun k => by rw [if_neg (by omega)])
  have h1 := (e3 1 (by decide)).1
  rw [h1, hB.1, nI_pred] at e1
  refine ⟨siW σ1 1 3 (nI n), ?_, ⟨?_, fun j hj k hk => ?_⟩, (e3.mono (by simp)).trans (offC_si (by simp)), ?_, ?_⟩
  · unfold fBk_remove
    rw [db1_t (bhas_spec hB hn i (by omega)), decide_eq_true (show i < n + 1 by omega), if_neg b1]
    simp only [dlt_u]
    rw [show (6 : Int32) = nI 6 from rfl, pk_mul]; exact e1
  · rw [siW_s, if_pos rfl]
  · rw [siW_n (by decide), e2]
    unfold delG
    by_cases c : j < i
    · rw [if_pos c, if_neg (by omega)]; exact hB.2 j (by omega) k hk
    · rw [if_neg c, if_pos (by omega), show j * 6 + k + 6 = (j + 1) * 6 + k by omega]; exact hB.2 (j + 1) (by omega) k hk
  · rw [siW_s, if_neg (by decide), h1]
  · rw [siW_s, if_neg (by decide), h1]
theorem mdrop_loop {n i : Nat} (hn : n + 1 ≤ 12) (hi : i ≤ n) (F : Nat → Int32) : ∀ (c x f : Nat) (σ : sT), x + c = 1 + 6 * n → 1 + 6 * i ≤ x → c < f → σ.1 34 0 = nI n → (∀ k, σ.1 34 k = if 1 + 6 * i ≤ k ∧ k < x then F (k + 6) else F k) →
    ∃ σ1, fMM_drops_L36 f (nI x) σ = some (nI n, σ1) ∧ (∀ k, σ1.1 34 k = if 1 + 6 * i ≤ k ∧ k < 1 + 6 * n then F (k + 6) else F k) ∧ mOff [34] [] σ σ1 := by
  intro c
  induction c with
  | zero =>
    intro x f σ h1 h2 h3 h4 hF
    obtain ⟨f', rfl⟩ : ∃ f', f = f' + 1 := ⟨f - 1, by omega⟩
    unfold fMM_drops_L36
    rw [dck_t (by decide), show (0 : Int32).toNatClampNeg = 0 from rfl, h4, n6', show (1 : Int32) = nI 1 from rfl, na, if_pos (nI_le (by omega) (by omega)), dck_t (by decide)]
    obtain rfl : x = 1 + 6 * n := by omega
    exact ⟨σ, rfl, hF, mOff.refl _ _ _⟩
  | succ c ih =>
    intro x f σ h1 h2 h3 h4 hF
    obtain ⟨f', rfl⟩ : ∃ f', f = f' + 1 := ⟨f - 1, by omega⟩
    unfold fMM_drops_L36
    rw [dck_t (by decide), show (0 : Int32).toNatClampNeg = 0 from rfl, h4, n6', show (1 : Int32) = nI 1 from rfl, na, if_neg (nI_ge (by omega) (by omega)), show (6 : Int32) = nI 6 from rfl, na, na, dck_t (okI_n (by omega) (by omega)), dck_t (okI_n (by omega) (by omega)), nc (by omega), nc (by omega), dlt_u]
    obtain ⟨σ1, e1, e2, e3⟩ := ih (x + 1) f' (siW σ 34 x (σ.1 34 (x + 6))) (by omega) (by omega) (by omega) (by rw [siW_s, if_neg (by omega)]; exact h4) (fun k => by
      rw [siW_s]
      by_cases hk : k = x
      · subst hk
        rw [if_pos rfl, if_pos (by omega), hF, if_neg (by omega)]
      · rw [if_neg hk, hF]
        by_cases hl : 1 + 6 * i ≤ k ∧ k < x
        · rw [if_pos hl, if_pos (by omega)]
        · rw [if_neg hl, if_neg (by omega)])
    exact ⟨σ1, e1, e2, (mOff_ci (by simp) (by decide)).trans e3⟩
theorem delG_ok {n : Nat} {g : gT} (ok : BkOk (n + 1) g) (i : Nat) : BkOk n (delG g i) := by
  refine ⟨by have := ok.1; omega, fun j hj => ?_⟩
  unfold delG
  by_cases c : j < i
  · simp only [if_pos c]; exact ok.2 j (by omega)
  · simp only [if_neg c]; exact ok.2 (j + 1) (by omega)
theorem do_drops : op_drops Inv := by
  intro σ τ hI x1
  obtain ⟨n, g, U, T, h⟩ := id hI
  obtain ⟨a1, a2, a3, a4, a5, a6, a7, a8, a9, a10⟩ := id h
  have hn := a1.1
  unfold fRM_drops fMM_drops
  simp only [dlt_u]
  rw [db1_t (bhas_wi a2.1 hn x1), db1_t (isRow_wi a3.1 hn x1)]
  cases h1 : wi x1 0 ((n : Int) - 1)
  · rw [if_pos b0, if_pos b0]
    obtain ⟨σ1, τ1, e1, e2, e3⟩ := ref_B hI
    rw [db2_t e1, db2_t e2]
    exact ⟨_, _, _, rfl, rfl, e3⟩
  rw [if_neg b1, if_neg b1]
  obtain ⟨i, hi, rfl⟩ := wi_n h1
  obtain ⟨n', rfl⟩ : ∃ n', n = n' + 1 := ⟨n - 1, by omega⟩
  obtain ⟨σ2, f1, f2, f3, f4⟩ := remember_spec a2 hn a5 (fun q hq => (a4.1 q hq).1) a4.2
  obtain ⟨τ2, p1, p2, p3, p4⟩ := mkeep_spec a3 hn a6 (fun q hq => (a4.1 q hq).1) a4.2
  obtain ⟨σ3, g1, g2, g3, g4, g5⟩ := remove_spec f2 hn (i := i) (by omega)
  obtain ⟨τ3, q1, q2, q3⟩ := mdrop_loop hn (i := i) (by omega) ((siW τ2 34 0 (nI n')).1 34) (1 + 6 * n' - (1 + 6 * i)) (1 + 6 * i) FU (siW τ2 34 0 (nI n')) (by omega) (by omega) (by unfold FU; omega) (by rw [siW_s, if_pos rfl]) (fun k => by rw [if_neg (by omega)])
  rw [db1_t f1, db1_t g1, db1_t p1, dck_t (by decide), dck_t (by decide), show (0 : Int32).toNatClampNeg = 0 from rfl, p2.1, nI_pred, n6', show (1 : Int32) = nI 1 from rfl, na, q1, g2.1]
  have om1 : mOff [34] [] τ2 τ3 := (mOff_ci (by simp) (by decide)).trans q3
  have oc : offC [1, 2, 3, 4] σ σ3 := (f4.mono (by simp)).trans (g3.mono (by simp))
  have om : mOff [34, 35] [2] τ τ3 := (p4.mono (by simp) (by simp)).trans (om1.mono (by simp) (by simp))
  refine ⟨_, _, _, rfl, rfl, n', delG g i, _, T, delG_ok a1 i, g2, ⟨?_, fun j hj k hk => ?_⟩, past_ok a1 a4, f3.of' g4 g5 (g3 3 (by decide)).1 (g3 4 (by decide)).1, p3.of om1 (by decide) (by decide), a7.of oc (by decide) (by decide), a8.of om (by decide) (by decide), a9, a10.of oc om (by decide) (by decide)⟩
  · rw [q2, if_neg (by omega), siW_s, if_pos rfl]
  · rw [q2]
    unfold delG
    by_cases c : j < i
    · rw [if_pos c, if_neg (by omega), siW_s, if_neg (by omega)]; exact p2.2 j (by omega) k hk
    · rw [if_neg c, if_pos (by omega), siW_s, if_neg (by omega), show 1 + 6 * j + k + 6 = 1 + 6 * (j + 1) + k by omega]; exact p2.2 (j + 1) (by omega) k hk
