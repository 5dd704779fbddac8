/-! the model's laysSet -/
theorem rk_rowOf (g : Nat → Nat → Int) (i : Nat) : rk (rowOf g i) = (g i 3).toNat := rfl
theorem laysRow_spec {σ : sT} {n : Nat} {g : Nat → Nat → Int} (h : BkM σ n g) (ok : BkOk n g) {L : List rT} (hL : LaidAt σ L) (hl : L.length + 2 ≤ 26) {i k : Nat} (hi : i < n) (hk : k ≤ 2) :
    ∃ σ1, fMM_laysRow (nI i) (nI k) σ = some σ1 ∧ LaidAt σ1 (L ++ dbl (g i 0, g i 1, g i 2, g i 4, k)) ∧ mOff [37] [5] σ σ1 := by
  obtain ⟨hn, hg⟩ := ok
  obtain ⟨c, -, d, -⟩ := hg i hi
  have c0 := c 0 (by omega)
  have c1 := c 1 (by omega)
  have c2 := c 2 (by omega)
  unfold fMM_laysRow
  rw [show (0 : Int32) = nI 0 from rfl, show (1 : Int32) = nI 1 from rfl, show (2 : Int32) = nI 2 from rfl, show (4 : Int32) = nI 4 from rfl]
  rw [db1_t (at_spec h hn hi (by omega)), db1_t (at_spec h hn hi (by omega)), db1_t (at_spec h hn hi (by omega)), db1_t (at_spec h hn hi (by omega))]
  rw [iI_l (by unfold inI; omega), iI_l (by unfold inI; omega), iI_l (by unfold inI; omega), iI_l (by unfold inI; omega)]
  obtain ⟨σ1, e1, e2, e3⟩ := laysSum_spec hL hl (g i 0, g i 1, g i 2, g i 4, k) hk
  have e1' : fMM_laysSum (jI (g i 0)) (jI (g i 1)) (jI (g i 2)) (jI (g i 4)) (nI k) σ = some σ1 := e1
  rw [db1_t e1']
  exact ⟨σ1, rfl, e2, e3⟩
theorem lset_loop {n m : Nat} {g : Nat → Nat → Int} (ok : BkOk n g) (hm : m < 2 ^ n) : ∀ (c i f : Nat) (σ : sT) (L : List rT), i + c = n → c < f → BkM σ n g → LaidAt σ L → L.length ≤ 2 * i →
    ∃ σ1, fMM_laysSet_L7 (nI m) f (nI i) σ = some σ1 ∧ LaidAt σ1 (L ++ (setF g m c i).flatMap dbl) ∧ mOff [37] [5] σ σ1 := by
  have hn := ok.1
  have hm' : m < 4096 := Nat.lt_of_lt_of_le hm (show 2 ^ n ≤ 2 ^ 12 from Nat.pow_le_pow_right (by omega) ok.1)
  intro c
  induction c with
  | zero =>
    intro i f σ L h1 h2 hB hL hl
    obtain ⟨f', rfl⟩ : ∃ f', f = f' + 1 := ⟨f - 1, by omega⟩
    unfold fMM_laysSet_L7
    rw [dck_t (by decide), show (0 : Int32).toNatClampNeg = 0 from rfl, hB.1, if_pos (nI_le (by omega) (by omega))]
    exact ⟨σ, rfl, by simpa [setF] using hL, mOff.refl _ _ _⟩
  | succ c ih =>
    intro i f σ L h1 h2 hB hL hl
    obtain ⟨f', rfl⟩ : ∃ f', f = f' + 1 := ⟨f - 1, by omega⟩
    unfold fMM_laysSet_L7
    rw [dck_t (by decide), show (0 : Int32).toNatClampNeg = 0 from rfl, hB.1, if_neg (nI_ge (by omega) (by omega)), db1_t (has_spec hm' (by omega)), setF]
    by_cases b : m.testBit i = true
    · have hi := bit_lt hm b
      have hk := kd_n ok hi
      rw [b, if_neg (by decide), if_pos rfl, show (3 : Int32) = nI 3 from rfl, db1_t (at_spec hB ok.1 hi (by omega)), hk.1]
      obtain ⟨σ1, e1, e2, e3⟩ := laysRow_spec hB ok hL (by omega) hi hk.2
      rw [db1_t e1, nI_1]
      have hd := dbl_len (g i 0, g i 1, g i 2, g i 4, (g i 3).toNat)
      obtain ⟨σ2, f1, f2, f3⟩ := ih (i + 1) f' σ1 _ (by omega) (by omega) (hB.of e3 (by decide)) e2 (by rw [List.length_append]; omega)
      exact ⟨σ2, f1, by simpa [rowOf] using f2, e3.trans f3⟩
    · have b' : m.testBit i = false := by simpa using b
      rw [b', if_pos (by decide), if_neg (by decide), nI_1]
      obtain ⟨σ2, f1, f2, f3⟩ := ih (i + 1) f' σ L (by omega) (by omega) hB hL (by omega)
      exact ⟨σ2, f1, by simpa using f2, f3⟩
theorem lset_spec {n m : Nat} {g : Nat → Nat → Int} (ok : BkOk n g) (hm : m < 2 ^ n) {σ : sT} (hB : BkM σ n g) :
    ∃ σ1, fMM_laysSet (nI m) σ = some σ1 ∧ LaidAt σ1 ((setF g m n 0).flatMap dbl) ∧ mOff [37] [5] σ σ1 := by
  have hn := ok.1
  unfold fMM_laysSet
  rw [dlt_u]
  have o1 : mOff [37] [5] σ (siW σ 33 5 0) := mOff_si (by simp)
  obtain ⟨σ1, e1, e2, e3⟩ := lset_loop ok hm n 0 FU _ [] (by omega) (by unfold FU; omega) (hB.of o1 (by decide)) ⟨by rw [siW_s, if_pos rfl]; rfl, fun i r h => by simp at h⟩ (by simp)
  rw [show nI 0 = (0 : Int32) from rfl] at e1
  exact ⟨σ1, e1, by simpa using e2, o1.trans e3⟩
