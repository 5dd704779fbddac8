/-! a set's rows, loaded -/
def setF (g : Nat → Nat → Int) (m : Nat) : Nat → Nat → List rT
  | 0, _ => []
  | c + 1, i => (if m.testBit i = true then [rowOf g i] else []) ++ setF g m c (i + 1)
theorem setF_mem {g : Nat → Nat → Int} {m : Nat} {r : rT} : ∀ (c i : Nat), r ∈ setF g m c i ↔ ∃ j, i ≤ j ∧ j < i + c ∧ m.testBit j = true ∧ r = rowOf g j
  | 0, i => by simp [setF]; omega
  | c + 1, i => by
    rw [setF, List.mem_append, setF_mem c (i + 1)]
    constructor
    · rintro (h | ⟨j, h1, h2, h3, h4⟩)
      · by_cases b : m.testBit i = true
        · rw [if_pos b] at h; exact ⟨i, by omega, by omega, b, List.mem_singleton.mp h⟩
        · rw [if_neg b] at h; simp at h
      · exact ⟨j, by omega, by omega, h3, h4⟩
    · rintro ⟨j, h1, h2, h3, h4⟩
      by_cases e : j = i
      · subst e; rw [if_pos h3]; exact Or.inl (List.mem_singleton.mpr h4)
      · exact Or.inr ⟨j, by omega, by omega, h3, h4⟩
theorem setF_len {g : Nat → Nat → Int} {m : Nat} : ∀ (c i : Nat), (setF g m c i).length ≤ c
  | 0, i => by simp [setF]
  | c + 1, i => by
    have := setF_len (g := g) (m := m) c (i + 1)
    rw [setF, List.length_append]
    split <;> simp <;> omega
theorem bit_lt {m n j : Nat} (hm : m < 2 ^ n) (h : m.testBit j = true) : j < n := by
  apply Decidable.byContradiction
  intro hj
  have h2 : m < 2 ^ j := Nat.lt_of_lt_of_le hm (Nat.pow_le_pow_right (by omega) (by omega))
  rw [Nat.testBit_lt_two_pow h2] at h
  cases h
def sgR (s : Int) (g : Nat → Nat → Int) (i k : Nat) : rT := (s * g i 0, s * g i 1, s * g i 2, s * g i 4, k)
theorem sg1 {s x : Int} (hs : s = 1 ∨ s = -1) (h : -50 ≤ x ∧ x ≤ 50) : (iI s * iI x).toInt64 = jI (s * x) := by
  rw [iI_mul, iI_l (by rcases hs with rfl | rfl <;> unfold inI <;> omega)]
theorem skeep_spec {σ : sT} {n : Nat} {g : Nat → Nat → Int} (h : BkC σ n g) (ok : BkOk n g) {st : stR} (hR : RowsAt σ 6 7 8 st) (hlen : st.1.length < 13) {s : Int} (hs : s = 1 ∨ s = -1) {i k : Nat} (hi : i < n) (hk : k ≤ 2) :
    ∃ σ1, fSo_keep (nI i) (iI s) (nI k) σ = some σ1 ∧ RowsAt σ1 6 7 8 (keepS st (sgR s g i k)) ∧ offC [6, 7, 8] σ σ1 := by
  obtain ⟨hn, hg⟩ := ok
  obtain ⟨c, -, d, -⟩ := hg i hi
  have c0 := c 0 (by omega)
  have c1 := c 1 (by omega)
  have c2 := c 2 (by omega)
  unfold fSo_keep
  rw [show (0 : Int32) = nI 0 from rfl, show (1 : Int32) = nI 1 from rfl, show (2 : Int32) = nI 2 from rfl, show (4 : Int32) = nI 4 from rfl]
  rw [db1_t (get_spec h hn hi (by omega)), db1_t (get_spec h hn hi (by omega)), db1_t (get_spec h hn hi (by omega)), db1_t (get_spec h hn hi (by omega))]
  rw [sg1 hs (by omega), sg1 hs (by omega), sg1 hs (by omega), sg1 hs d]
  obtain ⟨σ1, e1, e2, e3⟩ := keep_spec (o := 6) (c := 7) (kd := 8) (N4 := 52) (N := 13) (by decide) (by decide) (by decide) rfl (by omega) (r := sgR s g i k) hR hlen (by rcases hs with rfl | rfl <;> unfold sgR inJ <;> dsimp only <;> omega) hk
  have e1' : fRw_keep 6 7 8 52 13 (jI (s * g i 0)) (jI (s * g i 1)) (jI (s * g i 2)) (jI (s * g i 4)) (nI k) σ = some σ1 := e1
  rw [db1_t e1']
  exact ⟨σ1, rfl, e2, e3⟩
theorem sgR_1 {n : Nat} {g : Nat → Nat → Int} (i : Nat) : sgR 1 g i (g i 3).toNat = rowOf g i := by
  unfold sgR rowOf; simp
theorem kd_n {n : Nat} {g : Nat → Nat → Int} (ok : BkOk n g) {i : Nat} (hi : i < n) : iI (g i 3) = nI (g i 3).toNat ∧ (g i 3).toNat ≤ 2 := by
  have := (ok.2 i hi).2.1
  refine ⟨?_, by omega⟩
  rw [← iI_nI]
  congr 1
  omega
theorem load_loop {n m : Nat} {g : Nat → Nat → Int} (ok : BkOk n g) (hm : m < 2 ^ n) : ∀ (c i f : Nat) (σ : sT) (st : stR), i + c = 12 → c < f → BkC σ n g → RowsAt σ 6 7 8 st → st.1.length ≤ i →
    ∃ σ1, fSo_load_L9 (nI m) f (nI i) σ = some σ1 ∧ RowsAt σ1 6 7 8 ((setF g m c i).foldl keepS st) ∧ offC [6, 7, 8] σ σ1 := by
  have hm' : m < 4096 := Nat.lt_of_lt_of_le hm (show 2 ^ n ≤ 2 ^ 12 from Nat.pow_le_pow_right (by omega) ok.1)
  intro c
  induction c with
  | zero =>
    intro i f σ st h1 h2 hB hR hl
    obtain ⟨f', rfl⟩ : ∃ f', f = f' + 1 := ⟨f - 1, by omega⟩
    unfold fSo_load_L9
    rw [show (12 : Int32) = nI 12 from rfl, if_pos (nI_le (by omega) (by omega))]
    exact ⟨σ, rfl, hR, offC.refl _ _⟩
  | succ c ih =>
    intro i f σ st h1 h2 hB hR hl
    obtain ⟨f', rfl⟩ : ∃ f', f = f' + 1 := ⟨f - 1, by omega⟩
    unfold fSo_load_L9
    rw [show (12 : Int32) = nI 12 from rfl, if_neg (nI_ge (by omega) (by omega)), db1_t (isIn_spec hm' (by omega)), setF]
    by_cases b : m.testBit i = true
    · have hi := bit_lt hm b
      have hk := kd_n ok hi
      rw [b, if_neg (by decide), if_pos rfl, show (3 : Int32) = nI 3 from rfl, db1_t (get_spec hB ok.1 hi (by omega)), hk.1]
      obtain ⟨σ1, e1, e2, e3⟩ := skeep_spec hB ok hR (by omega) (s := 1) (Or.inl rfl) hi hk.2
      rw [show (1 : Int32) = iI 1 from rfl, db1_t e1, show iI 1 = (1 : Int32) from rfl, nI_1]
      rw [sgR_1 (n := n)] at e2
      have hkl := keep_len st (rowOf g i)
      obtain ⟨σ2, f1, f2, f3⟩ := ih (i + 1) f' σ1 _ (by omega) (by omega) (hB.of e3 (by decide) (by decide)) e2 (by omega)
      exact ⟨σ2, f1, f2, e3.trans f3⟩
    · have b' : m.testBit i = false := by simpa using b
      rw [b', if_pos (by decide), if_neg (by decide), nI_1]
      obtain ⟨σ2, f1, f2, f3⟩ := ih (i + 1) f' σ st (by omega) (by omega) hB hR (by omega)
      exact ⟨σ2, f1, f2, f3⟩
theorem load_spec {n m : Nat} {g : Nat → Nat → Int} (ok : BkOk n g) (hm : m < 2 ^ n) {σ : sT} (hB : BkC σ n g) :
    ∃ σ1, fSo_load (nI m) σ = some σ1 ∧ RowsAt σ1 6 7 8 ((setF g m 12 0).foldl keepS ([], false)) ∧ offC [6, 7, 8] σ σ1 := by
  have he : fRw_empty 6 7 8 52 13 σ = some (siW (siW σ 6 2 0) 6 3 0) := rfl
  unfold fSo_load
  rw [db1_t he]
  have o2 : offC [6, 7, 8] σ (siW (siW σ 6 2 0) 6 3 0) := (offC_si (by simp)).trans (offC_si (by simp))
  have hR : RowsAt (siW (siW σ 6 2 0) 6 3 0) 6 7 8 ([], false) := by
    refine ⟨?_, ?_, fun i r h => by simp at h⟩
    · rw [siW_s, if_neg (by decide), siW_s, if_pos rfl]; rfl
    · rw [siW_s, if_pos rfl]; rfl
  obtain ⟨σ1, e1, e2, e3⟩ := load_loop ok hm 12 0 FU _ _ (by omega) (by unfold FU; omega) (hB.of o2 (by decide) (by decide)) hR (by simp)
  rw [show nI 0 = (0 : Int32) from rfl] at e1
  exact ⟨σ1, e1, e2, o2.trans e3⟩
