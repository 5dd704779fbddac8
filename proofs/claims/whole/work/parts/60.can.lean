/-! a set: is there a point, and a variable's values, on both sides -/
def setP (g : Nat → Nat → Int) (m : Nat) (p : pT) : Prop := ∀ j, m.testBit j = true → hol p (rowOf g j)
theorem setF_P {n m c : Nat} {g : Nat → Nat → Int} (hm : m < 2 ^ n) (hc : n ≤ c) (p : pT) : (∀ r ∈ setF g m c 0, hol p r) ↔ setP g m p := by
  constructor
  · intro h j hj
    exact h _ ((setF_mem c 0).mpr ⟨j, by omega, by have := bit_lt hm hj; omega, hj, rfl⟩)
  · intro h r hr
    obtain ⟨j, -, -, hj, rfl⟩ := (setF_mem c 0).mp hr
    exact h j hj
theorem rowOf_B {n : Nat} {g : Nat → Nat → Int} (ok : BkOk n g) {i : Nat} (hi : i < n) : rB 5 50 (rowOf g i) := by
  obtain ⟨c, k, d, -⟩ := ok.2 i hi
  have c0 := c 0 (by omega)
  have c1 := c 1 (by omega)
  have c2 := c 2 (by omega)
  unfold rB rowOf
  dsimp only
  omega
theorem setF_B {n m c : Nat} {g : Nat → Nat → Int} (ok : BkOk n g) (hm : m < 2 ^ n) : ∀ r ∈ setF g m c 0, rB 5 50 r := by
  intro r hr
  obtain ⟨j, -, -, hj, rfl⟩ := (setF_mem c 0).mp hr
  exact rowOf_B ok (bit_lt hm hj)
theorem measure_spec {n m : Nat} {g : Nat → Nat → Int} (ok : BkOk n g) (hm : m < 2 ^ n) {σ : sT} (hB : BkC σ n g) {k : Nat} (hk : k < 3) :
    ∃ (σ1 : sT) (b : Bool), fSo_measure (nI m) (nI k) σ = some (b01 b, σ1) ∧ offC [6, 7, 8, 9, 10, 11, 12, 13, 14, 15] σ σ1 ∧ (b = true ↔ ∃ p, setP g m p) ∧
      (b = true → ∃ e : enT × enT, LoAt σ1 e.1 ∧ HiAt σ1 e.2 ∧ enB 5000 50000 e.1 ∧ enB 5000 50000 e.2 ∧ ∀ t, ivS e t ↔ ∃ p : pT, p k = t ∧ setP g m p) := by
  obtain ⟨σ1, e1, e2, e3⟩ := load_spec ok hm hB
  have hsem : ∀ p, semR ((setF g m 12 0).foldl keepS ([], false)) p ↔ setP g m p := by
    intro p
    rw [sem_fold, setF_P hm ok.1 p]
    unfold semR
    simp
  have hl := fold_len (setF g m 12 0) ([], false)
  have hl2 := setF_len (g := g) (m := m) 12 0
  obtain ⟨σ2, b, f1, f2, f3, f4⟩ := narrow_spec e2 (by simp at hl; omega) (A := 5) (D := 50) (A1 := 50) (D1 := 500) (A2 := 5000) (D2 := 50000) (by
    intro r hr
    rcases fold_mem _ _ hr with h | h
    · simp at h
    · exact setF_B ok hm r h) (by omega) (by omega) (by unfold big; omega) (by unfold big; omega) hk (Or.inr ⟨rfl, rfl⟩) (Or.inr ⟨rfl, rfl⟩) (by unfold big; omega) (by unfold big; omega) (by omega) (by unfold big; omega)
  unfold fSo_measure
  rw [db1_t e1, db2_t f1, dck_t (okZ_b b)]
  refine ⟨σ2, b, rfl, (e3.mono (by simp)).trans (f2.mono (by simp)), ?_, fun hb => ?_⟩
  · rw [f3]; exact exists_congr hsem
  · obtain ⟨e, x1, x2, x3, x4, x5⟩ := f4 hb
    refine ⟨e, x1, x2, x3, x4, fun t => ?_⟩
    rw [x5 t]
    exact exists_congr (fun p => and_congr Iff.rfl (hsem p))
theorem sat_spec {n m : Nat} {g : Nat → Nat → Int} (ok : BkOk n g) (hm : m < 2 ^ n) {σ : sT} (hB : BkC σ n g) :
    ∃ (σ1 : sT) (b : Bool), fSo_isSatisfiable (nI m) σ = some (b01 b, σ1) ∧ offC [6, 7, 8, 9, 10, 11, 12, 13, 14, 15] σ σ1 ∧ (b = true ↔ ∃ p, setP g m p) := by
  obtain ⟨σ1, b, e1, e2, e3, -⟩ := measure_spec ok hm hB (k := 0) (by omega)
  unfold fSo_isSatisfiable
  rw [show (0 : Int32) = nI 0 from rfl, db2_t e1, dck_t (okZ_b b)]
  exact ⟨σ1, b, rfl, e2, e3⟩
theorem flat_P {L : List rT} (p : pT) : (∀ r ∈ L.flatMap dbl, hol p r) ↔ ∀ r ∈ L, hol p r := by
  constructor
  · intro h r hr
    exact (dbl_hol r p).mp (fun q hq => h q (List.mem_flatMap.mpr ⟨r, hr, hq⟩))
  · intro h q hq
    obtain ⟨r, hr, hq⟩ := List.mem_flatMap.mp hq
    exact (dbl_hol r p).mpr (h r hr) q hq
theorem flat_len (L : List rT) : (L.flatMap dbl).length ≤ 2 * L.length := by
  induction L with
  | nil => simp
  | cons r L ih =>
    have := dbl_len r
    rw [List.flatMap_cons, List.length_append, List.length_cons]; omega
theorem msolve_spec {n m : Nat} {g : Nat → Nat → Int} (ok : BkOk n g) (hm : m < 2 ^ n) {σ : sT} (hL : LaidAt σ ((setF g m n 0).flatMap dbl)) {t : Nat} (ht : t < 3) :
    ∃ (σ1 : sT) (b : Bool), fMM_solves (nI t) σ = some σ1 ∧ σ1.1 33 8 = b01 b ∧ mOff [38] [7, 8, 9, 10, 11, 12, 13, 14] σ σ1 ∧ (b = true ↔ ∃ p, setP g m p) ∧
      (b = true → ∃ e : enT × enT, MLo σ1 e.1 ∧ MHi σ1 e.2 ∧ enB 5000 50000 e.1 ∧ enB 5000 50000 e.2 ∧ ∀ x, ivS e x ↔ ∃ p : pT, p t = x ∧ setP g m p) := by
  have hsem : ∀ p, (∀ r ∈ (setF g m n 0).flatMap dbl, hol p r) ↔ setP g m p := fun p => by rw [flat_P, setF_P hm (Nat.le_refl n)]
  have hB := setF_B (c := n) ok hm
  have hl := flat_len (setF g m n 0)
  have hl2 := setF_len (g := g) (m := m) n 0
  have hn := ok.1
  obtain ⟨σ1, b, f1, f2, f3, f4, f5⟩ := solves_spec hL (by omega) (by
      intro q hq
      obtain ⟨r, hr, hq⟩ := List.mem_flatMap.mp hq
      exact dbl_kind (hB r hr).2.2.2.2 q hq) (A := 5) (D := 50) (A1 := 50) (D1 := 500) (A2 := 5000) (D2 := 50000) (by
      intro q hq
      obtain ⟨r, hr, hq⟩ := List.mem_flatMap.mp hq
      exact dbl_B (hB r hr) q hq) (by omega) (by omega) (by unfold big; omega) (by unfold big; omega) ht (Or.inr ⟨rfl, rfl⟩) (Or.inr ⟨rfl, rfl⟩) (by unfold big; omega) (by unfold big; omega) (by omega) (by unfold big; omega) (by unfold big; omega)
  refine ⟨σ1, b, f1, f2, f3, ?_, fun hb => ?_⟩
  · rw [f4]; exact exists_congr hsem
  · obtain ⟨e, x1, x2, x3, x4, x5⟩ := f5 hb
    refine ⟨e, x1, x2, x3, x4, fun t => ?_⟩
    rw [x5 t]
    exact exists_congr (fun p => and_congr Iff.rfl (hsem p))
theorem canSet_spec {n m : Nat} {g : Nat → Nat → Int} (ok : BkOk n g) (hm : m < 2 ^ n) {σ : sT} (hB : BkM σ n g) :
    ∃ (σ1 : sT) (b : Bool), fMM_canSet (nI m) σ = some (b01 b, σ1) ∧ mOff [37, 38] [5, 7, 8, 9, 10, 11, 12, 13, 14] σ σ1 ∧ (b = true ↔ ∃ p, setP g m p) := by
  obtain ⟨σ1, e1, e2, e3⟩ := lset_spec ok hm hB
  obtain ⟨σ2, b, f1, f2, f3, f4, -⟩ := msolve_spec ok hm e2 (t := 0) (by omega)
  have hc : fMM_canLaid σ1 = some (b01 b, σ2) := by
    unfold fMM_canLaid
    rw [show (0 : Int32) = nI 0 from rfl, db1_t f1, f2, dck_t (okZ_b b)]
  unfold fMM_canSet
  rw [db1_t e1, db2_t hc, dck_t (okZ_b b)]
  exact ⟨σ2, b, rfl, (e3.mono (by simp) (by simp)).trans (f3.mono (by simp) (by simp)), f4⟩
