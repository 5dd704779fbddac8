/-! what follows from what: brings, spare, same -/
noncomputable def dP (p : Prop) : Bool := @decide p (Classical.propDecidable p)
theorem dP_iff {p : Prop} : dP p = true ↔ p := by unfold dP; exact @decide_eq_true_iff p (Classical.propDecidable p)
theorem dP_of {p : Prop} {b : Bool} (h : b = true ↔ p) : b = dP p := Bool.eq_iff_iff.mpr (h.trans dP_iff.symm)
def clr (m i : Nat) : Nat := m &&& (4294967295 ^^^ 2 ^ i)
def difN (a b : Nat) : Nat := a &&& (4294967295 ^^^ b)
theorem b32 (j : Nat) : Nat.testBit 4294967295 j = decide (j < 32) := by
  rw [show (4294967295 : Nat) = 2 ^ 32 - 1 from rfl, Nat.testBit_two_pow_sub_one]
theorem clr_bit {m i : Nat} (hm : m < 4096) (j : Nat) : (clr m i).testBit j = (m.testBit j && decide (j ≠ i)) := by
  unfold clr
  rw [Nat.testBit_and, Nat.testBit_xor, b32, Nat.testBit_two_pow]
  by_cases hj : j < 12
  · rw [decide_eq_true (show j < 32 by omega)]
    by_cases h : i = j
    · simp [h]
    · have : ¬ j = i := fun z => h z.symm
      simp [h, this]
  · rw [Nat.testBit_lt_two_pow (show m < 2 ^ j from Nat.lt_of_lt_of_le (show m < 2 ^ 12 from hm) (Nat.pow_le_pow_right (by omega) (by omega)))]
    simp
theorem dif_bit {a b : Nat} (ha : a < 4096) (j : Nat) : (difN a b).testBit j = (a.testBit j && !b.testBit j) := by
  unfold difN
  rw [Nat.testBit_and, Nat.testBit_xor, b32]
  by_cases hj : j < 12
  · rw [decide_eq_true (show j < 32 by omega)]
    simp
  · rw [Nat.testBit_lt_two_pow (show a < 2 ^ j from Nat.lt_of_lt_of_le (show a < 2 ^ 12 from ha) (Nat.pow_le_pow_right (by omega) (by omega)))]
    simp
theorem clr_le (m i : Nat) : clr m i ≤ m := Nat.and_le_left
theorem dif_le (m i : Nat) : difN m i ≤ m := Nat.and_le_left
theorem pow_i {i : Nat} (hi : i ≤ 12) : 2 ^ i ≤ 4096 := pow12 hi
theorem sh1 {i : Nat} (hi : i ≤ 12) : ((1 : Int32) <<< (nI i &&& 31)).toBitVec.toNat = 2 ^ i := by
  have := pow_i hi
  rw [pk_shl _ _ i (sh31 hi), show (1 : Int32).toBitVec.toNat = 1 from rfl, Nat.one_mul, Nat.mod_eq_of_lt (by omega)]
theorem nI_clr {m i : Nat} (hm : m < 4096) (hi : i ≤ 12) : nI m &&& (((1 : Int32) <<< (nI i &&& 31)) ^^^ (-1 : Int32)) = nI (clr m i) := by
  have h1 := clr_le m i
  apply Int32.toBitVec_inj.mp
  apply BitVec.eq_of_toNat_eq
  rw [Int32.toBitVec_and, Int32.toBitVec_xor, BitVec.toNat_and, BitVec.toNat_xor, sh1 hi, pk_tn (by omega), pk_tn (by omega), show (-1 : Int32).toBitVec.toNat = 4294967295 from rfl, Nat.xor_comm]
  rfl
theorem nI_dif {a b : Nat} (ha : a < 4096) (hb : b < 4096) : nI a &&& (nI b ^^^ (-1 : Int32)) = nI (difN a b) := by
  have h1 := dif_le a b
  apply Int32.toBitVec_inj.mp
  apply BitVec.eq_of_toNat_eq
  rw [Int32.toBitVec_and, Int32.toBitVec_xor, BitVec.toNat_and, BitVec.toNat_xor, pk_tn (by omega), pk_tn (by omega), pk_tn (by omega), show (-1 : Int32).toBitVec.toNat = 4294967295 from rfl, Nat.xor_comm]
  rfl
theorem or_lt {a i : Nat} (ha : a < 4096) (hi : i < 12) : a ||| 2 ^ i < 4096 := Nat.or_lt_two_pow (n := 12) ha (Nat.pow_lt_pow_right (by omega) hi)
theorem nI_orb {a i : Nat} (ha : a < 4096) (hi : i < 12) : nI a ||| ((1 : Int32) <<< (nI i &&& 31)) = nI (a ||| 2 ^ i) := by
  have h1 := or_lt ha hi
  apply Int32.toBitVec_inj.mp
  apply BitVec.eq_of_toNat_eq
  rw [Int32.toBitVec_or, BitVec.toNat_or, sh1 (by omega), pk_tn (by omega), pk_tn (by omega)]
theorem nI_or0 (a : Int32) : a ||| (0 : Int32) = a := by
  apply Int32.toBitVec_inj.mp
  rw [Int32.toBitVec_or, show (0 : Int32).toBitVec = 0#32 from rfl, BitVec.or_zero]
theorem narrow0 {σ : sT} {st : stR} (hR : RowsAt σ 6 7 8 st) (hlen : st.1.length ≤ 13) (hB : ∀ r ∈ st.1, rB 5 50 r) :
    ∃ (σ1 : sT) (b : Bool), fSo_narrow (0 : Int32) σ = some (b01 b, σ1) ∧ offC [9, 10, 11, 12, 13, 14, 15] σ σ1 ∧ (b = true ↔ ∃ p, semR st p) := by
  obtain ⟨σ2, b, f1, f2, f3, f4⟩ := narrow_spec hR hlen (A := 5) (D := 50) (A1 := 50) (D1 := 500) (A2 := 5000) (D2 := 50000) hB (by omega) (by omega) (by unfold big; omega) (by unfold big; omega) (k := 0) (by omega) (Or.inr ⟨rfl, rfl⟩) (Or.inr ⟨rfl, rfl⟩) (by unfold big; omega) (by unfold big; omega) (by omega) (by unfold big; omega)
  exact ⟨σ2, b, f1, f2, f3⟩
theorem sgR_B {n : Nat} {g : gT} (ok : BkOk n g) {i : Nat} (hi : i < n) {s : Int} (hs : s = 1 ∨ s = -1) {k : Nat} (hk : k ≤ 2) : rB 5 50 (sgR s g i k) := by
  obtain ⟨c, -, d, -⟩ := ok.2 i hi
  have c0 := c 0 (by omega)
  have c1 := c 1 (by omega)
  have c2 := c 2 (by omega)
  unfold rB sgR
  dsimp only
  rcases hs with rfl | rfl <;> omega
theorem meets_spec {n m : Nat} {g : gT} (ok : BkOk n g) (hm : m < 2 ^ n) {σ : sT} (hB : BkC σ n g) {i : Nat} (hi : i < n) {s : Int} (hs : s = 1 ∨ s = -1) {k : Nat} (hk : k ≤ 2) :
    ∃ (σ1 : sT) (b : Bool), fSo_meets (nI m) (nI i) (iI s) (nI k) σ = some (b01 b, σ1) ∧ offC [6, 7, 8, 9, 10, 11, 12, 13, 14, 15] σ σ1 ∧ (b = true ↔ ∃ p, setP g m p ∧ hol p (sgR s g i k)) := by
  obtain ⟨σ1, e1, e2, e3⟩ := load_spec ok hm hB
  have hl := fold_len (setF g m 12 0) ([], false)
  have hl2 := setF_len (g := g) (m := m) 12 0
  obtain ⟨σ2, f1, f2, f3⟩ := skeep_spec (hB.of e3 (by decide) (by decide)) ok e2 (by simp at hl; omega) hs hi hk
  have hl3 := keep_len ((setF g m 12 0).foldl keepS ([], false)) (sgR s g i k)
  obtain ⟨σ3, b, g1, g2, g3⟩ := narrow0 f2 (by simp at hl; omega) (by
    intro r hr
    rcases keep_mem hr with hr | rfl
    · rcases fold_mem _ _ hr with h | h
      · simp at h
      · exact setF_B ok hm r h
    · exact sgR_B ok hi hs hk)
  unfold fSo_meets
  rw [db1_t e1, db1_t f1, db2_t g1, dck_t (okZ_b b)]
  refine ⟨σ3, b, rfl, ((e3.mono (by simp)).trans (f3.mono (by simp))).trans (g2.mono (by simp)), ?_⟩
  rw [g3]
  refine exists_congr (fun p => ?_)
  rw [sem_keep, sem_fold, setF_P hm ok.1 p]
  unfold semR
  simp
def impP (g : gT) (m i : Nat) : Prop := ∀ p, setP g m p → hol p (rowOf g i)
theorem lin_sg (s : Int) (g : gT) (i k : Nat) (p : pT) : lin (sgR s g i k) p = (s : Rat) * lin (rowOf g i) p := by
  simp only [lin, sgR, rowOf, Rat.intCast_mul]; grind
theorem rd_sg (s : Int) (g : gT) (i k : Nat) : (rd (sgR s g i k) : Rat) = (s : Rat) * (rd (rowOf g i) : Rat) := by
  simp only [rd, sgR, rowOf, Rat.intCast_mul]
theorem neg_0 {g : gT} {i : Nat} (h : (g i 3).toNat = 0) (p : pT) : ¬ hol p (rowOf g i) ↔ hol p (sgR (-1) g i 1) := by
  unfold hol
  rw [lin_sg, rd_sg, show rk (rowOf g i) = 0 from h, show rk (sgR (-1) g i 1) = 1 from rfl, relk0, relk1, show ((-1 : Int) : Rat) = -1 from rfl]
  grind
theorem neg_1 {g : gT} {i : Nat} (h : (g i 3).toNat = 1) (p : pT) : ¬ hol p (rowOf g i) ↔ hol p (sgR (-1) g i 0) := by
  unfold hol
  rw [lin_sg, rd_sg, show rk (rowOf g i) = 1 from h, show rk (sgR (-1) g i 0) = 0 from rfl, relk0, relk1, show ((-1 : Int) : Rat) = -1 from rfl]
  grind
theorem neg_2 {g : gT} {i : Nat} (h : (g i 3).toNat = 2) (p : pT) : ¬ hol p (rowOf g i) ↔ (hol p (sgR 1 g i 0) ∨ hol p (sgR (-1) g i 0)) := by
  unfold hol
  rw [lin_sg, rd_sg, lin_sg, rd_sg, show rk (rowOf g i) = 2 from h, show rk (sgR (-1) g i 0) = 0 from rfl, show rk (sgR 1 g i 0) = 0 from rfl, relk0, relk0, relk2, show ((-1 : Int) : Rat) = -1 from rfl, show ((1 : Int) : Rat) = 1 from rfl]
  grind
theorem imp_iff {g : gT} {m i : Nat} : impP g m i ↔ ¬ ∃ p, setP g m p ∧ ¬ hol p (rowOf g i) := by
  unfold impP
  constructor
  · rintro h ⟨p, h1, h2⟩; exact h2 (h p h1)
  · intro h p hp; exact Classical.byContradiction (fun z => h ⟨p, hp, z⟩)
theorem bnot_iff {b : Bool} {p : Prop} (h : b = true ↔ p) : (!b) = true ↔ ¬ p := by
  rw [← h]; cases b <;> simp
theorem implies_spec {n m : Nat} {g : gT} (ok : BkOk n g) (hm : m < 2 ^ n) {σ : sT} (hB : BkC σ n g) {i : Nat} (hi : i < n) :
    ∃ σ1 : sT, fSo_implies (nI m) (nI i) σ = some (b01 (dP (impP g m i)), σ1) ∧ offC [6, 7, 8, 9, 10, 11, 12, 13, 14, 15] σ σ1 := by
  have hk := kd_n ok hi
  unfold fSo_implies
  rw [show (3 : Int32) = nI 3 from rfl, db1_t (get_spec hB ok.1 hi (by omega)), hk.1]
  rcases k012 hk.2 with k | k | k
  · obtain ⟨σ1, b, e1, e2, e3⟩ := meets_spec ok hm hB hi (s := -1) (Or.inr rfl) (k := 1) (by omega)
    have e1' : fSo_meets (nI m) (nI i) (-1 : Int32) (1 : Int32) σ = some (b01 b, σ1) := e1
    have hd : (!b) = dP (impP g m i) := dP_of (by
      rw [bnot_iff e3, imp_iff]
      exact not_congr (exists_congr (fun p => and_congr Iff.rfl (neg_0 k p).symm)))
    rw [k, if_neg (by decide), dlt_u, if_pos (by decide)]
    dsimp only
    rw [db2_t e1', ← hd]
    refine ⟨σ1, ?_, e2⟩
    cases b <;> rfl
  · obtain ⟨σ1, b, e1, e2, e3⟩ := meets_spec ok hm hB hi (s := -1) (Or.inr rfl) (k := 0) (by omega)
    have e1' : fSo_meets (nI m) (nI i) (-1 : Int32) (0 : Int32) σ = some (b01 b, σ1) := e1
    have hd : (!b) = dP (impP g m i) := dP_of (by
      rw [bnot_iff e3, imp_iff]
      exact not_congr (exists_congr (fun p => and_congr Iff.rfl (neg_1 k p).symm)))
    rw [k, if_neg (by decide), dlt_u, if_neg (by decide)]
    dsimp only
    rw [db2_t e1', ← hd]
    refine ⟨σ1, ?_, e2⟩
    cases b <;> rfl
  · obtain ⟨σ1, b, e1, e2, e3⟩ := meets_spec ok hm hB hi (s := 1) (Or.inl rfl) (k := 0) (by omega)
    have e1' : fSo_meets (nI m) (nI i) (1 : Int32) (0 : Int32) σ = some (b01 b, σ1) := e1
    obtain ⟨σ2, b', f1, f2, f3⟩ := meets_spec ok hm (hB.of e2 (by decide) (by decide)) hi (s := -1) (Or.inr rfl) (k := 0) (by omega)
    have f1' : fSo_meets (nI m) (nI i) (-1 : Int32) (0 : Int32) σ1 = some (b01 b', σ2) := f1
    have hd : (!b && !b') = dP (impP g m i) := dP_of (by
      rw [Bool.and_eq_true, bnot_iff e3, bnot_iff f3, imp_iff, ← not_or]
      refine not_congr ?_
      constructor
      · rintro (⟨p, h1, h2⟩ | ⟨p, h1, h2⟩)
        · exact ⟨p, h1, (neg_2 k p).mpr (Or.inl h2)⟩
        · exact ⟨p, h1, (neg_2 k p).mpr (Or.inr h2)⟩
      · rintro ⟨p, h1, h2⟩
        rcases (neg_2 k p).mp h2 with h2 | h2
        · exact Or.inl ⟨p, h1, h2⟩
        · exact Or.inr ⟨p, h1, h2⟩)
    rw [k, if_pos (by decide), db2_t e1', ← hd]
    cases b
    · rw [if_pos b0, db2_t f1']
      refine ⟨σ2, ?_, e2.trans f2⟩
      cases b' <;> rfl
    · rw [if_neg b1]
      exact ⟨σ1, rfl, e2⟩
/-! the model's side -/
theorem canLaid_spec {τ : sT} {L : List rT} (hL : LaidAt τ L) (hlen : L.length ≤ 26) (hk : ∀ r ∈ L, rk r ≤ 1) (hB : ∀ r ∈ L, rB 5 50 r) :
    ∃ (τ1 : sT) (b : Bool), fMM_canLaid τ = some (b01 b, τ1) ∧ mOff [38] [7, 8, 9, 10, 11, 12, 13, 14] τ τ1 ∧ (b = true ↔ ∃ p, ∀ r ∈ L, hol p r) := by
  obtain ⟨σ1, b, f1, f2, f3, f4, f5⟩ := solves_spec hL hlen hk (A := 5) (D := 50) (A1 := 50) (D1 := 500) (A2 := 5000) (D2 := 50000) hB (by omega) (by omega) (by unfold big; omega) (by unfold big; omega) (t := 0) (by omega) (Or.inr ⟨rfl, rfl⟩) (Or.inr ⟨rfl, rfl⟩) (by unfold big; omega) (by unfold big; omega) (by omega) (by unfold big; omega) (by unfold big; omega)
  unfold fMM_canLaid
  rw [show (0 : Int32) = nI 0 from rfl, db1_t f1, f2, dck_t (okZ_b b)]
  exact ⟨σ1, b, rfl, f3, f4⟩
theorem sflat_kind {n m c : Nat} {g : gT} (ok : BkOk n g) (hm : m < 2 ^ n) : ∀ r ∈ (setF g m c 0).flatMap dbl, rk r ≤ 1 ∧ rB 5 50 r := by
  intro q hq
  have hB := setF_B (c := c) ok hm
  obtain ⟨r, hr, hq⟩ := List.mem_flatMap.mp hq
  exact ⟨dbl_kind (hB r hr).2.2.2.2 q hq, dbl_B (hB r hr) q hq⟩
theorem canNot_spec {n m : Nat} {g : gT} (ok : BkOk n g) (hm : m < 2 ^ n) {τ : sT} (hB : BkM τ n g) {i : Nat} (hi : i < n) (more less : Bool) :
    ∃ (τ1 : sT) (b : Bool), fMM_canNot (nI m) (nI i) (b01 more) (b01 less) τ = some (b01 b, τ1) ∧ mOff [37, 38] [5, 7, 8, 9, 10, 11, 12, 13, 14] τ τ1 ∧ (b = true ↔ ∃ p, setP g m p ∧ hol p (sgR (if more = true then -1 else 1) g i (okk less))) := by
  obtain ⟨τ1, e1, e2, e3⟩ := lset_spec ok hm hB
  have hB1 := hB.of e3 (by decide)
  have hl := flat_len (setF g m n 0)
  have hl2 := setF_len (g := g) (m := m) n 0
  have hn := ok.1
  obtain ⟨c, -, d, -⟩ := ok.2 i hi
  have c0 := c 0 (by omega)
  have c1 := c 1 (by omega)
  have c2 := c 2 (by omega)
  have hs : (if more = true then (-1 : Int) else 1) = 1 ∨ (if more = true then (-1 : Int) else 1) = -1 := by cases more <;> simp
  obtain ⟨τ2, f1, f2, f3⟩ := lays_spec e2 (by omega) (sgR (if more = true then -1 else 1) g i (okk less)) (x := b01 less) (by cases less <;> rfl)
  obtain ⟨τ3, b, g1, g2, g3⟩ := canLaid_spec f2 (by rw [List.length_append, List.length_singleton]; omega) (by
    intro r hr
    rcases List.mem_append.mp hr with hr | hr
    · exact (sflat_kind ok hm r hr).1
    · rw [List.mem_singleton.mp hr]; exact okk_le less) (by
    intro r hr
    rcases List.mem_append.mp hr with hr | hr
    · exact (sflat_kind ok hm r hr).2
    · rw [List.mem_singleton.mp hr]; exact sgR_B ok hi hs (by have := okk_le less; omega))
  have hsem : (b = true ↔ ∃ p, setP g m p ∧ hol p (sgR (if more = true then -1 else 1) g i (okk less))) := by
    rw [g3]
    refine exists_congr (fun p => ?_)
    rw [← setF_P hm (Nat.le_refl n) p, ← flat_P (L := setF g m n 0)]
    constructor
    · intro h
      exact ⟨fun r hr => h r (List.mem_append_left _ hr), h _ (List.mem_append_right _ (List.mem_singleton.mpr rfl))⟩
    · rintro ⟨h1, h2⟩ r hr
      rcases List.mem_append.mp hr with hr | hr
      · exact h1 r hr
      · rw [List.mem_singleton.mp hr]; exact h2
  have om : mOff [37, 38] [5, 7, 8, 9, 10, 11, 12, 13, 14] τ τ3 := ((e3.mono (by simp) (by simp)).trans (f3.mono (by simp) (by simp))).trans (g2.mono (by simp) (by simp))
  refine ⟨τ3, b, ?_, om, hsem⟩
  unfold fMM_canNot
  rw [db1_t e1]
  simp only [dlt_u]
  rw [show (0 : Int32) = nI 0 from rfl, show (1 : Int32) = nI 1 from rfl, show (2 : Int32) = nI 2 from rfl, show (4 : Int32) = nI 4 from rfl]
  have t0 := at_spec hB1 hn hi (show 0 < 6 by omega)
  have t1 := at_spec hB1 hn hi (show 1 < 6 by omega)
  have t2 := at_spec hB1 hn hi (show 2 < 6 by omega)
  have t4 := at_spec hB1 hn hi (show 4 < 6 by omega)
  cases more
  · rw [if_pos (show b01 false = nI 0 from rfl), db1_t t0, db1_t t1, db1_t t2, db1_t t4, iI_l (by unfold inI; omega), iI_l (by unfold inI; omega), iI_l (by unfold inI; omega), iI_l (by unfold inI; omega)]
    have f1' : fMM_lays (jI (g i 0)) (jI (g i 1)) (jI (g i 2)) (jI (g i 4)) (b01 less) τ1 = some τ2 := by
      have := f1
      simpa [sgR] using this
    rw [db1_t f1', db2_t g1, dck_t (okZ_b b)]
  · rw [if_neg (show ¬ b01 true = nI 0 by decide), db1_t t0, db1_t t1, db1_t t2, db1_t t4, iI_neg, iI_neg, iI_neg, iI_neg, iI_l (by unfold inI; omega), iI_l (by unfold inI; omega), iI_l (by unfold inI; omega), iI_l (by unfold inI; omega)]
    have f1' : fMM_lays (jI (-g i 0)) (jI (-g i 1)) (jI (-g i 2)) (jI (-g i 4)) (b01 less) τ1 = some τ2 := by
      have := f1
      simpa [sgR] using this
    rw [db1_t f1', db2_t g1, dck_t (okZ_b b)]
theorem bringsRow_spec {n m : Nat} {g : gT} (ok : BkOk n g) (hm : m < 2 ^ n) {τ : sT} (hB : BkM τ n g) {i : Nat} (hi : i < n) :
    ∃ τ1 : sT, fMM_bringsRow (nI m) (nI i) τ = some (b01 (dP (impP g m i)), τ1) ∧ mOff [37, 38] [5, 7, 8, 9, 10, 11, 12, 13, 14] τ τ1 := by
  have hk := kd_n ok hi
  unfold fMM_bringsRow
  rw [show (3 : Int32) = nI 3 from rfl, db1_t (at_spec hB ok.1 hi (by omega)), hk.1]
  simp only [dlt_u]
  rcases k012 hk.2 with k | k | k
  · obtain ⟨τ1, b, e1, e2, e3⟩ := canNot_spec ok hm hB hi true false
    have e1' : fMM_canNot (nI m) (nI i) (1 : Int32) (0 : Int32) τ = some (b01 b, τ1) := e1
    have hd : (!b) = dP (impP g m i) := dP_of (by
      rw [bnot_iff e3, imp_iff]
      exact not_congr (exists_congr (fun p => and_congr Iff.rfl (neg_0 k p).symm)))
    rw [k, if_pos (by decide), db2_t e1', ← hd]
    refine ⟨τ1, ?_, e2⟩
    cases b <;> rfl
  · obtain ⟨τ1, b, e1, e2, e3⟩ := canNot_spec ok hm hB hi true true
    have e1' : fMM_canNot (nI m) (nI i) (1 : Int32) (1 : Int32) τ = some (b01 b, τ1) := e1
    have hd : (!b) = dP (impP g m i) := dP_of (by
      rw [bnot_iff e3, imp_iff]
      exact not_congr (exists_congr (fun p => and_congr Iff.rfl (neg_1 k p).symm)))
    rw [k, if_neg (by decide), db2_t e1', ← hd]
    refine ⟨τ1, ?_, e2⟩
    cases b <;> rfl
  · obtain ⟨τ1, b, e1, e2, e3⟩ := canNot_spec ok hm hB hi true true
    have e1' : fMM_canNot (nI m) (nI i) (1 : Int32) (1 : Int32) τ = some (b01 b, τ1) := e1
    obtain ⟨τ2, b', f1, f2, f3⟩ := canNot_spec ok hm (hB.of e2 (by decide)) hi false true
    have f1' : fMM_canNot (nI m) (nI i) (0 : Int32) (1 : Int32) τ1 = some (b01 b', τ2) := f1
    have hd : (!b && !b') = dP (impP g m i) := dP_of (by
      rw [Bool.and_eq_true, bnot_iff e3, bnot_iff f3, imp_iff, ← not_or]
      refine not_congr ?_
      constructor
      · rintro (⟨p, h1, h2⟩ | ⟨p, h1, h2⟩)
        · exact ⟨p, h1, (neg_2 k p).mpr (Or.inr h2)⟩
        · exact ⟨p, h1, (neg_2 k p).mpr (Or.inl h2)⟩
      · rintro ⟨p, h1, h2⟩
        rcases (neg_2 k p).mp h2 with h2 | h2
        · exact Or.inr ⟨p, h1, h2⟩
        · exact Or.inl ⟨p, h1, h2⟩)
    rw [k, if_neg (by decide), db2_t e1', ← hd]
    cases b
    · rw [if_pos b0, if_neg (by decide), if_pos (by decide), db2_t f1']
      refine ⟨τ2, ?_, e2.trans f2⟩
      cases b' <;> rfl
    · rw [if_neg b1, if_pos (by decide)]
      exact ⟨τ1, rfl, e2⟩
theorem do_brings : op_brings Inv := by
  intro σ τ hI x1 x2
  obtain ⟨n, g, U, T, h⟩ := id hI
  obtain ⟨ok, hC, hM, -⟩ := id h
  obtain ⟨σ1, τ1, e1, e2, e3⟩ := ref_B hI
  unfold fRM_brings fMM_brings
  simp only [dlt_u]
  rw [db1_t (covers_spec ok.1 hC.1 x1), db1_t (isSet_spec ok.1 hM.1 x1), db2_t e1, db2_t e2]
  cases hc : cov x1 n
  · rw [if_pos b0, if_pos b0]
    exact ⟨_, _, _, rfl, rfl, e3⟩
  rw [if_neg b1, if_neg b1, db1_t (bhas_wi hC.1 ok.1 x2), db1_t (isRow_wi hM.1 ok.1 x2)]
  cases h2 : wi x2 0 ((n : Int) - 1)
  · rw [if_pos b0, if_pos b0]
    exact ⟨_, _, _, rfl, rfl, e3⟩
  rw [if_neg b1, if_neg b1]
  obtain ⟨m, hm, rfl⟩ := cov_n hc
  obtain ⟨i, hi, rfl⟩ := wi_n h2
  obtain ⟨σ2, f1, f2⟩ := implies_spec ok hm hC (i := i) (by omega)
  obtain ⟨τ2, p1, p2⟩ := bringsRow_spec ok hm hM (i := i) (by omega)
  have hI1 : Inv σ2 τ2 := hI.same (sameC.off f2 (by decide)) (sameM.off p2 (by decide) (by decide))
  rw [db2_t f1, db2_t p1]
  cases dP (impP g m i)
  · exact ⟨_, _, _, rfl, rfl, hI1⟩
  · exact ⟨_, _, _, rfl, rfl, hI1⟩
