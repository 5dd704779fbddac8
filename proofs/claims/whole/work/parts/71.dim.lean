/-! dimension -/
theorem R2_ord {v : Nat → vT} {S : Nat → Prop} : R2 v S ↔ ∃ i j, j < i ∧ S i ∧ S j ∧ ¬ vz (crs (v i) (v j)) := by
  constructor
  · rintro ⟨i, j, h1, h2, h3⟩
    rcases Nat.lt_trichotomy i j with h | h | h
    · exact ⟨j, i, h, h2, h1, fun z => h3 (crs_sw z)⟩
    · subst h; exact absurd (crs_vv _) h3
    · exact ⟨i, j, h, h1, h2, h3⟩
  · rintro ⟨i, j, -, h1, h2, h3⟩; exact ⟨i, j, h1, h2, h3⟩
theorem dot_neg1 (a b c : vT) : dot (crs b a) c = -(dot (crs a b) c) := by unfold dot crs; grind
theorem R3_ord {v : Nat → vT} {S : Nat → Prop} : R3 v S ↔ ∃ i j k, j < i ∧ k < j ∧ S i ∧ S j ∧ S k ∧ dot (crs (v i) (v j)) (v k) ≠ 0 := by
  constructor
  · rintro ⟨i, j, k, h1, h2, h3, h4⟩
    have d1 : i ≠ j := by rintro rfl; exact h4 (dot_0 (crs_vv _))
    have d2 : k ≠ i := by rintro rfl; exact h4 (dot_hh _ _)
    have d3 : k ≠ j := by rintro rfl; exact h4 (dot_vv _ _)
    have e1 := dot_sw (v i) (v k) (v j)
    have e2 := dot_neg1 (v i) (v j) (v k)
    have e3 := dot_rot (v i) (v j) (v k)
    have e4 := dot_rot (v j) (v k) (v i)
    have e5 := dot_sw (v k) (v j) (v i)
    rcases (show (j < i ∧ k < j) ∨ (k < i ∧ j < k) ∨ (i < j ∧ k < i) ∨ (k < j ∧ i < k) ∨ (i < k ∧ j < i) ∨ (j < k ∧ i < j) by omega) with h | h | h | h | h | h
    · exact ⟨i, j, k, h.1, h.2, h1, h2, h3, h4⟩
    · exact ⟨i, k, j, h.1, h.2, h1, h3, h2, by omega⟩
    · exact ⟨j, i, k, h.1, h.2, h2, h1, h3, by omega⟩
    · exact ⟨j, k, i, h.1, h.2, h2, h3, h1, by omega⟩
    · exact ⟨k, i, j, h.1, h.2, h3, h1, h2, by omega⟩
    · exact ⟨k, j, i, h.1, h.2, h3, h2, h1, by omega⟩
  · rintro ⟨i, j, k, -, -, h⟩; exact ⟨i, j, k, h⟩
theorem mdimOf_spec {n m : Nat} {g : gT} (ok : BkOk n g) (hm : m < 2 ^ n) {τ : sT} (hB : BkM τ n g) :
    ∃ (τ1 : sT) (r : Nat), fMM_dimensionOf (nI m) τ = some ((3 : Int32) - nI r, τ1) ∧ rkN (vec g) (fun j => j < 12 ∧ fxd g m j) r ∧ mOff [37, 38] [5, 7, 8, 9, 10, 11, 12, 13, 14] τ τ1 := by
  have hn := ok.1
  obtain ⟨τ1, F, e1, e2, e3, e4⟩ := fixed_loop ok hm n 0 FU 0 τ (by omega) (by unfold FU; omega) hB (by omega)
  rw [nI_0] at e1
  have e1' : fMM_fixed (nI m) τ = some (nI F, τ1) := by unfold fMM_fixed; exact e1
  obtain ⟨r, f1, f2, f3, f4, f5⟩ := rank_loop ok e2 (hB.of e4 (by decide)) n 0 FU 0 (by omega) (by unfold FU; omega) (by omega)
  rw [nI_0] at f1
  have f1' : fMM_rank (nI F) τ1 = some (nI r) := by unfold fMM_rank; exact f1
  have hS : ∀ j, F.testBit j = true ↔ (j < n ∧ fxd g m j) := by
    intro j
    rw [e3 j]
    constructor
    · rintro (h | ⟨-, h⟩)
      · simp at h
      · exact h
    · intro h; exact Or.inr ⟨by omega, h⟩
  have hS' : (fun j => j < 12 ∧ fxd g m j) = (fun j => F.testBit j = true) := by
    funext j
    apply propext
    rw [hS j]
    constructor
    · rintro ⟨a, b⟩; exact ⟨bit_lt hm b.1, b⟩
    · rintro ⟨a, b⟩; exact ⟨by omega, b⟩
  unfold fMM_dimensionOf
  rw [db2_t e1', db1_t f1']
  refine ⟨τ1, r, rfl, ?_, e4⟩
  rw [hS']
  refine ⟨f2, ?_, ?_, ?_⟩
  · rw [f3]
    constructor
    · rintro (h | ⟨i, -, -, h⟩)
      · omega
      · exact ⟨i, h⟩
    · rintro ⟨i, h1, h2⟩; exact Or.inr ⟨i, by omega, ((hS i).mp h1).1, h1, h2⟩
  · rw [f4, R2_ord]
    constructor
    · rintro (h | ⟨i, j, -, -, h⟩)
      · omega
      · exact ⟨i, j, h⟩
    · rintro ⟨i, j, h1, h2, h3⟩; exact Or.inr ⟨i, j, by omega, ((hS i).mp h2).1, h1, h2, h3⟩
  · rw [f5, R3_ord]
    constructor
    · rintro (h | ⟨i, j, k, -, -, h⟩)
      · omega
      · exact ⟨i, j, k, h⟩
    · rintro ⟨i, j, k, h1, h2, h3, h4⟩; exact Or.inr ⟨i, j, k, by omega, ((hS i).mp h3).1, h1, h2, h3, h4⟩
theorem do_dimension : op_dimension Inv := by
  intro σ τ hI x1
  obtain ⟨n, g, U, T, h⟩ := id hI
  obtain ⟨ok, hC, hM, -⟩ := id h
  have hn := ok.1
  unfold fRM_dimension fMM_dimension
  rw [db1_t (covers_spec ok.1 hC.1 x1), db1_t (isSet_spec ok.1 hM.1 x1)]
  cases hc : cov x1 n
  · rw [if_pos b0, if_pos b0]
    obtain ⟨σ1, τ1, e1, e2, e3⟩ := ref_B hI
    rw [db2_t e1, db2_t e2]
    exact ⟨_, _, _, rfl, rfl, e3⟩
  rw [if_neg b1, if_neg b1]
  obtain ⟨m, hm, rfl⟩ := cov_n hc
  obtain ⟨σ1, b, e1, e2, e3⟩ := sat_spec ok hm hC
  obtain ⟨τ1, b', f1, f2, f3⟩ := canSet_spec ok hm hM
  have hb : b = b' := Bool.eq_iff_iff.mpr (e3.trans f3.symm)
  subst hb
  have hI1 := hI.same (sameC.off e2 (by decide)) (sameM.off f2 (by decide) (by decide))
  rw [db2_t e1, db2_t f1]
  cases b
  · rw [if_pos b0, if_pos b0]
    obtain ⟨σ2, τ2, g1, g2, g3⟩ := ref_N hI1
    rw [db2_t g1, db2_t g2]
    exact ⟨_, _, _, rfl, rfl, g3⟩
  · rw [if_neg b1, if_neg b1]
    obtain ⟨σ2, r, g1, g2, g3⟩ := dimOf_spec ok hm (hC.of e2 (by decide) (by decide))
    obtain ⟨τ2, s, p1, p2, p3⟩ := mdimOf_spec ok hm (hM.of f2 (by decide))
    obtain rfl := rkN_one g2 p2
    rw [db2_t g1, db2_t p1]
    exact ⟨_, _, _, rfl, rfl, hI1.same (sameC.off g3 (by decide)) (sameM.off p3 (by decide) (by decide))⟩
