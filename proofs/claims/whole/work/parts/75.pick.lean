/-! the class chooses -/
theorem choose_spec {p q : Int} (hp : -9223372036854775808 < p ∧ p < 9223372036854775808) (hq : 0 < q ∧ q < 140737488355328) (σ : sT) : ∃ σ1, fSp_choose (jI p) (jI q) σ = some σ1 ∧ σ1.2 15 6 = jI (fr p q).num ∧ σ1.2 15 7 = jI ((fr p q).den : Int) ∧ offC [15] σ σ1 := by
  have hg := gcd_pos' (a := p) hq.1
  refine ⟨sjW (sjW σ 15 6 (jI (fr p q).num)) 15 7 (jI ((fr p q).den : Int)), ?_, ?_, ?_, (offC_sj (by simp)).trans (offC_sj (by simp))⟩
  · unfold fSp_choose
    rw [db1_t (gcd_spec hp (by omega)), if_neg (fun z => by have := (cmp_eq0 (by unfold inJ; omega)).mp z; omega), dck_t (okE_j hg.1 (by omega)), dlt_u, dck_t (okE_j hg.1 (by omega)), dlt_u, jI_div (by unfold inJ; omega) (by unfold inJ; omega), jI_div (by unfold inJ; omega) (by unfold inJ; omega), fr_num hq.1, fr_den hq.1]
  · rw [sjW_s, if_neg (by decide), sjW_s, if_pos rfl]
  · rw [sjW_s, if_pos rfl]
theorem pick_st {σ : sT} {K : Int64 → Int64 → Option sT} {n st : Nat} {a b c d ot ob nt nb : Int} (h : gd a b c d) (hs : st < 100) (hc : c < 4611686018427387904) (hd : d < 4611686018427387904) (ha : a < 4611686018427387904) (hb : b < 4611686018427387904) :
    fSp_pickSimplest_L15 σ K (n + 1) (jI a) (jI b) (jI c) (jI d) (jI ot) (jI ob) (jI nt) (jI nb) (nI st) = if (a / b + 1) * d < c then K (jI ((a / b + 1) * nt + ot)) (jI ((a / b + 1) * nb + ob)) else fSp_pickSimplest_L15 σ K n (jI d) (jI (c - a / b * d)) (jI b) (jI (a % b)) (jI nt) (jI nb) (jI (a / b * nt + ot)) (jI (a / b * nb + ob)) (nI (st + 1)) := by
  obtain ⟨w0, w1, w2⟩ := gd_w h
  obtain ⟨h1, h2, h3, h4, h5⟩ := h
  have q0 : (a / b + 1) * d = a / b * d + d := by grind
  have q1 := Int.mul_nonneg w0 h4
  conv => lhs; unfold fSp_pickSimplest_L15
  rw [show (100 : Int32) = nI 100 from rfl, if_neg (nI_ge hs (by omega)), if_neg (fun z => by have := (cmp_le0 (by unfold inJ; omega)).mp z; omega), db1_t (floor_spec (by unfold inJ; omega) (by unfold inJ; omega) h2), nI_1]
  simp only [dlt_u, j1, jI_add, jI_mul, jI_sub]
  by_cases he : (a / b + 1) * d < c
  · rw [if_neg (fun z => by have := (cmp_ge (by unfold inJ; omega) (by unfold inJ; omega)).mp z; omega), if_neg (by decide), if_neg (by decide), if_pos he]
  · rw [if_pos ((cmp_ge (by unfold inJ; omega) (by unfold inJ; omega)).mpr (by omega)), if_pos trivial, if_pos trivial, if_neg he, Int.emod_def, Int.mul_comm b]
theorem pick_loop {σ : sT} {K : Int64 → Int64 → Option sT} : ∀ (m n st : Nat) (a b c d ot ob nt nb : Int), gd a b c d → b ≤ a → a * d < 2 ^ m → st + m < 100 → m < n → a < 4611686018427387904 → b < 4611686018427387904 → c < 4611686018427387904 → d < 4611686018427387904 →
    fSp_pickSimplest_L15 σ K n (jI a) (jI b) (jI c) (jI d) (jI ot) (jI ob) (jI nt) (jI nb) (nI st) = K (jI ((sF (m + 1) a b c d).1 * nt + (sF (m + 1) a b c d).2 * ot)) (jI ((sF (m + 1) a b c d).1 * nb + (sF (m + 1) a b c d).2 * ob)) := by
  intro m
  induction m with
  | zero =>
    intro n st a b c d ot ob nt nb h hb hm hs hn a1 b1 c1 d1
    obtain ⟨n', rfl⟩ : ∃ n', n = n' + 1 := ⟨n - 1, by omega⟩
    rw [pick_st h (by omega) c1 d1 a1 b1]
    have hd : d = 0 := by
      obtain ⟨h1, h2, h3, h4, h5⟩ := h
      apply Decidable.byContradiction
      intro hne
      have := Int.mul_le_mul (show 1 ≤ a by omega) (show 1 ≤ d by omega) (by omega) (by omega)
      omega
    have he : (a / b + 1) * d < c := by rw [hd, Int.mul_zero]; exact h.2.2.1
    rw [sF, if_pos he, if_pos he]
    simp only [Int.one_mul]
  | succ m ih =>
    intro n st a b c d ot ob nt nb h hb hm hs hn a1 b1 c1 d1
    obtain ⟨n', rfl⟩ : ∃ n', n = n' + 1 := ⟨n - 1, by omega⟩
    rw [pick_st h (by omega) c1 d1 a1 b1]
    by_cases he : (a / b + 1) * d < c
    · rw [sF, if_pos he, if_pos he]
      simp only [Int.one_mul]
    · rw [if_neg he]
      obtain ⟨g1, g2, g3⟩ := gd_step h he
      have h2 := h.2.1
      have h4 := h.2.2.2.1
      have r3 := emod_half h2 hb
      have r4 := Int.emod_lt_of_pos a h2
      have hm2 : d * (a % b) < 2 ^ m := by
        have q1 := Int.mul_le_mul_of_nonneg_left r3 h4
        have q2 : d * (2 * (a % b)) = 2 * (d * (a % b)) := by grind
        have q3 : d * a = a * d := Int.mul_comm _ _
        have q4 : (2 : Int) ^ (m + 1) = 2 * 2 ^ m := by rw [Int.pow_succ]; omega
        omega
      rw [ih n' (st + 1) d (c - a / b * d) b (a % b) nt nb _ _ g1 g2 hm2 (by omega) (by omega) d1 (by omega) b1 (by omega)]
      conv => rhs; rw [sF, if_neg he]
      dsimp only
      generalize sF (m + 1) d (c - a / b * d) b (a % b) = z
      obtain ⟨p, q⟩ := z
      dsimp only
      rw [show p * (a / b * nt + ot) + q * nt = (a / b * p + q) * nt + p * ot by grind, show p * (a / b * nb + ob) + q * nb = (a / b * p + q) * nb + p * ob by grind]
theorem simplest_spec {a b c d : Int} (h : gd a b c d) (hb : b < 70368744177664) (hd : d < 70368744177664) (ha : a < 2305843009213693952) (hc : c < 2305843009213693952) (σ : sT) :
    ∃ σ1, fSp_pickSimplest (jI a) (jI b) (jI c) (jI d) σ = some σ1 ∧ σ1.2 15 6 = jI (sF 96 a b c d).1 ∧ σ1.2 15 7 = jI (sF 96 a b c d).2 ∧ offC [15] σ σ1 := by
  have hbd : b * d < 2 ^ 94 := by
    have q1 := Int.mul_le_mul (show b ≤ 70368744177664 by omega) (show d ≤ 70368744177664 by omega) h.2.2.2.1 (by omega)
    have : (70368744177664 : Int) * 70368744177664 < 2 ^ 94 := by decide
    omega
  obtain ⟨o1, o2, o3, o4, o5⟩ := sF_ok0 (n := 96) h hbd (by omega)
  have hK : ∀ K : Int64 → Int64 → Option sT, fSp_pickSimplest_L15 σ K FU (jI a) (jI b) (jI c) (jI d) (jI 0) (jI 1) (jI 1) (jI 0) (nI 0) = K (jI (sF 96 a b c d).1) (jI (sF 96 a b c d).2) := by
    intro K
    obtain ⟨N, hN, hN9⟩ := FU_s
    rw [hN, pick_st h (by omega) (by omega) (by omega) (by omega) (by omega)]
    by_cases he : (a / b + 1) * d < c
    · rw [sF, if_pos he, if_pos he]
      simp
    · rw [if_neg he]
      obtain ⟨g1, g2, g3⟩ := gd_step h he
      have h2 := h.2.1
      have h4 := h.2.2.2.1
      have r4 := Int.emod_lt_of_pos a h2
      have hm2 : d * (a % b) < 2 ^ 94 := by
        have q1 := Int.mul_le_mul_of_nonneg_left (show a % b ≤ b by omega) h4
        have q3 : d * b = b * d := Int.mul_comm _ _
        omega
      rw [pick_loop 94 N 1 d (c - a / b * d) b (a % b) _ _ _ _ g1 g2 hm2 (by omega) (by omega) (by omega) (by omega) (by omega) (by omega)]
      conv => rhs; rw [sF, if_neg he]
      dsimp only
      generalize sF (94 + 1) d (c - a / b * d) b (a % b) = z
      obtain ⟨p, q⟩ := z
      dsimp only
      rw [show p * (a / b * 1 + 0) + q * 1 = a / b * p + q by grind, show p * (a / b * 0 + 1) + q * 0 = p by grind]
  obtain ⟨σ1, e1, e2, e3, e4⟩ := choose_spec (p := (sF 96 a b c d).1) (q := (sF 96 a b c d).2) (by omega) (by omega) σ
  have hr := fr_red o3 o5
  rw [hr.1] at e2
  rw [hr.2] at e3
  refine ⟨σ1, ?_, e2, e3, e4⟩
  unfold fSp_pickSimplest
  rw [dlt_u, show (0 : Int64) = jI 0 from rfl, show (1 : Int64) = jI 1 from rfl, show (0 : Int32) = nI 0 from rfl, hK, db1_t e1]
theorem smp_num {a b c d : Int} (h : gd a b c d) (hd : 0 < d) (hb : b < 70368744177664) (hd2 : d < 70368744177664) : (smp (fr a b) (fr c d)).num = (sF 96 a b c d).1 ∧ ((smp (fr a b) (fr c d)).den : Int) = (sF 96 a b c d).2 := by
  have hbd : b * d < 2 ^ 94 := by
    have q1 := Int.mul_le_mul (show b ≤ 70368744177664 by omega) (show d ≤ 70368744177664 by omega) h.2.2.2.1 (by omega)
    have : (70368744177664 : Int) * 70368744177664 < 2 ^ 94 := by decide
    omega
  obtain ⟨o1, o2, o3, o4, o5⟩ := sF_ok0 (n := 96) h hbd (by omega)
  unfold smp
  rw [smp_fr h.2.1 hd]
  exact fr_red o3 o5
