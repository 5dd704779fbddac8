/-! floorDiv and compare -/
theorem FU_s : ∃ n, FU = n + 1 ∧ 900 ≤ n := ⟨999, rfl, by decide⟩
theorem xor_neg (x y : Int64) : ((x ^^^ y).toInt < 0) ↔ ¬ ((x.toInt < 0) ↔ (y.toInt < 0)) := by
  have h : ∀ z : Int64, decide (z.toInt < 0) = z.toBitVec.msb := fun z => (BitVec.msb_eq_toInt).symm
  have h1 := h (x ^^^ y)
  rw [Int64.toBitVec_xor, BitVec.msb_xor, ← h x, ← h y] at h1
  by_cases a : x.toInt < 0 <;> by_cases b : y.toInt < 0 <;> simp [a, b] at h1 ⊢ <;> first | exact h1 | omega
theorem floor_spec {a b : Int} (ha : inJ a) (hb : inJ b) (h0 : 0 < b) : fJM_floorDiv (jI a) (jI b) = some (jI (a / b)) := by
  unfold fJM_floorDiv
  have hne : ¬ jI b = 0 := by rw [j0, jI_eq hb inJ0]; omega
  rw [dck_t (by unfold okE; simp [hne]), dlt_u, jI_div ha hb]
  have hx : (0 ≤ lg_cmp (jI a ^^^ jI b) (0 : Int64)) ↔ 0 ≤ a := by
    rw [lg_cmp_ge, Int64.le_iff_toInt_le]
    have h1 := xor_neg (jI a) (jI b)
    rw [jI_to ha, jI_to hb] at h1
    have h2 : (0 : Int64).toInt = 0 := by decide
    rw [h2]
    omega
  have ht := Int.tdiv_eq_ediv (a := a) (b := b)
  have hd := Int.mul_ediv_add_emod a b
  have hm := Int.emod_nonneg a (show b ≠ 0 by omega)
  have hm2 := Int.emod_lt_of_pos a h0
  by_cases p : 0 ≤ a
  · rw [if_pos (hx.mpr p), ht, if_pos (Or.inl p)]; simp
  · rw [if_neg (fun z => p (hx.mp z))]
    have hprod : inJ (a.tdiv b * b) := by
      have h7 : a / b * b = b * (a / b) := Int.mul_comm _ _
      rw [ht]
      split
      · rename_i hq
        have : a % b = 0 := Int.emod_eq_zero_of_dvd (hq.resolve_left p)
        unfold inJ at *
        grind
      · rw [Int.sign_eq_one_of_pos h0]
        unfold inJ at *
        grind
    rw [jI_mul]
    by_cases q : a.tdiv b * b = a
    · rw [if_pos ((cmp_eq hprod ha).mpr q)]
      have : b ∣ a := ⟨a.tdiv b, by rw [Int.mul_comm]; exact q.symm⟩
      rw [ht, if_pos (Or.inr this)]; simp
    · rw [if_neg (fun z => q ((cmp_eq hprod ha).mp z)), j1, jI_sub]
      have : ¬ b ∣ a := by
        rintro ⟨m, rfl⟩
        apply q
        rw [Int.mul_tdiv_cancel_left m (by omega), Int.mul_comm]
      rw [ht, if_neg (by rintro (h | h); exact p h; exact this h), Int.sign_eq_one_of_pos h0]
      congr 2
      omega
def sg3 (x y : Int) : Int32 := if x < y then -1 else if x = y then 0 else 1
theorem div_lt_mul {a b c d : Int} (hb : 0 < b) (hd : 0 < d) (h : a / b < c / d) : a * d < c * b := by
  have h1 := Int.mul_ediv_add_emod a b
  have h2 := Int.emod_lt_of_pos a hb
  have h3 := Int.mul_ediv_add_emod c d
  have h4 := Int.emod_nonneg c (show d ≠ 0 by omega)
  generalize a / b = w at *
  generalize c / d = v at *
  generalize a % b = r at *
  generalize c % d = q at *
  have k1 : a ≤ b * (w + 1) - 1 := by grind
  have k2 : b * (w + 1) ≤ b * v := Int.mul_le_mul_of_nonneg_left (by omega) (by omega)
  have k3 : a * d ≤ (b * v - 1) * d := Int.mul_le_mul_of_nonneg_right (by omega) (by omega)
  have k4 : (d * v) * b ≤ c * b := Int.mul_le_mul_of_nonneg_right (by omega) (by omega)
  grind
theorem small_j {x : Int} (h0 : 0 ≤ x) (h : x < 140737488355328) : inJ x := by unfold inJ; omega
theorem emod_half {a b : Int} (hb : 0 < b) (h : b ≤ a) : 2 * (a % b) ≤ a := by
  have h1 := Int.mul_ediv_add_emod a b
  have h2 := Int.emod_lt_of_pos a hb
  have h3 : 1 ≤ a / b := by
    have := (Int.le_ediv_iff_mul_le hb (a := 1) (b := a)).mpr (by omega)
    exact this
  have h4 := Int.mul_le_mul_of_nonneg_left h3 (show 0 ≤ b by omega)
  omega
def K8c (x6 x7 : Int64) : Option Int32 :=
    if (lg_cmp x6 x7) = 0 then
      some (0 : Int32)
    else
      if (lg_cmp x7 (0 : Int64)) = 0 then
        some (-1 : Int32)
      else
        if (lg_cmp x6 (0 : Int64)) = 0 then
          some (1 : Int32)
        else
          some (0 : Int32)
def K14c (x12 x13 : Int64) : Option Int32 :=
    if 0 ≤ (lg_cmp x12 x13) then
      some (1 : Int32)
    else
      some (-1 : Int32)
theorem K14c_spec {a b c d : Int} (ha : inJ a) (hc : inJ c) (hb : 0 < b) (hd : 0 < d) (hb' : inJ (a / b)) (hd' : inJ (c / d)) (h : a / b ≠ c / d) : K14c (jI (a / b)) (jI (c / d)) = some (sg3 (a * d) (c * b)) := by
  unfold K14c sg3
  rcases Int.lt_or_gt_of_ne h with h | h
  · have := div_lt_mul hb hd h
    rw [if_neg (fun z => by have := (cmp_ge hb' hd').mp z; omega), if_pos this]
  · have := div_lt_mul hd hb h
    rw [if_pos ((cmp_ge hb' hd').mpr (by omega)), if_neg (by omega), if_neg (by omega)]
theorem K8c_spec {a b c d : Int} (hb : 0 ≤ b) (hd : 0 ≤ d) (ha : 0 < a) (hc : 0 < c) (hbj : inJ b) (hdj : inJ d) (h : b = 0 ∨ d = 0) : K8c (jI b) (jI d) = some (sg3 (a * d) (c * b)) := by
  unfold K8c sg3
  by_cases e : b = d
  · have b0 : b = 0 := by omega
    have d0 : d = 0 := by omega
    subst b0; subst d0
    rw [if_pos ((cmp_eq hbj hdj).mpr rfl)]; simp
  · rw [if_neg (fun z => e ((cmp_eq hbj hdj).mp z))]
    by_cases d0 : d = 0
    · subst d0
      have : 0 < c * b := Int.mul_pos hc (by omega)
      rw [if_pos ((cmp_eq0 hdj).mpr rfl), if_pos (by omega)]
    · have b0 : b = 0 := by omega
      subst b0
      have : 0 < a * d := Int.mul_pos ha (by omega)
      rw [if_neg (fun z => d0 ((cmp_eq0 hdj).mp z)), if_pos ((cmp_eq0 hbj).mpr rfl), if_neg (by omega), if_neg (by omega)]

theorem cmp_loop {K8 K14 : Int64 → Int64 → Option Int32} (hK8 : ∀ x y, K8 x y = K8c x y) (hK14 : ∀ x y, K14 x y = K14c x y) : ∀ (m n st : Nat) (a b c d : Int), 0 ≤ b → b < a → 0 ≤ d → d < c → a < 140737488355328 → c < 140737488355328 → a * c * (b * d) < 4 ^ m → st + m < 100 → 101 ≤ n + st →
    fSp_compare_L17 K8 K14 n (jI a) (jI b) (jI c) (jI d) (nI st) = some (sg3 (a * d) (c * b)) := by
  intro m
  induction m with
  | zero =>
    intro n st a b c d hb hba hd hdc ha hc hprod hst hn
    obtain ⟨n, rfl⟩ : ∃ k, n = k + 1 := ⟨n - 1, by omega⟩
    have hz : b = 0 ∨ d = 0 := by
      by_cases b0 : b = 0
      · exact Or.inl b0
      · refine Or.inr ?_
        by_cases d0 : d = 0
        · exact d0
        · exfalso
          have h1 := Int.mul_pos (show 0 < b by omega) (show 0 < d by omega)
          have h2 := Int.mul_pos (show 0 < a by omega) (show 0 < c by omega)
          have h3 := Int.mul_pos h2 h1
          simp at hprod
          omega
    have hbj := small_j hb (by omega)
    have hdj := small_j hd (by omega)
    unfold fSp_compare_L17
    simp only [hK8, hK14]
    rw [if_neg (show ¬ (100 : Int32) ≤ nI st from nI_ge (a := st) (b := 100) (by omega) (by omega))]
    have hk := K8c_spec hb hd (show 0 < a by omega) (show 0 < c by omega) hbj hdj hz
    by_cases b0 : b ≤ 0
    · rw [if_pos ((cmp_le0 hbj).mpr b0)]; exact hk
    · rw [if_neg (fun z => b0 ((cmp_le0 hbj).mp z)), if_pos ((cmp_le0 hdj).mpr (by omega))]; exact hk
  | succ m ih =>
    intro n st a b c d hb hba hd hdc ha hc hprod hst hn
    obtain ⟨n, rfl⟩ : ∃ k, n = k + 1 := ⟨n - 1, by omega⟩
    have haj := small_j (show 0 ≤ a by omega) ha
    have hcj := small_j (show 0 ≤ c by omega) hc
    have hbj := small_j hb (by omega)
    have hdj := small_j hd (by omega)
    unfold fSp_compare_L17
    simp only [hK8, hK14]
    rw [if_neg (show ¬ (100 : Int32) ≤ nI st from nI_ge (a := st) (b := 100) (by omega) (by omega))]
    by_cases b0 : b ≤ 0
    · rw [if_pos ((cmp_le0 hbj).mpr b0)]; exact K8c_spec hb hd (show 0 < a by omega) (show 0 < c by omega) hbj hdj (Or.inl (by omega))
    · rw [if_neg (fun z => b0 ((cmp_le0 hbj).mp z))]
      by_cases d0 : d ≤ 0
      · rw [if_pos ((cmp_le0 hdj).mpr d0)]; exact K8c_spec hb hd (show 0 < a by omega) (show 0 < c by omega) hbj hdj (Or.inr (by omega))
      · rw [if_neg (fun z => d0 ((cmp_le0 hdj).mp z)), db1_t (floor_spec haj hbj (by omega)), db1_t (floor_spec hcj hdj (by omega))]
        have q1 : inJ (a / b) := by
          have h1 := Int.ediv_nonneg (show 0 ≤ a by omega) (show 0 ≤ b by omega)
          have h2 := Int.ediv_le_self b (show 0 ≤ a by omega)
          exact small_j h1 (by omega)
        have q2 : inJ (c / d) := by
          have h1 := Int.ediv_nonneg (show 0 ≤ c by omega) (show 0 ≤ d by omega)
          have h2 := Int.ediv_le_self d (show 0 ≤ c by omega)
          exact small_j h1 (by omega)
        by_cases e : a / b = c / d
        · rw [if_pos ((cmp_eq q1 q2).mpr e), dlt_u, dlt_u, jI_mul, jI_sub, jI_mul, jI_sub, nI_1]
          have r1 : a - a / b * b = a % b := by have := Int.mul_ediv_add_emod a b; grind
          have r2 : c - c / d * d = c % d := by have := Int.mul_ediv_add_emod c d; grind
          rw [r1, r2]
          have b1 := Int.emod_nonneg a (show b ≠ 0 by omega)
          have b2 := Int.emod_lt_of_pos a (show 0 < b by omega)
          have b3 := Int.emod_nonneg c (show d ≠ 0 by omega)
          have b4 := Int.emod_lt_of_pos c (show 0 < d by omega)
          have e1 := emod_half (show 0 < b by omega) (show b ≤ a by omega)
          have e2 := emod_half (show 0 < d by omega) (show d ≤ c by omega)
          have hlt : d * b * (c % d * (a % b)) < 4 ^ m := by
            have k1 : (2 * (a % b)) * (2 * (c % d)) ≤ a * c := Int.mul_le_mul e1 e2 (by omega) (by omega)
            have k2 := Int.mul_le_mul_of_nonneg_right k1 (Int.mul_nonneg hb hd)
            have k3 : (4 : Int) ^ (m + 1) = 4 * 4 ^ m := by rw [Int.pow_succ]; grind
            rw [k3] at hprod
            generalize (4 : Int) ^ m = X at *
            grind
          rw [ih n (st + 1) d (c % d) b (a % b) b3 b4 b1 b2 (by omega) (by omega) hlt (by omega) (by omega)]
          congr 1
          have z : a * d - c * b = d * (a % b) - b * (c % d) := by
            have z1 := Int.mul_ediv_add_emod a b
            have z2 := Int.mul_ediv_add_emod c d
            rw [e] at z1
            generalize c / d = w at *
            generalize a % b = x at *
            generalize c % d = y at *
            rw [← z1, ← z2]
            grind
          unfold sg3
          by_cases l1 : a * d < c * b
          · rw [if_pos l1, if_pos (by omega)]
          · rw [if_neg l1, if_neg (by omega)]
            by_cases l2 : a * d = c * b
            · rw [if_pos l2, if_pos (by omega)]
            · rw [if_neg l2, if_neg (by omega)]
        · rw [if_neg (fun z => e ((cmp_eq q1 q2).mp z))]
          exact K14c_spec haj hcj (by omega) (by omega) q1 q2 e
theorem ediv_j {a b : Int} (ha : inJ a) (hb : 0 < b) : inJ (a / b) := by
  have h1 := Int.mul_ediv_add_emod a b
  have h2 := Int.emod_nonneg a (show b ≠ 0 by omega)
  have h3 := Int.emod_lt_of_pos a hb
  rcases Int.le_total 0 (a / b) with h | h
  · have := Int.mul_le_mul_of_nonneg_right (show 1 ≤ b by omega) h
    unfold inJ at *
    omega
  · by_cases hz : a / b = 0
    · rw [hz]; exact inJ0
    · have k : b * (a / b + 1) ≤ 1 * (a / b + 1) := by
        have := Int.mul_le_mul_of_nonpos_right (show 1 ≤ b by omega) (show a / b + 1 ≤ 0 by omega)
        exact this
      unfold inJ at *
      grind
/-- compare: the sign of a / b - c / d -/
theorem compare_loop {K8 K14 : Int64 → Int64 → Option Int32} (hK8 : ∀ x y, K8 x y = K8c x y) (hK14 : ∀ x y, K14 x y = K14c x y) {a b c d : Int} (ha : inJ a) (hc : inJ c) (hb : 0 < b) (hb' : b < 140737488355328) (hd : 0 < d) (hd' : d < 140737488355328) : fSp_compare_L17 K8 K14 FU (jI a) (jI b) (jI c) (jI d) (0 : Int32) = some (sg3 (a * d) (c * b)) := by
  have hbj := small_j (show 0 ≤ b by omega) hb'
  have hdj := small_j (show 0 ≤ d by omega) hd'
  obtain ⟨n, hF, hn⟩ := FU_s
  rw [hF, show (0 : Int32) = nI 0 from rfl]
  unfold fSp_compare_L17
  simp only [hK8, hK14]
  rw [if_neg (show ¬ (100 : Int32) ≤ nI 0 from nI_ge (a := 0) (b := 100) (by omega) (by omega)), if_neg (fun z => by have := (cmp_le0 hbj).mp z; omega), if_neg (fun z => by have := (cmp_le0 hdj).mp z; omega), db1_t (floor_spec ha hbj hb), db1_t (floor_spec hc hdj hd)]
  have q1 := ediv_j ha hb
  have q2 := ediv_j hc hd
  by_cases e : a / b = c / d
  · rw [if_pos ((cmp_eq q1 q2).mpr e), dlt_u, dlt_u, jI_mul, jI_sub, jI_mul, jI_sub, nI_1]
    have r1 : a - a / b * b = a % b := by have := Int.mul_ediv_add_emod a b; grind
    have r2 : c - c / d * d = c % d := by have := Int.mul_ediv_add_emod c d; grind
    rw [r1, r2]
    have b1 := Int.emod_nonneg a (show b ≠ 0 by omega)
    have b2 := Int.emod_lt_of_pos a hb
    have b3 := Int.emod_nonneg c (show d ≠ 0 by omega)
    have b4 := Int.emod_lt_of_pos c hd
    have hlt : d * b * (c % d * (a % b)) < 4 ^ 94 := by
      have k1 : d * b ≤ 140737488355327 * 140737488355327 := Int.mul_le_mul (by omega) (by omega) (by omega) (by omega)
      have k2 : c % d * (a % b) ≤ 140737488355327 * 140737488355327 := Int.mul_le_mul (by omega) (by omega) (by omega) (by omega)
      have k3 : d * b * (c % d * (a % b)) ≤ (140737488355327 * 140737488355327) * (140737488355327 * 140737488355327) := Int.mul_le_mul k1 k2 (Int.mul_nonneg b3 b1) (by decide)
      have k4 : ((140737488355327 : Int) * 140737488355327) * (140737488355327 * 140737488355327) < 4 ^ 94 := by simp
      omega
    rw [cmp_loop hK8 hK14 94 n (0 + 1) d (c % d) b (a % b) b3 b4 b1 b2 hd' hb' hlt (by omega) (by omega)]
    congr 1
    have z : a * d - c * b = d * (a % b) - b * (c % d) := by
      have z1 := Int.mul_ediv_add_emod a b
      have z2 := Int.mul_ediv_add_emod c d
      rw [e] at z1
      generalize c / d = w at *
      generalize a % b = x at *
      generalize c % d = y at *
      rw [← z1, ← z2]
      grind
    unfold sg3
    by_cases l1 : a * d < c * b
    · rw [if_pos l1, if_pos (by omega)]
    · rw [if_neg l1, if_neg (by omega)]
      by_cases l2 : a * d = c * b
      · rw [if_pos l2, if_pos (by omega)]
      · rw [if_neg l2, if_neg (by omega)]
  · rw [if_neg (fun z => e ((cmp_eq q1 q2).mp z))]
    exact K14c_spec ha hc hb hd q1 q2 e
theorem compare_spec {a b c d : Int} (ha : inJ a) (hc : inJ c) (hb : 0 < b) (hb' : b < 140737488355328) (hd : 0 < d) (hd' : d < 140737488355328) : fSp_compare (jI a) (jI b) (jI c) (jI d) = some (sg3 (a * d) (c * b)) := by
  unfold fSp_compare
  rw [dlt_u, dlt_u]
  exact compare_loop (fun _ _ => rfl) (fun _ _ => rfl) ha hc hb hb' hd hd'
