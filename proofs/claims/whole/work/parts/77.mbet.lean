/-! the model's between and chooses -/
def bk (P : Nat → Int) (i : Nat) : Nat → Int × Int → Int × Int
  | 0, z => z
  | c + 1, z => bk P i c (P (i + c) * z.1 + z.2, z.1)
theorem bk_last (P : Nat → Int) (i : Nat) : ∀ (c : Nat) (z : Int × Int), bk P i (c + 1) z = (P i * (bk P (i + 1) c z).1 + (bk P (i + 1) c z).2, (bk P (i + 1) c z).1)
  | 0, z => rfl
  | c + 1, z => by
    rw [bk, bk_last P i c, bk, show i + 1 + c = i + (c + 1) by omega]
def Pm (τ : sT) (j : Nat) : Int := (τ.2 39 j).toInt
theorem Pm_j (τ : sT) (j : Nat) : τ.2 39 j = jI (Pm τ j) := (Int64.ofInt_toInt _).symm
theorem bet_st {τ : sT} {K : Int32 → sT → Option sT} {n i : Nat} {a b c d : Int} (h : gd a b c d) (hi : i < 99) (hc : c < 4611686018427387904) (hd : d < 4611686018427387904) (ha : a < 4611686018427387904) (hb : b < 4611686018427387904) (hP : τ.2 39 i = jI (a / b)) :
    fMM_betweenJ_L29 K (n + 1) (jI a) (jI b) (jI c) (jI d) (nI i) τ = if (a / b + 1) * d < c then K (nI i) τ else fMM_betweenJ_L29 K n (jI d) (jI (c - a / b * d)) (jI b) (jI (a % b)) (nI (i + 1)) (sjW τ 39 (i + 1) (jI (d / (c - a / b * d)))) := by
  obtain ⟨w0, w1, w2⟩ := gd_w h
  have q0 : (a / b + 1) * d = a / b * d + d := by grind
  have q1 := Int.mul_nonneg w0 h.2.2.2.1
  conv => lhs; unfold fMM_betweenJ_L29
  by_cases d0 : d = 0
  · obtain ⟨h1, h2, h3, h4, h5⟩ := h
    rw [if_pos ((cmp_eq0 (by unfold inJ; omega)).mpr d0), if_pos (by omega)]
  · have h' := h
    obtain ⟨h1, h2, h3, h4, h5⟩ := h
    rw [if_neg (fun z => d0 ((cmp_eq0 (by unfold inJ; omega)).mp z)), dck_t (okI_n (by omega) (by omega)), nc (by omega), hP, j1, jI_add, jI_mul]
    by_cases he : (a / b + 1) * d < c
    · rw [if_pos ((cmp_lt (by unfold inJ; omega) (by unfold inJ; omega)).mpr he), if_pos he]
    · obtain ⟨g1, g2, g3⟩ := gd_step h' he
      obtain ⟨y1, y2, y3, y4, y5⟩ := g1
      rw [if_neg (fun z => he ((cmp_lt (by unfold inJ; omega) (by unfold inJ; omega)).mp z)), if_neg he, dck_t (okI_n (by omega) (by omega))]
      simp only [dlt_u, jI_mul, jI_sub, nI_1]
      rw [dck_t (okI_n (by omega) (by omega)), dck_t (okE_j y2 (by omega)), dck_t (okI_n (by omega) (by omega)), nc (by omega), jI_div (by unfold inJ; omega) (by unfold inJ; omega), Int.tdiv_eq_ediv_of_nonneg h4, Int.emod_def, Int.mul_comm b]
theorem bet_loop : ∀ (m n i : Nat) (a b c d : Int) (τ : sT), gd a b c d → b ≤ a → a * d < 2 ^ m → i + m < 98 → m < n → a < 4611686018427387904 → b < 4611686018427387904 → c < 4611686018427387904 → d < 4611686018427387904 → τ.2 39 i = jI (a / b) →
    ∃ (τ1 : sT) (N : Nat), (∀ K : Int32 → sT → Option sT, fMM_betweenJ_L29 K n (jI a) (jI b) (jI c) (jI d) (nI i) τ = K (nI N) τ1) ∧ i ≤ N ∧ N < 99 ∧ (∀ j, j ≤ i → τ1.2 39 j = τ.2 39 j) ∧ bk (Pm τ1) i (N - i) (Pm τ1 N + 1, 1) = sF (m + 1) a b c d ∧ mOff [39] [] τ τ1 := by
  have pm : ∀ (τ1 τ : sT) (i : Nat) (w : Int), inJ w → τ1.2 39 i = τ.2 39 i → τ.2 39 i = jI w → Pm τ1 i = w := by
    intro τ1 τ i w hw h1 h2
    unfold Pm; rw [h1, h2, jI_to hw]
  intro m
  induction m with
  | zero =>
    intro n i a b c d τ h hb hm hs hn a1 b1 c1 d1 hP
    obtain ⟨n', rfl⟩ : ∃ n', n = n' + 1 := ⟨n - 1, by omega⟩
    obtain ⟨w0, w1, w2⟩ := gd_w h
    have hd : d = 0 := by
      obtain ⟨h1, h2, h3, h4, h5⟩ := h
      apply Decidable.byContradiction
      intro hne
      have := Int.mul_le_mul (show 1 ≤ a by omega) (show 1 ≤ d by omega) (by omega) (by omega)
      omega
    have he : (a / b + 1) * d < c := by rw [hd, Int.mul_zero]; exact h.2.2.1
    refine ⟨τ, i, fun K => by rw [bet_st h (by omega) c1 d1 a1 b1 hP, if_pos he], Nat.le_refl i, by omega, fun _ _ => rfl, ?_, mOff.refl _ _ _⟩
    rw [Nat.sub_self, bk, sF, if_pos he, pm τ τ i (a / b) (by unfold inJ; omega) rfl hP]
  | succ m ih =>
    intro n i a b c d τ h hb hm hs hn a1 b1 c1 d1 hP
    obtain ⟨n', rfl⟩ : ∃ n', n = n' + 1 := ⟨n - 1, by omega⟩
    obtain ⟨w0, w1, w2⟩ := gd_w h
    by_cases he : (a / b + 1) * d < c
    · refine ⟨τ, i, fun K => by rw [bet_st h (by omega) c1 d1 a1 b1 hP, if_pos he], Nat.le_refl i, by omega, fun _ _ => rfl, ?_, mOff.refl _ _ _⟩
      rw [Nat.sub_self, bk, sF, if_pos he, pm τ τ i (a / b) (by unfold inJ; omega) rfl hP]
    · obtain ⟨g1, g2, g3⟩ := gd_step h he
      have h2 := h.2.1
      have h4 := h.2.2.2.1
      have r3 := emod_half h2 hb
      have r4 := Int.emod_lt_of_pos a h2
      have hm2 : d * (a % b) < 2 ^ m := by
        have q1 := Int.mul_le_mul_of_nonneg_left r3 h4
        have q2 : d * (2 * (a % b)) = 2 * (d * (a % b)) := by grind
        have q3 : d * a = a * d := Int.mul_comm _ _
        have q4 : (2 : Int) ^ (m + 1) = 2 * 2 ^ m := by rw [Int.pow_succ]; omega
        omega
      obtain ⟨τ1, N, e1, e2, e3, e4, e5, e6⟩ := ih n' (i + 1) d (c - a / b * d) b (a % b) (sjW τ 39 (i + 1) (jI (d / (c - a / b * d)))) g1 g2 hm2 (by omega) (by omega) d1 (by omega) b1 (by omega) (by rw [sjW_s, if_pos rfl])
      have e4' : ∀ j, j ≤ i → τ1.2 39 j = τ.2 39 j := fun j hj => by rw [e4 j (by omega), sjW_s, if_neg (by omega)]
      refine ⟨τ1, N, fun K => by rw [bet_st h (by omega) c1 d1 a1 b1 hP, if_neg he]; exact e1 K, by omega, e3, e4', ?_, (mOff_cj (by simp) (by decide)).trans e6⟩
      rw [show N - i = (N - (i + 1)) + 1 by omega, bk_last, e5, pm τ1 τ i (a / b) (by unfold inJ; omega) (e4' i (Nat.le_refl i)) hP]
      conv => rhs; rw [sF, if_neg he]
theorem back_loop : ∀ (c f : Nat) (τ : sT) (z : Int × Int), c < 100 → c < f → τ.2 33 15 = jI z.1 → τ.2 33 16 = jI z.2 →
    ∃ τ1, fMM_betweenJ_L146 f (cI c) τ = some τ1 ∧ τ1.2 33 15 = jI (bk (Pm τ) 0 c z).1 ∧ τ1.2 33 16 = jI (bk (Pm τ) 0 c z).2 ∧ mOff [] [15, 16] τ τ1 := by
  intro c
  induction c with
  | zero =>
    intro f τ z h1 h2 hx hy
    obtain ⟨f', rfl⟩ : ∃ f', f = f' + 1 := ⟨f - 1, by omega⟩
    unfold fMM_betweenJ_L146
    rw [if_pos (by decide)]
    exact ⟨τ, rfl, hx, hy, mOff.refl _ _ _⟩
  | succ c ih =>
    intro f τ z h1 h2 hx hy
    obtain ⟨f', rfl⟩ : ∃ f', f = f' + 1 := ⟨f - 1, by omega⟩
    unfold fMM_betweenJ_L146
    rw [cI_s, if_neg (nI_pos (by omega)), dlt_u, dck_t (okI_n (by omega) (by omega)), nc (by omega), hx, hy, Pm_j τ c, jI_mul, jI_add, dlt_u, dlt_u, cI_m]
    have hp : Pm (sjW (sjW τ 33 15 (jI (Pm τ c * z.1 + z.2))) 33 16 (jI z.1)) = Pm τ := by
      funext j; unfold Pm; rw [sjW_n (by decide), sjW_n (by decide)]
    obtain ⟨τ1, e1, e2, e3, e4⟩ := ih f' (sjW (sjW τ 33 15 (jI (Pm τ c * z.1 + z.2))) 33 16 (jI z.1)) (Pm τ c * z.1 + z.2, z.1) (by omega) (by omega) (by rw [sjW_s, if_neg (by decide), sjW_s, if_pos rfl]) (by rw [sjW_s, if_pos rfl])
    rw [hp] at e2 e3
    rw [bk, Nat.zero_add]
    exact ⟨τ1, e1, e2, e3, ((mOff_sj (by simp)).trans (mOff_sj (by simp))).trans e4⟩
theorem sF96 {a b c d : Int} (he : ¬ (a / b + 1) * d < c) : sF 96 a b c d = (a / b * (sF (94 + 1) d (c - a / b * d) b (a % b)).1 + (sF (94 + 1) d (c - a / b * d) b (a % b)).2, (sF (94 + 1) d (c - a / b * d) b (a % b)).1) := by
  rw [show (96 : Nat) = (94 + 1) + 1 from rfl, sF, if_neg he]
theorem between_spec {a b c d : Int} (h : gd a b c d) (hb : b < 70368744177664) (hd : d < 70368744177664) (ha : a < 2305843009213693952) (hc : c < 2305843009213693952) (τ : sT) :
    ∃ τ1, fMM_betweenJ (jI a) (jI b) (jI c) (jI d) τ = some τ1 ∧ τ1.2 33 15 = jI (sF 96 a b c d).1 ∧ τ1.2 33 16 = jI (sF 96 a b c d).2 ∧ mOff [39] [15, 16] τ τ1 := by
  have hbd : b * d < 2 ^ 94 := by
    have q1 := Int.mul_le_mul (show b ≤ 70368744177664 by omega) (show d ≤ 70368744177664 by omega) h.2.2.2.1 (by omega)
    have : (70368744177664 : Int) * 70368744177664 < 2 ^ 94 := by decide
    omega
  obtain ⟨w0, w1, w2⟩ := gd_w h
  have h2 := h.2.1
  have h1 := h.1
  obtain ⟨τ0, ht0⟩ : ∃ z, z = sjW τ 39 0 (jI (a / b)) := ⟨_, rfl⟩
  have hP0 : τ0.2 39 0 = jI (a / b) := by rw [ht0, sjW_s, if_pos rfl]
  have o0 : mOff [39] [15, 16] τ τ0 := by rw [ht0]; exact mOff_cj (by simp) (by decide)
  -- the way forward
  have fw : ∃ (τ1 : sT) (N : Nat), (∀ K : Int32 → sT → Option sT, fMM_betweenJ_L29 K FU (jI a) (jI b) (jI c) (jI d) (nI 0) τ0 = K (nI N) τ1) ∧ N < 99 ∧ bk (Pm τ1) 0 N (Pm τ1 N + 1, 1) = sF 96 a b c d ∧ mOff [39] [] τ0 τ1 := by
    obtain ⟨N0, hN, hN9⟩ := FU_s
    rw [hN]
    by_cases he : (a / b + 1) * d < c
    · refine ⟨τ0, 0, fun K => by rw [bet_st h (by omega) (by omega) (by omega) (by omega) (by omega) hP0, if_pos he], by omega, ?_, mOff.refl _ _ _⟩
      rw [bk, sF, if_pos he]
      unfold Pm; rw [hP0, jI_to (by unfold inJ; omega)]
    · obtain ⟨g1, g2, g3⟩ := gd_step h he
      have h4 := h.2.2.2.1
      have r4 := Int.emod_lt_of_pos a h2
      have hm2 : d * (a % b) < 2 ^ 94 := by
        have q1 := Int.mul_le_mul_of_nonneg_left (show a % b ≤ b by omega) h4
        have q3 : d * b = b * d := Int.mul_comm _ _
        omega
      obtain ⟨τ1, N, e1, e2, e3, e4, e5, e6⟩ := bet_loop 94 N0 (0 + 1) d (c - a / b * d) b (a % b) (sjW τ0 39 (0 + 1) (jI (d / (c - a / b * d)))) g1 g2 hm2 (by omega) (by omega) (by omega) (by omega) (by omega) (by omega) (by rw [sjW_s, if_pos rfl])
      refine ⟨τ1, N, fun K => by rw [bet_st h (by omega) (by omega) (by omega) (by omega) (by omega) hP0, if_neg he]; exact e1 K, e3, ?_, (mOff_cj (by simp) (by decide)).trans e6⟩
      have hp : Pm τ1 0 = a / b := by
        unfold Pm; rw [e4 0 (by omega), sjW_s, if_neg (by omega), hP0, jI_to (by unfold inJ; omega)]
      obtain ⟨N', rfl⟩ : ∃ N', N = N' + 1 := ⟨N - 1, by omega⟩
      rw [bk_last, hp]
      rw [show N' + 1 - (0 + 1) = N' by omega] at e5
      rw [e5, sF96 he]
  obtain ⟨τ1, N, e1, e2, e3, e4⟩ := fw
  rw [nI_0] at e1
  obtain ⟨τ2, ht2⟩ : ∃ z, z = sjW (sjW τ1 33 15 (jI (Pm τ1 N + 1))) 33 16 (jI 1) := ⟨_, rfl⟩
  have hp : Pm τ2 = Pm τ1 := by
    funext j; unfold Pm; rw [ht2, sjW_n (by decide), sjW_n (by decide)]
  obtain ⟨τ3, f1, f2, f3, f4⟩ := back_loop N FU τ2 (Pm τ1 N + 1, 1) (by omega) (by unfold FU; omega) (by rw [ht2, sjW_s, if_neg (by decide), sjW_s, if_pos rfl]) (by rw [ht2, sjW_s, if_pos rfl])
  rw [hp, e3] at f2 f3
  have hc1 : nI N - (1 : Int32) = cI N := by
    unfold cI; rw [nI_iI, show (1 : Int32) = iI 1 from rfl, iI_sub]
  refine ⟨τ3, ?_, f2, f3, ?_⟩
  · obtain ⟨G, hG⟩ : ∃ G, FU = G := ⟨_, rfl⟩
    rw [hG] at e1 f1
    unfold fMM_betweenJ
    rw [hG, dck_t (okE_j h2 (by omega)), dck_t (by decide), show (0 : Int32).toNatClampNeg = 0 from rfl, jI_div (by unfold inJ; omega) (by unfold inJ; omega), Int.tdiv_eq_ediv_of_nonneg h1]
    simp only [dlt_u]
    rw [← ht0, e1, dck_t (okI_n (by omega) (by omega)), nc (by omega), Pm_j τ1 N, j1, jI_add, hc1, ← ht2, f1]
  · have o2 : mOff [39] [15, 16] τ1 τ2 := by rw [ht2]; exact (mOff_sj (by simp)).trans (mOff_sj (by simp))
    exact ((o0.trans (e4.mono (by simp) (by simp))).trans o2).trans (f4.mono (by simp) (by simp))
