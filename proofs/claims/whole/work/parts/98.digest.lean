/-! digest -/
def hF (v : Nat → Int64) : Nat → Nat → Int64 → Int64
  | 0, _, x => x
  | c + 1, k, x => hF v c (k + 1) ((31 : Int64) * x + v k)
theorem hF_add (v : Nat → Int64) : ∀ (a b k : Nat) (x : Int64), hF v (a + b) k x = hF v b (k + a) (hF v a k x)
  | 0, b, k, x => by rw [Nat.zero_add]; rfl
  | a + 1, b, k, x => by
    rw [show a + 1 + b = (a + b) + 1 by omega, hF, hF, hF_add v a b (k + 1), show k + 1 + a = k + (a + 1) by omega]
theorem hF_congr {v w : Nat → Int64} : ∀ (c k : Nat) (x : Int64), (∀ j, k ≤ j → j < k + c → v j = w j) → hF v c k x = hF w c k x
  | 0, _, _, _ => rfl
  | c + 1, k, x, h => by
    rw [hF, hF, h k (by omega) (by omega)]
    exact hF_congr c (k + 1) _ (fun j h1 h2 => h j (by omega) (by omega))
/-- the counts -/
theorem dg6_C {σ : sT} {v : Nat → Int32} (hv : ∀ k, k ≤ 5 → fRM_countOf (nI k) σ = some (v k)) : ∀ (c k f : Nat) (x : Int64), k + c = 6 → c < f → ∀ K : Int64 → Option (Int64 × sT), fRM_digest_L6 σ K f x (nI k) = K (hF (fun j => (v j).toInt64) c k x) := by
  intro c
  induction c with
  | zero =>
    intro k f x h1 h2 K
    obtain ⟨f', rfl⟩ : ∃ f', f = f' + 1 := ⟨f - 1, by omega⟩
    unfold fRM_digest_L6
    rw [show (5 : Int32) = nI 5 from rfl, if_pos (nI_lt (by omega) (by omega))]; rfl
  | succ c ih =>
    intro k f x h1 h2 K
    obtain ⟨f', rfl⟩ : ∃ f', f = f' + 1 := ⟨f - 1, by omega⟩
    unfold fRM_digest_L6
    rw [show (5 : Int32) = nI 5 from rfl, if_neg (nI_nlt (by omega) (by omega)), db1_t (hv k (by omega)), dlt_u, nI_1, hF]
    exact ih (k + 1) f' _ (by omega) (by omega) K
theorem dg6_M {τ : sT} {v : Nat → Int32} (hv : ∀ k, k ≤ 5 → fMM_toldOf (nI k) τ = some (v k)) : ∀ (c k f : Nat) (x : Int64), k + c = 6 → c < f → ∀ K : Int64 → Option (Int64 × sT), fMM_digest_L6 τ K f x (nI k) = K (hF (fun j => (v j).toInt64) c k x) := by
  intro c
  induction c with
  | zero =>
    intro k f x h1 h2 K
    obtain ⟨f', rfl⟩ : ∃ f', f = f' + 1 := ⟨f - 1, by omega⟩
    unfold fMM_digest_L6
    rw [show (6 : Int32) = nI 6 from rfl, if_pos (nI_le (by omega) (by omega))]; rfl
  | succ c ih =>
    intro k f x h1 h2 K
    obtain ⟨f', rfl⟩ : ∃ f', f = f' + 1 := ⟨f - 1, by omega⟩
    unfold fMM_digest_L6
    rw [show (6 : Int32) = nI 6 from rfl, if_neg (nI_ge (by omega) (by omega)), db1_t (hv k (by omega)), dlt_u, nI_1, hF]
    exact ih (k + 1) f' _ (by omega) (by omega) K
/-- the rows -/
def gv (g : gT) : Nat → Int64 := fun k => (iI (g (k / 6) (k % 6))).toInt64
theorem dg46_C {n : Nat} {g : gT} (ok : BkOk n g) {σ : sT} (hB : BkC σ n g) {i : Nat} (hi : i < n) : ∀ (c w f : Nat) (x : Int64), w + c = 6 → c < f → ∀ K : Int64 → Option (Int64 × sT), fRM_digest_L46 σ (nI i) K f x (nI w) = K (hF (gv g) c (6 * i + w) x) := by
  intro c
  induction c with
  | zero =>
    intro w f x h1 h2 K
    obtain ⟨f', rfl⟩ : ∃ f', f = f' + 1 := ⟨f - 1, by omega⟩
    unfold fRM_digest_L46
    rw [show (6 : Int32) = nI 6 from rfl, if_pos (nI_le (by omega) (by omega))]; rfl
  | succ c ih =>
    intro w f x h1 h2 K
    obtain ⟨f', rfl⟩ : ∃ f', f = f' + 1 := ⟨f - 1, by omega⟩
    unfold fRM_digest_L46
    rw [show (6 : Int32) = nI 6 from rfl, if_neg (nI_ge (by omega) (by omega)), db1_t (get_spec hB ok.1 hi (by omega)), dlt_u, nI_1, hF]
    have e : gv g (6 * i + w) = (iI (g i w)).toInt64 := by
      unfold gv; rw [show (6 * i + w) / 6 = i by omega, show (6 * i + w) % 6 = w by omega]
    rw [e]
    exact ih (w + 1) f' _ (by omega) (by omega) K
theorem dg32_C {n : Nat} {g : gT} (ok : BkOk n g) {σ : sT} (hB : BkC σ n g) : ∀ (c i f : Nat) (x : Int64), i + c = n → c < f → ∀ K : Int64 → Option (Int64 × sT), fRM_digest_L32 σ K f x (nI i) = K (hF (gv g) (6 * c) (6 * i) x) := by
  have hn := ok.1
  intro c
  induction c with
  | zero =>
    intro i f x h1 h2 K
    obtain ⟨f', rfl⟩ : ∃ f', f = f' + 1 := ⟨f - 1, by omega⟩
    unfold fRM_digest_L32
    rw [hB.1, if_pos (nI_le (by omega) (by omega))]; rfl
  | succ c ih =>
    intro i f x h1 h2 K
    obtain ⟨f', rfl⟩ : ∃ f', f = f' + 1 := ⟨f - 1, by omega⟩
    have h46 := dg46_C ok hB (show i < n by omega) 6 0 FU x (by omega) (by unfold FU; omega)
    rw [nI_0] at h46
    obtain ⟨A, hA⟩ : ∃ A, FU = A := ⟨_, rfl⟩
    rw [hA] at h46
    unfold fRM_digest_L32
    rw [hA, hB.1, if_neg (nI_ge (by omega) (by omega)), dlt_u, h46, nI_1, show 6 * (c + 1) = 6 + 6 * c by omega, hF_add, show 6 * i + 0 = 6 * i by omega]
    exact ih (i + 1) f' _ (by omega) (by omega) K
theorem dg33_M {n : Nat} {g : gT} (ok : BkOk n g) {τ : sT} (hB : BkM τ n g) : ∀ (c k f : Nat) (x : Int64), k + c = 6 * n → c < f → ∀ K : Int64 → Option (Int64 × sT), fMM_digest_L33 τ K f x (nI k) = K (hF (gv g) c k x) := by
  have hn := ok.1
  intro c
  induction c with
  | zero =>
    intro k f x h1 h2 K
    obtain ⟨f', rfl⟩ : ∃ f', f = f' + 1 := ⟨f - 1, by omega⟩
    unfold fMM_digest_L33
    rw [dck_t (by decide), show (0 : Int32).toNatClampNeg = 0 from rfl, hB.1, n6', if_pos (nI_le (by omega) (by omega))]; rfl
  | succ c ih =>
    intro k f x h1 h2 K
    obtain ⟨f', rfl⟩ : ∃ f', f = f' + 1 := ⟨f - 1, by omega⟩
    unfold fMM_digest_L33
    rw [dck_t (by decide), show (0 : Int32).toNatClampNeg = 0 from rfl, hB.1, n6', if_neg (nI_ge (by omega) (by omega)), show (6 : Int32) = nI 6 from rfl, pk_rem (by omega) (by omega) (by omega), pk_div (by omega) (by omega) (by omega), db1_t (at_spec hB hn (show k / 6 < n by omega) (by omega)), dlt_u, nI_1, hF]
    exact ih (k + 1) f' _ (by omega) (by omega) K
/-- the solution -/
def pvX (X : Nat → Rat) : Nat → Int64 := fun k => if k % 2 = 0 then jI (nmX X (k / 2)) else jI (dnX X (k / 2))
theorem dgS_C {σ : sT} {X : Nat → Rat} (h : ∀ u, u ≤ 2 → σ.2 18 u = jI (nmX X u) ∧ σ.2 19 u = jI (dnX X u)) : ∀ (c k f : Nat) (x : Int64), k + c = 3 → c < f → fRM_digestSolution_L5 σ f x (nI k) = some (hF (pvX X) (2 * c) (2 * k) x) := by
  intro c
  induction c with
  | zero =>
    intro k f x h1 h2
    obtain ⟨f', rfl⟩ : ∃ f', f = f' + 1 := ⟨f - 1, by omega⟩
    unfold fRM_digestSolution_L5
    rw [show (3 : Int32) = nI 3 from rfl, if_pos (nI_le (by omega) (by omega))]; rfl
  | succ c ih =>
    intro k f x h1 h2
    obtain ⟨f', rfl⟩ : ∃ f', f = f' + 1 := ⟨f - 1, by omega⟩
    obtain ⟨y1, y2⟩ := h k (by omega)
    unfold fRM_digestSolution_L5
    rw [show (3 : Int32) = nI 3 from rfl, if_neg (nI_ge (by omega) (by omega)), dck_t (okI_n (by omega) (by omega)), nc (by omega), y1, dlt_u, dck_t (okI_n (by omega) (by omega)), y2, dlt_u, nI_1, show 2 * (c + 1) = 2 * c + 1 + 1 by omega, hF, hF]
    have e1 : pvX X (2 * k) = jI (nmX X k) := by unfold pvX; rw [if_pos (by omega), show 2 * k / 2 = k by omega]
    have e2 : pvX X (2 * k + 1) = jI (dnX X k) := by unfold pvX; rw [if_neg (by omega), show (2 * k + 1) / 2 = k by omega]
    rw [e1, e2]
    exact ih (k + 1) f' _ (by omega) (by omega)
theorem dgS_M {τ : sT} {X : Nat → Rat} (h : ∀ k, k < 3 → τ.2 40 (2 * k) = jI (nmX X k) ∧ τ.2 40 (2 * k + 1) = jI (dnX X k)) : ∀ (c k f : Nat) (x : Int64), k + c = 6 → c < f → fMM_digest_L129 τ f x (nI k) = some (hF (pvX X) c k x, τ) := by
  intro c
  induction c with
  | zero =>
    intro k f x h1 h2
    obtain ⟨f', rfl⟩ : ∃ f', f = f' + 1 := ⟨f - 1, by omega⟩
    unfold fMM_digest_L129
    rw [show (6 : Int32) = nI 6 from rfl, if_pos (nI_le (by omega) (by omega))]; rfl
  | succ c ih =>
    intro k f x h1 h2
    obtain ⟨f', rfl⟩ : ∃ f', f = f' + 1 := ⟨f - 1, by omega⟩
    have e : τ.2 40 k = pvX X k := by
      obtain ⟨y1, y2⟩ := h (k / 2) (by omega)
      unfold pvX
      by_cases z : k % 2 = 0
      · rw [if_pos z]
        rw [show 2 * (k / 2) = k by omega] at y1; exact y1
      · rw [if_neg z]
        rw [show 2 * (k / 2) + 1 = k by omega] at y2; exact y2
    unfold fMM_digest_L129
    rw [show (6 : Int32) = nI 6 from rfl, if_neg (nI_ge (by omega) (by omega)), dck_t (okI_n (by omega) (by omega)), nc (by omega), e, dlt_u, nI_1, hF]
    exact ih (k + 1) f' _ (by omega) (by omega)
/-- the multipliers -/
theorem dgW_C {n : Nat} (hn : n ≤ 12) {σ : sT} (h20 : σ.1 1 3 = nI n) {r : Nat → Int} (hr : ∀ i, i < n → fWt_weightOf (nI i) σ = some (iI (r i))) : ∀ (c i f : Nat) (x : Int64), i + c = n → c < f → fRM_digestWeights_L5 σ f x (nI i) = some (hF (fun j => (iI (r j)).toInt64) c i x) := by
  intro c
  induction c with
  | zero =>
    intro i f x h1 h2
    obtain ⟨f', rfl⟩ : ∃ f', f = f' + 1 := ⟨f - 1, by omega⟩
    unfold fRM_digestWeights_L5
    rw [h20, if_pos (nI_le (by omega) (by omega))]; rfl
  | succ c ih =>
    intro i f x h1 h2
    obtain ⟨f', rfl⟩ : ∃ f', f = f' + 1 := ⟨f - 1, by omega⟩
    unfold fRM_digestWeights_L5
    rw [h20, if_neg (nI_ge (by omega) (by omega)), db1_t (hr i (by omega)), dlt_u, nI_1, hF]
    exact ih (i + 1) f' _ (by omega) (by omega)
theorem dgW_M {n C : Nat} {g : gT} (ok : BkOk n g) (hC : C < 2 ^ n) (hc : isCore g C) {V : Nat → Int} (hV : isWt g (idxL C 12 0).length (xL (idxL C 12 0)) V) {r : Nat → Int} (hr : ∀ i, i < n → isT (idxL C 12 0).length (xL (idxL C 12 0)) V i (r i)) : ∀ (c i f : Nat) (x : Int64) (τ : sT), i + c = n → c < f → BkM τ n g → ∃ τ1, fMM_digest_L181 (nI C) f x (nI i) τ = some (hF (fun j => (iI (r j)).toInt64) c i x, τ1) ∧ mOff [41, 42] [20] τ τ1 := by
  have hn := ok.1
  have hm := mbr_of ok hC hc
  intro c
  induction c with
  | zero =>
    intro i f x τ h1 h2 hB
    obtain ⟨f', rfl⟩ : ∃ f', f = f' + 1 := ⟨f - 1, by omega⟩
    unfold fMM_digest_L181
    rw [dck_t (by decide), show (0 : Int32).toNatClampNeg = 0 from rfl, hB.1, if_pos (nI_le (by omega) (by omega))]
    exact ⟨τ, rfl, mOff.refl _ _ _⟩
  | succ c ih =>
    intro i f x τ h1 h2 hB
    obtain ⟨f', rfl⟩ : ∃ f', f = f' + 1 := ⟨f - 1, by omega⟩
    obtain ⟨τ1, V', r', e1, e2, e3, e4⟩ := tof_spec ok hC hc (show i < 12 by omega) hB
    have hrr := isT_one hm (isWt_one ok hC hc hm hV e2) (hr i (by omega)) e3
    rw [← hrr] at e1
    obtain ⟨τ2, f1, f2⟩ := ih (i + 1) f' ((31 : Int64) * x + (iI (r i)).toInt64) τ1 (by omega) (by omega) (hB.of e4 (by decide))
    refine ⟨τ2, ?_, e4.trans f2⟩
    unfold fMM_digest_L181
    rw [dck_t (by decide), show (0 : Int32).toNatClampNeg = 0 from rfl, hB.1, if_neg (nI_ge (by omega) (by omega)), db2_t e1, dlt_u, nI_1, hF]
    exact f1
theorem do_digest : op_digest Inv := by
  intro σ τ hI _
  obtain ⟨n, g, U, T, h⟩ := id hI
  obtain ⟨ok, hC, hM, -⟩ := id h
  have hn := ok.1
  have hm := every_lt n
  -- counts and rows
  obtain ⟨v, hv⟩ := Classical.axiomOfChoice (r := fun (k : Nat) (x : Int32) => k ≤ 5 → fRM_countOf (nI k) σ = some x ∧ fMM_toldOf (nI k) τ = some x) (fun k => by
    by_cases hk : k ≤ 5
    · obtain ⟨x, a, b⟩ := told_same h hk
      exact ⟨x, fun _ => ⟨a, b⟩⟩
    · exact ⟨0, fun z => absurd z hk⟩)
  have c6 := dg6_C (σ := σ) (v := v) (fun k hk => (hv k hk).1) 6 0 FU (2341 : Int64) (by omega) (by unfold FU; omega)
  have m6 := dg6_M (τ := τ) (v := v) (fun k hk => (hv k hk).2) 6 0 FU (2341 : Int64) (by omega) (by unfold FU; omega)
  obtain ⟨x3, hx3⟩ : ∃ x3, x3 = hF (fun j => (v j).toInt64) 6 0 (2341 : Int64) := ⟨_, rfl⟩
  rw [← hx3] at c6 m6
  have c32 := dg32_C ok hC n 0 FU x3 (by omega) (by unfold FU; omega)
  have m33 := dg33_M ok hM (6 * n) 0 FU x3 (by omega) (by unfold FU; omega)
  rw [Nat.mul_zero] at c32
  obtain ⟨x7, hx7⟩ : ∃ x7, x7 = hF (gv g) (6 * n) 0 x3 := ⟨_, rfl⟩
  rw [← hx7] at c32 m33
  rw [nI_0] at c6 m6 c32 m33
  obtain ⟨σ2, b, f1, f2, f3⟩ := sat_spec ok hm hC
  obtain ⟨τ2, b', p1, p2, p3⟩ := canSet_spec ok hm hM
  have hb : b = b' := Bool.eq_iff_iff.mpr (f3.trans p3.symm)
  subst hb
  have hI1 := hI.same (sameC.off f2 (by decide)) (sameM.off p2 (by decide) (by decide))
  have hC2 := hC.of f2 (by decide) (by decide)
  have hM2 := hM.of p2 (by decide)
  cases b
  · have hu : ¬ satP g (2 ^ n - 1) := fun z => by have := f3.mpr z; cases this
    obtain ⟨hcore, hlt⟩ := coF_core ok hm hu
    obtain ⟨σ3, g1, g2⟩ := coreOf_spec ok hm hC2
    obtain ⟨τ3, q1, q2⟩ := mcoreOf_spec ok hm hM2
    have hC3 := hC2.of g2 (by decide) (by decide)
    have hM3 := hM2.of q2 (by decide)
    have hI2 := hI1.same (sameC.off g2 (by decide)) (sameM.off q2 (by decide) (by decide))
    have hmb := mbr_of ok hlt hcore
    have hlen := core_len ok hlt hcore
    obtain ⟨σ4, V, s1, s2, s3, s4⟩ := find_spec ok hlt hcore hC3
    have hC4 := hC3.of s4 (by decide) (by decide)
    obtain ⟨r, hr⟩ := Classical.axiomOfChoice (r := fun (i : Nat) (y : Int) => i < n → fWt_weightOf (nI i) σ4 = some (iI y) ∧ isT (idxL (coF g n (2 ^ n - 1)) 12 0).length (xL (idxL (coF g n (2 ^ n - 1)) 12 0)) V i y) (fun i => by
      by_cases hi : i < n
      · obtain ⟨y, t1, t2⟩ := wof_spec (n := n) hlen (show i < 12 by omega) (fun p => by have := bit_lt hlt (hmb.2.2.1 p); omega) s2
        exact ⟨y, fun _ => ⟨t1, t2⟩⟩
      · exact ⟨0, fun z => absurd z hi⟩)
    have cw := dgW_C hn hC4.1 (fun i hi => (hr i hi).1) n 0 FU ((31 : Int64) * ((31 : Int64) * x7) + (nI (coF g n (2 ^ n - 1))).toInt64) (by omega) (by unfold FU; omega)
    obtain ⟨τ4, mw, mo⟩ := dgW_M ok hlt hcore s3 (fun i hi => (hr i hi).2) n 0 FU ((31 : Int64) * ((31 : Int64) * x7) + (nI (coF g n (2 ^ n - 1))).toInt64) τ3 (by omega) (by unfold FU; omega) hM3
    rw [nI_0] at cw mw
    have cw' : fRM_digestWeights ((31 : Int64) * ((31 : Int64) * x7) + (nI (coF g n (2 ^ n - 1))).toInt64) σ4 = some (hF (fun j => (iI (r j)).toInt64) n 0 ((31 : Int64) * ((31 : Int64) * x7) + (nI (coF g n (2 ^ n - 1))).toInt64)) := by
      unfold fRM_digestWeights; exact cw
    have z0 : (31 : Int64) * x7 + (0 : Int32).toInt64 = (31 : Int64) * x7 := by
      rw [show (0 : Int32).toInt64 = 0 from rfl, Int64.add_zero]
    obtain ⟨A, hA⟩ : ∃ A, FU = A := ⟨_, rfl⟩
    rw [hA] at c6 m6 c32 m33 mw
    refine ⟨hF (fun j => (iI (r j)).toInt64) n 0 ((31 : Int64) * ((31 : Int64) * x7) + (nI (coF g n (2 ^ n - 1))).toInt64), σ4, τ4, ?_, ?_, hI2.same (sameC.off s4 (by decide)) (sameM.off mo (by decide) (by decide))⟩
    · unfold fRM_digest
      rw [hA, dlt_u, c6, dlt_u, c32]
      rw [db1_t (every_C hn hC.1), db2_t f1, if_pos b0, db2_t g1, db1_t s1, dlt_u, db1_t cw']
    · unfold fMM_digest
      rw [hA, dlt_u, m6, dlt_u, m33]
      rw [db1_t (every_M hn hM.1), db2_t p1]
      simp only [dlt_u]
      rw [if_pos b0, if_pos b0, db1_t (every_M hn hM2.1), db2_t q1, z0]
      exact mw
  · obtain ⟨σ3, rk1, g1, g2, g3⟩ := dimOf_spec ok hm hC2
    obtain ⟨τ3, rk2, q1, q2, q3⟩ := mdimOf_spec ok hm hM2
    obtain rfl := rkN_one g2 q2
    have hC3 := hC2.of g3 (by decide) (by decide)
    have hM3 := hM2.of q3 (by decide)
    have hI2 := hI1.same (sameC.off g3 (by decide)) (sameM.off q3 (by decide) (by decide))
    obtain ⟨X, τ4, u1, u2, u3, u4⟩ := mpoint_spec ok hm hM3 (f3.mp rfl)
    obtain ⟨σ4, s1, s2, s3⟩ := solve_spec ok hm (last := 2) (by omega) u2 (fun j hj => (u3 j hj).1) hC3
    have s1' : fSo_solve (nI (2 ^ n - 1)) (2 : Int32) σ3 = some σ4 := s1
    obtain ⟨y, hy⟩ : ∃ y, y = (31 : Int64) * ((31 : Int64) * x7 + (1 : Int64)) + ((3 : Int32) - nI rk1).toInt64 := ⟨_, rfl⟩
    have cs := dgS_C (σ := σ4) (X := X) s2 3 0 FU y (by omega) (by unfold FU; omega)
    have ms := dgS_M (τ := τ4) (X := X) (fun k hk => (u3 k hk).2) 6 0 FU y (by omega) (by unfold FU; omega)
    rw [nI_0] at cs ms
    have cs' : fRM_digestSolution y σ4 = some (hF (pvX X) 6 0 y) := by unfold fRM_digestSolution; exact cs
    have z1 : (31 : Int64) * x7 + (1 : Int32).toInt64 = (31 : Int64) * x7 + (1 : Int64) := rfl
    obtain ⟨A, hA⟩ : ∃ A, FU = A := ⟨_, rfl⟩
    rw [hA] at c6 m6 c32 m33 ms
    refine ⟨hF (pvX X) 6 0 y, σ4, τ4, ?_, ?_, hI2.same (sameC.off s3 (by decide)) (sameM.off u4 (by decide) (by decide))⟩
    · unfold fRM_digest
      rw [hA, dlt_u, c6, dlt_u, c32]
      rw [db1_t (every_C hn hC.1), db2_t f1, if_neg b1, dlt_u, db2_t g1, dlt_u, db1_t s1', ← hy, db1_t cs']
    · unfold fMM_digest
      rw [hA, dlt_u, m6, dlt_u, m33]
      rw [db1_t (every_M hn hM.1), db2_t p1]
      simp only [dlt_u]
      rw [if_neg b1, if_neg b1, db1_t (every_M hn hM2.1), db2_t q1, db1_t (every_M hn hM3.1), db1_t u1, z1, ← hy]
      exact ms
