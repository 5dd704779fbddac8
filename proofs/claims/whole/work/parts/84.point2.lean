/-! the model's point, and the call -/
theorem mrw_z {n m k : Nat} {g : gT} {P Q R S L : Int} {j : Nat} (hj : j < k) (hk : k ≤ 2) : ∀ r ∈ ((setF g m n 0).map (mrw k P Q R S L)).flatMap dbl, rco r j = 0 := by
  intro q hq
  obtain ⟨r, hr, hq⟩ := List.mem_flatMap.mp hq
  obtain ⟨q0, -, rfl⟩ := List.mem_map.mp hr
  have h0 : rco (mrw k P Q R S L q0) j = 0 := by
    rcases (show (k = 1 ∧ j = 0) ∨ (k = 2 ∧ j = 0) ∨ (k = 2 ∧ j = 1) by omega) with ⟨rfl, rfl⟩ | ⟨rfl, rfl⟩ | ⟨rfl, rfl⟩ <;> simp [mrw, rco]
  generalize mrw k P Q R S L q0 = r at *
  unfold dbl at hq
  by_cases h2 : rk r = 2
  · rw [if_pos h2] at hq
    rcases List.mem_cons.mp hq with rfl | hq
    · rcases (show j = 0 ∨ j = 1 by omega) with rfl | rfl
      · exact h0
      · exact h0
    · rw [List.mem_singleton.mp hq]
      rcases (show j = 0 ∨ j = 1 by omega) with rfl | rfl
      · have : r.1 = 0 := h0
        show -r.1 = 0; omega
      · have : r.2.1 = 0 := h0
        show -r.2.1 = 0; omega
  · rw [if_neg h2] at hq; rw [List.mem_singleton.mp hq]; exact h0
def setX (X : Nat → Rat) (k : Nat) (y : Rat) : Nat → Rat := fun j => if j = k then y else X j
theorem QP_next {g : gT} {m k : Nat} {X : Nat → Rat} {y : Rat} (h : ∃ p : pT, p k = y ∧ QP g m k X p) : ∃ p, QP g m (k + 1) (setX X k y) p := by
  obtain ⟨p, hp, hq⟩ := h
  refine ⟨p, fun j hj => ?_⟩
  have : sbs (k + 1) (setX X k y) p = sbs k X p := by
    funext i; unfold sbs setX
    by_cases c : i = k
    · rw [if_pos (by omega), if_pos c, if_neg (by omega), c, hp]
    · by_cases c' : i < k
      · rw [if_pos (by omega), if_neg c, if_pos c']
      · rw [if_neg (by omega), if_neg c']
  rw [this]; exact hq j hj
theorem mpt_st {m k f : Nat} {τ τ1 τ2 τ3 : sT} {L x y : Int} (hk : k ≤ 2) (e1 : fMM_laysWith (nI m) (nI k) τ = some (jI L, τ1)) (e2 : fMM_solves (nI k) τ1 = some τ2) (e3 : fMM_chooses (jI L) τ2 = some τ3) (h1 : τ3.2 33 15 = jI x) (h2 : τ3.2 33 16 = jI y) :
    fMM_findsPoint_L2 (nI m) (f + 1) (nI k) τ = fMM_findsPoint_L2 (nI m) f (nI (k + 1)) (sjW (sjW τ3 40 (2 * k) (jI x)) 40 (2 * k + 1) (jI y)) := by
  conv => lhs; unfold fMM_findsPoint_L2
  rw [show (3 : Int32) = nI 3 from rfl, if_neg (nI_ge (by omega) (by omega)), db2_t e1, db1_t e2, db1_t e3, show (2 : Int32) = nI 2 from rfl, pk_mul, nI_1, nI_1, dck_t (okI_n (by omega) (by omega)), dlt_u, dck_t (okI_n (by omega) (by omega)), nc (by omega), nc (by omega), dlt_u, h1, sjW_n (by decide), h2]
theorem mpoint_spec {n m : Nat} {g : gT} (ok : BkOk n g) (hm : m < 2 ^ n) {τ : sT} (hB : BkM τ n g) (hs : ∃ p, setP g m p) :
    ∃ (X : Nat → Rat) (τ1 : sT), fMM_findsPoint (nI m) τ = some τ1 ∧ XB X ∧ (∀ k, k < 3 → cn g m X k ∧ τ1.2 40 (2 * k) = jI (nmX X k) ∧ τ1.2 40 (2 * k + 1) = jI (dnX X k)) ∧ mOff [37, 38, 39, 40] [5, 7, 8, 9, 10, 11, 12, 13, 14, 15, 16] τ τ1 := by
  have hn := ok.1
  -- x
  obtain ⟨p0, hp0⟩ := hs
  have hq0 : ∃ p, QP g m 0 (fun _ => 0) p := ⟨p0, fun j hj => by
    have : sbs 0 (fun _ => 0) p0 = p0 := by funext i; unfold sbs; rw [if_neg (by omega)]
    rw [this]; exact hp0 j hj⟩
  have L0 : LX (fun _ => 0) 0 = 1 := rfl
  obtain ⟨Y0, τa1, τa2, τa3, a1, a2, a3, a4, a5, a6, ⟨a7, a8, a9⟩, a10, a11⟩ := mstage ok hm (k := 0) (X := fun _ => 0) (by omega) (by omega) (by omega) hq0 (A1 := 50) (D1 := 500) (A2 := 5000) (D2 := 50000) (Or.inr ⟨rfl, rfl⟩) (Or.inr ⟨rfl, rfl⟩) (by unfold big; omega) (by unfold big; omega) (by omega) (by omega) (by omega) (by omega) (by unfold big; omega) (by rw [L0]; omega) hB (fun u hu => by omega)
  rw [L0] at a9
  obtain ⟨τa, ha⟩ : ∃ z, z = sjW (sjW τa3 40 (2 * 0) (jI Y0.num)) 40 (2 * 0 + 1) (jI (Y0.den : Int)) := ⟨_, rfl⟩
  have oa : mOff [37, 38, 39, 40] [5, 7, 8, 9, 10, 11, 12, 13, 14, 15, 16] τ τa := by
    rw [ha]; exact (a6.mono (by simp) (by simp)).trans ((mOff_cj (by simp) (by decide)).trans (mOff_cj (by simp) (by decide)))
  -- y
  obtain ⟨X0, hX0⟩ : ∃ z, z = setX (fun _ => 0) 0 Y0 := ⟨_, rfl⟩
  have x00 : X0 0 = Y0 := by rw [hX0]; rfl
  have hb0 : (-100000 ≤ (X0 0).num ∧ (X0 0).num ≤ 100000) ∧ ((X0 0).den : Int) ≤ 10000 := by rw [x00]; omega
  have va : ∀ u, u < 1 → τa.2 40 (2 * u) = jI (nmX X0 u) ∧ τa.2 40 (2 * u + 1) = jI (dnX X0 u) := by
    intro u hu
    obtain rfl : u = 0 := by omega
    unfold nmX dnX
    rw [x00, ha, sjW_s, sjW_s, sjW_s, if_neg (by omega), if_pos rfl, if_pos rfl]
    exact ⟨rfl, rfl⟩
  have hq1 : ∃ p, QP g m 1 X0 p := by rw [hX0]; exact QP_next a10
  have hL1 : LX X0 1 ≤ 10000 := by
    obtain ⟨l0, l1, l2, l3, l4, l5, l6⟩ := LX_dv X0 1
    have q1 : qX X0 1 1 = 1 := rfl
    have q0 : qX X0 1 0 = ((X0 0).den : Int) := rfl
    rw [q1] at l3
    have : LX X0 1 / qX X0 1 0 = 1 := by omega
    rw [this, q0] at l1
    omega
  obtain ⟨Y1, τb1, τb2, τb3, c1, c2, c3, c4, c5, c6, ⟨c7, c8, c9⟩, c10, c11⟩ := mstage ok hm (k := 1) (X := X0) (by omega) (fun _ => hb0) (by omega) hq1 (A1 := 5) (D1 := 1000000) (A2 := 50) (D2 := 10000000) (Or.inl ⟨mrw_z (by omega) (by omega), rfl, rfl⟩) (Or.inr ⟨rfl, rfl⟩) (by unfold big; omega) (by unfold big; omega) (by omega) (by omega) (by omega) (by omega) (by unfold big; omega) (by omega) (hB.of oa (by decide)) va
  obtain ⟨τb, hb⟩ : ∃ z, z = sjW (sjW τb3 40 (2 * 1) (jI Y1.num)) 40 (2 * 1 + 1) (jI (Y1.den : Int)) := ⟨_, rfl⟩
  have ob : mOff [37, 38, 39, 40] [5, 7, 8, 9, 10, 11, 12, 13, 14, 15, 16] τ τb := by
    rw [hb]; exact oa.trans ((c6.mono (by simp) (by simp)).trans ((mOff_cj (by simp) (by decide)).trans (mOff_cj (by simp) (by decide))))
  -- z
  obtain ⟨X1, hX1⟩ : ∃ z, z = setX X0 1 Y1 := ⟨_, rfl⟩
  have x10 : X1 0 = Y0 := by rw [hX1]; exact x00
  have x11 : X1 1 = Y1 := by rw [hX1]; rfl
  have hb1 : (-100000 ≤ (X1 0).num ∧ (X1 0).num ≤ 100000) ∧ ((X1 0).den : Int) ≤ 10000 := by rw [x10]; omega
  have hb2 : (-20000000 ≤ (X1 1).num ∧ (X1 1).num ≤ 20000000) ∧ ((X1 1).den : Int) ≤ 1000000 := by rw [x11]; omega
  have vb : ∀ u, u < 2 → τb.2 40 (2 * u) = jI (nmX X1 u) ∧ τb.2 40 (2 * u + 1) = jI (dnX X1 u) := by
    intro u hu
    rcases (show u = 0 ∨ u = 1 by omega) with rfl | rfl
    · have := va 0 (by omega)
      unfold nmX dnX at this ⊢
      rw [x00] at this
      rw [x10, hb, sjW_s, sjW_s, sjW_s, sjW_s, if_neg (by omega), if_neg (by omega), if_neg (by omega), if_neg (by omega), (c6.1 40 (by decide) (by decide)).2]
      exact this
    · unfold nmX dnX
      rw [x11, hb, sjW_s, sjW_s, sjW_s, if_neg (by omega), if_pos rfl, if_pos rfl]
      exact ⟨rfl, rfl⟩
  have hq2 : ∃ p, QP g m 2 X1 p := by rw [hX1]; exact QP_next c10
  have hL2 : LX X1 2 ≤ 10000000000 := by
    obtain ⟨l0, l1, l2, l3, l4, l5, l6⟩ := LX_dv X1 2
    have q1 : qX X1 2 1 = ((X1 1).den : Int) := rfl
    have q0 : qX X1 2 0 = ((X1 0).den : Int) := rfl
    have d0 := den_pos' (X1 0)
    rw [q1] at l3
    have m0 := Int.mul_le_mul (show qX X1 2 0 ≤ 10000 by omega) (show LX X1 2 / qX X1 2 0 ≤ 1000000 by omega) (by omega) (by omega)
    omega
  obtain ⟨Y2, τc1, τc2, τc3, d1, d2, d3, d4, d5, d6, -, -, d11⟩ := mstage ok hm (k := 2) (X := X1) (by omega) (fun _ => hb1) (fun _ => hb2) hq2 (A1 := 5) (D1 := 2000000000000) (A2 := 5) (D2 := 2000000000000) (Or.inl ⟨mrw_z (by omega) (by omega), rfl, rfl⟩) (Or.inl ⟨mrw_z (by omega) (by omega), rfl, rfl⟩) (by unfold big; omega) (by unfold big; omega) (by omega) (by omega) (by omega) (by omega) (by unfold big; omega) (by omega) (hB.of ob (by decide)) vb
  obtain ⟨τc, hc⟩ : ∃ z, z = sjW (sjW τc3 40 (2 * 2) (jI Y2.num)) 40 (2 * 2 + 1) (jI (Y2.den : Int)) := ⟨_, rfl⟩
  have oc : mOff [37, 38, 39, 40] [5, 7, 8, 9, 10, 11, 12, 13, 14, 15, 16] τ τc := by
    rw [hc]; exact ob.trans ((d6.mono (by simp) (by simp)).trans ((mOff_cj (by simp) (by decide)).trans (mOff_cj (by simp) (by decide))))
  obtain ⟨X2, hX2⟩ : ∃ z, z = setX X1 2 Y2 := ⟨_, rfl⟩
  have x20 : X2 0 = Y0 := by rw [hX2]; exact x10
  have x21 : X2 1 = Y1 := by rw [hX2]; exact x11
  have x22 : X2 2 = Y2 := by rw [hX2]; rfl
  refine ⟨X2, τc, ?_, ⟨by rw [x20]; rw [x10] at hb1; exact hb1, by rw [x21]; rw [x11] at hb2; exact hb2⟩, fun k hk => ?_, oc⟩
  · unfold fMM_findsPoint
    obtain ⟨N, hN, hN9⟩ := FU_s
    obtain ⟨N', rfl⟩ : ∃ N', N = N' + 1 + 1 + 1 := ⟨N - 3, by omega⟩
    rw [hN, show (0 : Int32) = nI 0 from rfl, mpt_st (by omega) a1 a2 a3 a4 a5, ← ha, mpt_st (k := 0 + 1) (by omega) c1 c2 c3 c4 c5, ← hb, mpt_st (k := 0 + 1 + 1) (by omega) d1 d2 d3 d4 d5, ← hc]
    unfold fMM_findsPoint_L2
    rw [if_pos (by decide)]
  · rcases (show k = 0 ∨ k = 1 ∨ k = 2 by omega) with rfl | rfl | rfl
    · refine ⟨a11 X2 (fun u hu => by omega) x20, ?_⟩
      have := vb 0 (by omega)
      unfold nmX dnX at this ⊢
      rw [x10] at this
      rw [x20, hc, sjW_s, sjW_s, sjW_s, sjW_s, if_neg (by omega), if_neg (by omega), if_neg (by omega), if_neg (by omega), (d6.1 40 (by decide) (by decide)).2]
      exact this
    · refine ⟨c11 X2 (fun u hu => by
        have hu0 : u = 0 := by omega
        rw [hu0, x20, x00]) x21, ?_⟩
      have := vb 1 (by omega)
      unfold nmX dnX at this ⊢
      rw [x11] at this
      rw [x21, hc, sjW_s, sjW_s, sjW_s, sjW_s, if_neg (by omega), if_neg (by omega), if_neg (by omega), if_neg (by omega), (d6.1 40 (by decide) (by decide)).2]
      exact this
    · refine ⟨d11 X2 (fun u hu => by
        rcases (show u = 0 ∨ u = 1 by omega) with rfl | rfl
        · rw [x20, x10]
        · rw [x21, x11]) x22, ?_⟩
      unfold nmX dnX
      rw [x22, hc, sjW_s, sjW_s, sjW_s, if_neg (by omega), if_pos rfl, if_pos rfl]
      exact ⟨rfl, rfl⟩
theorem do_point : op_point Inv := by
  intro σ τ hI x1 x2 x3
  obtain ⟨n, g, U, T, h⟩ := id hI
  obtain ⟨ok, hC, hM, -⟩ := id h
  obtain ⟨σ1, τ1, e1, e2, e3⟩ := ref_B hI
  have c2 : fRM_isWithin x2 (0 : Int32) (2 : Int32) = some (b01 (wi x2 0 2)) := wiC x2 0 2 rfl rfl (by decide) (by decide)
  have m2 : fMM_in x2.toInt64 (0 : Int64) (2 : Int64) = some (b01 (wi x2 0 2)) := wiM x2 0 2 rfl rfl (by decide) (by decide)
  have c3 : fRM_isWithin x3 (0 : Int32) (1 : Int32) = some (b01 (wi x3 0 1)) := wiC x3 0 1 rfl rfl (by decide) (by decide)
  have m3 : fMM_in x3.toInt64 (0 : Int64) (1 : Int64) = some (b01 (wi x3 0 1)) := wiM x3 0 1 rfl rfl (by decide) (by decide)
  unfold fRM_point fMM_point
  simp only [dlt_u]
  rw [db1_t (covers_spec ok.1 hC.1 x1), db1_t (isSet_spec ok.1 hM.1 x1), db2_t e1, db2_t e2]
  cases hc : cov x1 n
  · rw [if_pos b0, if_pos b0]
    exact ⟨_, _, _, rfl, rfl, e3⟩
  rw [if_neg b1, if_neg b1, db1_t c2, db1_t m2]
  cases h2 : wi x2 0 2
  · rw [if_pos b0, if_pos b0]
    exact ⟨_, _, _, rfl, rfl, e3⟩
  rw [if_neg b1, if_neg b1, db1_t c3, db1_t m3]
  cases h3 : wi x3 0 1
  · rw [if_pos b0, if_pos b0]
    exact ⟨_, _, _, rfl, rfl, e3⟩
  rw [if_neg b1, if_neg b1]
  obtain ⟨m, hm, rfl⟩ := cov_n hc
  obtain ⟨k, hk, rfl⟩ := wi_n h2
  obtain ⟨w, hw, rfl⟩ := wi_n h3
  obtain ⟨σ2, b, f1, f2, f3⟩ := sat_spec ok hm hC
  obtain ⟨τ2, b', p1, p2, p3⟩ := canSet_spec ok hm hM
  have hb : b = b' := Bool.eq_iff_iff.mpr (f3.trans p3.symm)
  subst hb
  rw [db2_t f1, db2_t p1]
  have hI1 : Inv σ2 τ2 := hI.same (sameC.off f2 (by decide)) (sameM.off p2 (by decide) (by decide))
  cases b
  · rw [if_pos b0, if_pos b0]
    obtain ⟨σ4, τ4, g1, g2, g3⟩ := ref_N hI1
    rw [db2_t g1, db2_t g2]
    exact ⟨_, _, _, rfl, rfl, g3⟩
  · rw [if_neg b1, if_neg b1]
    obtain ⟨X, τ3, q1, q2, q3, q4⟩ := mpoint_spec ok hm (hM.of p2 (by decide)) (f3.mp rfl)
    obtain ⟨σ3, s1, s2, s3⟩ := solve_spec ok hm (last := k) (by omega) q2 (fun j hj => (q3 j hj).1) (hC.of f2 (by decide) (by decide))
    have hI2 : Inv σ3 τ3 := hI1.same (sameC.off s3 (by decide)) (sameM.off q4 (by decide) (by decide))
    obtain ⟨-, u1, u2⟩ := q3 k (by omega)
    obtain ⟨v1, v2⟩ := s2 k (Nat.le_refl k)
    rw [db1_t s1, db1_t q1, show (2 : Int32) = nI 2 from rfl, pk_mul, na, dck_t (okI_n (by omega) (by omega)), dck_t (okI_n (by omega) (by omega)), dck_t (okI_n (by omega) (by omega)), nc (by omega), nc (by omega), v1, v2]
    rcases (show w = 0 ∨ w = 1 by omega) with rfl | rfl
    · rw [if_pos (show nI 0 = 0 from rfl), Nat.add_zero, u1]
      exact ⟨_, _, _, rfl, rfl, hI2⟩
    · rw [if_neg (show ¬ nI 1 = 0 by decide), u2]
      exact ⟨_, _, _, rfl, rfl, hI2⟩
