/-! the model's point, stage by stage; the call -/
theorem mrw_B {n i k : Nat} {g : gT} (ok : BkOk n g) (hi : i < n) (hk : k ≤ 2) {X : Nat → Rat} (h0 : 1 ≤ k → (-100000 ≤ (X 0).num ∧ (X 0).num ≤ 100000) ∧ ((X 0).den : Int) ≤ 10000) (h1 : 2 ≤ k → (-20000000 ≤ (X 1).num ∧ (X 1).num ≤ 20000000) ∧ ((X 1).den : Int) ≤ 1000000) :
    rB 5 (if k = 0 then 50 else if k = 1 then 1000000 else 2000000000000) (mrw k (pX X k 0) (qX X k 0) (pX X k 1) (qX X k 1) (LX X k) (rowOf g i)) ∧ LX X k ≤ (if k = 0 then 1 else if k = 1 then 10000 else 10000000000) := by
  obtain ⟨l0, l1, l2, l3, l4, l5, l6⟩ := LX_dv X k
  have hQ := qX_pos X k 0
  have hS := qX_pos X k 1
  obtain ⟨c, kd, dd, -⟩ := ok.2 i hi
  have c0 := c 0 (by omega)
  have c1 := c 1 (by omega)
  have c2 := c 2 (by omega)
  have hkd : (g i 3).toNat ≤ 2 := by omega
  have d0 := den_pos' (X 0)
  have d1 := den_pos' (X 1)
  rcases (show k = 0 ∨ k = 1 ∨ k = 2 by omega) with rfl | rfl | rfl
  · have p0 : pX X 0 0 = 0 := rfl
    have p1 : pX X 0 1 = 0 := rfl
    have q0 : qX X 0 0 = 1 := rfl
    have q1 : qX X 0 1 = 1 := rfl
    have hL : LX X 0 = 1 := by rw [q0, q1] at l3; rw [q0] at l1; omega
    rw [p0, p1, hL]
    unfold rB mrw rowOf
    simp only [if_pos (show (0 : Nat) ≤ 0 by omega), if_pos (show (0 : Nat) ≤ 1 by omega), if_pos trivial, Int.mul_zero, Int.zero_mul]
    omega
  · obtain ⟨⟨x1, x2⟩, x3⟩ := h0 (by omega)
    have p0 : pX X 1 0 = (X 0).num := rfl
    have p1 : pX X 1 1 = 0 := rfl
    have q0 : qX X 1 0 = ((X 0).den : Int) := rfl
    have q1 : qX X 1 1 = 1 := rfl
    rw [q1] at l2 l3 l4 l6
    have hv : LX X 1 / qX X 1 0 = 1 := by omega
    have hL : LX X 1 = ((X 0).den : Int) := by rw [hv] at l1; rw [q0] at l1; omega
    rw [p0, p1]
    have m3 := mulB dd (show -10000 ≤ ((X 0).den : Int) ∧ ((X 0).den : Int) ≤ 10000 by omega)
    have m4 := mulB c0 (show -100000 ≤ (X 0).num ∧ (X 0).num ≤ 100000 by omega)
    unfold rB mrw rowOf
    simp only [if_neg (show ¬ (1 : Nat) ≤ 0 by omega), if_pos (show (1 : Nat) ≤ 1 by omega), if_neg (show ¬ (1 : Nat) = 0 by omega), if_pos trivial, Int.mul_zero, Int.zero_mul, hv, Int.mul_one]
    rw [hL]
    omega
  · obtain ⟨⟨x1, x2⟩, x3⟩ := h0 (by omega)
    obtain ⟨⟨y1, y2⟩, y3⟩ := h1 (by omega)
    have p0 : pX X 2 0 = (X 0).num := rfl
    have p1 : pX X 2 1 = (X 1).num := rfl
    have q0 : qX X 2 0 = ((X 0).den : Int) := rfl
    have q1 : qX X 2 1 = ((X 1).den : Int) := rfl
    rw [p0, p1]
    generalize hu : LX X 2 / qX X 2 0 = u at *
    generalize hw : LX X 2 / qX X 2 1 = w at *
    rw [q0] at l1 l4
    rw [q1] at l2 l3
    have m0 := Int.mul_le_mul (show ((X 0).den : Int) ≤ 10000 by omega) (show u ≤ 1000000 by omega) (by omega) (by omega)
    generalize LX X 2 = L at *
    have m1 := mulB dd (show -10000000000 ≤ L ∧ L ≤ 10000000000 by omega)
    have m2 := mulB c0 (show -100000 ≤ (X 0).num ∧ (X 0).num ≤ 100000 by omega)
    have m3 := mulB (show -500000 ≤ g i 0 * (X 0).num ∧ g i 0 * (X 0).num ≤ 500000 by omega) (show -1000000 ≤ u ∧ u ≤ 1000000 by omega)
    have m4 := mulB c1 (show -20000000 ≤ (X 1).num ∧ (X 1).num ≤ 20000000 by omega)
    have m5 := mulB (show -100000000 ≤ g i 1 * (X 1).num ∧ g i 1 * (X 1).num ≤ 100000000 by omega) (show -10000 ≤ w ∧ w ≤ 10000 by omega)
    unfold rB mrw rowOf
    simp only [if_neg (show ¬ (2 : Nat) ≤ 0 by omega), if_neg (show ¬ (2 : Nat) ≤ 1 by omega), if_neg (show ¬ (2 : Nat) = 0 by omega), if_neg (show ¬ (2 : Nat) = 1 by omega), hu, hw]
    omega
theorem laysWith_spec {n m k : Nat} {g : gT} (ok : BkOk n g) (hm : m < 2 ^ n) (hk : k ≤ 2) {X : Nat → Rat} {τ : sT} (hB : BkM τ n g) (hv : ∀ u, u < k → τ.2 40 (2 * u) = jI (nmX X u) ∧ τ.2 40 (2 * u + 1) = jI (dnX X u)) (hq0 : qX X k 0 < 140737488355328) (hq1 : qX X k 1 < 140737488355328) (hL2 : LX X k < 9223372036854775808) :
    ∃ τ1, fMM_laysWith (nI m) (nI k) τ = some (jI (LX X k), τ1) ∧ LaidAt τ1 (((setF g m n 0).map (mrw k (pX X k 0) (qX X k 0) (pX X k 1) (qX X k 1) (LX X k))).flatMap dbl) ∧ mOff [37] [5] τ τ1 := by
  obtain ⟨l0, -⟩ := LX_dv X k
  have hQ := qX_pos X k 0
  have hS := qX_pos X k 1
  have o1 : mOff [37] [5] τ (siW τ 33 5 0) := mOff_si (by simp)
  obtain ⟨τ1, e1, e2, e3⟩ := lw_loop ok hm hk (P := pX X k 0) (Q := qX X k 0) (R := pX X k 1) (S := qX X k 1) (L := LX X k) ⟨hQ, by omega⟩ ⟨hS, by omega⟩ ⟨l0, hL2⟩ n 0 FU (siW τ 33 5 0) [] (by omega) (by have := ok.1; unfold FU; omega) (hB.of o1 (by decide)) ⟨by rw [siW_s, if_pos rfl]; rfl, fun i r h => by simp at h⟩ (by simp)
  rw [nI_0] at e1
  refine ⟨τ1, ?_, by simpa using e2, o1.trans e3⟩
  obtain ⟨G, hG⟩ : ∃ G, FU = G := ⟨_, rfl⟩
  rw [hG] at e1
  have hg := gcd_pos' (a := qX X k 0) hS
  have hd := divisor_spec (a := qX X k 0) (b := qX X k 1) (by omega) (by omega)
  have body : (db1 (fMM_divisor (jI (qX X k 0)) (jI (qX X k 1))) fun r10 =>
          dck (okE r10) <|
          dlt ((jI (qX X k 0) / r10) * jI (qX X k 1)) fun x12 =>
          dlt (siW τ 33 5 (0 : Int32)) fun σ13 =>
          fMM_laysWith_L92 (nI m) (nI k) (jI (pX X k 0)) (jI (qX X k 0)) (jI (pX X k 1)) (jI (qX X k 1)) x12 G (0 : Int32) σ13) = some (jI (LX X k), τ1) := by
    rw [db1_t hd, dck_t (okE_j hg.1 (by omega)), jI_div (by unfold inJ; omega) (by unfold inJ; omega), jI_mul, Int.tdiv_eq_ediv_of_nonneg (by omega)]
    exact e1
  unfold fMM_laysWith
  rw [hG]
  simp only [dlt_u] at body ⊢
  rcases (show k = 0 ∨ k = 1 ∨ k = 2 by omega) with rfl | rfl | rfl
  · simp only [if_pos (show nI 0 ≤ 0 by decide), if_pos (show nI 0 ≤ (1 : Int32) by decide)]
    exact body
  · obtain ⟨x1, x2⟩ := hv 0 (by omega)
    simp only [if_neg (show ¬ nI 1 ≤ 0 by decide), if_pos (show nI 1 ≤ (1 : Int32) by decide)]
    rw [dck_t (by decide), dck_t (by decide), show (0 : Int32).toNatClampNeg = 2 * 0 from rfl, show (1 : Int32).toNatClampNeg = 2 * 0 + 1 from rfl, x1, x2]
    exact body
  · obtain ⟨x1, x2⟩ := hv 0 (by omega)
    obtain ⟨y1, y2⟩ := hv 1 (by omega)
    simp only [if_neg (show ¬ nI 2 ≤ 0 by decide), if_neg (show ¬ nI 2 ≤ (1 : Int32) by decide)]
    rw [dck_t (by decide), dck_t (by decide), dck_t (by decide), dck_t (by decide), show (0 : Int32).toNatClampNeg = 2 * 0 from rfl, show (1 : Int32).toNatClampNeg = 2 * 0 + 1 from rfl, show (2 : Int32).toNatClampNeg = 2 * 1 from rfl, show (3 : Int32).toNatClampNeg = 2 * 1 + 1 from rfl, x1, x2, y1, y2]
    exact body
/-- one stage of the model: from values before it to the next -/
theorem mstage {n m k : Nat} {g : gT} (ok : BkOk n g) (hm : m < 2 ^ n) (hk : k ≤ 2) {X : Nat → Rat} (h0 : 1 ≤ k → (-100000 ≤ (X 0).num ∧ (X 0).num ≤ 100000) ∧ ((X 0).den : Int) ≤ 10000) (h1 : 2 ≤ k → (-20000000 ≤ (X 1).num ∧ (X 1).num ≤ 20000000) ∧ ((X 1).den : Int) ≤ 1000000) (hne : ∃ p, QP g m k X p)
    {A1 D1 A2 D2 : Int} (gr1 : grow (((setF g m n 0).map (mrw k (pX X k 0) (qX X k 0) (pX X k 1) (qX X k 1) (LX X k))).flatMap dbl) ((k + 2) % 3) 5 (if k = 0 then 50 else if k = 1 then 1000000 else 2000000000000) A1 D1) (gr2 : grow (((setF g m n 0).map (mrw k (pX X k 0) (qX X k 0) (pX X k 1) (qX X k 1) (LX X k))).flatMap dbl) ((k + 1) % 3) A1 D1 A2 D2) (a1b : A1 ≤ big) (d1b : D1 ≤ big) (a21 : 1 ≤ A2) (d21 : 1 ≤ D2) (a2b : A2 ≤ 5000) (d2b : D2 ≤ 100000000000000) (ad : 2 * A2 * D2 ≤ big) (al : A2 * LX X k < 70368744177664)
    {τ : sT} (hB : BkM τ n g) (hv : ∀ u, u < k → τ.2 40 (2 * u) = jI (nmX X u) ∧ τ.2 40 (2 * u + 1) = jI (dnX X u)) :
    ∃ (Y : Rat) (τ1 τ2 τ3 : sT), fMM_laysWith (nI m) (nI k) τ = some (jI (LX X k), τ1) ∧ fMM_solves (nI k) τ1 = some τ2 ∧ fMM_chooses (jI (LX X k)) τ2 = some τ3 ∧ τ3.2 33 15 = jI Y.num ∧ τ3.2 33 16 = jI (Y.den : Int) ∧ mOff [37, 38, 39] [5, 7, 8, 9, 10, 11, 12, 13, 14, 15, 16] τ τ3 ∧
      (-(2 * D2) ≤ Y.num ∧ Y.num ≤ 2 * D2 ∧ (Y.den : Int) ≤ 2 * (A2 * LX X k)) ∧ (∃ p : pT, p k = Y ∧ QP g m k X p) ∧ (∀ Z : Nat → Rat, (∀ u, u < k → Z u = X u) → Z k = Y → cn g m Z k) := by
  obtain ⟨l0, l1, l2, l3, l4, l5, l6⟩ := LX_dv X k
  have hn := ok.1
  have d0 := den_pos' (X 0)
  have d1 := den_pos' (X 1)
  have hLb : LX X k ≤ 10000000000 := by
    have q0 : qX X k 0 ≤ 10000 := by
      unfold qX dnX; by_cases c : 0 < k
      · rw [if_pos c]; exact (h0 (by omega)).2
      · rw [if_neg c]; omega
    have q1 : qX X k 1 ≤ 1000000 := by
      unfold qX dnX; by_cases c : 1 < k
      · rw [if_pos c]; exact (h1 (by omega)).2
      · rw [if_neg c]; omega
    have hQ := qX_pos X k 0
    have m0 := Int.mul_le_mul q0 (show LX X k / qX X k 0 ≤ 1000000 by omega) (by omega) (by omega)
    omega
  have qq : qX X k 0 < 140737488355328 ∧ qX X k 1 < 140737488355328 := by
    unfold qX dnX
    constructor
    · by_cases c : 0 < k
      · rw [if_pos c]; have := (h0 (by omega)).2; omega
      · rw [if_neg c]; omega
    · by_cases c : 1 < k
      · rw [if_pos c]; have := (h1 (by omega)).2; omega
      · rw [if_neg c]; omega
  obtain ⟨τ1, e1, e2, e3⟩ := laysWith_spec ok hm hk hB hv qq.1 qq.2 (by omega)
  have hl := flat_len ((setF g m n 0).map (mrw k (pX X k 0) (qX X k 0) (pX X k 1) (qX X k 1) (LX X k)))
  rw [List.length_map] at hl
  have hl2 := setF_len (g := g) (m := m) n 0
  have hrow : ∀ r ∈ (setF g m n 0).map (mrw k (pX X k 0) (qX X k 0) (pX X k 1) (qX X k 1) (LX X k)), rB 5 (if k = 0 then 50 else if k = 1 then 1000000 else 2000000000000) r := by
    intro r hr
    obtain ⟨q, hq, rfl⟩ := List.mem_map.mp hr
    obtain ⟨j, -, -, hj, rfl⟩ := (setF_mem n 0).mp hq
    exact (mrw_B ok (bit_lt hm hj) hk h0 h1).1
  obtain ⟨τ2, b, f1, f2, f3, f4, f5⟩ := solves_spec e2 (by omega) (by
      intro q hq
      obtain ⟨r, hr, hq⟩ := List.mem_flatMap.mp hq
      exact dbl_kind (hrow r hr).2.2.2.2 q hq) (A := 5) (D := if k = 0 then 50 else if k = 1 then 1000000 else 2000000000000) (A1 := A1) (D1 := D1) (A2 := A2) (D2 := D2) (by
      intro q hq
      obtain ⟨r, hr, hq⟩ := List.mem_flatMap.mp hq
      exact dbl_B (hrow r hr) q hq) (by omega) (by split <;> (try split) <;> omega) (by unfold big; omega) (by unfold big; split <;> (try split) <;> omega) (t := k) (by omega) gr1 gr2 a1b d1b (by omega) (by unfold big; omega) ad
  have hLr := cast_pos l0
  have hLn : (LX X k : Rat) ≠ 0 := Rat.ne_of_gt hLr
  have hsem : ∀ t : pT, (∀ r ∈ ((setF g m n 0).map (mrw k (pX X k 0) (qX X k 0) (pX X k 1) (qX X k 1) (LX X k))).flatMap dbl, hol (fun j => (LX X k : Rat) * t j) r) ↔ QP g m k X t := by
    intro t
    rw [flat_P]
    unfold QP
    constructor
    · intro h j hj
      have := h _ (List.mem_map.mpr ⟨rowOf g j, (setF_mem n 0).mpr ⟨j, by omega, by have := bit_lt hm hj; omega, hj, rfl⟩, rfl⟩)
      exact (hol_mrw hk _ _).mp this
    · intro h r hr
      obtain ⟨q, hq, rfl⟩ := List.mem_map.mp hr
      obtain ⟨j, -, -, hj, rfl⟩ := (setF_mem n 0).mp hq
      exact (hol_mrw hk _ _).mpr (h j hj)
  have hscale : ∀ t : pT, t = fun j => (LX X k : Rat) * (fun i => t i / (LX X k : Rat)) j := by
    intro t; funext j; dsimp only; rw [Rat.mul_comm, Rat.div_mul_cancel hLn]
  obtain ⟨p0, hp0⟩ := hne
  have hbt : b = true := by rw [f4]; exact ⟨_, (hsem p0).mpr hp0⟩
  obtain ⟨e, y1, y2, y3, y4, y5⟩ := f5 hbt
  have ko1 : enOk e.1 := enB_ok y3 (by omega) (by unfold big; omega)
  have ko2 : enOk e.2 := enB_ok y4 (by omega) (by unfold big; omega)
  -- the ends, by so much less
  have hiv : ∀ t, ivS (scl (LX X k) e.1, scl (LX X k) e.2) t ↔ ∃ p : pT, p k = t ∧ QP g m k X p := by
    intro t
    unfold ivS
    dsimp only
    rw [← vlo_S, ← vhi_S, scl_lo ko1 l0, scl_hi ko2 l0]
    have := y5 ((LX X k : Rat) * t)
    unfold ivS at this
    rw [this]
    constructor
    · rintro ⟨p, hp, hr⟩
      refine ⟨fun i => p i / (LX X k : Rat), ?_, (hsem _).mp ?_⟩
      · dsimp only; rw [hp, Rat.mul_comm, Rat.mul_div_cancel hLn]
      · rw [← hscale p]; exact hr
    · rintro ⟨p, hp, hr⟩
      exact ⟨fun j => (LX X k : Rat) * p j, by dsimp only; rw [hp], (hsem p).mpr hr⟩
  have hne2 : ∃ t, ivS (scl (LX X k) e.1, scl (LX X k) e.2) t := ⟨p0 k, (hiv _).mpr ⟨p0, rfl, hp0⟩⟩
  have hne3 : ∃ t, vlo (vw (scl (LX X k) e.1)) t ∧ vhi (vw (scl (LX X k) e.2)) t := by
    obtain ⟨t, ht⟩ := hne2
    exact ⟨t, (vlo_S _ _).mpr ht.1, (vhi_S _ _).mpr ht.2⟩
  have vb1 := vw_bnd y3 l0
  have vb2 := vw_bnd y4 l0
  have a1 : 1 ≤ A2 * LX X k := by
    have := Int.mul_le_mul a21 (show 1 ≤ LX X k by omega) (by omega) (by omega)
    omega
  obtain ⟨c1, c2, c3, c4, c5⟩ := cv_in hne3 vb1 vb2 al a1 d21
  obtain ⟨τ3, q1, q2, q3, q4⟩ := chooses_spec y1 y2 y3 y4 l0 al (by omega) (by
    intro u v hu hv ou ov
    obtain ⟨t, t1, t2⟩ := hne3
    rw [hu] at t1
    rw [hv] at t2
    rcases t1 with t1 | ⟨-, t1⟩
    · rcases t2 with t2 | ⟨-, t2⟩
      · grind
      · rw [ov] at t2; cases t2
    · rw [ou] at t1; cases t1)
  refine ⟨cv (vw (scl (LX X k) e.1)) (vw (scl (LX X k) e.2)), τ1, τ2, τ3, e1, f1, q1, q2, q3, ((e3.mono (by simp) (by simp)).trans (f3.mono (by simp) (by simp))).trans (q4.mono (by simp) (by simp)), ⟨c3, c4, c5⟩, (hiv _).mp ⟨(vlo_S _ _).mp c1, (vhi_S _ _).mp c2⟩, ?_⟩
  intro Z hZ hZk
  refine ⟨(scl (LX X k) e.1, scl (LX X k) e.2), hne2, fun t => ?_, hZk⟩
  rw [hiv t]
  have : ∀ p, sbs k Z p = sbs k X p := by
    intro p; funext j; unfold sbs
    by_cases c : j < k
    · rw [if_pos c, if_pos c, hZ j c]
    · rw [if_neg c, if_neg c]
  unfold QP
  simp only [this]
