/-! the model chooses -/
theorem mfloor_spec {a b : Int} (ha : inJ a) (hb : 0 < b) (hb2 : b < 9223372036854775808) : fMM_floor (jI a) (jI b) = some (jI (a / b)) := by
  have hbj : inJ b := by unfold inJ; omega
  have ht : a.tdiv b = a / b + if 0 ≤ a ∨ b ∣ a then 0 else Int.sign b := Int.tdiv_eq_ediv
  rw [Int.sign_eq_one_of_pos hb] at ht
  have e := Int.mul_ediv_add_emod a b
  have r1 := Int.emod_nonneg a (show b ≠ 0 by omega)
  have r2 := Int.emod_lt_of_pos a hb
  have q0 : a / b * b = b * (a / b) := Int.mul_comm _ _
  unfold inJ at ha
  unfold fMM_floor
  rw [dck_t (okE_j hb hb2), dlt_u, dck_t (okE_j hb hb2), jI_div (by unfold inJ; omega) hbj, jI_mul, jI_sub]
  by_cases h : 0 ≤ a ∨ b ∣ a
  · rw [if_pos h, Int.add_zero] at ht
    rw [ht]
    rcases h with h | h
    · by_cases z : lg_cmp (jI (a - a / b * b)) (0 : Int64) = 0
      · rw [if_pos z]
      · rw [if_neg z, if_pos ((cmp_ge0 (by unfold inJ; omega)).mpr h)]
    · have h0 : a % b = 0 := Int.emod_eq_zero_of_dvd h
      rw [if_pos ((cmp_eq0 (by unfold inJ; omega)).mpr (by omega))]
  · have h1 : ¬ 0 ≤ a := fun z => h (Or.inl z)
    have h2 : a % b ≠ 0 := fun z => h (Or.inr (Int.dvd_of_emod_eq_zero z))
    rw [if_neg h] at ht
    have q1 : (a / b + 1) * b = a / b * b + b := by grind
    rw [ht, q1, if_neg (fun z => by have := (cmp_eq0 (by unfold inJ; omega)).mp z; omega), if_neg (fun z => h1 ((cmp_ge0 (by unfold inJ; omega)).mp z)), j1, jI_sub]
    congr 2
    omega
theorem div_any0 (x : Int64) : ∃ r, fMM_divisor x (jI 0) = some r := by
  unfold fMM_divisor
  obtain ⟨y, hy⟩ : ∃ y, fMM_size x = some y := by
    unfold fMM_size; split
    · exact ⟨_, rfl⟩
    · exact ⟨_, rfl⟩
  have h0 : fMM_size (jI 0) = some (jI 0) := size_spec (a := 0) (by omega)
  obtain ⟨N, hN, -⟩ := FU_s
  rw [db1_t hy, db1_t h0, hN]
  unfold fMM_divisor_L12
  rw [if_pos ((cmp_eq0 inJ0).mpr rfl)]
  exact ⟨_, rfl⟩
def scl (L : Int) (e : enT) : enT := match e with
  | none => none
  | some x => some (x.1, x.2.1 * L, x.2.2)
def nmL (e : vwT) : Int := match e with
  | none => 0
  | some u => u.1.num
def dnL (e : vwT) : Int := match e with
  | none => 0
  | some u => u.1.den
theorem end_red {x y : Int64} {e : enT} {A D L : Int} (h : (e = none ∧ y = jI 0) ∨ ∃ a b o, e = some (a, b, o) ∧ x = jI a ∧ y = jI b) (hB : enB A D e) (hL : 0 < L) (hA : A * L < 70368744177664) (hD : D < 1000000000000000000) :
    ∃ r, fMM_divisor x (y * jI L) = some r ∧ (∀ J : Int64 → Option sT, (dlt J fun J6 => if lg_cmp y (0 : Int64) = 0 then J6 (0 : Int64) else dck (okE r) (J6 (x / r))) = J (jI (nmL (vw (scl L e))))) ∧ (∀ J : Int64 → Option sT, (dlt J fun J6 => if lg_cmp y (0 : Int64) = 0 then J6 (0 : Int64) else dck (okE r) (J6 ((y * jI L) / r))) = J (jI (dnL (vw (scl L e))))) := by
  rcases h with ⟨rfl, rfl⟩ | ⟨a, b, o, rfl, rfl, rfl⟩
  · obtain ⟨r, hr⟩ := div_any0 x
    refine ⟨r, by rw [jI_mul, Int.zero_mul]; exact hr, fun J => ?_, fun J => ?_⟩
    · rw [dlt_u, if_pos ((cmp_eq0 inJ0).mpr rfl)]; rfl
    · rw [dlt_u, if_pos ((cmp_eq0 inJ0).mpr rfl)]; rfl
  · obtain ⟨s1, s2, s3, s4⟩ := hB
    dsimp only at *
    have q1 : b * L ≤ A * L := Int.mul_le_mul_of_nonneg_right s4 (by omega)
    have q2 : 0 < b * L := Int.mul_pos s3 hL
    have q3 : b ≤ b * L := by
      have := Int.mul_le_mul_of_nonneg_left (show 1 ≤ L by omega) (show 0 ≤ b by omega)
      omega
    have hg := gcd_pos' (a := a) q2
    have hb : ¬ lg_cmp (jI b) (0 : Int64) = 0 := fun z => by have := (cmp_eq0 (by unfold inJ; omega)).mp z; omega
    refine ⟨jI (Int.gcd a (b * L)), by rw [jI_mul]; exact divisor_spec (by omega) (by omega), fun J => ?_, fun J => ?_⟩
    · rw [dlt_u, if_neg hb, dck_t (okE_j hg.1 (by omega)), jI_div (by unfold inJ; omega) (by unfold inJ; omega)]
      show _ = J (jI (fr a (b * L)).num)
      rw [fr_num q2]
    · rw [dlt_u, if_neg hb, dck_t (okE_j hg.1 (by omega)), jI_mul, jI_div (by unfold inJ; omega) (by unfold inJ; omega)]
      show _ = J (jI ((fr a (b * L)).den : Int))
      rw [fr_den q2]
theorem fr_bnd {a b A D : Int} (hb : 0 < b) (h1 : -D ≤ a ∧ a ≤ D) (h2 : b ≤ A) : -D ≤ (fr a b).num ∧ (fr a b).num ≤ D ∧ 0 < ((fr a b).den : Int) ∧ ((fr a b).den : Int) ≤ A := by
  obtain ⟨k, hk, e1, e2⟩ := fr_split (a := a) hb
  have hd := den_pos' (fr a b)
  generalize (fr a b).num = x at *
  generalize ((fr a b).den : Int) = y at *
  have q1 := Int.mul_le_mul_of_nonneg_right (show 1 ≤ k by omega) (show 0 ≤ y by omega)
  refine ⟨?_, ?_, hd, by omega⟩
  · by_cases hx : 0 ≤ x
    · omega
    · have := Int.mul_le_mul_of_nonneg_right (show 1 ≤ k by omega) (show 0 ≤ -x by omega)
      have q3 : k * -x = -(k * x) := Int.mul_neg k x
      omega
  · by_cases hx : 0 ≤ x
    · have := Int.mul_le_mul_of_nonneg_right (show 1 ≤ k by omega) hx
      omega
    · omega
/-- ends in lowest terms and their bounds -/
def vB2 (A D : Int) (e : vwT) : Prop := match e with
  | none => True
  | some u => -D ≤ u.1.num ∧ u.1.num ≤ D ∧ (u.1.den : Int) ≤ A
theorem vw_bnd {A D L : Int} {e : enT} (h : enB A D e) (hL : 0 < L) : vB2 (A * L) D (vw (scl L e)) := by
  cases e with
  | none => trivial
  | some x =>
    obtain ⟨s1, s2, s3, s4⟩ := h
    have q1 : x.2.1 * L ≤ A * L := Int.mul_le_mul_of_nonneg_right s4 (by omega)
    have q2 : 0 < x.2.1 * L := Int.mul_pos s3 hL
    obtain ⟨y1, y2, y3, y4⟩ := fr_bnd q2 ⟨s1, s2⟩ q1
    exact ⟨y1, y2, y4⟩
/-- the chosen value as numbers -/
def put2 (τ : sT) (x y : Int64) : sT := sjW (sjW τ 33 15 x) 33 16 y
theorem put2_1 (τ : sT) (x y : Int64) : (put2 τ x y).2 33 15 = x ∧ (put2 τ x y).2 33 16 = y ∧ mOff [39] [15, 16] τ (put2 τ x y) := by
  unfold put2
  refine ⟨?_, ?_, (mOff_sj (by simp)).trans (mOff_sj (by simp))⟩
  · rw [sjW_s, if_neg (by decide), sjW_s, if_pos rfl]
  · rw [sjW_s, if_pos rfl]
def vOp (lo hi : vwT) : Prop := ∀ u v, lo = some u → hi = some v → u.2 = true → v.2 = true → u.1 < v.1
theorem chB_spec {u v : Rat} (hlt : u < v) {A D : Int} (hu : -D ≤ u.num ∧ u.num ≤ D ∧ (u.den : Int) ≤ A) (hv : -D ≤ v.num ∧ v.num ≤ D ∧ (v.den : Int) ≤ A) (hA : A < 70368744177664) (hD : D < 1000000000000000000) (τ : sT) :
    ∃ τ1, fMM_choosesBetween (jI u.num) (jI (u.den : Int)) (jI v.num) (jI (v.den : Int)) τ = some τ1 ∧ τ1.2 33 15 = jI (btw u v).num ∧ τ1.2 33 16 = jI ((btw u v).den : Int) ∧ mOff [39] [15, 16] τ τ1 := by
  have du := den_pos' u
  have dv := den_pos' v
  have hl : u.num * (v.den : Int) < v.num * (u.den : Int) := by
    have := (fr_lt (a := u.num) (c := v.num) du dv).mp (by rw [fr_self, fr_self]; exact hlt)
    exact this
  obtain ⟨w1, w2, w3⟩ := btw_num du dv hl (by omega) (by omega)
  rw [fr_self, fr_self] at w1 w2 w3
  unfold fMM_choosesBetween
  simp only [dlt_u]
  by_cases ha : 0 ≤ u.num
  · rw [if_pos ((cmp_ge0 (by unfold inJ; omega)).mpr ha), if_neg (fun z => by have := (cmp_lt0 (by unfold inJ; omega)).mp z; omega)]
    obtain ⟨g, v1, v2⟩ := w1 ha
    obtain ⟨τ1, e1, e2, e3, e4⟩ := between_spec g (by omega) (by omega) (by omega) (by omega) τ
    rw [db1_t e1]
    exact ⟨τ1, rfl, by rw [e2, v1], by rw [e3, v2], e4⟩
  · rw [if_neg (fun z => ha ((cmp_ge0 (by unfold inJ; omega)).mp z))]
    by_cases hc : v.num ≤ 0
    · rw [if_pos ((cmp_le0 (by unfold inJ; omega)).mpr hc), if_pos ((cmp_lt0 (by unfold inJ; omega)).mpr (by omega)), jI_neg, jI_neg]
      obtain ⟨g, v1, v2⟩ := w3 (by omega) hc
      obtain ⟨τ1, e1, e2, e3, e4⟩ := between_spec g (by omega) (by omega) (by omega) (by omega) τ
      rw [db1_t e1, e2, jI_neg]
      refine ⟨_, rfl, ?_, ?_, e4.trans (mOff_sj (by simp))⟩
      · rw [sjW_s, if_pos rfl, v1]
      · rw [sjW_s, if_neg (by decide), e3, v2]
    · rw [if_neg (fun z => hc ((cmp_le0 (by unfold inJ; omega)).mp z))]
      have := w2 (by omega) (by omega)
      rw [this]
      obtain ⟨p1, p2, p3⟩ := put2_1 τ (0 : Int64) (1 : Int64)
      exact ⟨_, rfl, p1, p2, p3⟩
theorem chooses_spec {τ : sT} {A D L : Int} {e : enT × enT} (hLo : MLo τ e.1) (hHi : MHi τ e.2) (h1 : enB A D e.1) (h2 : enB A D e.2) (hL : 0 < L) (hA : A * L < 70368744177664) (hD : D < 1000000000000000000) (hlt : vOp (vw (scl L e.1)) (vw (scl L e.2))) :
    ∃ τ1, fMM_chooses (jI L) τ = some τ1 ∧ τ1.2 33 15 = jI (cv (vw (scl L e.1)) (vw (scl L e.2))).num ∧ τ1.2 33 16 = jI ((cv (vw (scl L e.1)) (vw (scl L e.2))).den : Int) ∧ mOff [39] [15, 16] τ τ1 := by
  obtain ⟨r2, a1, a2, a3⟩ := end_red (x := τ.2 33 9) (y := τ.2 33 10) (e := e.1) (by
    cases hf : e.1 with
    | none => rw [hf] at hLo; exact Or.inl ⟨rfl, hLo⟩
    | some x => rw [hf] at hLo; exact Or.inr ⟨x.1, x.2.1, x.2.2, rfl, hLo.1, hLo.2.1⟩) h1 hL hA hD
  obtain ⟨r4, c1, c2, c3⟩ := end_red (x := τ.2 33 12) (y := τ.2 33 13) (e := e.2) (by
    cases hf : e.2 with
    | none => rw [hf] at hHi; exact Or.inl ⟨rfl, hHi⟩
    | some x => rw [hf] at hHi; exact Or.inr ⟨x.1, x.2.1, x.2.2, rfl, hHi.1, hHi.2.1⟩) h2 hL hA hD
  have v1 := vw_bnd h1 hL
  have v2 := vw_bnd h2 hL
  have o1 : ∀ u, vw (scl L e.1) = some u → τ.1 33 11 = b01 u.2 := by
    intro u hu
    cases hf : e.1 with
    | none => rw [hf] at hu; cases hu
    | some x =>
      rw [hf] at hu hLo
      unfold scl vw at hu
      cases hu
      exact hLo.2.2
  have o2 : ∀ u, vw (scl L e.2) = some u → τ.1 33 14 = b01 u.2 := by
    intro u hu
    cases hf : e.2 with
    | none => rw [hf] at hu; cases hu
    | some x =>
      rw [hf] at hu hHi
      unfold scl vw at hu
      cases hu
      exact hHi.2.2
  unfold fMM_chooses
  rw [db1_t a1, db1_t c1, a2, a3, c2, c3]
  generalize vw (scl L e.1) = lo at *
  generalize vw (scl L e.2) = hi at *
  simp only [dlt_u]
  have fin : ∀ (x y : Int64) (q : Rat), x = jI q.num → y = jI (q.den : Int) → ∃ τ1, some (sjW (sjW τ 33 15 x) 33 16 y) = some τ1 ∧ τ1.2 33 15 = jI q.num ∧ τ1.2 33 16 = jI (q.den : Int) ∧ mOff [39] [15, 16] τ τ1 := by
    intro x y q hx hy
    obtain ⟨p1, p2, p3⟩ := put2_1 τ x y
    exact ⟨_, rfl, p1.trans hx, p2.trans hy, p3⟩
  cases lo with
  | none =>
    simp only [if_pos ((cmp_le0 inJ0).mpr (Int.le_refl 0)), show dnL none = 0 from rfl]
    cases hi with
    | none =>
      simp only [if_pos ((cmp_le0 inJ0).mpr (Int.le_refl 0)), show dnL none = 0 from rfl]
      exact fin _ _ 0 rfl rfl
    | some v =>
      obtain ⟨v, q⟩ := v
      have dv := den_pos' v
      obtain ⟨y1, y2, y3⟩ := v2
      dsimp only at y1 y2 y3
      have hd : ¬ lg_cmp (jI (v.den : Int)) (0 : Int64) ≤ 0 := fun z => by have := (cmp_le0 (by unfold inJ; omega)).mp z; omega
      simp only [show dnL (some (v, q)) = (v.den : Int) from rfl, show nmL (some (v, q)) = v.num from rfl, if_neg hd]
      rw [o2 _ rfl]
      cases q
      · rw [if_pos b0]; exact fin _ _ v rfl rfl
      · rw [if_neg b1, jI_neg, db1_t (mfloor_spec (by unfold inJ; omega) dv (by omega)), jI_neg, j1, jI_sub]
        exact fin _ _ ((-((-v.num) / v.den) - 1 : Int) : Rat) rfl rfl
  | some u =>
    obtain ⟨u, o⟩ := u
    have du := den_pos' u
    obtain ⟨x1, x2, x3⟩ := v1
    dsimp only at x1 x2 x3
    have hb : ¬ lg_cmp (jI (u.den : Int)) (0 : Int64) ≤ 0 := fun z => by have := (cmp_le0 (by unfold inJ; omega)).mp z; omega
    simp only [show dnL (some (u, o)) = (u.den : Int) from rfl, show nmL (some (u, o)) = u.num from rfl, if_neg hb]
    rw [o1 _ rfl]
    cases o
    · rw [if_pos b0]; exact fin _ _ u rfl rfl
    · rw [if_neg b1]
      cases hi with
      | none =>
        simp only [if_pos ((cmp_le0 inJ0).mpr (Int.le_refl 0)), show dnL none = 0 from rfl]
        rw [db1_t (mfloor_spec (by unfold inJ; omega) du (by omega)), j1, jI_add]
        exact fin _ _ ((u.num / u.den + 1 : Int) : Rat) rfl rfl
      | some v =>
        obtain ⟨v, q⟩ := v
        have dv := den_pos' v
        obtain ⟨y1, y2, y3⟩ := v2
        dsimp only at y1 y2 y3
        have hd : ¬ lg_cmp (jI (v.den : Int)) (0 : Int64) ≤ 0 := fun z => by have := (cmp_le0 (by unfold inJ; omega)).mp z; omega
        simp only [show dnL (some (v, q)) = (v.den : Int) from rfl, show nmL (some (v, q)) = v.num from rfl, if_neg hd]
        rw [o2 _ rfl]
        cases q
        · rw [if_pos b0]; exact fin _ _ v rfl rfl
        · rw [if_neg b1]
          obtain ⟨τ1, e1, e2, e3, e4⟩ := chB_spec (hlt _ _ rfl rfl rfl rfl) ⟨x1, x2, x3⟩ ⟨y1, y2, y3⟩ hA hD τ
          rw [db1_t e1]
          exact ⟨τ1, rfl, e2, e3, e4⟩
