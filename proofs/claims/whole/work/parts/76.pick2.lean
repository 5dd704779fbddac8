/-! the class's pick; the model's between -/
theorem fr_one (p : Int) : fr p 1 = (p : Rat) := by
  unfold fr
  rw [show ((1 : Int) : Rat) = 1 from rfl, Rat.div_def, show ((1 : Rat)⁻¹) = 1 from Rat.inv_eq_of_mul_eq_one (Rat.mul_one 1), Rat.mul_one]
theorem fr_0 : fr 0 1 = 0 := by rw [fr_one]; rfl
theorem fr_nn {a b : Int} (hb : 0 < b) : 0 ≤ fr a b ↔ 0 ≤ a := by
  rw [← fr_0, fr_le (by omega) hb]; omega
theorem fr_pos {a b : Int} (hb : 0 < b) : 0 < fr a b ↔ 0 < a := by
  rw [← fr_0, fr_lt (by omega) hb]; omega
theorem int_red (p : Int) : ((p : Rat)).num = p ∧ (((p : Rat)).den : Int) = 1 := ⟨rfl, rfl⟩
theorem btw_num {a b c d : Int} (hb : 0 < b) (hd : 0 < d) (hlt : a * d < c * b) (hb2 : b < 70368744177664) (hd2 : d < 70368744177664) :
    (0 ≤ a → gd a b c d ∧ (btw (fr a b) (fr c d)).num = (sF 96 a b c d).1 ∧ ((btw (fr a b) (fr c d)).den : Int) = (sF 96 a b c d).2) ∧
    (a < 0 → 0 < c → btw (fr a b) (fr c d) = 0) ∧
    (a < 0 → c ≤ 0 → gd (-c) d (-a) b ∧ (btw (fr a b) (fr c d)).num = -(sF 96 (-c) d (-a) b).1 ∧ ((btw (fr a b) (fr c d)).den : Int) = (sF 96 (-c) d (-a) b).2) := by
  refine ⟨fun h => ?_, fun h1 h2 => ?_, fun h1 h2 => ?_⟩
  · have hc : 0 < c := by
      apply Decidable.byContradiction
      intro hn
      have q1 := Int.mul_nonneg h (show 0 ≤ d by omega)
      have q2 := Int.mul_nonneg (show 0 ≤ -c by omega) (show 0 ≤ b by omega)
      have q3 : -c * b = -(c * b) := Int.neg_mul c b
      omega
    have g : gd a b c d := ⟨h, hb, hc, by omega, hlt⟩
    unfold btw
    rw [if_pos ((fr_nn hb).mpr h)]
    exact ⟨g, smp_num g hd hb2 hd2⟩
  · unfold btw
    rw [if_neg (fun z => by have := (fr_nn hb).mp z; omega), if_pos ((fr_pos hd).mpr h2)]
  · have g : gd (-c) d (-a) b := ⟨by omega, hd, by omega, by omega, by
      rw [Int.neg_mul, Int.neg_mul]; omega⟩
    unfold btw
    rw [if_neg (fun z => by have := (fr_nn hb).mp z; omega), if_neg (fun z => by have := (fr_pos hd).mp z; omega), ← fr_neg1, ← fr_neg1, Rat.neg_num, Rat.neg_den]
    have := smp_num g hb hd2 hb2
    exact ⟨g, by rw [this.1], this.2⟩
theorem iv_lt {e : enT × enT} {x y : Int × Int × Bool} (h1 : enOk e.1) (h2 : enOk e.2) (hne : ∃ t, ivS e t) (e1 : e.1 = some x) (e2 : e.2 = some y) (ho : x.2.2 = true ∨ y.2.2 = true) : x.1 * y.2.1 < y.1 * x.2.1 := by
  rcases (iv_ex h1 h2).mp hne x y e1 e2 with h | ⟨-, h3, h4⟩
  · exact h
  · rcases ho with h | h
    · rw [h] at h3; cases h3
    · rw [h] at h4; cases h4
theorem tru {o : Bool} (h : ¬ o = false) : o = true := by cases o <;> simp at h ⊢
theorem pick_spec {σ : sT} {A D : Int} {e : enT × enT} (hL : LoAt σ e.1) (hH : HiAt σ e.2) (h1 : enB A D e.1) (h2 : enB A D e.2) (hA : A < 70368744177664) (hD : D < 1000000000000000000) (hne : ∃ t, ivS e t) :
    ∃ σ1, fSp_pick σ = some σ1 ∧ σ1.2 15 6 = jI (cv (vw e.1) (vw e.2)).num ∧ σ1.2 15 7 = jI ((cv (vw e.1) (vw e.2)).den : Int) ∧ offC [15] σ σ1 := by
  have k1 : enOk e.1 := enB_ok h1 (by omega) (by unfold big; omega)
  have k2 : enOk e.2 := enB_ok h2 (by omega) (by unfold big; omega)
  have lt := fun x y e1 e2 ho => iv_lt (x := x) (y := y) k1 k2 hne e1 e2 ho
  obtain ⟨lo, hi⟩ := e
  dsimp only at *
  have one : (0 : Int) < 1 ∧ (1 : Int) < 140737488355328 := by omega
  have zz : ∃ σ1, fSp_choose (0 : Int64) (1 : Int64) σ = some σ1 ∧ σ1.2 15 6 = jI (0 : Rat).num ∧ σ1.2 15 7 = jI ((0 : Rat).den : Int) ∧ offC [15] σ σ1 := by
    have := choose_spec (p := 0) (q := 1) (by omega) one σ
    rw [fr_0] at this; exact this
  have zi : ∀ p : Int, (-9223372036854775808 < p ∧ p < 9223372036854775808) → ∃ σ1, fSp_choose (jI p) (1 : Int64) σ = some σ1 ∧ σ1.2 15 6 = jI (p : Rat).num ∧ σ1.2 15 7 = jI ((p : Rat).den : Int) ∧ offC [15] σ σ1 := by
    intro p hp
    have := choose_spec (p := p) (q := 1) hp one σ
    rw [fr_one] at this; exact this
  unfold fSp_pick
  simp only [dlt_u]
  cases lo with
  | none =>
    have l1 : σ.2 15 1 = jI 0 := hL
    rw [l1]
    simp only [if_pos ((cmp_le0 inJ0).mpr (Int.le_refl 0))]
    cases hi with
    | none =>
      have r1 : σ.2 15 4 = jI 0 := hH
      rw [r1]
      simp only [if_pos ((cmp_le0 inJ0).mpr (Int.le_refl 0))]
      obtain ⟨σ1, e1, e2, e3, e4⟩ := zz
      rw [db1_t e1]
      exact ⟨σ1, rfl, e2, e3, e4⟩
    | some y =>
      obtain ⟨c, d, q⟩ := y
      obtain ⟨r1, r2, r3⟩ := hH
      obtain ⟨s1, s2, s3, s4⟩ := h2
      dsimp only at *
      have hd : ¬ lg_cmp (jI d) (0 : Int64) ≤ 0 := fun z => by have := (cmp_le0 (by unfold inJ; omega)).mp z; omega
      rw [r1, r2, r3]
      simp only [if_neg hd]
      cases q
      · rw [if_pos b0]
        obtain ⟨σ1, e1, e2, e3, e4⟩ := choose_spec (p := c) (q := d) (by omega) (by omega) σ
        rw [db1_t e1]
        exact ⟨σ1, rfl, e2, e3, e4⟩
      · rw [if_neg b1, jI_neg, db1_t (floor_spec (by unfold inJ; omega) (by unfold inJ; omega) s3), jI_neg, j1, jI_sub]
        have hf : (fr c d).num / ((fr c d).den : Int) = c / d := fr_floor s3
        have hf2 : (-(fr c d).num) / ((fr c d).den : Int) = (-c) / d := by
          have := fr_floor (a := -c) s3
          rw [fr_neg1, Rat.neg_num, Rat.neg_den] at this; exact this
        have bd : -D ≤ (-c) / d ∧ (-c) / d ≤ D := by
          constructor
          · apply Int.le_ediv_of_mul_le s3
            have := Int.mul_le_mul_of_nonneg_left (show 1 ≤ d by omega) (show 0 ≤ D by omega)
            rw [Int.neg_mul]; omega
          · apply Int.ediv_le_of_le_mul s3
            have := Int.mul_le_mul_of_nonneg_left (show 1 ≤ d by omega) (show 0 ≤ D by omega)
            omega
        obtain ⟨σ1, e1, e2, e3, e4⟩ := zi (-((-c) / d) - 1) (by omega)
        have e1' : fSp_choose (jI (-((-c) / d) - 1)) (jI 1) σ = some σ1 := e1
        rw [db1_t e1']
        refine ⟨σ1, rfl, ?_, ?_, e4⟩
        · rw [e2, ← hf2]; rfl
        · rw [e3, ← hf2]; rfl
  | some x =>
    obtain ⟨a, b, o⟩ := x
    obtain ⟨l1, l2, l3⟩ := hL
    obtain ⟨t1, t2, t3, t4⟩ := h1
    dsimp only at *
    have hb : ¬ lg_cmp (jI b) (0 : Int64) ≤ 0 := fun z => by have := (cmp_le0 (by unfold inJ; omega)).mp z; omega
    rw [l1, l2, l3]
    simp only [if_neg hb]
    cases o
    · rw [if_pos b0]
      obtain ⟨σ1, e1, e2, e3, e4⟩ := choose_spec (p := a) (q := b) (by omega) (by omega) σ
      rw [db1_t e1]
      exact ⟨σ1, rfl, e2, e3, e4⟩
    · rw [if_neg b1]
      cases hi with
      | none =>
        have r1 : σ.2 15 4 = jI 0 := hH
        rw [r1]
        simp only [if_pos ((cmp_le0 inJ0).mpr (Int.le_refl 0))]
        rw [db1_t (floor_spec (by unfold inJ; omega) (by unfold inJ; omega) t3), j1, jI_add]
        have hf : (fr a b).num / ((fr a b).den : Int) = a / b := fr_floor t3
        have bd : -D ≤ a / b ∧ a / b ≤ D := by
          constructor
          · apply Int.le_ediv_of_mul_le t3
            have := Int.mul_le_mul_of_nonneg_left (show 1 ≤ b by omega) (show 0 ≤ D by omega)
            rw [Int.neg_mul]; omega
          · apply Int.ediv_le_of_le_mul t3
            have := Int.mul_le_mul_of_nonneg_left (show 1 ≤ b by omega) (show 0 ≤ D by omega)
            omega
        obtain ⟨σ1, e1, e2, e3, e4⟩ := zi (a / b + 1) (by omega)
        have e1' : fSp_choose (jI (a / b + 1)) (jI 1) σ = some σ1 := e1
        rw [db1_t e1']
        refine ⟨σ1, rfl, ?_, ?_, e4⟩
        · rw [e2, ← hf]; rfl
        · rw [e3, ← hf]; rfl
      | some y =>
        obtain ⟨c, d, q⟩ := y
        obtain ⟨r1, r2, r3⟩ := hH
        obtain ⟨s1, s2, s3, s4⟩ := h2
        dsimp only at *
        have hd : ¬ lg_cmp (jI d) (0 : Int64) ≤ 0 := fun z => by have := (cmp_le0 (by unfold inJ; omega)).mp z; omega
        rw [r2, r3]
        simp only [if_neg hd]
        cases q
        · rw [if_pos b0, r1]
          obtain ⟨σ1, e1, e2, e3, e4⟩ := choose_spec (p := c) (q := d) (by omega) (by omega) σ
          rw [db1_t e1]
          exact ⟨σ1, rfl, e2, e3, e4⟩
        · rw [if_neg b1]
          have hlt : a * d < c * b := lt (a, b, true) (c, d, true) rfl rfl (Or.inl rfl)
          obtain ⟨w1, w2, w3⟩ := btw_num t3 s3 hlt (by omega) (by omega)
          unfold fSp_pickBetween
          rw [l1, l2, r1, r2, jI_neg, jI_neg]
          by_cases ha : a < 0
          · rw [if_pos ((cmp_lt0 (by unfold inJ; omega)).mpr ha)]
            by_cases hc : c ≤ 0
            · rw [if_pos ((cmp_le0 (by unfold inJ; omega)).mpr hc)]
              obtain ⟨g, v1, v2⟩ := w3 ha hc
              obtain ⟨σ1, e1, e2, e3, e4⟩ := simplest_spec g (by omega) (by omega) (by omega) (by omega) σ
              rw [db1_t e1, dlt_u, e2, jI_neg, db1_t rfl]
              refine ⟨_, rfl, ?_, ?_, e4.trans (offC_sj (by simp))⟩
              · rw [sjW_s, if_pos rfl, ← v1]; rfl
              · rw [sjW_s, if_neg (by decide), e3, ← v2]; rfl
            · rw [if_neg (fun z => hc ((cmp_le0 (by unfold inJ; omega)).mp z))]
              obtain ⟨σ1, e1, e2, e3, e4⟩ := zz
              have := w2 ha (by omega)
              rw [db1_t e1, db1_t rfl]
              refine ⟨σ1, rfl, ?_, ?_, e4⟩
              · rw [e2, ← this]; rfl
              · rw [e3, ← this]; rfl
          · rw [if_neg (fun z => ha ((cmp_lt0 (by unfold inJ; omega)).mp z))]
            obtain ⟨g, v1, v2⟩ := w1 (by omega)
            obtain ⟨σ1, e1, e2, e3, e4⟩ := simplest_spec g (by omega) (by omega) (by omega) (by omega) σ
            rw [db1_t e1, db1_t rfl]
            refine ⟨σ1, rfl, ?_, ?_, e4⟩
            · rw [e2, ← v1]; rfl
            · rw [e3, ← v2]; rfl
