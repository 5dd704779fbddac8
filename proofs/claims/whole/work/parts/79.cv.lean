/-! the chosen value lies between the ends, and is small -/
theorem sF_in1 : ∀ (m n : Nat) (a b c d : Int), gd a b c d → b ≤ a → a * d < 2 ^ m → m < n → a * (sF n a b c d).2 < (sF n a b c d).1 * b ∧ (sF n a b c d).1 * d < c * (sF n a b c d).2 := by
  intro m
  induction m with
  | zero =>
    intro n a b c d h hb hm hn
    obtain ⟨n', rfl⟩ : ∃ n', n = n' + 1 := ⟨n - 1, by omega⟩
    have hd : d = 0 := by
      obtain ⟨h1, h2, h3, h4, h5⟩ := h
      apply Decidable.byContradiction
      intro hne
      have := Int.mul_le_mul (show 1 ≤ a by omega) (show 1 ≤ d by omega) (by omega) (by omega)
      omega
    have he : (a / b + 1) * d < c := by rw [hd, Int.mul_zero]; exact h.2.2.1
    have e := Int.mul_ediv_add_emod a b
    have r2 := Int.emod_lt_of_pos a h.2.1
    have q0 : (a / b + 1) * b = b * (a / b) + b := by grind
    rw [sF, if_pos he]
    dsimp only
    omega
  | succ m ih =>
    intro n a b c d h hb hm hn
    obtain ⟨n', rfl⟩ : ∃ n', n = n' + 1 := ⟨n - 1, by omega⟩
    have e := Int.mul_ediv_add_emod a b
    have r2 := Int.emod_lt_of_pos a h.2.1
    rw [sF]
    by_cases he : (a / b + 1) * d < c
    · have q0 : (a / b + 1) * b = b * (a / b) + b := by grind
      rw [if_pos he]
      dsimp only
      omega
    · rw [if_neg he]
      obtain ⟨g1, g2, g3⟩ := gd_step h he
      have r3 := emod_half h.2.1 hb
      have hm2 : d * (a % b) < 2 ^ m := by
        have q1 := Int.mul_le_mul_of_nonneg_left r3 h.2.2.2.1
        have q2 : d * (2 * (a % b)) = 2 * (d * (a % b)) := by grind
        have q3 : d * a = a * d := Int.mul_comm _ _
        have q4 : (2 : Int) ^ (m + 1) = 2 * 2 ^ m := by rw [Int.pow_succ]; omega
        omega
      obtain ⟨i1, i2⟩ := ih n' d (c - a / b * d) b (a % b) g1 g2 hm2 (by omega)
      generalize sF n' d (c - a / b * d) b (a % b) = z at *
      obtain ⟨p, q⟩ := z
      dsimp only at *
      generalize a / b = w at *
      generalize a % b = r at *
      have q1 : a * p = b * (w * p) + p * r := by rw [← e]; grind
      have q2 : (w * p + q) * b = b * (w * p) + b * q := by grind
      have q3 : (w * p + q) * d = w * d * p + d * q := by grind
      have q4 : p * (c - w * d) = c * p - w * d * p := by grind
      omega
theorem sF_in {m n : Nat} {a b c d : Int} (h : gd a b c d) (hm : b * d < 2 ^ m) (hn : m + 1 < n) : a * (sF n a b c d).2 < (sF n a b c d).1 * b ∧ (sF n a b c d).1 * d < c * (sF n a b c d).2 := by
  obtain ⟨n', rfl⟩ : ∃ n', n = n' + 1 := ⟨n - 1, by omega⟩
  have e := Int.mul_ediv_add_emod a b
  have r2 := Int.emod_lt_of_pos a h.2.1
  rw [sF]
  by_cases he : (a / b + 1) * d < c
  · have q0 : (a / b + 1) * b = b * (a / b) + b := by grind
    rw [if_pos he]
    dsimp only
    omega
  · rw [if_neg he]
    obtain ⟨g1, g2, g3⟩ := gd_step h he
    have hm2 : d * (a % b) < 2 ^ m := by
      have q1 := Int.mul_le_mul_of_nonneg_left (show a % b ≤ b by omega) h.2.2.2.1
      have q3 : d * b = b * d := Int.mul_comm _ _
      omega
    obtain ⟨i1, i2⟩ := sF_in1 m n' d (c - a / b * d) b (a % b) g1 g2 hm2 (by omega)
    generalize sF n' d (c - a / b * d) b (a % b) = z at *
    obtain ⟨p, q⟩ := z
    dsimp only at *
    generalize a / b = w at *
    generalize a % b = r at *
    have q1 : a * p = b * (w * p) + p * r := by rw [← e]; grind
    have q2 : (w * p + q) * b = b * (w * p) + b * q := by grind
    have q3 : (w * p + q) * d = w * d * p + d * q := by grind
    have q4 : p * (c - w * d) = c * p - w * d * p := by grind
    omega
theorem smp_bd {a b c d A D : Int} (h : gd a b c d) (hd : 0 < d) (hb2 : b ≤ A) (hd2 : d ≤ A) (ha : a ≤ D) (hc : c ≤ D) (hA : A < 70368744177664) : fr a b < smp (fr a b) (fr c d) ∧ smp (fr a b) (fr c d) < fr c d ∧ 0 < (smp (fr a b) (fr c d)).num ∧ (smp (fr a b) (fr c d)).num ≤ 2 * D ∧ ((smp (fr a b) (fr c d)).den : Int) ≤ 2 * A := by
  have hbd : b * d < 2 ^ 94 := by
    have q1 := Int.mul_le_mul (show b ≤ 70368744177664 by omega) (show d ≤ 70368744177664 by omega) h.2.2.2.1 (by omega)
    have : (70368744177664 : Int) * 70368744177664 < 2 ^ 94 := by decide
    omega
  obtain ⟨o1, o2, o3, o4, o5⟩ := sF_ok0 (n := 96) h hbd (by omega)
  obtain ⟨i1, i2⟩ := sF_in (n := 96) h hbd (by omega)
  obtain ⟨n1, n2⟩ := smp_num h hd (by omega) (by omega)
  have hs : smp (fr a b) (fr c d) = fr (sF 96 a b c d).1 (sF 96 a b c d).2 := by unfold smp; rw [smp_fr h.2.1 hd]
  refine ⟨by rw [hs, fr_lt h.2.1 o3]; exact i1, by rw [hs, fr_lt o3 hd]; exact i2, by omega, by omega, by omega⟩
theorem nrat {u : Rat} : -u = fr (-u.num) u.den := by rw [fr_neg1, fr_self]
theorem btw_in {u v : Rat} {A D : Int} (hlt : u < v) (hu : -D ≤ u.num ∧ u.num ≤ D ∧ (u.den : Int) ≤ A) (hv : -D ≤ v.num ∧ v.num ≤ D ∧ (v.den : Int) ≤ A) (hA : A < 70368744177664) (hA1 : 1 ≤ A) (hD : 1 ≤ D) : u < btw u v ∧ btw u v < v ∧ -(2 * D) ≤ (btw u v).num ∧ (btw u v).num ≤ 2 * D ∧ ((btw u v).den : Int) ≤ 2 * A := by
  have du := den_pos' u
  have dv := den_pos' v
  have hl : u.num * (v.den : Int) < v.num * (u.den : Int) := (fr_lt (a := u.num) (c := v.num) du dv).mp (by rw [fr_self, fr_self]; exact hlt)
  obtain ⟨w1, w2, w3⟩ := btw_num du dv hl (by omega) (by omega)
  rw [fr_self, fr_self] at w1 w2 w3
  have s1 := fr_nn (a := u.num) du
  have s2 := fr_pos (a := v.num) dv
  rw [fr_self] at s1 s2
  by_cases ha : 0 ≤ u.num
  · obtain ⟨g, -⟩ := w1 ha
    have := smp_bd g dv hu.2.2 hv.2.2 hu.2.1 hv.2.1 hA
    rw [fr_self, fr_self] at this
    have hb : btw u v = smp u v := by unfold btw; rw [if_pos (s1.mpr ha)]
    rw [hb]
    obtain ⟨k1, k2, k3, k4, k5⟩ := this
    exact ⟨k1, k2, by omega, k4, k5⟩
  · by_cases hc : v.num ≤ 0
    · obtain ⟨g, -⟩ := w3 (by omega) hc
      have := smp_bd g du hv.2.2 hu.2.2 (show -v.num ≤ D by omega) (show -u.num ≤ D by omega) hA
      rw [← nrat, ← nrat] at this
      have hb : btw u v = -(smp (-v) (-u)) := by unfold btw; rw [if_neg (fun z => ha (s1.mp z)), if_neg (fun z => by have := s2.mp z; omega)]
      rw [hb, Rat.neg_num, Rat.neg_den]
      obtain ⟨k1, k2, k3, k4, k5⟩ := this
      exact ⟨by grind, by grind, by omega, by omega, k5⟩
    · have hb := w2 (by omega) (by omega)
      rw [hb]
      have h1 : u < 0 := by
        have : ¬ 0 ≤ u := fun z => ha (s1.mp z)
        grind
      refine ⟨h1, s2.mpr (by omega), ?_, ?_, ?_⟩
      · show -(2 * D) ≤ (0 : Int); omega
      · show (0 : Int) ≤ 2 * D; omega
      · show (1 : Int) ≤ 2 * A; omega
def vlo (e : vwT) (t : Rat) : Prop := match e with
  | none => True
  | some u => u.1 < t ∨ (u.1 = t ∧ u.2 = false)
def vhi (e : vwT) (t : Rat) : Prop := match e with
  | none => True
  | some u => t < u.1 ∨ (u.1 = t ∧ u.2 = false)
theorem vlo_S (e : enT) (t : Rat) : vlo (vw e) t ↔ loS e t := by
  cases e with
  | none => exact Iff.rfl
  | some x => rw [lo_x]; exact Iff.rfl
theorem vhi_S (e : enT) (t : Rat) : vhi (vw e) t ↔ hiS e t := by
  cases e with
  | none => exact Iff.rfl
  | some x => rw [hi_x]; exact Iff.rfl
theorem fl_bd {u : Rat} {D : Int} (h : -D ≤ u.num ∧ u.num ≤ D) : -D ≤ u.num / u.den ∧ u.num / u.den ≤ D ∧ ((u.num / u.den : Int) : Rat) ≤ u ∧ u < ((u.num / u.den + 1 : Int) : Rat) := by
  have du := den_pos' u
  have e := Int.mul_ediv_add_emod u.num u.den
  have r1 := Int.emod_nonneg u.num (show (u.den : Int) ≠ 0 by omega)
  have r2 := Int.emod_lt_of_pos u.num du
  refine ⟨?_, ?_, ?_, ?_⟩
  · apply Int.le_ediv_of_mul_le du
    have := Int.mul_le_mul_of_nonneg_left (show 1 ≤ (u.den : Int) by omega) (show 0 ≤ D by omega)
    rw [Int.neg_mul]; omega
  · apply Int.ediv_le_of_le_mul du
    have := Int.mul_le_mul_of_nonneg_left (show 1 ≤ (u.den : Int) by omega) (show 0 ≤ D by omega)
    omega
  · conv => rhs; rw [← fr_self u]
    rw [← fr_one, fr_le (by omega) du]
    have : u.num / (u.den : Int) * u.den = u.den * (u.num / u.den) := Int.mul_comm _ _
    omega
  · conv => lhs; rw [← fr_self u]
    rw [← fr_one, fr_lt du (by omega)]
    have : (u.num / (u.den : Int) + 1) * u.den = u.den * (u.num / u.den) + u.den := by grind
    omega
theorem cv_in {lo hi : vwT} {A D : Int} (hne : ∃ t, vlo lo t ∧ vhi hi t) (h1 : vB2 A D lo) (h2 : vB2 A D hi) (hA : A < 70368744177664) (hA1 : 1 ≤ A) (hD : 1 ≤ D) : vlo lo (cv lo hi) ∧ vhi hi (cv lo hi) ∧ -(2 * D) ≤ (cv lo hi).num ∧ (cv lo hi).num ≤ 2 * D ∧ ((cv lo hi).den : Int) ≤ 2 * A := by
  obtain ⟨t, t1, t2⟩ := hne
  cases lo with
  | none =>
    cases hi with
    | none =>
      refine ⟨trivial, trivial, ?_, ?_, ?_⟩
      · show -(2 * D) ≤ (0 : Int); omega
      · show (0 : Int) ≤ 2 * D; omega
      · show (1 : Int) ≤ 2 * A; omega
    | some v =>
      obtain ⟨v, q⟩ := v
      obtain ⟨y1, y2, y3⟩ := h2
      dsimp only at y1 y2 y3
      cases q
      · exact ⟨trivial, Or.inr ⟨rfl, rfl⟩, by show -(2 * D) ≤ v.num; omega, by show v.num ≤ 2 * D; omega, by show (v.den : Int) ≤ 2 * A; omega⟩
      · obtain ⟨f1, f2, f3, f4⟩ := fl_bd (u := -v) (D := D) (by rw [Rat.neg_num]; omega)
        rw [Rat.neg_num, Rat.neg_den] at f1 f2 f3 f4
        have hc : cv none (some (v, true)) = ((-((-v.num) / v.den) - 1 : Int) : Rat) := rfl
        rw [hc]
        refine ⟨trivial, Or.inl ?_, by show -(2 * D) ≤ -((-v.num) / v.den) - 1; omega, by show -((-v.num) / v.den) - 1 ≤ 2 * D; omega, by show (1 : Int) ≤ 2 * A; omega⟩
        dsimp only
        have k1 : ((-((-v.num) / v.den) - 1 : Int) : Rat) = -(((-v.num) / v.den + 1 : Int) : Rat) := by
          rw [← Rat.intCast_neg]; congr 1; omega
        rw [k1]; grind
  | some u =>
    obtain ⟨u, o⟩ := u
    obtain ⟨x1, x2, x3⟩ := h1
    dsimp only at x1 x2 x3
    have ut : u ≤ t := by
      rcases t1 with h | ⟨h, -⟩
      · exact Rat.le_of_lt h
      · dsimp only at h; rw [h]; exact Rat.le_refl
    cases o
    · refine ⟨Or.inr ⟨rfl, rfl⟩, ?_, by show -(2 * D) ≤ u.num; omega, by show u.num ≤ 2 * D; omega, by show (u.den : Int) ≤ 2 * A; omega⟩
      show vhi hi u
      cases hi with
      | none => trivial
      | some v =>
        rcases t2 with h | ⟨h, h'⟩
        · exact Or.inl (by grind)
        · by_cases e : v.1 = u
          · exact Or.inr ⟨e, h'⟩
          · exact Or.inl (by grind)
    · have ut' : u < t := by
        rcases t1 with h | ⟨-, h⟩
        · exact h
        · cases h
      cases hi with
      | none =>
        obtain ⟨f1, f2, f3, f4⟩ := fl_bd (u := u) ⟨x1, x2⟩
        have hc : cv (some (u, true)) none = ((u.num / u.den + 1 : Int) : Rat) := rfl
        rw [hc]
        exact ⟨Or.inl f4, trivial, by show -(2 * D) ≤ u.num / u.den + 1; omega, by show u.num / u.den + 1 ≤ 2 * D; omega, by show (1 : Int) ≤ 2 * A; omega⟩
      | some v =>
        obtain ⟨v, q⟩ := v
        obtain ⟨y1, y2, y3⟩ := h2
        dsimp only at y1 y2 y3
        have tv : t ≤ v := by
          rcases t2 with h | ⟨h, -⟩
          · exact Rat.le_of_lt h
          · dsimp only at h; rw [h]; exact Rat.le_refl
        have huv : u < v := by grind
        cases q
        · exact ⟨Or.inl huv, Or.inr ⟨rfl, rfl⟩, by show -(2 * D) ≤ v.num; omega, by show v.num ≤ 2 * D; omega, by show (v.den : Int) ≤ 2 * A; omega⟩
        · have hc : cv (some (u, true)) (some (v, true)) = btw u v := rfl
          rw [hc]
          obtain ⟨k1, k2, k3, k4, k5⟩ := btw_in huv ⟨x1, x2, x3⟩ ⟨y1, y2, y3⟩ hA hA1 hD
          exact ⟨Or.inl k1, Or.inl k2, k3, k4, k5⟩
theorem scl_fr {a b L : Int} (hb : 0 < b) (hL : 0 < L) (t : Rat) : (fr a (b * L) < t ↔ fr a b < (L : Rat) * t) ∧ (t < fr a (b * L) ↔ (L : Rat) * t < fr a b) ∧ (fr a (b * L) = t ↔ fr a b = (L : Rat) * t) := by
  have hLr := cast_pos hL
  have e : fr a b = (L : Rat) * fr a (b * L) := by
    have dv := den_pos' (fr a (b * L))
    have : (L : Rat) * fr a (b * L) = fr (L * a) (b * L) := by
      unfold fr; rw [Rat.intCast_mul L a, Rat.div_def, Rat.div_def, Rat.mul_assoc]
    rw [this, fr_eq hb (Int.mul_pos hb hL)]
    grind
  rw [e]
  generalize fr a (b * L) = x
  have m1 : ∀ p q : Rat, p < q → (L : Rat) * p < (L : Rat) * q := by
    intro p q h
    have := Rat.mul_pos hLr (show 0 < q - p by grind)
    grind
  refine ⟨⟨m1 _ _, fun h => ?_⟩, ⟨m1 _ _, fun h => ?_⟩, ⟨fun h => by rw [h], fun h => ?_⟩⟩
  · apply Classical.byContradiction
    intro hn
    rcases (show t = x ∨ t < x by grind) with h2 | h2
    · rw [h2] at h; grind
    · have := m1 _ _ h2; grind
  · apply Classical.byContradiction
    intro hn
    rcases (show t = x ∨ x < t by grind) with h2 | h2
    · rw [h2] at h; grind
    · have := m1 _ _ h2; grind
  · apply Classical.byContradiction
    intro hn
    rcases (show t < x ∨ x < t by grind) with h2 | h2
    · have := m1 _ _ h2; grind
    · have := m1 _ _ h2; grind
theorem scl_lo {e : enT} (h : enOk e) {L : Int} (hL : 0 < L) (t : Rat) : vlo (vw (scl L e)) t ↔ loS e ((L : Rat) * t) := by
  cases e with
  | none => exact Iff.rfl
  | some x =>
    obtain ⟨s1, s2, s3⟩ := scl_fr (a := x.1) h.2.1 hL t
    rw [lo_x, ← s1, ← s3]
    exact Iff.rfl
theorem scl_hi {e : enT} (h : enOk e) {L : Int} (hL : 0 < L) (t : Rat) : vhi (vw (scl L e)) t ↔ hiS e ((L : Rat) * t) := by
  cases e with
  | none => exact Iff.rfl
  | some x =>
    obtain ⟨s1, s2, s3⟩ := scl_fr (a := x.1) h.2.1 hL t
    rw [hi_x, ← s2, ← s3]
    exact Iff.rfl
