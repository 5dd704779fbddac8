/-! the model's point -/
def mrw (k : Nat) (P Q R S L : Int) (r : rT) : rT := (if k ≤ 0 then r.1 else 0, if k ≤ 1 then r.2.1 else 0, r.2.2.1, r.2.2.2.1 * L - r.1 * P * (L / Q) - r.2.1 * R * (L / S), r.2.2.2.2)
theorem lw_loop {n m k : Nat} {g : gT} (ok : BkOk n g) (hm : m < 2 ^ n) (hk : k ≤ 2) {P Q R S L : Int} (hQ : 0 < Q ∧ Q < 9223372036854775808) (hS : 0 < S ∧ S < 9223372036854775808) (hL : 0 < L ∧ L < 9223372036854775808) : ∀ (c i f : Nat) (τ : sT) (W : List rT), i + c = n → c < f → BkM τ n g → LaidAt τ W → W.length ≤ 2 * i →
    ∃ τ1, fMM_laysWith_L92 (nI m) (nI k) (jI P) (jI Q) (jI R) (jI S) (jI L) f (nI i) τ = some (jI L, τ1) ∧ LaidAt τ1 (W ++ ((setF g m c i).map (mrw k P Q R S L)).flatMap dbl) ∧ mOff [37] [5] τ τ1 := by
  have hn := ok.1
  have hm' := lt_4096 ok.1 hm
  intro c
  induction c with
  | zero =>
    intro i f τ W h1 h2 hB hW hl
    obtain ⟨f', rfl⟩ : ∃ f', f = f' + 1 := ⟨f - 1, by omega⟩
    unfold fMM_laysWith_L92
    rw [dck_t (by decide), show (0 : Int32).toNatClampNeg = 0 from rfl, hB.1, if_pos (nI_le (by omega) (by omega))]
    exact ⟨τ, rfl, by simpa [setF] using hW, mOff.refl _ _ _⟩
  | succ c ih =>
    intro i f τ W h1 h2 hB hW hl
    obtain ⟨f', rfl⟩ : ∃ f', f = f' + 1 := ⟨f - 1, by omega⟩
    have hi : i < n := by omega
    unfold fMM_laysWith_L92
    rw [dck_t (by decide), show (0 : Int32).toNatClampNeg = 0 from rfl, hB.1, if_neg (nI_ge (by omega) (by omega)), db1_t (has_spec hm' (by omega)), setF, nI_1]
    cases b : m.testBit i
    · rw [if_pos b0, if_neg (by decide)]
      exact ih (i + 1) f' τ W (by omega) (by omega) hB hW (by omega)
    · have hkd := kd_n ok hi
      obtain ⟨c3, -, d, -⟩ := ok.2 i hi
      have c0 := c3 0 (by omega)
      have c1 := c3 1 (by omega)
      have c2 := c3 2 (by omega)
      have t0 : fMM_at (nI i) (0 : Int32) τ = some (iI (g i 0)) := at_spec hB hn hi (k := 0) (by omega)
      have t1 : fMM_at (nI i) (1 : Int32) τ = some (iI (g i 1)) := at_spec hB hn hi (k := 1) (by omega)
      have t2 : fMM_at (nI i) (2 : Int32) τ = some (iI (g i 2)) := at_spec hB hn hi (k := 2) (by omega)
      have t3 : fMM_at (nI i) (3 : Int32) τ = some (iI (g i 3)) := at_spec hB hn hi (k := 3) (by omega)
      have t4 : fMM_at (nI i) (4 : Int32) τ = some (iI (g i 4)) := at_spec hB hn hi (k := 4) (by omega)
      have l0 : (iI (g i 0)).toInt64 = jI (g i 0) := iI_l (by unfold inI; omega)
      have l1 : (iI (g i 1)).toInt64 = jI (g i 1) := iI_l (by unfold inI; omega)
      have l2 : (iI (g i 2)).toInt64 = jI (g i 2) := iI_l (by unfold inI; omega)
      have l4 : (iI (g i 4)).toInt64 = jI (g i 4) := iI_l (by unfold inI; omega)
      obtain ⟨τ2, e1, e2, e3⟩ := laysSum_spec hW (by omega) (mrw k P Q R S L (rowOf g i)) hkd.2
      have e1' : fMM_laysSum (jI (if k ≤ 0 then g i 0 else 0)) (jI (if k ≤ 1 then g i 1 else 0)) (jI (g i 2)) (jI (g i 4 * L - g i 0 * P * (L / Q) - g i 1 * R * (L / S))) (nI (g i 3).toNat) τ = some τ2 := e1
      have hd := dbl_len (mrw k P Q R S L (rowOf g i))
      obtain ⟨τ3, f1, f2, f3⟩ := ih (i + 1) f' τ2 _ (by omega) (by omega) (hB.of e3 (by decide)) e2 (by rw [List.length_append]; omega)
      rw [if_neg b1, if_pos rfl, db1_t t4, db1_t t0, dck_t (okE_j hQ.1 hQ.2), db1_t t1, dck_t (okE_j hS.1 hS.2)]
      simp only [dlt_u]
      rw [l0, l1, l4, jI_div (by unfold inJ; omega) (by unfold inJ; omega), jI_div (by unfold inJ; omega) (by unfold inJ; omega), Int.tdiv_eq_ediv_of_nonneg (by omega), Int.tdiv_eq_ediv_of_nonneg (by omega)]
      simp only [jI_mul, jI_sub]
      refine ⟨τ3, ?_, by simpa using f2, e3.trans f3⟩
      rcases (show k = 0 ∨ k = 1 ∨ k = 2 by omega) with rfl | rfl | rfl
      · rw [if_pos (show nI 0 ≤ 0 by decide), db1_t t0, if_pos (show nI 0 ≤ (1 : Int32) by decide), db1_t t1, l0, l1, db1_t t2, db1_t t3, l2, hkd.1]
        rw [if_pos (by omega), if_pos (by omega)] at e1'
        rw [db1_t e1']; exact f1
      · rw [if_neg (show ¬ nI 1 ≤ 0 by decide), if_pos (show nI 1 ≤ (1 : Int32) by decide), db1_t t1, l1, db1_t t2, db1_t t3, l2, hkd.1]
        rw [if_neg (by omega), if_pos (by omega)] at e1'
        have e1'' : fMM_laysSum (0 : Int64) (jI (g i 1)) (jI (g i 2)) (jI (g i 4 * L - g i 0 * P * (L / Q) - g i 1 * R * (L / S))) (nI (g i 3).toNat) τ = some τ2 := e1'
        rw [db1_t e1'']; exact f1
      · rw [if_neg (show ¬ nI 2 ≤ 0 by decide), if_neg (show ¬ nI 2 ≤ (1 : Int32) by decide), db1_t t2, db1_t t3, l2, hkd.1]
        rw [if_neg (by omega), if_neg (by omega)] at e1'
        have e1'' : fMM_laysSum (0 : Int64) (0 : Int64) (jI (g i 2)) (jI (g i 4 * L - g i 0 * P * (L / Q) - g i 1 * R * (L / S))) (nI (g i 3).toNat) τ = some τ2 := e1'
        rw [db1_t e1'']; exact f1
def pX (X : Nat → Rat) (k : Nat) (u : Nat) : Int := if u < k then nmX X u else 0
def qX (X : Nat → Rat) (k : Nat) (u : Nat) : Int := if u < k then dnX X u else 1
def LX (X : Nat → Rat) (k : Nat) : Int := qX X k 0 / (Int.gcd (qX X k 0) (qX X k 1) : Int) * qX X k 1
theorem qX_pos (X : Nat → Rat) (k u : Nat) : 0 < qX X k u := by
  unfold qX dnX
  have := den_pos' (X u)
  split <;> omega
theorem LX_dv (X : Nat → Rat) (k : Nat) : 0 < LX X k ∧ LX X k = qX X k 0 * (LX X k / qX X k 0) ∧ LX X k = qX X k 1 * (LX X k / qX X k 1) ∧ LX X k / qX X k 0 ≤ qX X k 1 ∧ LX X k / qX X k 1 ≤ qX X k 0 ∧ 0 < LX X k / qX X k 0 ∧ 0 < LX X k / qX X k 1 := by
  have hQ := qX_pos X k 0
  have hS := qX_pos X k 1
  unfold LX
  generalize qX X k 0 = Q at *
  generalize qX X k 1 = S at *
  have hg := gcd_pos' (a := Q) hS
  obtain ⟨q, hq⟩ := Int.gcd_dvd_left Q S
  obtain ⟨s, hs⟩ := Int.gcd_dvd_right Q S
  generalize (Int.gcd Q S : Int) = G at *
  have e1 : Q / G = q := by
    have h := Int.mul_ediv_cancel_left q (show G ≠ 0 by omega)
    rw [← hq] at h; exact h
  rw [e1]
  have hq0 : 0 < q := by
    apply Decidable.byContradiction
    intro hn
    have := Int.mul_nonneg (show 0 ≤ G by omega) (show 0 ≤ -q by omega)
    have q3 : G * -q = -(G * q) := Int.mul_neg G q
    omega
  have hs0 : 0 < s := by
    apply Decidable.byContradiction
    intro hn
    have := Int.mul_nonneg (show 0 ≤ G by omega) (show 0 ≤ -s by omega)
    have q3 : G * -s = -(G * s) := Int.mul_neg G s
    omega
  have e2 : q * S / S = q := Int.mul_ediv_cancel q (by omega)
  have e3 : q * S = Q * s := by rw [hs]; conv => rhs; rw [hq]
                                grind
  have e4 : q * S / Q = s := by rw [e3]; exact Int.mul_ediv_cancel_left s (by omega)
  rw [e2, e4]
  have m1 := Int.mul_le_mul_of_nonneg_right (show 1 ≤ G by omega) (show 0 ≤ q by omega)
  have m2 := Int.mul_le_mul_of_nonneg_right (show 1 ≤ G by omega) (show 0 ≤ s by omega)
  refine ⟨Int.mul_pos hq0 hS, e3, by rw [Int.mul_comm], by omega, by omega, hs0, hq0⟩
theorem ring_1 {L q u : Rat} (h1 : L = q * u) (d a b c x v t0 t1 t2 : Rat) : d * L - a * (x * q) * u - b * 0 * v - (0 * (L * t0) + b * (L * t1) + c * (L * t2)) = L * (d - (a * x + b * t1 + c * t2)) := by
  have e1 : a * (x * q) * u = a * x * L := by rw [h1]; grind
  rw [e1]; grind
theorem ring_2 {L q u s v : Rat} (h1 : L = q * u) (h2 : L = s * v) (d a b c x y t0 t1 t2 : Rat) : d * L - a * (x * q) * u - b * (y * s) * v - (0 * (L * t0) + 0 * (L * t1) + c * (L * t2)) = L * (d - (a * x + b * y + c * t2)) := by
  have e1 : a * (x * q) * u = a * x * L := by rw [h1]; grind
  have e2 : b * (y * s) * v = b * y * L := by rw [h2]; grind
  rw [e1, e2]; grind
theorem hol_mrw {X : Nat → Rat} {k : Nat} (hk : k ≤ 2) (r : rT) (t : pT) : hol (fun j => (LX X k : Rat) * t j) (mrw k (pX X k 0) (qX X k 0) (pX X k 1) (qX X k 1) (LX X k) r) ↔ hol (sbs k X t) r := by
  obtain ⟨hL, hQ, hS, -⟩ := LX_dv X k
  have n0 := num_den (X 0)
  have n1 := num_den (X 1)
  have hLr := cast_pos hL
  have hQr : (LX X k : Rat) = (qX X k 0 : Rat) * ((LX X k / qX X k 0 : Int) : Rat) := by rw [← Rat.intCast_mul, ← hQ]
  have hSr : (LX X k : Rat) = (qX X k 1 : Rat) * ((LX X k / qX X k 1 : Int) : Rat) := by rw [← Rat.intCast_mul, ← hS]
  obtain ⟨a, b, c, d, kd⟩ := r
  unfold hol
  rw [relk_sub, relk_sub (x := lin _ (sbs k X t))]
  have e : ((rd (mrw k (pX X k 0) (qX X k 0) (pX X k 1) (qX X k 1) (LX X k) (a, b, c, d, kd)) : Int) : Rat) - lin (mrw k (pX X k 0) (qX X k 0) (pX X k 1) (qX X k 1) (LX X k) (a, b, c, d, kd)) (fun j => (LX X k : Rat) * t j) = (LX X k : Rat) * ((rd (a, b, c, d, kd) : Rat) - lin (a, b, c, d, kd) (sbs k X t)) := by
    generalize hl : LX X k = L at *
    rcases (show k = 0 ∨ k = 1 ∨ k = 2 by omega) with rfl | rfl | rfl
    · have s : sbs 0 X t = t := by funext j; unfold sbs; rw [if_neg (by omega)]
      have p0 : pX X 0 0 = 0 := rfl
      have p1 : pX X 0 1 = 0 := rfl
      rw [s, p0, p1]
      simp only [mrw, rd, lin, if_pos (show (0 : Nat) ≤ 0 by omega), if_pos (show (0 : Nat) ≤ 1 by omega), Rat.intCast_sub, Rat.intCast_mul]
      rw [show ((0 : Int) : Rat) = 0 from rfl]
      grind
    · have s0 : sbs 1 X t 0 = X 0 := rfl
      have s1 : sbs 1 X t 1 = t 1 := rfl
      have s2 : sbs 1 X t 2 = t 2 := rfl
      have p0 : pX X 1 0 = (X 0).num := rfl
      have p1 : pX X 1 1 = 0 := rfl
      have q0 : qX X 1 0 = ((X 0).den : Int) := rfl
      have hQr : (L : Rat) = (((X 0).den : Int) : Rat) * ((L / qX X 1 0 : Int) : Rat) := hQr
      simp only [mrw, rd, lin, if_neg (show ¬ (1 : Nat) ≤ 0 by omega), if_pos (show (1 : Nat) ≤ 1 by omega), Rat.intCast_sub, Rat.intCast_mul, s0, s1, s2, p0, p1, n0]
      rw [show ((0 : Int) : Rat) = 0 from rfl]
      exact ring_1 hQr _ _ _ _ _ _ _ _ _
    · have s0 : sbs 2 X t 0 = X 0 := rfl
      have s1 : sbs 2 X t 1 = X 1 := rfl
      have s2 : sbs 2 X t 2 = t 2 := rfl
      have p0 : pX X 2 0 = (X 0).num := rfl
      have p1 : pX X 2 1 = (X 1).num := rfl
      have q0 : qX X 2 0 = ((X 0).den : Int) := rfl
      have q1 : qX X 2 1 = ((X 1).den : Int) := rfl
      have hQr : (L : Rat) = (((X 0).den : Int) : Rat) * ((L / qX X 2 0 : Int) : Rat) := hQr
      have hSr : (L : Rat) = (((X 1).den : Int) : Rat) * ((L / qX X 2 1 : Int) : Rat) := hSr
      simp only [mrw, rd, lin, if_neg (show ¬ (2 : Nat) ≤ 0 by omega), if_neg (show ¬ (2 : Nat) ≤ 1 by omega), Rat.intCast_sub, Rat.intCast_mul, s0, s1, s2, p0, p1, n0, n1]
      rw [show ((0 : Int) : Rat) = 0 from rfl]
      exact ring_2 hQr hSr _ _ _ _ _ _ _ _ _
  rw [e, relk_scale hLr]
  exact Iff.rfl
