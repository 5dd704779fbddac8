/-! the class: which determinants are the multipliers -/
def popc (u : Nat) : Nat := (if u.testBit 0 = true then 1 else 0) + (if u.testBit 1 = true then 1 else 0) + (if u.testBit 2 = true then 1 else 0)
theorem bitc_spec {u : Nat} (hu : u < 8) : fJI_bitCount (nI u) = some (nI (popc u)) := by
  have : ∀ j : Fin 8, fJI_bitCount (nI j.1) = some (nI (popc j.1)) := by decide +kernel
  exact this ⟨u, hu⟩
theorem c8 {u : Nat} (h : u < 8) : u = 0 ∨ u = 1 ∨ u = 2 ∨ u = 3 ∨ u = 4 ∨ u = 5 ∨ u = 6 ∨ u = 7 := by omega
theorem su_cases {s u : Nat} (h1 : 1 ≤ s) (hu : u < 8) (h : popc u + s = 4) : (s = 1 ∧ u = 7) ∨ (s = 2 ∧ (u = 3 ∨ u = 5 ∨ u = 6)) ∨ (s = 3 ∧ (u = 1 ∨ u = 2 ∨ u = 4)) ∨ (s = 4 ∧ u = 0) := by
  rcases c8 hu with rfl | rfl | rfl | rfl | rfl | rfl | rfl | rfl
  · have : popc 0 = 0 := by decide
    omega
  · have : popc 1 = 1 := by decide
    omega
  · have : popc 2 = 1 := by decide
    omega
  · have : popc 3 = 2 := by decide
    omega
  · have : popc 4 = 1 := by decide
    omega
  · have : popc 5 = 2 := by decide
    omega
  · have : popc 6 = 2 := by decide
    omega
  · have : popc 7 = 3 := by decide
    omega
theorem ur_1 (V : Nat → Int) : vc (uV 7 3 0 1 V) 0 = vc V 0 ∧ vc (uV 7 3 0 1 V) 1 = (1, 0, 0) ∧ vc (uV 7 3 0 1 V) 2 = (0, 1, 0) ∧ vc (uV 7 3 0 1 V) 3 = (0, 0, 1) := ⟨rfl, rfl, rfl, rfl⟩
theorem ur_3 (V : Nat → Int) : vc (uV 3 3 0 2 V) 0 = vc V 0 ∧ vc (uV 3 3 0 2 V) 1 = vc V 1 ∧ vc (uV 3 3 0 2 V) 2 = (1, 0, 0) ∧ vc (uV 3 3 0 2 V) 3 = (0, 1, 0) := ⟨rfl, rfl, rfl, rfl⟩
theorem ur_5 (V : Nat → Int) : vc (uV 5 3 0 2 V) 0 = vc V 0 ∧ vc (uV 5 3 0 2 V) 1 = vc V 1 ∧ vc (uV 5 3 0 2 V) 2 = (1, 0, 0) ∧ vc (uV 5 3 0 2 V) 3 = (0, 0, 1) := ⟨rfl, rfl, rfl, rfl⟩
theorem ur_6 (V : Nat → Int) : vc (uV 6 3 0 2 V) 0 = vc V 0 ∧ vc (uV 6 3 0 2 V) 1 = vc V 1 ∧ vc (uV 6 3 0 2 V) 2 = (0, 1, 0) ∧ vc (uV 6 3 0 2 V) 3 = (0, 0, 1) := ⟨rfl, rfl, rfl, rfl⟩
theorem ur_a (V : Nat → Int) : vc (uV 1 3 0 3 V) 0 = vc V 0 ∧ vc (uV 1 3 0 3 V) 1 = vc V 1 ∧ vc (uV 1 3 0 3 V) 2 = vc V 2 ∧ vc (uV 1 3 0 3 V) 3 = (1, 0, 0) := ⟨rfl, rfl, rfl, rfl⟩
theorem ur_b (V : Nat → Int) : vc (uV 2 3 0 3 V) 0 = vc V 0 ∧ vc (uV 2 3 0 3 V) 1 = vc V 1 ∧ vc (uV 2 3 0 3 V) 2 = vc V 2 ∧ vc (uV 2 3 0 3 V) 3 = (0, 1, 0) := ⟨rfl, rfl, rfl, rfl⟩
theorem ur_c (V : Nat → Int) : vc (uV 4 3 0 3 V) 0 = vc V 0 ∧ vc (uV 4 3 0 3 V) 1 = vc V 1 ∧ vc (uV 4 3 0 3 V) 2 = vc V 2 ∧ vc (uV 4 3 0 3 V) 3 = (0, 0, 1) := ⟨rfl, rfl, rfl, rfl⟩
theorem ur_0 (V : Nat → Int) : vc (uV 0 3 0 4 V) 0 = vc V 0 ∧ vc (uV 0 3 0 4 V) 1 = vc V 1 ∧ vc (uV 0 3 0 4 V) 2 = vc V 2 ∧ vc (uV 0 3 0 4 V) 3 = vc V 3 := ⟨rfl, rfl, rfl, rfl⟩
def isU (v : vT) : Prop := v = (1, 0, 0) ∨ v = (0, 1, 0) ∨ v = (0, 0, 1)
theorem isU_B {v : vT} (h : isU v) : vB 5 v := by
  rcases h with rfl | rfl | rfl <;> unfold vB <;> dsimp only <;> omega
theorem ur_all {s u : Nat} (h1 : 1 ≤ s) (hu : u < 8) (h : popc u + s = 4) (V : Nat → Int) : (∀ r, r < s → vc (uV u 3 0 s V) r = vc V r) ∧ ∀ r, s ≤ r → r < 4 → isU (vc (uV u 3 0 s V) r) := by
  have mk : ∀ (U : Nat → Int) (s : Nat), (0 < s → vc U 0 = vc V 0) → (1 < s → vc U 1 = vc V 1) → (2 < s → vc U 2 = vc V 2) → (3 < s → vc U 3 = vc V 3) → (s ≤ 0 → isU (vc U 0)) → (s ≤ 1 → isU (vc U 1)) → (s ≤ 2 → isU (vc U 2)) → (s ≤ 3 → isU (vc U 3)) → s ≤ 4 → (∀ r, r < s → vc U r = vc V r) ∧ ∀ r, s ≤ r → r < 4 → isU (vc U r) := by
    intro U s a0 a1 a2 a3 c0 c1 c2 c3 hs
    refine ⟨fun r hr => ?_, fun r hr hr4 => ?_⟩
    · rcases (show r = 0 ∨ r = 1 ∨ r = 2 ∨ r = 3 by omega) with rfl | rfl | rfl | rfl
      · exact a0 hr
      · exact a1 hr
      · exact a2 hr
      · exact a3 hr
    · rcases (show r = 0 ∨ r = 1 ∨ r = 2 ∨ r = 3 by omega) with rfl | rfl | rfl | rfl
      · exact c0 hr
      · exact c1 hr
      · exact c2 hr
      · exact c3 hr
  rcases su_cases h1 hu h with ⟨rfl, rfl⟩ | ⟨rfl, rfl | rfl | rfl⟩ | ⟨rfl, rfl | rfl | rfl⟩ | ⟨rfl, rfl⟩
  · obtain ⟨e0, e1, e2, e3⟩ := ur_1 V
    exact mk _ 1 (fun _ => e0) (by omega) (by omega) (by omega) (by omega) (fun _ => Or.inl e1) (fun _ => Or.inr (Or.inl e2)) (fun _ => Or.inr (Or.inr e3)) (by omega)
  · obtain ⟨e0, e1, e2, e3⟩ := ur_3 V
    exact mk _ 2 (fun _ => e0) (fun _ => e1) (by omega) (by omega) (by omega) (by omega) (fun _ => Or.inl e2) (fun _ => Or.inr (Or.inl e3)) (by omega)
  · obtain ⟨e0, e1, e2, e3⟩ := ur_5 V
    exact mk _ 2 (fun _ => e0) (fun _ => e1) (by omega) (by omega) (by omega) (by omega) (fun _ => Or.inl e2) (fun _ => Or.inr (Or.inr e3)) (by omega)
  · obtain ⟨e0, e1, e2, e3⟩ := ur_6 V
    exact mk _ 2 (fun _ => e0) (fun _ => e1) (by omega) (by omega) (by omega) (by omega) (fun _ => Or.inr (Or.inl e2)) (fun _ => Or.inr (Or.inr e3)) (by omega)
  · obtain ⟨e0, e1, e2, e3⟩ := ur_a V
    exact mk _ 3 (fun _ => e0) (fun _ => e1) (fun _ => e2) (by omega) (by omega) (by omega) (by omega) (fun _ => Or.inl e3) (by omega)
  · obtain ⟨e0, e1, e2, e3⟩ := ur_b V
    exact mk _ 3 (fun _ => e0) (fun _ => e1) (fun _ => e2) (by omega) (by omega) (by omega) (by omega) (fun _ => Or.inr (Or.inl e3)) (by omega)
  · obtain ⟨e0, e1, e2, e3⟩ := ur_c V
    exact mk _ 3 (fun _ => e0) (fun _ => e1) (fun _ => e2) (by omega) (by omega) (by omega) (by omega) (fun _ => Or.inr (Or.inr e3)) (by omega)
  · obtain ⟨e0, e1, e2, e3⟩ := ur_0 V
    exact mk _ 4 (fun _ => e0) (fun _ => e1) (fun _ => e2) (fun _ => e3) (by omega) (by omega) (by omega) (by omega) (by omega)
/-! the dependence -/
def cmp3 (v : vT) (k : Nat) : Int := if k = 0 then v.1 else if k = 1 then v.2.1 else v.2.2
theorem dtn_id (U : Nat → Int) (k : Nat) : dtn U 0 * cmp3 (vc U 0) k + dtn U 1 * cmp3 (vc U 1) k + dtn U 2 * cmp3 (vc U 2) k + dtn U 3 * cmp3 (vc U 3) k = 0 := by
  have e0 : dtn U 0 = det3 (vc U 1) (vc U 2) (vc U 3) := rfl
  have e1 : dtn U 1 = -(det3 (vc U 0) (vc U 2) (vc U 3)) := rfl
  have e2 : dtn U 2 = det3 (vc U 0) (vc U 1) (vc U 3) := rfl
  have e3 : dtn U 3 = -(det3 (vc U 0) (vc U 1) (vc U 2)) := rfl
  rw [e0, e1, e2, e3]
  generalize vc U 0 = a
  generalize vc U 1 = b
  generalize vc U 2 = c
  generalize vc U 3 = d
  unfold det3 cmp3
  split
  · grind
  · split <;> grind
theorem cramer (U : Nat → Int) (m0 m1 m2 m3 : Rat) (h : ∀ k, k < 3 → m0 * (cmp3 (vc U 0) k : Rat) + m1 * (cmp3 (vc U 1) k : Rat) + m2 * (cmp3 (vc U 2) k : Rat) + m3 * (cmp3 (vc U 3) k : Rat) = 0) :
    (dtn U 1 : Rat) * m0 = (dtn U 0 : Rat) * m1 ∧ (dtn U 2 : Rat) * m0 = (dtn U 0 : Rat) * m2 ∧ (dtn U 3 : Rat) * m0 = (dtn U 0 : Rat) * m3 := by
  have e0 : dtn U 0 = det3 (vc U 1) (vc U 2) (vc U 3) := rfl
  have e1 : dtn U 1 = -(det3 (vc U 0) (vc U 2) (vc U 3)) := rfl
  have e2 : dtn U 2 = det3 (vc U 0) (vc U 1) (vc U 3) := rfl
  have e3 : dtn U 3 = -(det3 (vc U 0) (vc U 1) (vc U 2)) := rfl
  have k0 := h 0 (by omega)
  have k1 := h 1 (by omega)
  have k2 := h 2 (by omega)
  clear h
  rw [e0, e1, e2, e3]
  generalize vc U 0 = a at *
  generalize vc U 1 = b at *
  generalize vc U 2 = c at *
  generalize vc U 3 = d at *
  obtain ⟨a0, a1, a2⟩ := a
  obtain ⟨b0, b1, b2⟩ := b
  obtain ⟨c0, c1, c2⟩ := c
  obtain ⟨d0, d1, d2⟩ := d
  simp only [cmp3, if_pos trivial, if_neg (show ¬ (1 : Nat) = 0 by omega), if_neg (show ¬ (2 : Nat) = 0 by omega), if_neg (show ¬ (2 : Nat) = 1 by omega)] at k0 k1 k2
  unfold det3
  simp only [Rat.intCast_neg, Rat.intCast_add, Rat.intCast_sub, Rat.intCast_mul]
  generalize (a0 : Rat) = A0 at *
  generalize (a1 : Rat) = A1 at *
  generalize (a2 : Rat) = A2 at *
  generalize (b0 : Rat) = B0 at *
  generalize (b1 : Rat) = B1 at *
  generalize (b2 : Rat) = B2 at *
  generalize (c0 : Rat) = C0 at *
  generalize (c1 : Rat) = C1 at *
  generalize (c2 : Rat) = C2 at *
  generalize (d0 : Rat) = D0 at *
  generalize (d1 : Rat) = D1 at *
  generalize (d2 : Rat) = D2 at *
  refine ⟨?_, ?_, ?_⟩
  · have : (m0 * A0 + m1 * B0 + m2 * C0 + m3 * D0) * (C1 * D2 - C2 * D1) + (m0 * A1 + m1 * B1 + m2 * C1 + m3 * D1) * (C2 * D0 - C0 * D2) + (m0 * A2 + m1 * B2 + m2 * C2 + m3 * D2) * (C0 * D1 - C1 * D0) = 0 := by rw [k0, k1, k2]; grind
    grind
  · have : (m0 * A0 + m1 * B0 + m2 * C0 + m3 * D0) * (B1 * D2 - B2 * D1) + (m0 * A1 + m1 * B1 + m2 * C1 + m3 * D1) * (B2 * D0 - B0 * D2) + (m0 * A2 + m1 * B2 + m2 * C2 + m3 * D2) * (B0 * D1 - B1 * D0) = 0 := by rw [k0, k1, k2]; grind
    grind
  · have : (m0 * A0 + m1 * B0 + m2 * C0 + m3 * D0) * (B1 * C2 - B2 * C1) + (m0 * A1 + m1 * B1 + m2 * C1 + m3 * D1) * (B2 * C0 - B0 * C2) + (m0 * A2 + m1 * B2 + m2 * C2 + m3 * D2) * (B0 * C1 - B1 * C0) = 0 := by rw [k0, k1, k2]; grind
    grind
def musR (x : Nat) (a : Rat) (i : Nat) : Rat := if i = x then a else 0
theorem w_sum {n C s : Nat} {g : gT} {x : Nat → Nat} (ok : BkOk n g) (hC : C < 2 ^ n) (hm : mbr C s x) {w : Nat → Rat} (hw : supp C w) (k : Nat) : sgS g w k = (if 0 < s then w (x 0) else 0) * (g (x 0) k : Rat) + (if 1 < s then w (x 1) else 0) * (g (x 1) k : Rat) + (if 2 < s then w (x 2) else 0) * (g (x 2) k : Rat) + (if 3 < s then w (x 3) else 0) * (g (x 3) k : Rat) := by
  have hn := ok.1
  obtain ⟨m1, m2, m3, m4, m5⟩ := hm
  have l12 : ∀ p, x p < 12 := fun p => by have := bit_lt hC (m3 p); omega
  have e : w = fun i => 1 * (1 * musR (x 0) (if 0 < s then w (x 0) else 0) i + 1 * musR (x 1) (if 1 < s then w (x 1) else 0) i) + 1 * (1 * musR (x 2) (if 2 < s then w (x 2) else 0) i + 1 * musR (x 3) (if 3 < s then w (x 3) else 0) i) := by
    funext i
    unfold musR
    cases b : C.testBit i
    · have ne : ∀ q, i ≠ x q := fun q e => by rw [e, m3 q] at b; cases b
      rw [if_neg (ne 0), if_neg (ne 1), if_neg (ne 2), if_neg (ne 3), hw i b]; grind
    · obtain ⟨p, hp, rfl⟩ := m5 i b
      have t : ∀ q, (if x p = x q then (if q < s then w (x q) else 0) else 0) = if p = q then w (x q) else 0 := by
        intro q
        by_cases hq : q < s
        · by_cases e : p = q
          · rw [if_pos (by rw [e]), if_pos e, if_pos hq]
          · rw [if_neg (fun z => e (m4 p q hp hq z)), if_neg e]
        · rw [if_neg hq, if_neg (show ¬ p = q by omega)]; simp
      rw [t, t, t, t]
      rcases (show p = 0 ∨ p = 1 ∨ p = 2 ∨ p = 3 by omega) with rfl | rfl | rfl | rfl <;> simp <;> grind
  have o : ∀ (p : Nat) (a : Rat), sgS g (musR (x p) a) k = a * (g (x p) k : Rat) := fun p a => S12_one (l12 p) a _
  conv => lhs; rw [e]
  rw [sgS_lin, sgS_lin, sgS_lin, o, o, o, o]
  grind
theorem vec_c (g : gT) (i k : Nat) (hk : k < 3) : cmp3 (vec g i) k = g i k := by
  rcases (show k = 0 ∨ k = 1 ∨ k = 2 by omega) with rfl | rfl | rfl <;> rfl
/-- determinants that are something are multipliers -/
theorem dtn_good {n C s : Nat} {g : gT} {x : Nat → Nat} (ok : BkOk n g) (hC : C < 2 ^ n) (hc : isCore g C) (hm : mbr C s x) {U : Nat → Int} (hU : ∀ r, r < s → vc U r = vec g (x r)) (hne : ∃ p, p < 4 ∧ dtn U p ≠ 0) : gW g s x (fun p => if p < 4 then dtn U p else 0) := by
  obtain ⟨w, w1, w2, w3, w4, w5, w6⟩ := core_one ok hC hc
  obtain ⟨m1, m2, m3, m4, m5⟩ := id hm
  have hcr := cramer U (if 0 < s then w (x 0) else 0) (if 1 < s then w (x 1) else 0) (if 2 < s then w (x 2) else 0) (if 3 < s then w (x 3) else 0) (fun k hk => by
    have h0 := w3 k hk
    rw [w_sum ok hC hm w1 k] at h0
    have t : ∀ r, (if r < s then w (x r) else 0) * (cmp3 (vc U r) k : Rat) = (if r < s then w (x r) else 0) * (g (x r) k : Rat) := by
      intro r
      by_cases hr : r < s
      · rw [hU r hr, vec_c g (x r) k hk]
      · rw [if_neg hr]; grind
    rw [t, t, t, t]; exact h0)
  have z : ∀ q, s ≤ q → q < 4 → dtn U q = 0 := by
    intro q hq hq4
    have w0 := w5 (x 0) (m3 0)
    rw [if_pos (show 0 < s by omega)] at hcr
    obtain ⟨a1, a2, a3⟩ := hcr
    rcases (show q = 1 ∨ q = 2 ∨ q = 3 by omega) with rfl | rfl | rfl
    · rw [if_neg (show ¬ 1 < s by omega), Rat.mul_zero] at a1
      exact Rat.intCast_inj.mp ((Rat.mul_eq_zero.mp a1).resolve_right w0)
    · rw [if_neg (show ¬ 2 < s by omega), Rat.mul_zero] at a2
      exact Rat.intCast_inj.mp ((Rat.mul_eq_zero.mp a2).resolve_right w0)
    · rw [if_neg (show ¬ 3 < s by omega), Rat.mul_zero] at a3
      exact Rat.intCast_inj.mp ((Rat.mul_eq_zero.mp a3).resolve_right w0)
  refine ⟨fun k hk => ?_, fun p hp => ?_, ?_⟩
  · simp only [if_pos (show (0 : Nat) < 4 by omega), if_pos (show (1 : Nat) < 4 by omega), if_pos (show (2 : Nat) < 4 by omega), if_pos (show (3 : Nat) < 4 by omega)]
    have h0 := dtn_id U k
    have t : ∀ r, r < 4 → dtn U r * cmp3 (vc U r) k = dtn U r * g (x r) k := by
      intro r hr4
      by_cases hr : r < s
      · rw [hU r hr, vec_c g (x r) k hk]
      · rw [z r (by omega) hr4, Int.zero_mul, Int.zero_mul]
    rw [t 0 (by omega), t 1 (by omega), t 2 (by omega), t 3 (by omega)] at h0
    exact h0
  · by_cases h4 : p < 4
    · simp only [if_pos h4]; exact z p hp h4
    · simp only [if_neg h4]
  · obtain ⟨p, hp, h⟩ := hne
    exact ⟨p, hp, by simp only [if_pos hp]; exact h⟩
