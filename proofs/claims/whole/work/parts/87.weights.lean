/-! the multipliers of a core, however they were found -/
def mbr (C s : Nat) (x : Nat → Nat) : Prop := 1 ≤ s ∧ s ≤ 4 ∧ (∀ p, C.testBit (x p) = true) ∧ (∀ p q, p < s → q < s → x p = x q → p = q) ∧ ∀ i, C.testBit i = true → ∃ p, p < s ∧ x p = i
def gW (g : gT) (s : Nat) (x : Nat → Nat) (W : Nat → Int) : Prop := (∀ k, k < 3 → W 0 * g (x 0) k + W 1 * g (x 1) k + W 2 * g (x 2) k + W 3 * g (x 3) k = 0) ∧ (∀ p, s ≤ p → W p = 0) ∧ ∃ p, p < 4 ∧ W p ≠ 0
def muX (x : Nat → Nat) (W : Nat → Int) : Nat → Rat := mu4 (x 0) (x 1) (x 2) (x 3) (W 0) (W 1) (W 2) (W 3)
theorem muX_at {C s : Nat} {x : Nat → Nat} (hm : mbr C s x) {W : Nat → Int} (hW : ∀ p, s ≤ p → W p = 0) {p : Nat} (hp : p < s) : muX x W (x p) = (W p : Rat) := by
  obtain ⟨m1, m2, m3, m4, m5⟩ := hm
  unfold muX
  rw [mu4_at]
  congr 1
  have t : ∀ q, (if x p = x q then W q else 0) = if p = q then W q else 0 := by
    intro q
    by_cases hq : q < s
    · by_cases e : p = q
      · rw [if_pos (by rw [e]), if_pos e]
      · rw [if_neg (fun z => e (m4 p q hp hq z)), if_neg e]
    · rw [hW q (by omega)]; simp
  rw [t, t, t, t]
  rcases (show p = 0 ∨ p = 1 ∨ p = 2 ∨ p = 3 by omega) with rfl | rfl | rfl | rfl <;> simp
theorem gW_prop {n C s : Nat} {g : gT} {x : Nat → Nat} (ok : BkOk n g) (hC : C < 2 ^ n) (hc : isCore g C) (hm : mbr C s x) {w : Nat → Rat} (w5 : ∀ i, C.testBit i = true → w i ≠ 0) (w6 : ∀ μ : Nat → Rat, supp C μ → dpd g μ → ∃ c : Rat, ∀ i, μ i = c * w i) {W : Nat → Int} (h : gW g s x W) :
    ∃ c : Rat, c ≠ 0 ∧ (∀ i, muX x W i = c * w i) ∧ ∀ p, p < s → (W p : Rat) = c * w (x p) := by
  have hn := ok.1
  have l12 : ∀ i, C.testBit i = true → i < 12 := fun i hi => by have := bit_lt hC hi; omega
  obtain ⟨h1, h2, p0, h3, h4⟩ := h
  have m3 := hm.2.2.1
  obtain ⟨c, hcm⟩ := w6 (muX x W) (fun j hj => by
    have ne : ∀ q, j ≠ x q := fun q e => by rw [e, m3 q] at hj; cases hj
    unfold muX
    rw [mu4_at, if_neg (ne 0), if_neg (ne 1), if_neg (ne 2), if_neg (ne 3)]; rfl) (fun k hk => by
    unfold muX
    rw [sgS_mu4 (l12 _ (m3 0)) (l12 _ (m3 1)) (l12 _ (m3 2)) (l12 _ (m3 3)), h1 k hk]; rfl)
  have e : ∀ p, p < s → (W p : Rat) = c * w (x p) := fun p hp => by rw [← muX_at hm h2 hp, hcm]
  refine ⟨c, fun hc0 => ?_, hcm, e⟩
  have hp0 : p0 < s := by
    apply Decidable.byContradiction
    intro z; exact h4 (h2 p0 (by omega))
  have := e p0 hp0
  rw [hc0, Rat.zero_mul] at this
  exact h4 (Rat.intCast_inj.mp this)
theorem gW_two {n C s : Nat} {g : gT} {x : Nat → Nat} (ok : BkOk n g) (hC : C < 2 ^ n) (hc : isCore g C) (hm : mbr C s x) {W V : Nat → Int} (h : gW g s x W) (h' : gW g s x V) :
    (∀ p, p < s → W p ≠ 0) ∧ (∀ p, p < s → V p ≠ 0) ∧ (∀ p q, W p * V q = V p * W q) := by
  obtain ⟨w, w1, w2, w3, w4, w5, w6⟩ := core_one ok hC hc
  obtain ⟨c, c1, c2, c3⟩ := gW_prop ok hC hc hm w5 w6 h
  obtain ⟨d, d1, d2, d3⟩ := gW_prop ok hC hc hm w5 w6 h'
  have nz : ∀ (c : Rat) (W : Nat → Int), c ≠ 0 → (∀ p, p < s → (W p : Rat) = c * w (x p)) → ∀ p, p < s → W p ≠ 0 := by
    intro c W c1 c3 p hp z
    have := c3 p hp
    rw [z] at this
    rcases Rat.mul_eq_zero.mp this.symm with h | h
    · exact c1 h
    · exact w5 _ (hm.2.2.1 p) h
  refine ⟨nz c W c1 c3, nz d V d1 d3, fun p q => ?_⟩
  by_cases hp : p < s
  · by_cases hq : q < s
    · apply Rat.intCast_inj.mp
      rw [Rat.intCast_mul, Rat.intCast_mul, c3 p hp, d3 q hq, d3 p hp, c3 q hq]
      grind
    · rw [h.2.1 q (by omega), h'.2.1 q (by omega)]; simp
  · rw [h.2.1 p (by omega), h'.2.1 p (by omega)]; simp
theorem all_same {n C s : Nat} {g : gT} {x : Nat → Nat} (ok : BkOk n g) (hC : C < 2 ^ n) (hc : isCore g C) (hm : mbr C s x) {W : Nat → Int} (h : gW g s x W) (hk : ∀ p, p < s → kOf g (x p) = 2) : W 0 * g (x 0) 4 + W 1 * g (x 1) 4 + W 2 * g (x 2) 4 + W 3 * g (x 3) 4 ≠ 0 := by
  have hn := ok.1
  have l12 : ∀ i, C.testBit i = true → i < 12 := fun i hi => by have := bit_lt hC hi; omega
  obtain ⟨w, w1, w2, w3, w4, w5, w6⟩ := core_one ok hC hc
  obtain ⟨c, c1, c2, c3⟩ := gW_prop ok hC hc hm w5 w6 h
  have hD : sgS g w 4 < 0 := by
    rcases w4 with z | ⟨-, i, i1, i2, i3⟩
    · exact z
    · cases b : C.testBit i
      · rw [w1 i b] at i2; grind
      · obtain ⟨p, hp, e⟩ := hm.2.2.2.2 i b
        have := hk p hp
        rw [e] at this; omega
  have m3 := hm.2.2.1
  have e : sgS g (muX x W) 4 = c * sgS g w 4 := by
    have : muX x W = fun i => c * w i + 0 * w i := by funext i; rw [c2 i]; grind
    rw [this, sgS_lin]; grind
  have e2 : sgS g (muX x W) 4 = ((W 0 * g (x 0) 4 + W 1 * g (x 1) 4 + W 2 * g (x 2) 4 + W 3 * g (x 3) 4 : Int) : Rat) := by
    unfold muX
    rw [sgS_mu4 (l12 _ (m3 0)) (l12 _ (m3 1)) (l12 _ (m3 2)) (l12 _ (m3 3))]
  intro z
  rw [e2, z] at e
  rcases Rat.mul_eq_zero.mp e.symm with h | h
  · exact c1 h
  · rw [h] at hD; grind
/-- in lowest terms, and turned -/
def gc4 (W : Nat → Int) : Int := (Int.gcd (Int.gcd (Int.gcd (Int.gcd 0 (W 0)) (W 1)) (W 2)) (W 3) : Nat)
def dr4 (g : gT) (s : Nat) (x : Nat → Nat) (W : Nat → Int) : Nat → Int
  | 0 => 0
  | p + 1 => if p < s ∧ kOf g (x p) ≠ 2 then W p else dr4 g s x W p
def sm4 (g : gT) (x : Nat → Nat) (W : Nat → Int) : Int := W 0 * g (x 0) 4 + W 1 * g (x 1) 4 + W 2 * g (x 2) 4 + W 3 * g (x 3) 4
def flp (g : gT) (s : Nat) (x : Nat → Nat) (W : Nat → Int) : Prop := dr4 g s x W 4 < 0 ∨ (dr4 g s x W 4 = 0 ∧ 0 < sm4 g x W)
theorem gc4_dv (W : Nat → Int) : ∀ p, p < 4 → gc4 W ∣ W p := by
  have d1 := Int.gcd_dvd_left (Int.gcd (Int.gcd (Int.gcd 0 (W 0)) (W 1)) (W 2)) (W 3)
  have d2 := Int.gcd_dvd_left (Int.gcd (Int.gcd 0 (W 0)) (W 1)) (W 2)
  have d3 := Int.gcd_dvd_left (Int.gcd 0 (W 0)) (W 1)
  intro p hp
  unfold gc4
  rcases (show p = 0 ∨ p = 1 ∨ p = 2 ∨ p = 3 by omega) with rfl | rfl | rfl | rfl
  · exact Int.dvd_trans d1 (Int.dvd_trans d2 (Int.dvd_trans d3 (Int.gcd_dvd_right 0 (W 0))))
  · exact Int.dvd_trans d1 (Int.dvd_trans d2 (Int.gcd_dvd_right _ (W 1)))
  · exact Int.dvd_trans d1 (Int.gcd_dvd_right _ (W 2))
  · exact Int.gcd_dvd_right _ (W 3)
theorem gc4_mul (W : Nat → Int) (k : Int) : gc4 (fun p => k * W p) = (k.natAbs : Int) * gc4 W := by
  unfold gc4
  have e : ∀ (m : Nat) (y : Int), Int.gcd ((k.natAbs * m : Nat) : Int) (k * y) = k.natAbs * Int.gcd m y := by
    intro m y
    rw [Int.natCast_mul]
    have h := Int.gcd_mul_left k.natAbs m y
    rw [Int.natAbs_natCast] at h
    rw [← h]
    rcases Int.natAbs_eq k with z | z
    · conv => lhs; rw [z]
      simp
    · conv => lhs; rw [z]
      simp
      rw [Int.neg_mul, Int.gcd_neg]
  have e0 : Int.gcd 0 (k * W 0) = k.natAbs * Int.gcd 0 (W 0) := by
    rw [Int.gcd_zero_left, Int.gcd_zero_left, Int.natAbs_mul]
  rw [e0, e, e, e]
  rfl
theorem gc4_pos {W : Nat → Int} (h : W 0 ≠ 0) : 0 < gc4 W := by
  have hd := gc4_dv W 0 (by omega)
  have hn : 0 ≤ gc4 W := by unfold gc4; omega
  apply Decidable.byContradiction
  intro z
  have z0 : gc4 W = 0 := by omega
  rw [z0] at hd
  exact h (Int.zero_dvd.mp hd)
theorem sgp {x c : Int} (hc : 0 < c) : (x * c < 0 ↔ x < 0) ∧ (0 < x * c ↔ 0 < x) ∧ (x * c = 0 ↔ x = 0) := by
  rcases Int.lt_trichotomy x 0 with h | h | h
  · have := Int.mul_neg_of_neg_of_pos h hc
    omega
  · rw [h, Int.zero_mul]; omega
  · have := Int.mul_pos h hc
    omega
theorem sgm {x c : Int} (hc : c < 0) : (x * c < 0 ↔ 0 < x) ∧ (0 < x * c ↔ x < 0) ∧ (x * c = 0 ↔ x = 0) := by
  have e : x * c = -(x * -c) := by rw [Int.mul_neg]; omega
  have := sgp (x := x) (c := -c) (by omega)
  omega
theorem nrm_one {n C s : Nat} {g : gT} {x : Nat → Nat} (ok : BkOk n g) (hC : C < 2 ^ n) (hc : isCore g C) (hm : mbr C s x) {W V : Nat → Int} (h : gW g s x W) (h' : gW g s x V) (p : Nat) (hp : p < s) :
    (flp g s x W → flp g s x V → W p / gc4 W = V p / gc4 V) ∧ (¬ flp g s x W → ¬ flp g s x V → W p / gc4 W = V p / gc4 V) ∧ (flp g s x W → ¬ flp g s x V → W p / gc4 W = -(V p / gc4 V)) ∧ (¬ flp g s x W → flp g s x V → W p / gc4 W = -(V p / gc4 V)) := by
  obtain ⟨n1, n2, n3⟩ := gW_two ok hC hc hm h h'
  have hs := hm.1
  have a0 := n1 0 (by omega)
  have b0 := n2 0 (by omega)
  have G1 := gc4_pos a0
  have G2 := gc4_pos b0
  obtain ⟨y, hy⟩ := gc4_dv W p (by have := hm.2.1; omega)
  obtain ⟨z, hz⟩ := gc4_dv V p (by have := hm.2.1; omega)
  have ey : W p / gc4 W = y := by rw [hy]; exact Int.mul_ediv_cancel_left y (by omega)
  have ez : V p / gc4 V = z := by rw [hz]; exact Int.mul_ediv_cancel_left z (by omega)
  have hG : ((V 0).natAbs : Int) * gc4 W = ((W 0).natAbs : Int) * gc4 V := by
    rw [← gc4_mul, ← gc4_mul]
    congr 1
    funext q
    have := n3 q 0
    have c1 : V 0 * W q = W q * V 0 := Int.mul_comm _ _
    have c2 : W 0 * V q = V q * W 0 := Int.mul_comm _ _
    omega
  have hpz := n3 p 0
  rw [hy, hz] at hpz
  rw [ey, ez]
  -- signs
  have hdr : ∀ q, dr4 g s x W q * V 0 = dr4 g s x V q * W 0 ∧ ((∀ r, r < q → r < s → kOf g (x r) = 2) ∨ (dr4 g s x W q ≠ 0 ∧ dr4 g s x V q ≠ 0)) := by
    intro q
    induction q with
    | zero => exact ⟨by unfold dr4; simp, Or.inl (fun r hr => by omega)⟩
    | succ q ih =>
      unfold dr4
      by_cases hk : q < s ∧ kOf g (x q) ≠ 2
      · rw [if_pos hk, if_pos hk]
        exact ⟨n3 q 0, Or.inr ⟨n1 q hk.1, n2 q hk.1⟩⟩
      · rw [if_neg hk, if_neg hk]
        refine ⟨ih.1, ?_⟩
        rcases ih.2 with h | h
        · refine Or.inl (fun r hr hrs => ?_)
          by_cases e : r = q
          · subst e
            apply Decidable.byContradiction
            intro zz; exact hk ⟨hrs, zz⟩
          · exact h r (by omega) hrs
        · exact Or.inr h
  obtain ⟨d1, d2⟩ := hdr 4
  have hsm : sm4 g x W * V 0 = sm4 g x V * W 0 := by
    unfold sm4
    have e0 := n3 0 0
    have e1 := n3 1 0
    have e2 := n3 2 0
    have e3 := n3 3 0
    grind
  have s2 : (dr4 g s x W 4 = 0 ↔ dr4 g s x V 4 = 0) ∧ (dr4 g s x W 4 = 0 → sm4 g x W ≠ 0 ∧ sm4 g x V ≠ 0) := by
    rcases d2 with hh | ⟨h1, h2⟩
    · have al : ∀ r, r < s → kOf g (x r) = 2 := fun r hr => hh r (by have := hm.2.1; omega) hr
      have z : ∀ (U : Nat → Int) (q : Nat), dr4 g s x U q = 0 := by
        intro U q
        induction q with
        | zero => rfl
        | succ q ih => unfold dr4; rw [if_neg (fun zz => zz.2 (al q zz.1))]; exact ih
      exact ⟨by rw [z W, z V], fun _ => ⟨all_same ok hC hc hm h al, all_same ok hC hc hm h' al⟩⟩
    · exact ⟨⟨fun z => absurd z h1, fun z => absurd z h2⟩, fun z => absurd z h1⟩
  unfold flp
  generalize dr4 g s x W 4 = dw at *
  generalize dr4 g s x V 4 = dv at *
  generalize sm4 g x W = sw at *
  generalize sm4 g x V = sv at *
  generalize W 0 = a at *
  generalize V 0 = b at *
  generalize gc4 W = P at *
  generalize gc4 V = Q at *
  have y1 : P * y * b = (b * P) * y := by grind
  have z1 : Q * z * a = (a * Q) * z := by grind
  rw [y1, z1] at hpz
  have same : b * P = a * Q → y = z := by
    intro e
    rw [e] at hpz
    have hne : a * Q ≠ 0 := fun w => by rcases Int.mul_eq_zero.mp w with w | w <;> omega
    have : (a * Q) * (y - z) = 0 := by grind
    have := mz hne this
    omega
  have opp : b * P = -(a * Q) → y = -z := by
    intro e
    rw [e] at hpz
    have hne : a * Q ≠ 0 := fun w => by rcases Int.mul_eq_zero.mp w with w | w <;> omega
    have : (a * Q) * (y + z) = 0 := by grind
    have := mz hne this
    omega
  rcases (show 0 < a ∨ a < 0 by omega) with ha | ha <;> rcases (show 0 < b ∨ b < 0 by omega) with hb | hb
  · have na : (a.natAbs : Int) = a := by omega
    have nb : (b.natAbs : Int) = b := by omega
    rw [na, nb] at hG
    have hyz := same hG
    have u1 := sgp (x := dw) hb
    have u2 := sgp (x := dv) ha
    have u3 := sgp (x := sw) hb
    have u4 := sgp (x := sv) ha
    omega
  · have na : (a.natAbs : Int) = a := by omega
    have nb : (b.natAbs : Int) = -b := by omega
    rw [na, nb, Int.neg_mul] at hG
    have hyz := opp (by omega)
    have u1 := sgm (x := dw) hb
    have u2 := sgp (x := dv) ha
    have u3 := sgm (x := sw) hb
    have u4 := sgp (x := sv) ha
    omega
  · have na : (a.natAbs : Int) = -a := by omega
    have nb : (b.natAbs : Int) = b := by omega
    rw [na, nb, Int.neg_mul] at hG
    have hyz := opp (by omega)
    have u1 := sgp (x := dw) hb
    have u2 := sgm (x := dv) ha
    have u3 := sgp (x := sw) hb
    have u4 := sgm (x := sv) ha
    omega
  · have na : (a.natAbs : Int) = -a := by omega
    have nb : (b.natAbs : Int) = -b := by omega
    rw [na, nb, Int.neg_mul, Int.neg_mul] at hG
    have hyz := same (by omega)
    have u1 := sgm (x := dw) hb
    have u2 := sgm (x := dv) ha
    have u3 := sgm (x := sw) hb
    have u4 := sgm (x := sv) ha
    omega
