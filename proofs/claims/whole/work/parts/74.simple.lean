/-! the simplest fraction between two -/
def sF : Nat → Int → Int → Int → Int → Int × Int
  | 0, _, _, _, _ => (0, 1)
  | n + 1, a, b, c, d => if (a / b + 1) * d < c then (a / b + 1, 1) else (a / b * (sF n d (c - a / b * d) b (a % b)).1 + (sF n d (c - a / b * d) b (a % b)).2, (sF n d (c - a / b * d) b (a % b)).1)
def gd (a b c d : Int) : Prop := 0 ≤ a ∧ 0 < b ∧ 0 < c ∧ 0 ≤ d ∧ a * d < c * b
theorem gd_w {a b c d : Int} (h : gd a b c d) : 0 ≤ a / b ∧ a / b * d < c ∧ a / b ≤ a := by
  obtain ⟨h1, h2, h3, h4, h5⟩ := h
  have e := Int.mul_ediv_add_emod a b
  have r1 := Int.emod_nonneg a (show b ≠ 0 by omega)
  have w0 := Int.ediv_nonneg h1 (show 0 ≤ b by omega)
  have w1 : a / b ≤ a := Int.ediv_le_self b h1
  refine ⟨w0, ?_, w1⟩
  generalize a / b = w at *
  generalize a % b = r at *
  apply Decidable.byContradiction
  intro hn
  have q1 : c * b ≤ (w * d) * b := Int.mul_le_mul_of_nonneg_right (by omega) (by omega)
  have q2 : 0 ≤ r * d := Int.mul_nonneg r1 h4
  have q3 : a * d = (w * d) * b + r * d := by rw [← e]; grind
  omega
theorem gd_step {a b c d : Int} (h : gd a b c d) (hn : ¬ (a / b + 1) * d < c) : gd d (c - a / b * d) b (a % b) ∧ c - a / b * d ≤ d ∧ 0 < d := by
  obtain ⟨w0, w1, w2⟩ := gd_w h
  obtain ⟨h1, h2, h3, h4, h5⟩ := h
  have e := Int.mul_ediv_add_emod a b
  have r1 := Int.emod_nonneg a (show b ≠ 0 by omega)
  generalize a / b = w at *
  generalize a % b = r at *
  have q0 : (w + 1) * d = w * d + d := by grind
  have hd : 0 < d := by omega
  refine ⟨⟨h4, by omega, h2, r1, ?_⟩, by omega, hd⟩
  have q1 : a * d = b * (w * d) + d * r := by rw [← e]; grind
  have q2 : b * (c - w * d) = c * b - b * (w * d) := by grind
  omega
theorem sF_ok : ∀ (m n : Nat) (a b c d : Int), gd a b c d → b ≤ a → a * d < 2 ^ m → m < n → 0 < (sF n a b c d).1 ∧ (sF n a b c d).1 ≤ a + c ∧ 0 < (sF n a b c d).2 ∧ (sF n a b c d).2 ≤ b + d ∧ Int.gcd (sF n a b c d).1 (sF n a b c d).2 = 1 := by
  intro m
  induction m with
  | zero =>
    intro n a b c d h hb hm hn
    obtain ⟨n', rfl⟩ : ∃ n', n = n' + 1 := ⟨n - 1, by omega⟩
    obtain ⟨w0, w1, w2⟩ := gd_w h
    obtain ⟨h1, h2, h3, h4, h5⟩ := h
    have hd : d = 0 := by
      apply Decidable.byContradiction
      intro hne
      have := Int.mul_le_mul (show 1 ≤ a by omega) (show 1 ≤ d by omega) (by omega) (by omega)
      omega
    subst hd
    rw [sF, if_pos (by rw [Int.mul_zero]; exact h3)]
    exact ⟨by dsimp only; omega, by dsimp only; omega, by dsimp only; omega, by dsimp only; omega, Int.gcd_one⟩
  | succ m ih =>
    intro n a b c d h hb hm hn
    obtain ⟨n', rfl⟩ : ∃ n', n = n' + 1 := ⟨n - 1, by omega⟩
    obtain ⟨w0, w1, w2⟩ := gd_w h
    rw [sF]
    by_cases he : (a / b + 1) * d < c
    · obtain ⟨h1, h2, h3, h4, h5⟩ := h
      rw [if_pos he]
      exact ⟨by dsimp only; omega, by dsimp only; omega, by dsimp only; omega, by dsimp only; omega, Int.gcd_one⟩
    · rw [if_neg he]
      obtain ⟨g1, g2, g3⟩ := gd_step h he
      obtain ⟨h1, h2, h3, h4, h5⟩ := h
      have e := Int.mul_ediv_add_emod a b
      have r3 := emod_half h2 hb
      have hm2 : d * (a % b) < 2 ^ m := by
        have q1 := Int.mul_le_mul_of_nonneg_left r3 h4
        have q2 : d * (2 * (a % b)) = 2 * (d * (a % b)) := by grind
        have q3 : d * a = a * d := Int.mul_comm _ _
        have q4 : (2 : Int) ^ (m + 1) = 2 * 2 ^ m := by rw [Int.pow_succ]; omega
        omega
      obtain ⟨i1, i2, i3, i4, i5⟩ := ih n' d (c - a / b * d) b (a % b) g1 g2 hm2 (by omega)
      generalize sF n' d (c - a / b * d) b (a % b) = z at *
      obtain ⟨p, q⟩ := z
      dsimp only at *
      have q1 := Int.mul_le_mul_of_nonneg_left i2 w0
      have q2 := Int.mul_nonneg w0 (show 0 ≤ p by omega)
      have q3 : a / b * (d + b) = a / b * d + b * (a / b) := by grind
      refine ⟨by omega, by omega, i1, by omega, ?_⟩
      rw [Int.gcd_comm, Int.gcd_mul_right_add_right]
      exact i5
theorem sF_ok0 {m n : Nat} {a b c d : Int} (h : gd a b c d) (hm : b * d < 2 ^ m) (hn : m + 1 < n) : 0 < (sF n a b c d).1 ∧ (sF n a b c d).1 ≤ a + c ∧ 0 < (sF n a b c d).2 ∧ (sF n a b c d).2 ≤ b + d ∧ Int.gcd (sF n a b c d).1 (sF n a b c d).2 = 1 := by
  obtain ⟨n', rfl⟩ : ∃ n', n = n' + 1 := ⟨n - 1, by omega⟩
  obtain ⟨w0, w1, w2⟩ := gd_w h
  rw [sF]
  by_cases he : (a / b + 1) * d < c
  · obtain ⟨h1, h2, h3, h4, h5⟩ := h
    rw [if_pos he]
    exact ⟨by dsimp only; omega, by dsimp only; omega, by dsimp only; omega, by dsimp only; omega, Int.gcd_one⟩
  · rw [if_neg he]
    obtain ⟨g1, g2, g3⟩ := gd_step h he
    obtain ⟨h1, h2, h3, h4, h5⟩ := h
    have e := Int.mul_ediv_add_emod a b
    have r3 := Int.emod_lt_of_pos a h2
    have hm2 : d * (a % b) < 2 ^ m := by
      have q1 := Int.mul_le_mul_of_nonneg_left (show a % b ≤ b by omega) h4
      have q3 : d * b = b * d := Int.mul_comm _ _
      omega
    obtain ⟨i1, i2, i3, i4, i5⟩ := sF_ok m n' d (c - a / b * d) b (a % b) g1 g2 hm2 (by omega)
    generalize sF n' d (c - a / b * d) b (a % b) = z at *
    obtain ⟨p, q⟩ := z
    dsimp only at *
    have q1 := Int.mul_le_mul_of_nonneg_left i2 w0
    have q2 := Int.mul_nonneg w0 (show 0 ≤ p by omega)
    have q3 : a / b * (d + b) = a / b * d + b * (a / b) := by grind
    refine ⟨by omega, by omega, i1, by omega, ?_⟩
    rw [Int.gcd_comm, Int.gcd_mul_right_add_right]
    exact i5
theorem sF_scale : ∀ (n : Nat) (a b c d k l : Int), 0 < k → 0 < l → sF n (k * a) (k * b) (l * c) (l * d) = sF n a b c d
  | 0, _, _, _, _, _, _, _, _ => rfl
  | n + 1, a, b, c, d, k, l, hk, hl => by
    have e1 : (k * a) / (k * b) = a / b := Int.mul_ediv_mul_of_pos a b hk
    have e2 : (k * a) % (k * b) = k * (a % b) := Int.mul_emod_mul_of_pos a b hk
    have e3 : l * c - a / b * (l * d) = l * (c - a / b * d) := by grind
    have e4 : ((a / b + 1) * (l * d) < l * c) ↔ ((a / b + 1) * d < c) := by
      rw [show (a / b + 1) * (l * d) = l * ((a / b + 1) * d) by grind]
      exact Int.mul_lt_mul_left hl
    rw [sF, sF, e1, e2, e3, sF_scale n d (c - a / b * d) b (a % b) l k hl hk]
    by_cases h : (a / b + 1) * d < c
    · rw [if_pos (e4.mpr h), if_pos h]
    · rw [if_neg (fun z => h (e4.mp z)), if_neg h]
/-! the chosen value -/
def smp (u v : Rat) : Rat := fr (sF 96 u.num u.den v.num v.den).1 (sF 96 u.num u.den v.num v.den).2
def btw (u v : Rat) : Rat := if 0 ≤ u then smp u v else if 0 < v then 0 else -(smp (-v) (-u))
abbrev vwT : Type := Option (Rat × Bool)
def vw (e : enT) : vwT := match e with
  | none => none
  | some x => some (fr x.1 x.2.1, x.2.2)
theorem eqv_vw {a b : enT} (h : eqv a b) : vw a = vw b := by
  rcases h with ⟨rfl, rfl⟩ | ⟨x, y, rfl, rfl, h1, h2⟩
  · rfl
  · unfold vw; dsimp only; rw [h1, h2]
def cv3 (lo hi : vwT) : Rat := match lo, hi with
  | some u, some v => btw u.1 v.1
  | some u, none => ((u.1.num / u.1.den + 1 : Int) : Rat)
  | none, some v => ((-((-v.1.num) / v.1.den) - 1 : Int) : Rat)
  | none, none => 0
def cv2 (lo hi : vwT) : Rat := match hi with
  | some v => if v.2 = false then v.1 else cv3 lo hi
  | none => cv3 lo hi
def cv (lo hi : vwT) : Rat := match lo with
  | some u => if u.2 = false then u.1 else cv2 lo hi
  | none => cv2 lo hi
theorem fr_split {a b : Int} (hb : 0 < b) : ∃ k : Int, 0 < k ∧ a = k * (fr a b).num ∧ b = k * ((fr a b).den : Int) := by
  have hg := gcd_pos' (a := a) hb
  refine ⟨Int.gcd a b, hg.1, ?_, ?_⟩
  · rw [fr_num hb, Int.mul_tdiv_cancel' (Int.gcd_dvd_left a b)]
  · rw [fr_den hb, Int.mul_tdiv_cancel' (Int.gcd_dvd_right a b)]
theorem den_pos' (u : Rat) : (0 : Int) < (u.den : Int) := by have := u.den_pos; omega
theorem fr_self (u : Rat) : fr u.num u.den = u := by
  unfold fr
  rw [← Rat.divInt_eq_div, Rat.num_divInt_den]
theorem fr_floor {a b : Int} (hb : 0 < b) : (fr a b).num / ((fr a b).den : Int) = a / b := by
  obtain ⟨k, hk, e1, e2⟩ := fr_split (a := a) hb
  generalize (fr a b).num = x at e1 ⊢
  generalize ((fr a b).den : Int) = y at e2 ⊢
  rw [e1, e2, Int.mul_ediv_mul_of_pos _ _ hk]
theorem fr_red {p q : Int} (hq : 0 < q) (h : Int.gcd p q = 1) : (fr p q).num = p ∧ ((fr p q).den : Int) = q := by
  rw [fr_num hq, fr_den hq, h]
  simp
theorem fr_neg1 (a b : Int) : fr (-a) b = -(fr a b) := by
  unfold fr; rw [Rat.intCast_neg, Rat.div_def, Rat.div_def, Rat.neg_mul]
theorem smp_fr {a b c d : Int} (hb : 0 < b) (hd : 0 < d) : sF 96 (fr a b).num (fr a b).den (fr c d).num (fr c d).den = sF 96 a b c d := by
  obtain ⟨k, hk, e1, e2⟩ := fr_split (a := a) hb
  obtain ⟨l, hl, e3, e4⟩ := fr_split (a := c) hd
  generalize (fr a b).num = x at e1 ⊢
  generalize ((fr a b).den : Int) = y at e2 ⊢
  generalize (fr c d).num = z at e3 ⊢
  generalize ((fr c d).den : Int) = w at e4 ⊢
  rw [e1, e2, e3, e4, sF_scale 96 _ _ _ _ k l hk hl]
