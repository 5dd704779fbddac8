/-! rows in three variables, and the two ways to be rid of a variable -/
abbrev rT : Type := Int × Int × Int × Int × Nat
abbrev pT : Type := Nat → Rat
def rco (r : rT) (k : Nat) : Int := if k = 0 then r.1 else if k = 1 then r.2.1 else r.2.2.1
def rd (r : rT) : Int := r.2.2.2.1
def rk (r : rT) : Nat := r.2.2.2.2
def lin (r : rT) (p : pT) : Rat := (r.1 : Rat) * p 0 + (r.2.1 : Rat) * p 1 + (r.2.2.1 : Rat) * p 2
def hol (p : pT) (r : rT) : Prop := relk (rk r) (lin r p) (rd r : Rat)
def updp (p : pT) (k : Nat) (t : Rat) : pT := fun j => if j = k then t else p j
def comb (P : Int) (r : rT) (Q : Int) (s : rT) : rT := (P * r.1 + Q * s.1, P * r.2.1 + Q * s.2.1, P * r.2.2.1 + Q * s.2.2.1, P * r.2.2.2.1 + Q * s.2.2.2.1, min r.2.2.2.2 s.2.2.2.2)
theorem lin_upd (r : rT) (p : pT) {k : Nat} (hk : k < 3) (t : Rat) : lin r (updp p k t) = (rco r k : Rat) * t + lin r (updp p k 0) := by
  rcases (show k = 0 ∨ k = 1 ∨ k = 2 by omega) with rfl | rfl | rfl <;> simp [lin, updp, rco] <;> grind
theorem updp_self (p : pT) (k : Nat) : updp p k (p k) = p := by
  funext j; by_cases h : j = k <;> simp [updp, h]
theorem lin_of0 {r : rT} {k : Nat} (h : rco r k = 0) (hk : k < 3) (p : pT) (t : Rat) : lin r (updp p k t) = lin r p := by
  have h1 := lin_upd r p hk t
  have h2 := lin_upd r p hk (p k)
  rw [updp_self] at h2
  rw [h1, h2, h]; simp
theorem lin_comb (P Q : Int) (r s : rT) (p : pT) : lin (comb P r Q s) p = (P : Rat) * lin r p + (Q : Rat) * lin s p := by
  simp only [lin, comb, Rat.intCast_add, Rat.intCast_mul]; grind
theorem rd_comb (P Q : Int) (r s : rT) : (rd (comb P r Q s) : Rat) = (P : Rat) * (rd r : Rat) + (Q : Rat) * (rd s : Rat) := by
  simp only [rd, comb, Rat.intCast_add, Rat.intCast_mul]
theorem rco_comb (P Q : Int) (r s : rT) (k : Nat) : rco (comb P r Q s) k = P * rco r k + Q * rco s k := by
  unfold rco comb
  split
  · rfl
  · split <;> rfl
theorem rk_comb (P Q : Int) (r s : rT) : rk (comb P r Q s) = min (rk r) (rk s) := rfl
theorem relk_shift {k : Nat} {x y d : Rat} : relk k (x + y) d ↔ relk k x (d - y) := by
  unfold relk
  split
  · constructor <;> intro h <;> grind
  · split <;> constructor <;> intro h <;> grind
theorem relk_sub {k : Nat} {x y : Rat} : relk k x y ↔ relk k 0 (y - x) := by
  unfold relk
  split
  · constructor <;> intro h <;> grind
  · split <;> constructor <;> intro h <;> grind
theorem relk_scale {k : Nat} {c x : Rat} (hc : 0 < c) : relk k 0 (c * x) ↔ relk k 0 x := by
  have hc' : c ≠ 0 := Rat.ne_of_gt hc
  unfold relk; split
  · exact Rat.mul_pos_iff_of_pos_left hc
  · split
    · rw [← Rat.not_lt, ← Rat.not_lt, Rat.mul_neg_iff_of_pos_left hc]
    · constructor
      · intro h; rcases Rat.mul_eq_zero.mp h.symm with h | h
        · exact absurd h hc'
        · exact h.symm
      · intro h; rw [← h]; simp
theorem relk_pair {k : Nat} {a b e f : Rat} (ha : 0 < a) (hb : b < 0) : relk k 0 ((-b) * e + a * f) ↔ relk k (f / b) (e / a) := by
  have ha' : a ≠ 0 := Rat.ne_of_gt ha
  have hb' : b ≠ 0 := Rat.ne_of_lt hb
  have e1 : e = e / a * a := (Rat.div_mul_cancel ha').symm
  have f1 : f = f / b * b := (Rat.div_mul_cancel hb').symm
  generalize hu : e / a = u at e1 ⊢
  generalize hv : f / b = v at f1 ⊢
  have hc : 0 < a * (-b) := Rat.mul_pos ha (by grind)
  rw [relk_sub (x := v), e1, f1]
  have : (-b) * (u * a) + a * (v * b) = a * (-b) * (u - v) := by grind
  rw [this]
  exact relk_scale hc
theorem hol_upd {r : rT} {p : pT} {k : Nat} (hk : k < 3) (t : Rat) : hol (updp p k t) r ↔ relk (rk r) ((rco r k : Rat) * t) ((rd r : Rat) - lin r (updp p k 0)) := by
  unfold hol; rw [lin_upd r p hk t, relk_shift]
theorem hol_of0 {r : rT} {p : pT} {k : Nat} (hk : k < 3) (h : rco r k = 0) (t : Rat) : hol (updp p k t) r ↔ hol p r := by
  unfold hol; rw [lin_of0 h hk]
theorem cast_pos {a : Int} (h : 0 < a) : (0 : Rat) < (a : Rat) := Rat.intCast_pos.mpr h
theorem cast_neg {a : Int} (h : a < 0) : (a : Rat) < 0 := Rat.intCast_neg_iff.mpr h
theorem hol_pair {r s : rT} {p : pT} {k : Nat} (hk : k < 3) (hr : 0 < rco r k) (hs : rco s k < 0) : hol p (comb (-(rco s k)) r (rco r k) s) ↔ relk (min (rk r) (rk s)) (((rd s : Rat) - lin s (updp p k 0)) / (rco s k : Rat)) (((rd r : Rat) - lin r (updp p k 0)) / (rco r k : Rat)) := by
  rw [← relk_pair (cast_pos hr) (cast_neg hs)]
  unfold hol
  rw [lin_comb, rd_comb, rk_comb, relk_sub, Rat.intCast_neg]
  have h1 := lin_upd r p hk (p k)
  have h2 := lin_upd s p hk (p k)
  rw [updp_self] at h1 h2
  rw [h1, h2]
  have : -(rco s k : Rat) * (rd r : Rat) + (rco r k : Rat) * (rd s : Rat) - (-(rco s k : Rat) * ((rco r k : Rat) * p k + lin r (updp p k 0)) + (rco r k : Rat) * ((rco s k : Rat) * p k + lin s (updp p k 0))) = -(rco s k : Rat) * ((rd r : Rat) - lin r (updp p k 0)) + (rco r k : Rat) * ((rd s : Rat) - lin s (updp p k 0)) := by grind
  rw [this]
/-- a variable gone by pairs -/
theorem fm_pairs (L : List rT) {k : Nat} (hk : k < 3) (hkind : ∀ r ∈ L, rk r ≤ 1 ∨ rco r k = 0) (p : pT) :
    (∃ t, ∀ r ∈ L, hol (updp p k t) r) ↔ (∀ r ∈ L, rco r k = 0 → hol p r) ∧ ∀ r ∈ L, ∀ s ∈ L, 0 < rco r k → rco s k < 0 → hol p (comb (-(rco s k)) r (rco r k) s) := by
  constructor
  · rintro ⟨t, ht⟩
    refine ⟨fun r hr h0 => (hol_of0 hk h0 t).mp (ht r hr), fun r hr s hs h1 h2 => ?_⟩
    rw [hol_pair hk h1 h2]
    have a := (hol_upd hk t).mp (ht r hr)
    have b := (hol_upd hk t).mp (ht s hs)
    rw [relk_pos (cast_pos h1)] at a
    rw [relk_neg (cast_neg h2)] at b
    have kr : rk r ≤ 1 := (hkind r hr).resolve_right (by omega)
    have ks : rk s ≤ 1 := (hkind s hs).resolve_right (by omega)
    rcases k01 kr with e1 | e1 <;> rcases k01 ks with e2 | e2 <;> simp [e1, e2, relk0, relk1] at a b ⊢ <;> grind
  · rintro ⟨hz, hp⟩
    obtain ⟨t, hu, hl⟩ := between_ex ((L.filter (fun r => decide (0 < rco r k))).map (fun r => (((rd r : Rat) - lin r (updp p k 0)) / (rco r k : Rat), rk r))) ((L.filter (fun r => decide (rco r k < 0))).map (fun r => (((rd r : Rat) - lin r (updp p k 0)) / (rco r k : Rat), rk r))) (by
        intro q hq
        obtain ⟨r, hr, rfl⟩ := List.mem_map.mp hq
        obtain ⟨hr, h1⟩ := List.mem_filter.mp hr
        exact (hkind r hr).resolve_right (by have := of_decide_eq_true h1; omega)) (by
        intro q hq
        obtain ⟨r, hr, rfl⟩ := List.mem_map.mp hq
        obtain ⟨hr, h1⟩ := List.mem_filter.mp hr
        exact (hkind r hr).resolve_right (by have := of_decide_eq_true h1; omega)) (by
        intro u hu l hl
        obtain ⟨r, hr, rfl⟩ := List.mem_map.mp hu
        obtain ⟨hr, h1⟩ := List.mem_filter.mp hr
        obtain ⟨s, hs, rfl⟩ := List.mem_map.mp hl
        obtain ⟨hs, h2⟩ := List.mem_filter.mp hs
        exact (hol_pair hk (of_decide_eq_true h1) (of_decide_eq_true h2)).mp (hp r hr s hs (of_decide_eq_true h1) (of_decide_eq_true h2)))
    refine ⟨t, fun r hr => ?_⟩
    rcases Int.lt_trichotomy (rco r k) 0 with h | h | h
    · rw [hol_upd hk, relk_neg (cast_neg h)]
      exact hl _ (List.mem_map.mpr ⟨r, List.mem_filter.mpr ⟨hr, by simpa using h⟩, rfl⟩)
    · exact (hol_of0 hk h t).mpr (hz r hr h)
    · rw [hol_upd hk, relk_pos (cast_pos h)]
      exact hu _ (List.mem_map.mpr ⟨r, List.mem_filter.mpr ⟨hr, by simpa using h⟩, rfl⟩)
/-- what stands beside an equality with the variable -/
def pvq (o own : Int) : Int := if 0 < o then -own else own
def iabs (o : Int) : Int := if 0 < o then o else -o
theorem hol_pv {r s : rT} {p : pT} {k : Nat} (hk : k < 3) (hs : rk s = 2) (hr : rk r ≤ 2) (h0 : rco s k ≠ 0) (h : hol p s) : hol p (comb (iabs (rco s k)) r (pvq (rco s k) (rco r k)) s) ↔ hol p r := by
  unfold hol at *
  rw [lin_comb, rd_comb, rk_comb, hs, Nat.min_eq_left hr, relk_sub, relk_sub (x := lin r p)]
  rw [hs, relk2] at h
  rw [h]
  have hc : (0 : Rat) < (iabs (rco s k) : Rat) := by
    apply cast_pos; unfold iabs; split <;> omega
  have : (iabs (rco s k) : Rat) * (rd r : Rat) + (pvq (rco s k) (rco r k) : Rat) * (rd s : Rat) - ((iabs (rco s k) : Rat) * lin r p + (pvq (rco s k) (rco r k) : Rat) * (rd s : Rat)) = (iabs (rco s k) : Rat) * ((rd r : Rat) - lin r p) := by grind
  rw [this]
  exact relk_scale hc
theorem rco_pv (r s : rT) (k : Nat) : rco (comb (iabs (rco s k)) r (pvq (rco s k) (rco r k)) s) k = 0 := by
  rw [rco_comb]; unfold iabs pvq; split <;> grind
/-- a variable gone by an equality -/
theorem fm_pivot (L : List rT) {k : Nat} (hk : k < 3) {s : rT} (hs : s ∈ L) (h2 : rk s = 2) (h0 : rco s k ≠ 0) (hkind : ∀ r ∈ L, rk r ≤ 2) (p : pT) :
    (∃ t, ∀ r ∈ L, hol (updp p k t) r) ↔ (∀ r ∈ L, rco r k = 0 → hol p r) ∧ ∀ r ∈ L, rco r k ≠ 0 → hol p (comb (iabs (rco s k)) r (pvq (rco s k) (rco r k)) s) := by
  have c0 : ((rco s k : Int) : Rat) ≠ 0 := by
    intro h; exact h0 (Rat.intCast_inj.mp (by rw [h]; rfl))
  constructor
  · rintro ⟨t, ht⟩
    refine ⟨fun r hr z => (hol_of0 hk z t).mp (ht r hr), fun r hr z => ?_⟩
    rw [← hol_of0 hk (rco_pv r s k) t]
    exact (hol_pv hk h2 (hkind r hr) h0 (ht s hs)).mpr (ht r hr)
  · rintro ⟨hz, hp⟩
    refine ⟨((rd s : Rat) - lin s (updp p k 0)) / (rco s k : Rat), ?_⟩
    have hS : hol (updp p k (((rd s : Rat) - lin s (updp p k 0)) / (rco s k : Rat))) s := by
      rw [hol_upd hk, h2, relk2, Rat.mul_comm, Rat.div_mul_cancel c0]
    intro r hr
    by_cases z : rco r k = 0
    · exact (hol_of0 hk z _).mpr (hz r hr z)
    · have := hp r hr z
      rw [← hol_of0 hk (rco_pv r s k) (((rd s : Rat) - lin s (updp p k 0)) / (rco s k : Rat))] at this
      exact (hol_pv hk h2 (hkind r hr) h0 hS).mp this
