/-! a set's rows, laid by the model -/
def dbl (r : rT) : List rT := if rk r = 2 then [(r.1, r.2.1, r.2.2.1, r.2.2.2.1, 1), (-r.1, -r.2.1, -r.2.2.1, -r.2.2.2.1, 1)] else [r]
theorem dbl_hol (r : rT) (p : pT) : (∀ q ∈ dbl r, hol p q) ↔ hol p r := by
  unfold dbl
  by_cases h : rk r = 2
  · rw [if_pos h]
    have e1 : lin (-r.1, -r.2.1, -r.2.2.1, -r.2.2.2.1, 1) p = -(lin r p) := by
      simp only [lin, Rat.intCast_neg]; grind
    have e2 : lin (r.1, r.2.1, r.2.2.1, r.2.2.2.1, 1) p = lin r p := rfl
    have e3 : (rd (-r.1, -r.2.1, -r.2.2.1, -r.2.2.2.1, 1) : Rat) = -(rd r : Rat) := by
      simp only [rd, Rat.intCast_neg]
    have e4 : (rd (r.1, r.2.1, r.2.2.1, r.2.2.2.1, 1) : Rat) = (rd r : Rat) := rfl
    simp only [List.forall_mem_cons, List.not_mem_nil, false_imp_iff, implies_true, and_true]
    unfold hol
    rw [e1, e2, e3, e4, h, relk2, show rk (r.1, r.2.1, r.2.2.1, r.2.2.2.1, 1) = 1 from rfl, show rk (-r.1, -r.2.1, -r.2.2.1, -r.2.2.2.1, 1) = 1 from rfl, relk1, relk1]
    constructor
    · rintro ⟨a, b⟩; grind
    · intro a; constructor <;> grind
  · rw [if_neg h]; simp
theorem dbl_len (r : rT) : (dbl r).length ≤ 2 := by unfold dbl; split <;> simp
theorem dbl_kind {r : rT} (h : rk r ≤ 2) : ∀ q ∈ dbl r, rk q ≤ 1 := by
  intro q hq
  unfold dbl at hq
  by_cases h2 : rk r = 2
  · rw [if_pos h2] at hq
    rcases List.mem_cons.mp hq with rfl | hq
    · exact Nat.le_refl 1
    · rw [List.mem_singleton.mp hq]; exact Nat.le_refl 1
  · rw [if_neg h2] at hq; rw [List.mem_singleton.mp hq]; omega
theorem dbl_B {A D : Int} {r : rT} (h : rB A D r) : ∀ q ∈ dbl r, rB A D q := by
  intro q hq
  unfold dbl at hq
  unfold rB at h
  by_cases h2 : rk r = 2
  · rw [if_pos h2] at hq
    rcases List.mem_cons.mp hq with rfl | hq
    · unfold rB; dsimp only; omega
    · rw [List.mem_singleton.mp hq]; unfold rB; dsimp only; omega
  · rw [if_neg h2] at hq; rw [List.mem_singleton.mp hq]; exact h
theorem lays_spec {σ : sT} {L : List rT} (h : LaidAt σ L) (hl : L.length < 26) (q : rT) {x : Int32} (hx : x = b01 (decide (rk q = 0))) :
    ∃ σ1, fMM_lays (jI q.1) (jI q.2.1) (jI q.2.2.1) (jI q.2.2.2.1) x σ = some σ1 ∧ LaidAt σ1 (L ++ [q]) ∧ mOff [37] [5] σ σ1 := by
  have fin : ∀ y : Int64, y = jI (less q) → LaidAt (siW (sjW (sjW (sjW (sjW (sjW σ 37 (5 * L.length) (jI q.1)) 37 (5 * L.length + 1) (jI q.2.1)) 37 (5 * L.length + 2) (jI q.2.2.1)) 37 (5 * L.length + 3) (jI q.2.2.2.1)) 37 (5 * L.length + 4) y) 33 5 (nI L.length + (1 : Int32))) (L ++ [q]) ∧ mOff [37] [5] σ (siW (sjW (sjW (sjW (sjW (sjW σ 37 (5 * L.length) (jI q.1)) 37 (5 * L.length + 1) (jI q.2.1)) 37 (5 * L.length + 2) (jI q.2.2.1)) 37 (5 * L.length + 3) (jI q.2.2.2.1)) 37 (5 * L.length + 4) y) 33 5 (nI L.length + (1 : Int32))) := by
    intro y hy
    refine ⟨⟨?_, fun i r hr => ?_⟩, ?_⟩
    · rw [siW_s, if_pos rfl, nI_1]; simp
    · rw [siW_2]
      by_cases hi : i < L.length
      · rw [List.getElem?_append_left hi] at hr
        obtain ⟨a, b, c⟩ := h.2 i r hr
        refine ⟨fun k hk => ?_, ?_, ?_⟩
        · simp (disch := omega) only [sjW_s, if_neg]; exact a k hk
        · simp (disch := omega) only [sjW_s, if_neg]; exact b
        · simp (disch := omega) only [sjW_s, if_neg]; exact c
      · rw [List.getElem?_append_right (by omega)] at hr
        have hz : i - L.length < 1 := (List.getElem?_eq_some_iff.mp hr).1
        have hi0 : i = L.length := by omega
        subst hi0
        rw [Nat.sub_self] at hr
        cases hr
        refine ⟨fun k hk => ?_, ?_, ?_⟩
        · rcases (show k = 0 ∨ k = 1 ∨ k = 2 by omega) with rfl | rfl | rfl
          · simp (disch := omega) only [sjW_s, if_neg]; rw [if_pos (show 5 * L.length + 0 = 5 * L.length by omega)]; rfl
          · simp (disch := omega) only [sjW_s, if_neg]; rw [if_pos trivial]; rfl
          · simp (disch := omega) only [sjW_s, if_neg]; rw [if_pos trivial]; rfl
        · simp (disch := omega) only [sjW_s, if_neg]; rw [if_pos trivial]; rfl
        · rw [sjW_s, if_pos rfl, hy]
    · refine mOff.trans ?_ (mOff_si (by simp))
      refine mOff.trans ?_ (mOff_cj (by simp) (by decide))
      refine mOff.trans ?_ (mOff_cj (by simp) (by decide))
      refine mOff.trans ?_ (mOff_cj (by simp) (by decide))
      refine mOff.trans ?_ (mOff_cj (by simp) (by decide))
      exact mOff_cj (by simp) (by decide)
  unfold fMM_lays
  simp only [dlt_u, h.1, n5, sjW_1]
  simp only [show (1 : Int32) = nI 1 from rfl, show (2 : Int32) = nI 2 from rfl, show (3 : Int32) = nI 3 from rfl, show (4 : Int32) = nI 4 from rfl, na]
  simp (disch := omega) only [okI_n, dck_tt, nc]
  by_cases k0 : rk q = 0
  · have hx1 : x = 1 := by rw [hx]; simp [k0, b01]
    rw [hx1, if_neg (by decide)]
    have := fin 1 (by unfold less; rw [if_pos k0]; rfl)
    rw [nI_1] at this
    exact ⟨_, rfl, this.1, this.2⟩
  · have hx1 : x = 0 := by rw [hx]; simp [k0, b01]
    rw [hx1, if_pos rfl]
    have := fin 0 (by unfold less; rw [if_neg k0]; rfl)
    rw [nI_1] at this
    exact ⟨_, rfl, this.1, this.2⟩
theorem laysSum_spec {σ : sT} {L : List rT} (h : LaidAt σ L) (hl : L.length + 2 ≤ 26) (q : rT) (hk : rk q ≤ 2) :
    ∃ σ1, fMM_laysSum (jI q.1) (jI q.2.1) (jI q.2.2.1) (jI q.2.2.2.1) (nI (rk q)) σ = some σ1 ∧ LaidAt σ1 (L ++ dbl q) ∧ mOff [37] [5] σ σ1 := by
  unfold fMM_laysSum dbl
  rw [dlt_u]
  by_cases k0 : rk q = 0
  · rw [if_pos ((nI_eq0 hk).mpr k0), if_neg (show ¬ rk q = 2 by omega)]
    obtain ⟨σ1, e1, e2, e3⟩ := lays_spec h (by omega) q (x := 1) (by rw [k0]; rfl)
    dsimp only
    rw [db1_t e1, if_neg (fun z => by have := (nI_eq2 hk).mp z; omega)]
    exact ⟨σ1, rfl, e2, e3⟩
  · rw [if_neg (fun z => k0 ((nI_eq0 hk).mp z))]
    dsimp only
    by_cases k2 : rk q = 2
    · rw [if_pos k2]
      obtain ⟨σ1, e1, e2, e3⟩ := lays_spec h (by omega) (q.1, q.2.1, q.2.2.1, q.2.2.2.1, 1) (x := 0) rfl
      obtain ⟨σ2, f1, f2, f3⟩ := lays_spec e2 (by simp; omega) (-q.1, -q.2.1, -q.2.2.1, -q.2.2.2.1, 1) (x := 0) rfl
      dsimp only at e1 f1
      rw [db1_t e1, if_pos ((nI_eq2 hk).mpr k2), jI_neg, jI_neg, jI_neg, jI_neg, db1_t f1]
      exact ⟨σ2, rfl, by simpa using f2, e3.trans f3⟩
    · rw [if_neg k2]
      obtain ⟨σ1, e1, e2, e3⟩ := lays_spec h (by omega) q (x := 0) (by simp [k0, b01])
      rw [db1_t e1, if_neg (fun z => k2 ((nI_eq2 hk).mp z))]
      exact ⟨σ1, rfl, e2, e3⟩
