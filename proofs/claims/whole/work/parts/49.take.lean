/-! Span.take, isEmpty, and Solver.narrow -/
def takU (e : enT × enT) (f d : Int) (k : Nat) : enT × enT :=
  (if k = 2 ∨ f < 0 then lowU e.1 (if 0 < f then d else -d) (iabs f) (decide (k = 0)) else e.1, if k = 2 ∨ 0 < f then higU e.2 (if 0 < f then d else -d) (iabs f) (decide (k = 0)) else e.2)
def ivS (e : enT × enT) (t : Rat) : Prop := loS e.1 t ∧ hiS e.2 t
theorem fr_neg (d f : Int) (h : f ≠ 0) : fr (-d) (-f) = fr d f := by
  unfold fr
  have hf : (f : Rat) ≠ 0 := fun e => h (Rat.intCast_inj.mp (by rw [e]; rfl))
  rw [Rat.intCast_neg, Rat.intCast_neg, Rat.div_def, Rat.div_def]
  have : (-(f : Rat))⁻¹ = -((f : Rat)⁻¹) := by
    apply Rat.inv_eq_of_mul_eq_one
    rw [Rat.neg_mul, Rat.mul_neg, Rat.neg_neg, Rat.mul_inv_cancel _ hf]
  rw [this]; grind
theorem takU_S {e : enT × enT} (h1 : enOk e.1) (h2 : enOk e.2) {f d : Int} {k : Nat} (hf : f ≠ 0) (hk : k ≤ 2) (t : Rat) : ivS (takU e f d k) t ↔ ivS e t ∧ relk k ((f : Rat) * t) (d : Rat) := by
  have hb : 0 < iabs f := by unfold iabs; split <;> omega
  have hv : fr (if 0 < f then d else -d) (iabs f) = (d : Rat) / (f : Rat) := by
    unfold iabs
    by_cases p : 0 < f
    · rw [if_pos p, if_pos p]; rfl
    · rw [if_neg p, if_neg p]; exact fr_neg d f hf
  unfold takU ivS
  dsimp only
  by_cases p : 0 < f
  · have nf : ¬ f < 0 := by omega
    rw [relk_pos (cast_pos p), ← hv]
    rcases k012 hk with rfl | rfl | rfl
    · rw [if_neg (by omega), if_pos (Or.inr p), higU_S h2 hb]; simp [okk, and_assoc]
    · rw [if_neg (by omega), if_pos (Or.inr p), higU_S h2 hb]; simp [okk, and_assoc]
    · rw [if_pos (Or.inl rfl), if_pos (Or.inl rfl), higU_S h2 hb, lowU_S h1 hb, relk2]
      simp only [okk, show decide (2 = 0) = false from rfl]
      simp only [Bool.false_eq_true, if_false, relk1]
      constructor
      · rintro ⟨⟨a, b⟩, c, d⟩; exact ⟨⟨a, c⟩, Rat.le_antisymm d b⟩
      · rintro ⟨⟨a, c⟩, b⟩; rw [b] at a c ⊢; exact ⟨⟨a, Rat.le_refl⟩, c, Rat.le_refl⟩
  · have nf : f < 0 := by omega
    rw [relk_neg (cast_neg nf), ← hv]
    rcases k012 hk with rfl | rfl | rfl
    · rw [if_pos (Or.inr nf), if_neg (by omega), lowU_S h1 hb]; simp [okk]; grind
    · rw [if_pos (Or.inr nf), if_neg (by omega), lowU_S h1 hb]; simp [okk]; grind
    · rw [if_pos (Or.inl rfl), if_pos (Or.inl rfl), higU_S h2 hb, lowU_S h1 hb, relk2]
      simp only [okk, show decide (2 = 0) = false from rfl]
      simp only [Bool.false_eq_true, if_false, relk1]
      constructor
      · rintro ⟨⟨a, b⟩, c, d⟩; exact ⟨⟨a, c⟩, Rat.le_antisymm b d⟩
      · rintro ⟨⟨a, c⟩, b⟩; rw [← b] at a c ⊢; exact ⟨⟨a, Rat.le_refl⟩, c, Rat.le_refl⟩
theorem takU_ok {e : enT × enT} (h1 : enOk e.1) (h2 : enOk e.2) {f d : Int} {k : Nat} (hf : f ≠ 0) (hfb : -140737488355328 < f ∧ f < 140737488355328) (hd : inJ d) (hd' : inJ (-d)) : enOk (takU e f d k).1 ∧ enOk (takU e f d k).2 := by
  have hb : 0 < iabs f := by unfold iabs; split <;> omega
  have hb' : iabs f < 140737488355328 := by unfold iabs; split <;> omega
  have hv : inJ (if 0 < f then d else -d) := by split <;> assumption
  unfold takU
  dsimp only
  constructor
  · split
    · exact lowU_ok h1 hv hb hb'
    · exact h1
  · split
    · exact higU_ok h2 hv hb hb'
    · exact h2
def takB (a1 : Int64) (a3 : Int32) (σ : sT) (x1 : Int64) : Option sT :=
    dlt (if 0 < a1 then a1 else -a1) fun x3 =>
    dlt (fun (σ4 : sT) =>
      if (lg_cmp x3 (0 : Int64)) = 0 then
        some σ4
      else
        dlt (fun (_u : Unit) =>
          dlt (fun (x8 : Int64) (x9 : Int64) (x10 : Int32) =>
            db1 (fSp_raiseLow x8 x9 x10 σ4) fun σ13 =>
            some σ13) fun J11 =>
          if a3 = 0 then
            J11 x1 x3 (1 : Int32)
          else
            J11 x1 x3 (0 : Int32)) fun J7 =>
        if a3 = (2 : Int32) then
          J7 ()
        else
          if 0 ≤ (lg_cmp a1 (0 : Int64)) then
            some σ4
          else
            J7 ()) fun J5 =>
    if (lg_cmp x3 (0 : Int64)) = 0 then
      J5 σ
    else
      dlt (fun (_u : Unit) =>
        dlt (fun (x19 : Int64) (x20 : Int64) (x21 : Int32) =>
          db1 (fSp_lowerHigh x19 x20 x21 σ) fun σ24 =>
          J5 σ24) fun J22 =>
        if a3 = 0 then
          J22 x1 x3 (1 : Int32)
        else
          J22 x1 x3 (0 : Int32)) fun J18 =>
      if a3 = (2 : Int32) then
        J18 ()
      else
        if (lg_cmp a1 (0 : Int64)) ≤ 0 then
          J5 σ
        else
          J18 ()
theorem take_eq (a1 a2 : Int64) (a3 : Int32) (σ : sT) : fSp_take a1 a2 a3 σ = if (lg_cmp a1 (0 : Int64)) ≤ 0 then takB a1 a3 σ (-a2) else takB a1 a3 σ a2 := rfl
theorem take_spec {σ : sT} {e : enT × enT} (hL : LoAt σ e.1) (hH : HiAt σ e.2) (h1 : enOk e.1) (h2 : enOk e.2) {f d : Int} {k : Nat} (hf : f ≠ 0) (hfb : -140737488355328 < f ∧ f < 140737488355328) (hd : inJ d) (hd' : inJ (-d)) (hk : k ≤ 2) : ∃ σ1, fSp_take (jI f) (jI d) (nI k) σ = some σ1 ∧ LoAt σ1 (takU e f d k).1 ∧ HiAt σ1 (takU e f d k).2 ∧ offC [15] σ σ1 := by
  have hfj : inJ f := by unfold inJ; omega
  have hb : 0 < iabs f := by unfold iabs; split <;> omega
  have hb' : iabs f < 140737488355328 := by unfold iabs; split <;> omega
  have hv : inJ (if 0 < f then d else -d) := by split <;> assumption
  have hnz := jI_ne0 hb hb'
  -- the second half
  have SEC : ∀ (σ4 : sT) (hi : enT), LoAt σ4 e.1 → HiAt σ4 hi → ∃ σ1, (if (lg_cmp (jI (iabs f)) (0 : Int64)) = 0 then some σ4 else
        dlt (fun (_u : Unit) => dlt (fun (x8 : Int64) (x9 : Int64) (x10 : Int32) => db1 (fSp_raiseLow x8 x9 x10 σ4) fun σ13 => some σ13) fun J11 =>
          if (nI k) = 0 then J11 (jI (if 0 < f then d else -d)) (jI (iabs f)) (1 : Int32) else J11 (jI (if 0 < f then d else -d)) (jI (iabs f)) (0 : Int32)) fun J7 =>
        if (nI k) = (2 : Int32) then J7 () else if 0 ≤ (lg_cmp (jI f) (0 : Int64)) then some σ4 else J7 ()) = some σ1 ∧ LoAt σ1 (takU e f d k).1 ∧ HiAt σ1 hi ∧ offC [15] σ4 σ1 := by
    intro σ4 hi a b
    rw [if_neg hnz, dlt_u, dlt_u]
    have DO : (k = 2 ∨ f < 0) → ∃ σ1, (if (nI k) = 0 then (fun (x8 : Int64) (x9 : Int64) (x10 : Int32) => db1 (fSp_raiseLow x8 x9 x10 σ4) fun σ13 => some σ13) (jI (if 0 < f then d else -d)) (jI (iabs f)) (1 : Int32) else (fun (x8 : Int64) (x9 : Int64) (x10 : Int32) => db1 (fSp_raiseLow x8 x9 x10 σ4) fun σ13 => some σ13) (jI (if 0 < f then d else -d)) (jI (iabs f)) (0 : Int32)) = some σ1 ∧ LoAt σ1 (takU e f d k).1 ∧ HiAt σ1 hi ∧ offC [15] σ4 σ1 := by
      intro hc
      have hU : (takU e f d k).1 = lowU e.1 (if 0 < f then d else -d) (iabs f) (decide (k = 0)) := by unfold takU; dsimp only; rw [if_pos hc]
      rw [hU]
      obtain ⟨σ1, r1, r2, r3, r4⟩ := raise_spec (o := decide (k = 0)) a b h1 hv hb hb'
      refine ⟨σ1, ?_, r2, r3, r4⟩
      by_cases k0 : k = 0
      · rw [if_pos ((nI_eq0 hk).mpr k0)]
        have : b01 (decide (k = 0)) = 1 := by simp [b01, k0]
        rw [this] at r1
        exact db1_t (k := fun σ => some σ) r1
      · rw [if_neg (fun z => k0 ((nI_eq0 hk).mp z))]
        have : b01 (decide (k = 0)) = 0 := by simp [b01, k0]
        rw [this] at r1
        exact db1_t (k := fun σ => some σ) r1
    by_cases k2 : k = 2
    · rw [if_pos ((nI_eq2 hk).mpr k2)]; exact DO (Or.inl k2)
    · rw [if_neg (fun z => k2 ((nI_eq2 hk).mp z))]
      by_cases p : 0 ≤ f
      · rw [if_pos ((cmp_ge0 hfj).mpr p)]
        have hU : (takU e f d k).1 = e.1 := by unfold takU; dsimp only; rw [if_neg (by omega)]
        rw [hU]
        exact ⟨σ4, rfl, a, b, offC.refl _ _⟩
      · rw [if_neg (fun z => p ((cmp_ge0 hfj).mp z))]; exact DO (Or.inr (by omega))
  rw [take_eq]
  have hx : (if (lg_cmp (jI f) (0 : Int64)) ≤ 0 then -(jI d) else jI d) = jI (if 0 < f then d else -d) := by
    by_cases p : 0 < f
    · rw [if_neg (fun z => by have := (cmp_le0 hfj).mp z; omega), if_pos p]
    · rw [if_pos ((cmp_le0 hfj).mpr (by omega)), if_neg p, jI_neg]
  have hT : (if (lg_cmp (jI f) (0 : Int64)) ≤ 0 then takB (jI f) (nI k) σ (-(jI d)) else takB (jI f) (nI k) σ (jI d)) = takB (jI f) (nI k) σ (jI (if 0 < f then d else -d)) := by
    rw [← hx]; split <;> rfl
  rw [hT]
  unfold takB
  rw [dlt_u, iabs_j hfj, dlt_u, if_neg hnz, dlt_u, dlt_u]
  have DO : (k = 2 ∨ 0 < f) → ∃ σ1, fSp_lowerHigh (jI (if 0 < f then d else -d)) (jI (iabs f)) (if (nI k) = 0 then 1 else 0) σ = some σ1 ∧ LoAt σ1 e.1 ∧ HiAt σ1 (takU e f d k).2 ∧ offC [15] σ σ1 := by
    intro hc
    have hU : (takU e f d k).2 = higU e.2 (if 0 < f then d else -d) (iabs f) (decide (k = 0)) := by unfold takU; dsimp only; rw [if_pos hc]
    rw [hU]
    obtain ⟨σ1, r1, r2, r3, r4⟩ := lower_spec (o := decide (k = 0)) hL hH h2 hv hb hb'
    refine ⟨σ1, ?_, r2, r3, r4⟩
    have : b01 (decide (k = 0)) = (if (nI k) = 0 then 1 else 0) := by
      by_cases k0 : k = 0
      · rw [if_pos ((nI_eq0 hk).mpr k0)]; simp [b01, k0]
      · rw [if_neg (fun z => k0 ((nI_eq0 hk).mp z))]; simp [b01, k0]
    rw [← this]; exact r1
  have GO : (k = 2 ∨ 0 < f) → ∃ σ1, (if (nI k) = 0 then (fun (x19 : Int64) (x20 : Int64) (x21 : Int32) => db1 (fSp_lowerHigh x19 x20 x21 σ) fun σ24 => (if (lg_cmp (jI (iabs f)) (0 : Int64)) = 0 then some σ24 else
        dlt (fun (_u : Unit) => dlt (fun (x8 : Int64) (x9 : Int64) (x10 : Int32) => db1 (fSp_raiseLow x8 x9 x10 σ24) fun σ13 => some σ13) fun J11 =>
          if (nI k) = 0 then J11 (jI (if 0 < f then d else -d)) (jI (iabs f)) (1 : Int32) else J11 (jI (if 0 < f then d else -d)) (jI (iabs f)) (0 : Int32)) fun J7 =>
        if (nI k) = (2 : Int32) then J7 () else if 0 ≤ (lg_cmp (jI f) (0 : Int64)) then some σ24 else J7 ())) (jI (if 0 < f then d else -d)) (jI (iabs f)) (1 : Int32) else (fun (x19 : Int64) (x20 : Int64) (x21 : Int32) => db1 (fSp_lowerHigh x19 x20 x21 σ) fun σ24 => (if (lg_cmp (jI (iabs f)) (0 : Int64)) = 0 then some σ24 else
        dlt (fun (_u : Unit) => dlt (fun (x8 : Int64) (x9 : Int64) (x10 : Int32) => db1 (fSp_raiseLow x8 x9 x10 σ24) fun σ13 => some σ13) fun J11 =>
          if (nI k) = 0 then J11 (jI (if 0 < f then d else -d)) (jI (iabs f)) (1 : Int32) else J11 (jI (if 0 < f then d else -d)) (jI (iabs f)) (0 : Int32)) fun J7 =>
        if (nI k) = (2 : Int32) then J7 () else if 0 ≤ (lg_cmp (jI f) (0 : Int64)) then some σ24 else J7 ())) (jI (if 0 < f then d else -d)) (jI (iabs f)) (0 : Int32)) = some σ1 ∧ LoAt σ1 (takU e f d k).1 ∧ HiAt σ1 (takU e f d k).2 ∧ offC [15] σ σ1 := by
    intro hc
    obtain ⟨σ2, a1, a2, a3, a4⟩ := DO hc
    obtain ⟨σ3, b1, b2, b3, b4⟩ := SEC σ2 _ a2 a3
    refine ⟨σ3, ?_, b2, b3, a4.trans b4⟩
    by_cases k0 : (nI k) = 0
    · rw [if_pos k0] at a1 ⊢
      dsimp only
      rw [db1_t a1]; exact b1
    · rw [if_neg k0] at a1 ⊢
      dsimp only
      rw [db1_t a1]; exact b1
  by_cases k2 : k = 2
  · rw [if_pos ((nI_eq2 hk).mpr k2)]; exact GO (Or.inl k2)
  · rw [if_neg (fun z => k2 ((nI_eq2 hk).mp z))]
    by_cases p : f ≤ 0
    · rw [if_pos ((cmp_le0 hfj).mpr p)]
      have hU : (takU e f d k).2 = e.2 := by unfold takU; dsimp only; rw [if_neg (by omega)]
      rw [hU]
      exact SEC σ e.2 hL hH
    · rw [if_neg (fun z => p ((cmp_le0 hfj).mp z))]; exact GO (Or.inr (by omega))
