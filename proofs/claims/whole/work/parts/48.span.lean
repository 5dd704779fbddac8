/-! Span: the ends of a variable's values -/
abbrev enT : Type := Option (Int × Int × Bool)
def fr (a b : Int) : Rat := (a : Rat) / (b : Rat)
def okk (b : Bool) : Nat := if b = true then 0 else 1
def b01 (b : Bool) : Int32 := if b = true then 1 else 0
theorem okk_le (b : Bool) : okk b ≤ 1 := by cases b <;> decide
theorem b01_0 (b : Bool) : (b01 b = 0) ↔ b = false := by cases b <;> decide
def loS (lo : enT) (t : Rat) : Prop := match lo with
  | none => True
  | some e => relk (okk e.2.2) (fr e.1 e.2.1) t
def hiS (hi : enT) (t : Rat) : Prop := match hi with
  | none => True
  | some e => relk (okk e.2.2) t (fr e.1 e.2.1)
def enOk (e : enT) : Prop := match e with
  | none => True
  | some e => inJ e.1 ∧ 0 < e.2.1 ∧ e.2.1 < 140737488355328
def LoAt (σ : sT) (lo : enT) : Prop := match lo with
  | none => σ.2 15 1 = jI 0
  | some e => σ.2 15 0 = jI e.1 ∧ σ.2 15 1 = jI e.2.1 ∧ σ.1 15 2 = b01 e.2.2
def HiAt (σ : sT) (hi : enT) : Prop := match hi with
  | none => σ.2 15 4 = jI 0
  | some e => σ.2 15 3 = jI e.1 ∧ σ.2 15 4 = jI e.2.1 ∧ σ.1 15 5 = b01 e.2.2
def lowU (lo : enT) (a b : Int) (o : Bool) : enT := match lo with
  | none => some (a, b, o)
  | some e => if e.1 * b < a * e.2.1 then some (a, b, o) else if a * e.2.1 = e.1 * b then some (e.1, e.2.1, e.2.2 || o) else some e
def higU (hi : enT) (a b : Int) (o : Bool) : enT := match hi with
  | none => some (a, b, o)
  | some e => if a * e.2.1 < e.1 * b then some (a, b, o) else if a * e.2.1 = e.1 * b then some (e.1, e.2.1, e.2.2 || o) else some e
theorem fr_lt {a b c d : Int} (hb : 0 < b) (hd : 0 < d) : fr a b < fr c d ↔ a * d < c * b := by
  unfold fr
  rw [Rat.div_lt_iff (cast_pos hb), Rat.div_def, Rat.mul_assoc, Rat.mul_comm (d : Rat)⁻¹, ← Rat.mul_assoc, ← Rat.div_def, Rat.lt_div_iff (cast_pos hd), ← Rat.intCast_mul, ← Rat.intCast_mul, Rat.intCast_lt_intCast]
theorem fr_le {a b c d : Int} (hb : 0 < b) (hd : 0 < d) : fr a b ≤ fr c d ↔ a * d ≤ c * b := by
  rw [← Rat.not_lt, fr_lt hd hb]; omega
theorem fr_eq {a b c d : Int} (hb : 0 < b) (hd : 0 < d) : fr a b = fr c d ↔ a * d = c * b := by
  constructor
  · intro h
    have h1 := (fr_le hb hd).mp (by rw [h]; exact Rat.le_refl)
    have h2 := (fr_le hd hb).mp (by rw [h]; exact Rat.le_refl)
    omega
  · intro h
    exact Rat.le_antisymm ((fr_le hb hd).mpr (by omega)) ((fr_le hd hb).mpr (by omega))
theorem lowU_ok {lo : enT} {a b : Int} {o : Bool} (h : enOk lo) (ha : inJ a) (hb : 0 < b) (hb' : b < 140737488355328) : enOk (lowU lo a b o) := by
  unfold lowU
  cases lo with
  | none => exact ⟨ha, hb, hb'⟩
  | some e =>
    dsimp only; split
    · exact ⟨ha, hb, hb'⟩
    · split
      · exact h
      · exact h
theorem higU_ok {hi : enT} {a b : Int} {o : Bool} (h : enOk hi) (ha : inJ a) (hb : 0 < b) (hb' : b < 140737488355328) : enOk (higU hi a b o) := by
  unfold higU
  cases hi with
  | none => exact ⟨ha, hb, hb'⟩
  | some e =>
    dsimp only; split
    · exact ⟨ha, hb, hb'⟩
    · split
      · exact h
      · exact h
theorem lowU_S {lo : enT} {a b : Int} {o : Bool} (h : enOk lo) (hb : 0 < b) (t : Rat) : loS (lowU lo a b o) t ↔ loS lo t ∧ relk (okk o) (fr a b) t := by
  cases lo with
  | none => simp [lowU, loS]
  | some e =>
    obtain ⟨c, d, q⟩ := e
    obtain ⟨-, hd, -⟩ := h
    have l1 := fr_lt (a := c) (c := a) hd hb
    have l2 := fr_eq (a := a) (c := c) hb hd
    unfold lowU
    dsimp only at hd l1 l2 ⊢
    by_cases h1 : c * b < a * d
    · rw [if_pos h1]
      have := l1.mpr h1
      cases q <;> cases o <;> simp [loS, okk, relk0, relk1] <;> grind
    · rw [if_neg h1]
      by_cases h2 : a * d = c * b
      · rw [if_pos h2]
        have := l2.mpr h2
        cases q <;> cases o <;> simp [loS, okk, relk0, relk1] <;> grind
      · rw [if_neg h2]
        have : fr a b < fr c d := (fr_lt hb hd).mpr (by omega)
        cases q <;> cases o <;> simp [loS, okk, relk0, relk1] <;> grind
theorem higU_S {hi : enT} {a b : Int} {o : Bool} (h : enOk hi) (hb : 0 < b) (t : Rat) : hiS (higU hi a b o) t ↔ hiS hi t ∧ relk (okk o) t (fr a b) := by
  cases hi with
  | none => simp [higU, hiS]
  | some e =>
    obtain ⟨c, d, q⟩ := e
    obtain ⟨-, hd, -⟩ := h
    have l1 := fr_lt (a := a) (c := c) hb hd
    have l2 := fr_eq (a := a) (c := c) hb hd
    unfold higU
    dsimp only at hd l1 l2 ⊢
    by_cases h1 : a * d < c * b
    · rw [if_pos h1]
      have := l1.mpr h1
      cases q <;> cases o <;> simp [hiS, okk, relk0, relk1] <;> grind
    · rw [if_neg h1]
      by_cases h2 : a * d = c * b
      · rw [if_pos h2]
        have := l2.mpr h2
        cases q <;> cases o <;> simp [hiS, okk, relk0, relk1] <;> grind
      · rw [if_neg h2]
        have : fr c d < fr a b := (fr_lt hd hb).mpr (by omega)
        cases q <;> cases o <;> simp [hiS, okk, relk0, relk1] <;> grind
theorem okZ_b (b : Bool) : okZ (b01 b) = true := by cases b <;> decide
theorem jI_ne0 {b : Int} (hb : 0 < b) (hb' : b < 140737488355328) : ¬ lg_cmp (jI b) (0 : Int64) = 0 := fun z => by
  have := (cmp_eq0 (small_j (show 0 ≤ b by omega) hb')).mp z; omega
theorem HiAt.of {σ σ1 : sT} {hi : enT} (h : HiAt σ hi) (e3 : σ1.2 15 3 = σ.2 15 3) (e4 : σ1.2 15 4 = σ.2 15 4) (e5 : σ1.1 15 5 = σ.1 15 5) : HiAt σ1 hi := by
  cases hi with
  | none => exact e4.trans h
  | some e => exact ⟨e3.trans h.1, e4.trans h.2.1, e5.trans h.2.2⟩
theorem LoAt.of {σ σ1 : sT} {lo : enT} (h : LoAt σ lo) (e3 : σ1.2 15 0 = σ.2 15 0) (e4 : σ1.2 15 1 = σ.2 15 1) (e5 : σ1.1 15 2 = σ.1 15 2) : LoAt σ1 lo := by
  cases lo with
  | none => exact e4.trans h
  | some e => exact ⟨e3.trans h.1, e4.trans h.2.1, e5.trans h.2.2⟩
theorem raise_spec {σ : sT} {lo hi : enT} (hL : LoAt σ lo) (hH : HiAt σ hi) (hk : enOk lo) {a b : Int} {o : Bool} (ha : inJ a) (hb : 0 < b) (hb' : b < 140737488355328) : ∃ σ1, fSp_raiseLow (jI a) (jI b) (b01 o) σ = some σ1 ∧ LoAt σ1 (lowU lo a b o) ∧ HiAt σ1 hi ∧ offC [15] σ σ1 := by
  have REP : ∃ σ1, (dlt (sjW σ 15 0 (jI a)) fun σ12 => dlt (sjW σ12 15 1 (jI b)) fun σ13 => dck (okZ (b01 o)) <| dlt (siW σ13 15 2 (b01 o)) fun σ15 => some σ15) = some σ1 ∧ LoAt σ1 (some (a, b, o)) ∧ HiAt σ1 hi ∧ offC [15] σ σ1 := by
    rw [dlt_u, dlt_u, dck_t (okZ_b o), dlt_u]
    refine ⟨_, rfl, ⟨?_, ?_, ?_⟩, hH.of ?_ ?_ ?_, ((offC_sj (by simp)).trans (offC_sj (by simp))).trans (offC_si (by simp))⟩
    · rw [siW_2, sjW_s, if_neg (by decide), sjW_s, if_pos rfl]
    · rw [siW_2, sjW_s, if_pos rfl]
    · rw [siW_s, if_pos rfl]
    · rw [siW_2, sjW_s, if_neg (by decide), sjW_s, if_neg (by decide)]
    · rw [siW_2, sjW_s, if_neg (by decide), sjW_s, if_neg (by decide)]
    · rw [siW_s, if_neg (by decide)]; rfl
  unfold fSp_raiseLow
  rw [dlt_u]
  cases lo with
  | none =>
    have h0 : σ.2 15 1 = jI 0 := hL
    rw [h0, if_pos ((cmp_eq0 inJ0).mpr rfl)]
    dsimp only
    rw [if_neg (by decide)]
    exact REP
  | some e =>
    obtain ⟨c, d, q⟩ := e
    obtain ⟨l0, l1, l2⟩ := hL
    obtain ⟨hc, hd, hd'⟩ := hk
    dsimp only at l0 l1 l2 hc hd hd'
    rw [l1, if_neg (jI_ne0 hd hd'), l0, db1_t (compare_spec ha hc hb hb' hd hd')]
    unfold sg3 lowU
    dsimp only
    by_cases h1 : a * d < c * b
    · rw [if_pos h1, if_pos (by decide), if_neg (by decide), if_neg (by omega), if_neg (by omega)]
      exact ⟨σ, rfl, ⟨l0, l1, l2⟩, hH, offC.refl _ _⟩
    · rw [if_neg h1]
      by_cases h2 : a * d = c * b
      · rw [if_pos h2, if_pos (by decide), if_pos rfl, if_neg (by omega), if_pos h2, dlt_u, dlt_u, l2]
        have SET : ∀ z : Bool, z = (q || o) → ∃ σ1, (dck (okZ (b01 z)) <| dlt (siW σ 15 2 (b01 z)) fun σ8 => some σ8) = some σ1 ∧ LoAt σ1 (some (c, d, q || o)) ∧ HiAt σ1 hi ∧ offC [15] σ σ1 := by
          intro z hz
          rw [dck_t (okZ_b z), dlt_u]
          refine ⟨_, rfl, ⟨?_, ?_, ?_⟩, hH.of rfl rfl ?_, offC_si (by simp)⟩
          · rw [siW_2]; exact l0
          · rw [siW_2]; exact l1
          · rw [siW_s, if_pos rfl, hz]
          · rw [siW_s, if_neg (by decide)]
        cases q <;> cases o
        · exact SET false rfl
        · exact SET true rfl
        · exact SET true rfl
        · exact SET true rfl
      · rw [if_neg h2, if_neg (by decide), if_pos (by omega)]
        exact REP
theorem lower_spec {σ : sT} {lo hi : enT} (hL : LoAt σ lo) (hH : HiAt σ hi) (hk : enOk hi) {a b : Int} {o : Bool} (ha : inJ a) (hb : 0 < b) (hb' : b < 140737488355328) : ∃ σ1, fSp_lowerHigh (jI a) (jI b) (b01 o) σ = some σ1 ∧ LoAt σ1 lo ∧ HiAt σ1 (higU hi a b o) ∧ offC [15] σ σ1 := by
  have REP : ∃ σ1, (dlt (sjW σ 15 3 (jI a)) fun σ12 => dlt (sjW σ12 15 4 (jI b)) fun σ13 => dck (okZ (b01 o)) <| dlt (siW σ13 15 5 (b01 o)) fun σ15 => some σ15) = some σ1 ∧ LoAt σ1 lo ∧ HiAt σ1 (some (a, b, o)) ∧ offC [15] σ σ1 := by
    rw [dlt_u, dlt_u, dck_t (okZ_b o), dlt_u]
    refine ⟨_, rfl, hL.of ?_ ?_ ?_, ⟨?_, ?_, ?_⟩, ((offC_sj (by simp)).trans (offC_sj (by simp))).trans (offC_si (by simp))⟩
    · rw [siW_2, sjW_s, if_neg (by decide), sjW_s, if_neg (by decide)]
    · rw [siW_2, sjW_s, if_neg (by decide), sjW_s, if_neg (by decide)]
    · rw [siW_s, if_neg (by decide)]; rfl
    · rw [siW_2, sjW_s, if_neg (by decide), sjW_s, if_pos rfl]
    · rw [siW_2, sjW_s, if_pos rfl]
    · rw [siW_s, if_pos rfl]
  unfold fSp_lowerHigh
  rw [dlt_u]
  cases hi with
  | none =>
    have h0 : σ.2 15 4 = jI 0 := hH
    rw [h0, if_pos ((cmp_eq0 inJ0).mpr rfl)]
    dsimp only
    rw [if_neg (by decide)]
    exact REP
  | some e =>
    obtain ⟨c, d, q⟩ := e
    obtain ⟨l0, l1, l2⟩ := hH
    obtain ⟨hc, hd, hd'⟩ := hk
    dsimp only at l0 l1 l2 hc hd hd'
    rw [l1, if_neg (jI_ne0 hd hd'), l0, db1_t (compare_spec ha hc hb hb' hd hd')]
    unfold sg3 higU
    dsimp only
    by_cases h1 : a * d < c * b
    · rw [if_pos h1, if_neg (by decide), if_pos h1]
      exact REP
    · rw [if_neg h1]
      by_cases h2 : a * d = c * b
      · rw [if_pos h2, if_pos (by decide), if_pos rfl, if_neg h1, if_pos h2, dlt_u, dlt_u, l2]
        have SET : ∀ z : Bool, z = (q || o) → ∃ σ1, (dck (okZ (b01 z)) <| dlt (siW σ 15 5 (b01 z)) fun σ8 => some σ8) = some σ1 ∧ LoAt σ1 lo ∧ HiAt σ1 (some (c, d, q || o)) ∧ offC [15] σ σ1 := by
          intro z hz
          rw [dck_t (okZ_b z), dlt_u]
          refine ⟨_, rfl, hL.of rfl rfl ?_, ⟨?_, ?_, ?_⟩, offC_si (by simp)⟩
          · rw [siW_s, if_neg (by decide)]
          · rw [siW_2]; exact l0
          · rw [siW_2]; exact l1
          · rw [siW_s, if_pos rfl, hz]
        cases q <;> cases o
        · exact SET false rfl
        · exact SET true rfl
        · exact SET true rfl
        · exact SET true rfl
      · rw [if_neg h2, if_pos (by decide), if_neg (by decide), if_neg h1, if_neg h2]
        exact ⟨σ, rfl, hL, ⟨l0, l1, l2⟩, offC.refl _ _⟩
