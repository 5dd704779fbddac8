/-! common divisors, ends of values are one, bound -/
theorem rem_j {x y : Int} (hx : 0 ≤ x) (hx2 : x < 9223372036854775808) (hy : 0 < y) (hy2 : y < 9223372036854775808) : jI x - jI x / jI y * jI y = jI (x % y) := by
  rw [jI_div (by unfold inJ; omega) (by unfold inJ; omega), jI_mul, jI_sub, Int.tdiv_eq_ediv_of_nonneg hx]
  congr 1
  have := Int.emod_def x y
  rw [this, Int.mul_comm]
theorem okE_j {y : Int} (hy : 0 < y) (hy2 : y < 9223372036854775808) : okE (jI y) = true := by
  unfold okE
  apply decide_eq_true
  intro z
  rw [j0] at z
  have := (jI_eq (by unfold inJ; omega) inJ0).mp z
  omega
theorem gcd_st {n st : Nat} {x y : Int} (hs : st < 100) (hx : 0 ≤ x) (hx2 : x < 9223372036854775808) (hy : 0 < y) (hy2 : y < 9223372036854775808) : fRM_gcd_L15 (n + 1) (jI x) (jI y) (nI st) = fRM_gcd_L15 n (jI y) (jI (x % y)) (nI (st + 1)) := by
  conv => lhs; unfold fRM_gcd_L15
  rw [show (100 : Int32) = nI 100 from rfl, if_neg (nI_ge hs (by omega)), if_neg (fun z => by have := (cmp_eq0 (by unfold inJ; omega)).mp z; omega), dck_t (okE_j hy hy2), dlt_u, rem_j hx hx2 hy hy2, nI_1]
theorem div_st {n : Nat} {x y : Int} (hx : 0 ≤ x) (hx2 : x < 9223372036854775808) (hy : 0 < y) (hy2 : y < 9223372036854775808) : fMM_divisor_L12 (n + 1) (jI x) (jI y) = fMM_divisor_L12 n (jI y) (jI (x % y)) := by
  conv => lhs; unfold fMM_divisor_L12
  rw [if_neg (fun z => by have := (cmp_eq0 (by unfold inJ; omega)).mp z; omega), dck_t (okE_j hy hy2), dlt_u, rem_j hx hx2 hy hy2]
theorem gcd_e (x y : Int) : Int.gcd y (x % y) = Int.gcd x y := by
  rw [Int.emod_def, Int.gcd_comm x y]
  simp
theorem gcd_loop : ∀ (m n st : Nat) (x y : Int), 0 ≤ y → y ≤ x → x * y < 2 ^ m → x < 9223372036854775808 → st + m < 100 → m < n → fRM_gcd_L15 n (jI x) (jI y) (nI st) = some (jI (Int.gcd x y)) ∧ fMM_divisor_L12 n (jI x) (jI y) = some (jI (Int.gcd x y)) := by
  intro m
  induction m with
  | zero =>
    intro n st x y h0 h1 h2 h3 h4 h5
    obtain ⟨n', rfl⟩ : ∃ n', n = n' + 1 := ⟨n - 1, by omega⟩
    have hy : y = 0 := by
      apply Decidable.byContradiction
      intro hne
      have := Int.mul_le_mul (show 1 ≤ x by omega) (show 1 ≤ y by omega) (by omega) (by omega)
      omega
    subst hy
    have hg : ((Int.gcd x 0 : Nat) : Int) = x := by rw [Int.gcd_zero]; omega
    rw [hg]
    constructor
    · unfold fRM_gcd_L15
      rw [show (100 : Int32) = nI 100 from rfl, if_neg (nI_ge (by omega) (by omega)), if_pos ((cmp_eq0 inJ0).mpr rfl)]
    · unfold fMM_divisor_L12
      rw [if_pos ((cmp_eq0 inJ0).mpr rfl)]
  | succ m ih =>
    intro n st x y h0 h1 h2 h3 h4 h5
    obtain ⟨n', rfl⟩ : ∃ n', n = n' + 1 := ⟨n - 1, by omega⟩
    by_cases hy : y = 0
    · subst hy
      have hg : ((Int.gcd x 0 : Nat) : Int) = x := by rw [Int.gcd_zero]; omega
      rw [hg]
      constructor
      · unfold fRM_gcd_L15
        rw [show (100 : Int32) = nI 100 from rfl, if_neg (nI_ge (by omega) (by omega)), if_pos ((cmp_eq0 inJ0).mpr rfl)]
      · unfold fMM_divisor_L12
        rw [if_pos ((cmp_eq0 inJ0).mpr rfl)]
    · have hp : 0 < y := by omega
      have r1 := Int.emod_nonneg x (show y ≠ 0 by omega)
      have r2 := Int.emod_lt_of_pos x hp
      have r3 := emod_half hp h1
      have hm : y * (x % y) < 2 ^ m := by
        have q1 := Int.mul_le_mul_of_nonneg_left r3 h0
        have q2 : y * (2 * (x % y)) = 2 * (y * (x % y)) := by grind
        have q3 : y * x = x * y := Int.mul_comm _ _
        have q4 : (2 : Int) ^ (m + 1) = 2 * 2 ^ m := by rw [Int.pow_succ]; omega
        omega
      obtain ⟨i1, i2⟩ := ih n' (st + 1) y (x % y) r1 (by omega) hm (by omega) (by omega) (by omega)
      rw [gcd_e] at i1 i2
      exact ⟨by rw [gcd_st (by omega) (by omega) h3 hp (by omega)]; exact i1, by rw [div_st (by omega) h3 hp (by omega)]; exact i2⟩
theorem gcd_iabs (a b : Int) : Int.gcd (iabs a) (iabs b) = Int.gcd a b := by
  unfold iabs
  split <;> split <;> simp
theorem iabs_nn (a : Int) : 0 ≤ iabs a := by unfold iabs; split <;> omega
theorem gcd_both {a b : Int} (ha : -9223372036854775808 < a ∧ a < 9223372036854775808) (hb : -140737488355328 < b ∧ b < 140737488355328) : fRM_gcd_L15 FU (jI (iabs a)) (jI (iabs b)) (nI 0) = some (jI (Int.gcd a b)) ∧ fMM_divisor_L12 FU (jI (iabs a)) (jI (iabs b)) = some (jI (Int.gcd a b)) := by
  rw [← gcd_iabs a b]
  have ha1 : 0 ≤ iabs a ∧ iabs a < 9223372036854775808 := by unfold iabs; split <;> omega
  have hb1 : 0 ≤ iabs b ∧ iabs b < 140737488355328 := by unfold iabs; split <;> omega
  generalize iabs a = x at ha1 ⊢
  generalize iabs b = y at hb1 ⊢
  obtain ⟨N, hN, hN9⟩ := FU_s
  rw [hN]
  by_cases hy : y = 0
  · subst hy
    have hg : ((Int.gcd x 0 : Nat) : Int) = x := by rw [Int.gcd_zero]; omega
    rw [hg]
    constructor
    · unfold fRM_gcd_L15
      rw [show (100 : Int32) = nI 100 from rfl, if_neg (nI_ge (by omega) (by omega)), if_pos ((cmp_eq0 inJ0).mpr rfl)]
    · unfold fMM_divisor_L12
      rw [if_pos ((cmp_eq0 inJ0).mpr rfl)]
  · have hp : 0 < y := by omega
    have r1 := Int.emod_nonneg x (show y ≠ 0 by omega)
    have r2 := Int.emod_lt_of_pos x hp
    have hm : y * (x % y) < 2 ^ 94 := by
      have q1 := Int.mul_le_mul (show y ≤ 140737488355327 by omega) (show x % y ≤ 140737488355327 by omega) r1 (by omega)
      have : (140737488355327 : Int) * 140737488355327 < 2 ^ 94 := by decide
      omega
    obtain ⟨i1, i2⟩ := gcd_loop 94 N 1 y (x % y) r1 (by omega) hm (by omega) (by omega) (by omega)
    rw [gcd_e] at i1 i2
    exact ⟨by rw [gcd_st (by omega) ha1.1 ha1.2 hp (by omega)]; exact i1, by rw [div_st ha1.1 ha1.2 hp (by omega)]; exact i2⟩
theorem gcd_spec {a b : Int} (ha : -9223372036854775808 < a ∧ a < 9223372036854775808) (hb : -140737488355328 < b ∧ b < 140737488355328) : fRM_gcd (jI a) (jI b) = some (jI (Int.gcd a b)) := by
  unfold fRM_gcd
  rw [dlt_u, dlt_u, iabs_j (by unfold inJ; omega), iabs_j (by unfold inJ; omega), show (0 : Int32) = nI 0 from rfl]
  exact (gcd_both ha hb).1
theorem size_spec {a : Int} (ha : -9223372036854775808 < a ∧ a < 9223372036854775808) : fMM_size (jI a) = some (jI (iabs a)) := by
  unfold fMM_size iabs
  by_cases h : 0 ≤ a
  · rw [if_pos ((cmp_ge0 (by unfold inJ; omega)).mpr h)]
    by_cases h0 : 0 < a
    · rw [if_pos h0]
    · rw [if_neg h0, show -a = a by omega]
  · rw [if_neg (fun z => h ((cmp_ge0 (by unfold inJ; omega)).mp z)), if_neg (by omega), jI_neg]
theorem divisor_spec {a b : Int} (ha : -9223372036854775808 < a ∧ a < 9223372036854775808) (hb : -140737488355328 < b ∧ b < 140737488355328) : fMM_divisor (jI a) (jI b) = some (jI (Int.gcd a b)) := by
  unfold fMM_divisor
  rw [db1_t (size_spec ha), db1_t (size_spec (by omega))]
  exact (gcd_both ha hb).2
theorem fr_num {a b : Int} (hb : 0 < b) : (fr a b).num = a.tdiv (Int.gcd a b) := by
  unfold fr
  rw [← Rat.divInt_eq_div, Rat.num_divInt, Int.sign_eq_one_of_pos hb, Int.one_mul, Int.gcd_comm b a, Int.tdiv_eq_ediv_of_dvd (Int.gcd_dvd_left a b)]
theorem fr_den {a b : Int} (hb : 0 < b) : ((fr a b).den : Int) = b.tdiv (Int.gcd a b) := by
  unfold fr
  rw [← Rat.divInt_eq_div, Rat.den_divInt, if_neg (by omega), Int.gcd_comm b a, Int.tdiv_eq_ediv_of_dvd (Int.gcd_dvd_right a b)]
  have : ((b.natAbs : Nat) : Int) = b := by omega
  rw [Int.natCast_ediv, this]
/-- what is told of an end -/
def bres (e : enT) (w : Nat) : Int64 := match e with
  | none => -1000001
  | some e => if w = 2 then (if e.2.2 = true then 0 else 1) else if w = 0 then jI (fr e.1 e.2.1).num else jI ((fr e.1 e.2.1).den : Int)
theorem gcd_pos' {a b : Int} (hb : 0 < b) : 0 < (Int.gcd a b : Int) ∧ (Int.gcd a b : Int) ≤ b := by
  have h1 := Int.gcd_pos_of_ne_zero_right a (show b ≠ 0 by omega)
  have h2 := Int.gcd_le_right a hb
  omega
theorem property_spec {a b : Int} {o : Bool} {w : Nat} (hw : w ≤ 2) (ha : -9223372036854775808 < a ∧ a < 9223372036854775808) (hb : 0 < b ∧ b < 140737488355328) : fSp_property (jI a) (jI b) (b01 o) (nI w) = some (bres (some (a, b, o)) w) := by
  unfold fSp_property bres
  rw [if_neg (jI_ne0 hb.1 hb.2)]
  dsimp only
  by_cases w2 : w = 2
  · rw [if_pos (by rw [w2]; rfl), if_pos w2]
    cases o <;> rfl
  · rw [if_neg (fun z => w2 ((nI_eq2 hw).mp z)), if_neg w2, db1_t (gcd_spec ha (by omega))]
    have hg := gcd_pos' (a := a) hb.1
    rw [if_neg (fun z => by have := (cmp_eq0 (by unfold inJ; omega)).mp z; omega), dlt_u]
    dsimp only
    rw [dck_t (okE_j hg.1 (by omega)), dck_t (okE_j hg.1 (by omega)), jI_div (by unfold inJ; omega) (by unfold inJ; omega), jI_div (by unfold inJ; omega) (by unfold inJ; omega), fr_num hb.1, fr_den hb.1]
    by_cases w0 : w = 0
    · rw [if_pos (by rw [w0]; rfl), if_pos w0]
    · rw [if_neg (fun z => w0 ((nI_eq0 hw).mp z)), if_neg w0]
def endV (A D : Int) (e : enT) : Prop := enB A D e ∧ A < 140737488355328 ∧ D ≤ big
theorem lowP_spec {σ : sT} {A D : Int} {e : enT} (h : LoAt σ e) (hB : endV A D e) {w : Nat} (hw : w ≤ 2) : fSp_lowProperty (nI w) σ = some (bres e w) := by
  obtain ⟨hB, hA, hD⟩ := hB
  unfold big at hD
  unfold fSp_lowProperty
  cases e with
  | none =>
    have h' : σ.2 15 1 = jI 0 := h
    have : fSp_property (σ.2 15 0) (σ.2 15 1) (σ.1 15 2) (nI w) = some (-1000001 : Int64) := by
      unfold fSp_property; rw [h', if_pos ((cmp_eq0 inJ0).mpr rfl)]
    rw [db1_t this]; rfl
  | some e =>
    obtain ⟨x, y, z⟩ := h
    obtain ⟨b1, b2, b3, b4⟩ := hB
    rw [x, y, z, db1_t (property_spec hw (by omega) (by omega))]
theorem highP_spec {σ : sT} {A D : Int} {e : enT} (h : HiAt σ e) (hB : endV A D e) {w : Nat} (hw : w ≤ 2) : fSp_highProperty (nI w) σ = some (bres e w) := by
  obtain ⟨hB, hA, hD⟩ := hB
  unfold big at hD
  unfold fSp_highProperty
  cases e with
  | none =>
    have h' : σ.2 15 4 = jI 0 := h
    have : fSp_property (σ.2 15 3) (σ.2 15 4) (σ.1 15 5) (nI w) = some (-1000001 : Int64) := by
      unfold fSp_property; rw [h', if_pos ((cmp_eq0 inJ0).mpr rfl)]
    rw [db1_t this]; rfl
  | some e =>
    obtain ⟨x, y, z⟩ := h
    obtain ⟨b1, b2, b3, b4⟩ := hB
    rw [x, y, z, db1_t (property_spec hw (by omega) (by omega))]
/-! the ends are determined by the values -/
def eqv (a b : enT) : Prop := (a = none ∧ b = none) ∨ ∃ x y, a = some x ∧ b = some y ∧ fr x.1 x.2.1 = fr y.1 y.2.1 ∧ x.2.2 = y.2.2
theorem eqv_bres {a b : enT} (h : eqv a b) (w : Nat) : bres a w = bres b w := by
  rcases h with ⟨rfl, rfl⟩ | ⟨x, y, rfl, rfl, h1, h2⟩
  · rfl
  · unfold bres; dsimp only; rw [h1, h2]
theorem eqv.symm {a b : enT} (h : eqv a b) : eqv b a := by
  rcases h with ⟨rfl, rfl⟩ | ⟨x, y, rfl, rfl, h1, h2⟩
  · exact Or.inl ⟨rfl, rfl⟩
  · exact Or.inr ⟨y, x, rfl, rfl, h1.symm, h2.symm⟩
theorem hi_down {e : enT} {t t0 : Rat} (h : hiS e t0) (ht : t ≤ t0) : hiS e t := by
  cases e with
  | none => trivial
  | some e =>
    obtain ⟨a, b, o⟩ := e
    unfold hiS at *
    dsimp only at *
    cases o <;> simp [okk, relk0, relk1] at * <;> grind
theorem lo_up {e : enT} {t t0 : Rat} (h : loS e t0) (ht : t0 ≤ t) : loS e t := by
  cases e with
  | none => trivial
  | some e =>
    obtain ⟨a, b, o⟩ := e
    unfold loS at *
    dsimp only at *
    cases o <;> simp [okk, relk0, relk1] at * <;> grind
theorem lo_x {x : Int × Int × Bool} {t : Rat} : loS (some x) t ↔ (fr x.1 x.2.1 < t ∨ (fr x.1 x.2.1 = t ∧ x.2.2 = false)) := by
  obtain ⟨a, b, o⟩ := x
  unfold loS
  dsimp only
  cases o <;> simp [okk, relk0, relk1] <;> grind
theorem hi_x {x : Int × Int × Bool} {t : Rat} : hiS (some x) t ↔ (t < fr x.1 x.2.1 ∨ (fr x.1 x.2.1 = t ∧ x.2.2 = false)) := by
  obtain ⟨a, b, o⟩ := x
  unfold hiS
  dsimp only
  cases o <;> simp [okk, relk0, relk1] <;> grind
theorem lo_same {a b : enT} {t0 : Rat} (ha : loS a t0) (hb : loS b t0) (H : ∀ t, t ≤ t0 → (loS a t ↔ loS b t)) : eqv a b := by
  cases a with
  | none =>
    cases b with
    | none => exact Or.inl ⟨rfl, rfl⟩
    | some y =>
      rw [lo_x] at hb
      have := (H (fr y.1 y.2.1 - 1) (by grind)).mp trivial
      rw [lo_x] at this
      grind
  | some x =>
    cases b with
    | none =>
      rw [lo_x] at ha
      have := (H (fr x.1 x.2.1 - 1) (by grind)).mpr trivial
      rw [lo_x] at this
      grind
    | some y =>
      simp only [lo_x] at ha hb H
      refine Or.inr ⟨x, y, rfl, rfl, ?_⟩
      obtain ⟨x1, x2, o⟩ := x
      obtain ⟨y1, y2, q⟩ := y
      dsimp only at *
      generalize fr x1 x2 = u at *
      generalize fr y1 y2 = v at *
      have huv : u = v := by
        apply Decidable.byContradiction
        intro hne
        rcases (show u < v ∨ v < u by grind) with h | h
        · obtain ⟨m1, m2⟩ := mid_lt h
          have := H ((u + v) / 2) (by grind)
          grind
        · obtain ⟨m1, m2⟩ := mid_lt h
          have := H ((v + u) / 2) (by grind)
          grind
      subst huv
      refine ⟨rfl, ?_⟩
      have := H u (by grind)
      cases o <;> cases q <;> simp at this ⊢
theorem hi_same {a b : enT} {t0 : Rat} (ha : hiS a t0) (hb : hiS b t0) (H : ∀ t, t0 ≤ t → (hiS a t ↔ hiS b t)) : eqv a b := by
  cases a with
  | none =>
    cases b with
    | none => exact Or.inl ⟨rfl, rfl⟩
    | some y =>
      rw [hi_x] at hb
      have := (H (fr y.1 y.2.1 + 1) (by grind)).mp trivial
      rw [hi_x] at this
      grind
  | some x =>
    cases b with
    | none =>
      rw [hi_x] at ha
      have := (H (fr x.1 x.2.1 + 1) (by grind)).mpr trivial
      rw [hi_x] at this
      grind
    | some y =>
      simp only [hi_x] at ha hb H
      refine Or.inr ⟨x, y, rfl, rfl, ?_⟩
      obtain ⟨x1, x2, o⟩ := x
      obtain ⟨y1, y2, q⟩ := y
      dsimp only at *
      generalize fr x1 x2 = u at *
      generalize fr y1 y2 = v at *
      have huv : u = v := by
        apply Decidable.byContradiction
        intro hne
        rcases (show u < v ∨ v < u by grind) with h | h
        · obtain ⟨m1, m2⟩ := mid_lt h
          have := H ((u + v) / 2) (by grind)
          grind
        · obtain ⟨m1, m2⟩ := mid_lt h
          have := H ((v + u) / 2) (by grind)
          grind
      subst huv
      refine ⟨rfl, ?_⟩
      have := H u (by grind)
      cases o <;> cases q <;> simp at this ⊢
theorem ends_one {e f : enT × enT} (hne : ∃ t, ivS e t) (H : ∀ t, ivS e t ↔ ivS f t) : eqv e.1 f.1 ∧ eqv e.2 f.2 := by
  obtain ⟨t0, h0⟩ := hne
  have h1 := (H t0).mp h0
  refine ⟨lo_same h0.1 h1.1 (fun t ht => ?_), hi_same h0.2 h1.2 (fun t ht => ?_)⟩
  · exact ⟨fun z => ((H t).mp ⟨z, hi_down h0.2 ht⟩).1, fun z => ((H t).mpr ⟨z, hi_down h1.2 ht⟩).1⟩
  · exact ⟨fun z => ((H t).mp ⟨lo_up h0.1 ht, z⟩).2, fun z => ((H t).mpr ⟨lo_up h1.1 ht, z⟩).2⟩
/-! bound -/
def mBd (a3 a4 : Int32) (σ20 : sT) (x22 x24 : Int64) : Option (Int64 × sT) :=
                if (lg_cmp x24 (0 : Int64)) = 0 then
                  some ((-1000001 : Int64), σ20)
                else
                  db1 (fMM_divisor x22 x24) fun r28 =>
                  dlt (fun (x29 : Int32) =>
                    if a4 = 0 then
                      dck (okE r28) <|
                      some (x22 / r28, σ20)
                    else
                      if a4 = (1 : Int32) then
                        dck (okE r28) <|
                        some (x24 / r28, σ20)
                      else
                        if x29 = 0 then
                          some ((1 : Int64), σ20)
                        else
                          some ((0 : Int64), σ20)) fun J30 =>
                  if a3 = (1 : Int32) then
                    J30 (σ20.1 33 14)
                  else
                    J30 (σ20.1 33 11)
theorem mBd_some {σ : sT} {a3 : Int32} {a b : Int} {o : Bool} {w : Nat} (hw : w ≤ 2) (ha : -9223372036854775808 < a ∧ a < 9223372036854775808) (hb : 0 < b ∧ b < 140737488355328) (ho : (if a3 = (1 : Int32) then σ.1 33 14 else σ.1 33 11) = b01 o) : mBd a3 (nI w) σ (jI a) (jI b) = some (bres (some (a, b, o)) w, σ) := by
  unfold mBd bres
  have hg := gcd_pos' (a := a) hb.1
  rw [if_neg (jI_ne0 hb.1 hb.2), db1_t (divisor_spec ha (by omega)), dlt_u]
  dsimp only
  rw [dck_t (okE_j hg.1 (by omega)), dck_t (okE_j hg.1 (by omega)), jI_div (by unfold inJ; omega) (by unfold inJ; omega), jI_div (by unfold inJ; omega) (by unfold inJ; omega), fr_num hb.1, fr_den hb.1]
  rcases (show w = 0 ∨ w = 1 ∨ w = 2 by omega) with rfl | rfl | rfl
  · rw [if_pos (show nI 0 = 0 from rfl), if_pos (show nI 0 = 0 from rfl)]; simp
  · rw [if_neg (show ¬ nI 1 = 0 by decide), if_neg (show ¬ nI 1 = 0 by decide), if_pos (show nI 1 = 1 from rfl), if_pos (show nI 1 = 1 from rfl)]; simp
  · rw [if_neg (show ¬ nI 2 = 0 by decide), if_neg (show ¬ nI 2 = 0 by decide), if_neg (show ¬ nI 2 = 1 by decide), if_neg (show ¬ nI 2 = 1 by decide)]
    by_cases h3 : a3 = 1
    · rw [if_pos h3] at ho ⊢
      rw [ho]; cases o <;> rfl
    · rw [if_neg h3] at ho ⊢
      rw [ho]; cases o <;> rfl
theorem mBd_none {σ : sT} {a3 a4 : Int32} {x : Int64} : mBd a3 a4 σ x (jI 0) = some ((-1000001 : Int64), σ) := by
  unfold mBd
  rw [if_pos ((cmp_eq0 inJ0).mpr rfl)]
theorem do_bound : op_bound Inv := by
  intro σ τ hI x1 x2 x3 x4
  obtain ⟨n, g, U, T, h⟩ := id hI
  obtain ⟨ok, hC, hM, -⟩ := id h
  obtain ⟨σ1, τ1, e1, e2, e3⟩ := ref_B hI
  have c2 : fRM_isWithin x2 (0 : Int32) (2 : Int32) = some (b01 (wi x2 0 2)) := wiC x2 0 2 rfl rfl (by decide) (by decide)
  have m2 : fMM_in x2.toInt64 (0 : Int64) (2 : Int64) = some (b01 (wi x2 0 2)) := wiM x2 0 2 rfl rfl (by decide) (by decide)
  have c3 : fRM_isWithin x3 (0 : Int32) (1 : Int32) = some (b01 (wi x3 0 1)) := wiC x3 0 1 rfl rfl (by decide) (by decide)
  have m3 : fMM_in x3.toInt64 (0 : Int64) (1 : Int64) = some (b01 (wi x3 0 1)) := wiM x3 0 1 rfl rfl (by decide) (by decide)
  have c4 : fRM_isWithin x4 (0 : Int32) (2 : Int32) = some (b01 (wi x4 0 2)) := wiC x4 0 2 rfl rfl (by decide) (by decide)
  have m4 : fMM_in x4.toInt64 (0 : Int64) (2 : Int64) = some (b01 (wi x4 0 2)) := wiM x4 0 2 rfl rfl (by decide) (by decide)
  unfold fRM_bound fMM_bound
  rw [db1_t (covers_spec ok.1 hC.1 x1), db1_t (isSet_spec ok.1 hM.1 x1), dlt_u, dlt_u]
  dsimp only
  rw [db2_t e1, db2_t e2]
  cases hc : cov x1 n
  · rw [if_pos b0, if_pos b0]
    exact ⟨_, _, _, rfl, rfl, e3⟩
  rw [if_neg b1, if_neg b1, db1_t c2, db1_t m2]
  cases h2 : wi x2 0 2
  · rw [if_pos b0, if_pos b0]
    exact ⟨_, _, _, rfl, rfl, e3⟩
  rw [if_neg b1, if_neg b1, db1_t c3, db1_t m3]
  cases h3 : wi x3 0 1
  · rw [if_pos b0, if_pos b0]
    exact ⟨_, _, _, rfl, rfl, e3⟩
  rw [if_neg b1, if_neg b1, db1_t c4, db1_t m4]
  cases h4 : wi x4 0 2
  · rw [if_pos b0, if_pos b0]
    exact ⟨_, _, _, rfl, rfl, e3⟩
  rw [if_neg b1, if_neg b1]
  obtain ⟨m, hm, rfl⟩ := cov_n hc
  obtain ⟨k, hk, rfl⟩ := wi_n h2
  obtain ⟨u, hu, rfl⟩ := wi_n h3
  obtain ⟨w, hw, rfl⟩ := wi_n h4
  obtain ⟨σ2, b, f1, f2, f3, f4⟩ := measure_spec ok hm hC (k := k) (by omega)
  obtain ⟨τ2, p1, p2, p3⟩ := lset_spec ok hm hM
  obtain ⟨τ3, b', q1, q2, q3, q4, q5⟩ := msolve_spec ok hm p2 (t := k) (by omega)
  have hb : b = b' := Bool.eq_iff_iff.mpr (f3.trans q4.symm)
  subst hb
  rw [db2_t f1, db1_t p1, db1_t q1, q2]
  have om : mOff [37, 38] [5, 7, 8, 9, 10, 11, 12, 13, 14] τ τ3 := (p3.mono (by simp) (by simp)).trans (q3.mono (by simp) (by simp))
  have hI1 : Inv σ2 τ3 := hI.same (sameC.off f2 (by decide)) (sameM.off om (by decide) (by decide))
  cases b
  · rw [if_pos b0, if_pos b0]
    obtain ⟨σ4, τ4, g1, g2, g3⟩ := ref_N hI1
    rw [db2_t g1, db2_t g2]
    exact ⟨_, _, _, rfl, rfl, g3⟩
  · rw [if_neg b1, if_neg b1]
    obtain ⟨e, y1, y2, y3, y4, y5⟩ := f4 rfl
    obtain ⟨f, z1, z2, z3, z4, z5⟩ := q5 rfl
    have hne : ∃ t, ivS e t := by
      obtain ⟨p, hp⟩ := f3.mp rfl
      exact ⟨p k, (y5 _).mpr ⟨p, rfl, hp⟩⟩
    obtain ⟨s1, s2⟩ := ends_one hne (fun t => (y5 t).trans (z5 t).symm)
    have v1 : endV 5000 50000 e.1 := ⟨y3, by omega, by unfold big; omega⟩
    have v2 : endV 5000 50000 e.2 := ⟨y4, by omega, by unfold big; omega⟩
    simp only [dlt_u]
    rcases (show u = 0 ∨ u = 1 by omega) with rfl | rfl
    · have r : mBd (nI 0) (nI w) τ3 (τ3.2 33 9) (τ3.2 33 10) = some (bres e.1 w, τ3) := by
        rw [eqv_bres s1]
        cases hf : f.1 with
        | none => rw [hf] at z1; have z1' : τ3.2 33 10 = jI 0 := z1; rw [z1']; exact mBd_none
        | some x =>
          rw [hf] at z1 z3
          obtain ⟨l1, l2, l3⟩ := z1
          obtain ⟨k1, k2, k3, k4⟩ := z3
          rw [l1, l2]; exact mBd_some (by omega) (by omega) (by omega) (by rw [if_neg (by decide)]; exact l3)
      unfold mBd at r
      simp only [dlt_u] at r
      simp only [if_neg (show ¬ nI 0 = (1 : Int32) by decide)] at r ⊢
      rw [db1_t (lowP_spec y1 v1 (by omega))]
      exact ⟨_, _, _, rfl, r, hI1⟩
    · have r : mBd (nI 1) (nI w) τ3 (τ3.2 33 12) (τ3.2 33 13) = some (bres e.2 w, τ3) := by
        rw [eqv_bres s2]
        cases hf : f.2 with
        | none => rw [hf] at z2; have z2' : τ3.2 33 13 = jI 0 := z2; rw [z2']; exact mBd_none
        | some x =>
          rw [hf] at z2 z4
          obtain ⟨l1, l2, l3⟩ := z2
          obtain ⟨k1, k2, k3, k4⟩ := z4
          rw [l1, l2]; exact mBd_some (by omega) (by omega) (by omega) (by rw [if_pos (show nI 1 = (1 : Int32) from rfl)]; exact l3)
      unfold mBd at r
      simp only [dlt_u] at r
      simp only [if_pos (show nI 1 = (1 : Int32) from rfl)] at r ⊢
      rw [db1_t (highP_spec y2 v2 (by omega))]
      exact ⟨_, _, _, rfl, r, hI1⟩
