/-! Solver.narrow: the values of a variable -/
def tkF (k : Nat) (e : enT × enT) (r : rT) : enT × enT := takU e (rco r k) (rd r) (rk r)
def enB (A D : Int) (e : enT) : Prop := match e with
  | none => True
  | some e => -D ≤ e.1 ∧ e.1 ≤ D ∧ 0 < e.2.1 ∧ e.2.1 ≤ A
theorem enB_ok {A D : Int} {e : enT} (h : enB A D e) (hA : A < 140737488355328) (hD : D ≤ big) : enOk e := by
  cases e with
  | none => trivial
  | some e => obtain ⟨a, b, c, d⟩ := h; unfold big at hD; exact ⟨by unfold inJ; omega, c, by omega⟩
theorem takU_B {A D : Int} {e : enT × enT} (h1 : enB A D e.1) (h2 : enB A D e.2) {f d : Int} {k : Nat} (hf : f ≠ 0) (hfA : -A ≤ f ∧ f ≤ A) (hd : -D ≤ d ∧ d ≤ D) : enB A D (takU e f d k).1 ∧ enB A D (takU e f d k).2 := by
  have hb : 0 < iabs f ∧ iabs f ≤ A := by unfold iabs; split <;> omega
  have hv : -D ≤ (if 0 < f then d else -d) ∧ (if 0 < f then d else -d) ≤ D := by split <;> omega
  obtain ⟨lo, hi⟩ := e
  unfold takU
  dsimp only at h1 h2 ⊢
  generalize (if 0 < f then d else -d) = v at hv ⊢
  generalize iabs f = g at hb ⊢
  have hn : enB A D (some (v, g, decide (k = 0))) := ⟨hv.1, hv.2, hb.1, hb.2⟩
  have hl : enB A D (lowU lo v g (decide (k = 0))) := by
    cases lo with
    | none => exact hn
    | some e =>
      unfold lowU; dsimp only
      by_cases c1 : e.1 * g < v * e.2.1
      · rw [if_pos c1]; exact hn
      · by_cases c2 : v * e.2.1 = e.1 * g
        · rw [if_neg c1, if_pos c2]; exact h1
        · rw [if_neg c1, if_neg c2]; exact h1
  have hh : enB A D (higU hi v g (decide (k = 0))) := by
    cases hi with
    | none => exact hn
    | some e =>
      unfold higU; dsimp only
      by_cases c1 : v * e.2.1 < e.1 * g
      · rw [if_pos c1]; exact hn
      · by_cases c2 : v * e.2.1 = e.1 * g
        · rw [if_neg c1, if_pos c2]; exact h2
        · rw [if_neg c1, if_neg c2]; exact h2
  constructor
  · split
    · exact hl
    · exact h1
  · split
    · exact hh
    · exact h2
theorem tk_fold {A D : Int} (hA : A < 140737488355328) (hD : D ≤ big) {k : Nat} : ∀ (L : List rT) (e : enT × enT), enB A D e.1 → enB A D e.2 → (∀ r ∈ L, rB A D r ∧ rco r k ≠ 0) → enB A D (L.foldl (tkF k) e).1 ∧ enB A D (L.foldl (tkF k) e).2 ∧ ∀ t, ivS (L.foldl (tkF k) e) t ↔ ivS e t ∧ ∀ r ∈ L, relk (rk r) ((rco r k : Rat) * t) (rd r : Rat)
  | [], e, h1, h2, _ => ⟨h1, h2, fun t => by simp⟩
  | r :: L, e, h1, h2, hr => by
    have hr0 := hr r List.mem_cons_self
    have hB := takU_B (k := rk r) h1 h2 hr0.2 (rB_co hr0.1 k) (d := rd r) hr0.1.2.2.2.1
    obtain ⟨a, b, c⟩ := tk_fold hA hD L (tkF k e r) hB.1 hB.2 (fun q hq => hr q (List.mem_cons_of_mem _ hq))
    refine ⟨a, b, fun t => ?_⟩
    rw [List.foldl_cons, c t]
    unfold tkF
    rw [takU_S (k := rk r) (d := rd r) (enB_ok h1 hA hD) (enB_ok h2 hA hD) hr0.2 hr0.1.2.2.2.2 t, List.forall_mem_cons, and_assoc]
theorem rB_rd {A D : Int} {r : rT} (h : rB A D r) (hD : D ≤ big) : inJ (rd r) ∧ inJ (-(rd r)) := by
  obtain ⟨-, -, -, d, -⟩ := h
  unfold big at hD
  unfold rd inJ; omega
theorem nar_loop {A D : Int} (hA : A < 140737488355328) (hD : D ≤ big) {st : stR} {k : Nat} (hk : k < 3) (hlen : st.1.length ≤ 441) (hr : ∀ r ∈ st.1, rB A D r ∧ rco r k ≠ 0) (K : sT → Option (Int32 × sT)) :
    ∀ (n i : Nat) (σ : sT) (e : enT × enT), st.1.length - i < n → i ≤ st.1.length → RowsAt σ 12 13 14 st → LoAt σ e.1 → HiAt σ e.2 → enB A D e.1 → enB A D e.2 →
      ∃ σ1, fSo_narrow_L74 (nI k) K n (nI i) σ = K σ1 ∧ LoAt σ1 ((st.1.drop i).foldl (tkF k) e).1 ∧ HiAt σ1 ((st.1.drop i).foldl (tkF k) e).2 ∧ offC [15] σ σ1 := by
  intro n
  induction n with
  | zero => intro i σ e h; omega
  | succ n ih =>
    intro i σ e hn hi hR hL hH h1 h2
    unfold fSo_narrow_L74
    rw [hR.1]
    by_cases hlt : i < st.1.length
    · obtain ⟨r, hri⟩ := get_lt hlt
      have hr0 := hr r (List.mem_of_getElem? hri)
      have hrow := hR.2.2 i r hri
      rw [if_neg (nI_ge hlt (by omega)), dlt_u, n4, na, show (3 : Int32) = nI 3 from rfl, na, dck_t (okI_n (by omega) (by omega)), dck_t (okI_n (by omega) (by omega)), dck_t (okI_n (by omega) (by omega)), nc (by omega), nc (by omega), nc (by omega), hrow.co hk, hrow.2.2.2.1, hrow.2.2.2.2]
      have hd := rB_rd hr0.1 hD
      obtain ⟨σ1, a1, a2, a3, a4⟩ := take_spec hL hH (enB_ok h1 hA hD) (enB_ok h2 hA hD) hr0.2 (by have := rB_co hr0.1 k; omega) hd.1 hd.2 hr0.1.2.2.2.2
      have a1' : fSp_take (jI (rco r k)) (jI r.2.2.2.1) (nI r.2.2.2.2) σ = some σ1 := a1
      rw [db1_t a1', nI_1]
      have hB := takU_B (k := rk r) h1 h2 hr0.2 (rB_co hr0.1 k) (d := rd r) hr0.1.2.2.2.1
      obtain ⟨σ2, b1, b2, b3, b4⟩ := ih (i + 1) σ1 (tkF k e r) (by omega) (by omega) (hR.of_off a4 (by decide) (by decide) (by decide)) a2 a3 hB.1 hB.2
      rw [drop_cons hri, List.foldl_cons]
      exact ⟨σ2, b1, b2, b3, a4.trans b4⟩
    · have : i = st.1.length := by omega
      subst this
      rw [if_pos (nI_le (Nat.le_refl _) (by omega)), List.drop_length]
      exact ⟨σ, rfl, hL, hH, offC.refl _ _⟩
theorem iv_ex {e : enT × enT} (h1 : enOk e.1) (h2 : enOk e.2) : (∃ t, ivS e t) ↔ ∀ a b, e.1 = some a → e.2 = some b → (a.1 * b.2.1 < b.1 * a.2.1 ∨ (a.1 * b.2.1 = b.1 * a.2.1 ∧ a.2.2 = false ∧ b.2.2 = false)) := by
  obtain ⟨lo, hi⟩ := e
  cases lo with
  | none =>
    cases hi with
    | none => exact ⟨fun _ a b h => by simp at h, fun _ => ⟨0, trivial, trivial⟩⟩
    | some b =>
      refine ⟨fun _ a b h => by simp at h, fun _ => ⟨fr b.1 b.2.1 - 1, trivial, ?_⟩⟩
      unfold hiS okk; dsimp only; split <;> simp only [relk0, relk1] <;> grind
  | some a =>
    cases hi with
    | none =>
      refine ⟨fun _ a b _ h => by simp at h, fun _ => ⟨fr a.1 a.2.1 + 1, ?_, trivial⟩⟩
      unfold loS okk; dsimp only; split <;> simp only [relk0, relk1] <;> grind
    | some b =>
      obtain ⟨x, y, o⟩ := a
      obtain ⟨u, v, q⟩ := b
      obtain ⟨-, hy, -⟩ := h1
      obtain ⟨-, hv, -⟩ := h2
      dsimp only at hy hv
      have l1 := fr_lt (a := x) (c := u) hy hv
      have l2 := fr_eq (a := x) (c := u) hy hv
      constructor
      · rintro ⟨t, ht1, ht2⟩ a b ha hb
        cases ha; cases hb
        unfold loS at ht1; unfold hiS at ht2; dsimp only at ht1 ht2 ⊢
        rw [← l1, ← l2]
        cases o <;> cases q <;> simp [okk, relk0, relk1] at ht1 ht2 ⊢ <;> grind
      · intro h
        have := h _ _ rfl rfl
        dsimp only at this
        rw [← l1, ← l2] at this
        obtain ⟨t, hu, hl⟩ := between_ex [(fr u v, okk q)] [(fr x y, okk o)] (by simp [okk_le]) (by simp [okk_le]) (by
          intro a ha b hb
          rw [List.mem_singleton.mp ha, List.mem_singleton.mp hb]
          dsimp only
          cases o <;> cases q <;> simp [okk, relk0, relk1] at this ⊢ <;> grind)
        exact ⟨t, hl _ (List.mem_singleton.mpr rfl), hu _ (List.mem_singleton.mpr rfl)⟩
theorem empty_spec {σ : sT} {e : enT × enT} (hL : LoAt σ e.1) (hH : HiAt σ e.2) (h1 : enOk e.1) (h2 : enOk e.2) : ∃ b : Bool, fSp_isEmpty σ = some (b01 b) ∧ (b = false ↔ ∃ t, ivS e t) := by
  rw [iv_ex h1 h2]
  obtain ⟨lo, hi⟩ := e
  unfold fSp_isEmpty
  cases lo with
  | none =>
    have h0 : σ.2 15 1 = jI 0 := hL
    rw [h0, if_pos ((cmp_eq0 inJ0).mpr rfl)]
    exact ⟨false, rfl, by simp⟩
  | some a =>
    obtain ⟨x, y, o⟩ := a
    obtain ⟨l0, l1, l2⟩ := hL
    obtain ⟨hx, hy, hy'⟩ := h1
    dsimp only at l0 l1 l2 hx hy hy'
    rw [l1, if_neg (jI_ne0 hy hy')]
    cases hi with
    | none =>
      have h0 : σ.2 15 4 = jI 0 := hH
      rw [h0, if_pos ((cmp_eq0 inJ0).mpr rfl)]
      exact ⟨false, rfl, by simp⟩
    | some b =>
      obtain ⟨u, v, q⟩ := b
      obtain ⟨g0, g1, g2⟩ := hH
      obtain ⟨hu, hv, hv'⟩ := h2
      dsimp only at g0 g1 g2 hu hv hv'
      rw [g1, if_neg (jI_ne0 hv hv'), l0, g0, db1_t (compare_spec hx hu hy hy' hv hv'), l2, g2]
      unfold sg3
      have red : ∀ P : Prop, (∀ a b, (some (x, y, o), some (u, v, q)).1 = some a → (some (x, y, o), some (u, v, q)).2 = some b → (a.1 * b.2.1 < b.1 * a.2.1 ∨ (a.1 * b.2.1 = b.1 * a.2.1 ∧ a.2.2 = false ∧ b.2.2 = false))) ↔ (x * v < u * y ∨ (x * v = u * y ∧ o = false ∧ q = false)) := by
        intro _
        constructor
        · intro h; exact h _ _ rfl rfl
        · intro h a b ha hb; cases ha; cases hb; exact h
      rw [red True]
      by_cases c1 : x * v < u * y
      · rw [if_pos c1, if_neg (by decide), if_neg (by decide)]
        exact ⟨false, rfl, by simp [c1]⟩
      · rw [if_neg c1]
        by_cases c2 : x * v = u * y
        · rw [if_pos c2, if_neg (by decide), if_pos rfl]
          cases o <;> cases q
          · exact ⟨false, rfl, by simp [c2]⟩
          · exact ⟨true, rfl, by simp; omega⟩
          · exact ⟨true, rfl, by simp; omega⟩
          · exact ⟨true, rfl, by simp; omega⟩
        · rw [if_neg c2, if_pos (by decide)]
          exact ⟨true, rfl, by simp; omega⟩
theorem fold_nz (E : List rT) : ∀ (st : stR), (∀ q ∈ st.1, z3 q = false) → ∀ q ∈ (E.foldl keepS st).1, z3 q = false := by
  induction E with
  | nil => intro st h; exact h
  | cons r E ih =>
    intro st h
    refine ih _ (fun q hq => ?_)
    unfold keepS at hq
    by_cases z : z3 r = true
    · rw [if_pos z] at hq; exact h q hq
    · rw [if_neg z] at hq
      rcases List.mem_append.mp hq with hq | hq
      · exact h q hq
      · rw [List.mem_singleton.mp hq]; simpa using z
theorem fold_len (E : List rT) : ∀ (st : stR), (E.foldl keepS st).1.length ≤ st.1.length + E.length := by
  induction E with
  | nil => intro s; simp
  | cons x E ih => intro s; have h1 := ih (keepS s x); have h2 := keep_len s x; simp; omega
theorem b01_if (b : Bool) : (if b = true then (1 : Int32) else 0) = b01 b := rfl
def ke1 (k : Nat) : Nat := if k = 2 then 1 else 2
def ke2 (k : Nat) : Nat := if k = 0 then 1 else 0
/-- the numbers behind one elimination -/
def grow (L : List rT) (k : Nat) (A D A' D' : Int) : Prop := ((∀ r ∈ L, rco r k = 0) ∧ A' = A ∧ D' = D) ∨ (A' = 2 * A * A ∧ D' = 2 * A * D)
set_option maxHeartbeats 4000000 in
theorem narrow_spec {σ : sT} {st : stR} (hR : RowsAt σ 6 7 8 st) (hlen : st.1.length ≤ 13) {A D A1 D1 A2 D2 : Int} (hB : ∀ r ∈ st.1, rB A D r) (hA : 1 ≤ A) (hD : 0 ≤ D) (hAb : A ≤ big) (hDb : D ≤ big) {k : Nat} (hk : k < 3)
    (g1 : grow st.1 (ke1 k) A D A1 D1) (g2 : grow st.1 (ke2 k) A1 D1 A2 D2) (a1b : A1 ≤ big) (d1b : D1 ≤ big) (a2b : A2 < 140737488355328) (d2b : D2 ≤ big) :
    ∃ (σ1 : sT) (b : Bool), fSo_narrow (nI k) σ = some (b01 b, σ1) ∧ offC [9, 10, 11, 12, 13, 14, 15] σ σ1 ∧ (b = true ↔ ∃ p, semR st p) ∧
      (b = true → ∃ e : enT × enT, LoAt σ1 e.1 ∧ HiAt σ1 e.2 ∧ enB A2 D2 e.1 ∧ enB A2 D2 e.2 ∧ ∀ t, ivS e t ↔ ∃ p : pT, p k = t ∧ semR st p) := by
  have hk1 : ke1 k < 3 := by unfold ke1; split <;> omega
  have hk2 : ke2 k < 3 := by unfold ke2; split <;> omega
  have n1 : k ≠ ke1 k := by unfold ke1; split <;> omega
  have n2 : k ≠ ke2 k := by unfold ke2; split <;> omega
  have n12 : ke1 k ≠ ke2 k := by unfold ke1 ke2; split <;> split <;> omega
  have hall : ∀ j, j < 3 → j = k ∨ j = ke1 k ∨ j = ke2 k := by intro j hj; unfold ke1 ke2; split <;> split <;> omega
  have hA1 : 1 ≤ A1 := by
    rcases g1 with ⟨-, rfl, -⟩ | ⟨rfl, -⟩
    · exact hA
    · have := Int.mul_le_mul_of_nonneg_left hA (show 0 ≤ 2 * A by omega); omega
  have hD1 : 0 ≤ D1 := by
    rcases g1 with ⟨-, -, rfl⟩ | ⟨-, rfl⟩
    · exact hD
    · exact Int.mul_nonneg (by omega) hD
  -- reset
  have hre : fSp_reset σ = some (sjW (sjW σ 15 1 0) 15 4 0) := rfl
  unfold fSo_narrow
  rw [db1_t hre, dlt_u]
  obtain ⟨σ0, e0⟩ : ∃ z, z = sjW (sjW σ 15 1 0) 15 4 0 := ⟨_, rfl⟩
  rw [← e0]
  have o0 : offC [15] σ σ0 := by rw [e0]; exact (offC_sj (by simp)).trans (offC_sj (by simp))
  have hL0 : LoAt σ0 none := by show σ0.2 15 1 = jI 0; rw [e0, sjW_s, if_neg (by decide), sjW_s, if_pos rfl]; rfl
  have hH0 : HiAt σ0 none := by show σ0.2 15 4 = jI 0; rw [e0, sjW_s, if_pos rfl]; rfl
  have hR0 := hR.of_off o0 (by decide) (by decide) (by decide)
  -- first elimination
  obtain ⟨σ6, E1, f1, f2, f3, f4, f5, f6, f7, f8⟩ := elim_spec (N4 := 52) (N := 13) (M4 := 168) (M := 42) (o' := 9) (c' := 10) (kd' := 11) rfl (by omega) rfl (by omega) (by decide) (by decide) hR0 hlen (by omega) (by decide) hB hA hD hAb hDb hk1 (by
    rcases g1 with ⟨h, -, -⟩ | ⟨h, h'⟩
    · exact Or.inl h
    · rw [h] at a1b; rw [h'] at d1b; exact Or.inr ⟨a1b, d1b⟩)
  obtain ⟨st1, hst1⟩ : ∃ z, z = E1.foldl keepS ([], st.2) := ⟨_, rfl⟩
  rw [← hst1] at f2
  have hJ : (if (nI k) = (2 : Int32) then (1 : Int32) else (2 : Int32)) = nI (ke1 k) := by
    rcases (show k = 0 ∨ k = 1 ∨ k = 2 by omega) with rfl | rfl | rfl <;> decide
  have B1 : ∀ r ∈ E1, rB A1 D1 r := by
    intro r hr
    rcases g1 with ⟨h, rfl, rfl⟩ | ⟨rfl, rfl⟩
    · exact f8 h r hr
    · exact f7 r hr
  have m1 : ∀ r ∈ st1.1, r ∈ E1 := by
    intro r hr; rw [hst1] at hr
    rcases fold_mem E1 _ hr with h | h
    · simp at h
    · exact h
  have s1 : ∀ p, semR st1 p ↔ ∃ t, semR st (updp p (ke1 k) t) := by
    intro p
    rw [hst1, sem_fold]
    unfold semR
    rw [f5 p]
    constructor
    · rintro ⟨⟨a, -⟩, t, ht⟩; exact ⟨t, a, ht⟩
    · rintro ⟨t, a, ht⟩; exact ⟨⟨a, by simp⟩, t, ht⟩
  have len1 : st1.1.length ≤ 42 := by
    have := fold_len E1 ([], st.2)
    rw [← hst1] at this
    have : cap 13 = 42 := by decide
    simp at *; omega
  have o06 : offC [9, 10, 11, 12, 13, 14, 15] σ σ6 := (o0.mono (by simp)).trans (f3.mono (by simp))
  have S1 : ∀ x3 : Int32, x3 = nI (ke1 k) → ∃ (σ1 : sT) (b : Bool), (db1 (fRw_eliminate 6 7 8 52 13 9 10 11 168 42 x3 σ0) fun σ6 =>
    if (σ6.1 9 3) = 0 then
      dlt (fun (x8 : Int32) =>
        db1 (fRw_eliminate 9 10 11 168 42 12 13 14 1764 441 x8 σ6) fun σ11 =>
        if (σ11.1 12 3) = 0 then
          dlt (fun (σ15 : sT) =>
            db1 (fSp_isEmpty σ15) fun r18 =>
            if r18 = 0 then
              some ((1 : Int32), σ15)
            else
              some ((0 : Int32), σ15)) fun K16 =>
          fSo_narrow_L74 (nI k) K16 FU (0 : Int32) σ11
        else
          some ((0 : Int32), σ11)) fun J9 =>
      if (nI k) = 0 then
        J9 (1 : Int32)
      else
        J9 (0 : Int32)
    else
      some ((0 : Int32), σ6)) = some (b01 b, σ1) ∧ offC [9, 10, 11, 12, 13, 14, 15] σ σ1 ∧ (b = true ↔ ∃ p, semR st p) ∧
      (b = true → ∃ e : enT × enT, LoAt σ1 e.1 ∧ HiAt σ1 e.2 ∧ enB A2 D2 e.1 ∧ enB A2 D2 e.2 ∧ ∀ t, ivS e t ↔ ∃ p : pT, p k = t ∧ semR st p) := by
    intro x3 hx3
    rw [hx3, db1_t f1, f2.2.1, b01_if]
    cases hbr : st1.2 with
    | true =>
      rw [if_neg (by decide)]
      refine ⟨σ6, false, rfl, o06, ?_, by simp⟩
      simp only [Bool.false_eq_true, false_iff]
      rintro ⟨p, hp⟩
      have := (s1 p).mpr ⟨p (ke1 k), by rw [updp_self]; exact hp⟩
      rw [this.1] at hbr
      cases hbr
    | false =>
      rw [if_pos (by decide), dlt_u]
      -- second elimination
      have z2 : (∀ r ∈ st.1, rco r (ke2 k) = 0) → ∀ r ∈ st1.1, rco r (ke2 k) = 0 := fun h r hr => (f6 r (m1 r hr)).2 _ h
      obtain ⟨σ11, E2, q1, q2, q3, q4, q5, q6, q7, q8⟩ := elim_spec (N4 := 168) (N := 42) (M4 := 1764) (M := 441) (o' := 12) (c' := 13) (kd' := 14) rfl (by omega) rfl (by omega) (by decide) (by decide) f2 len1 (by omega) (by decide) (fun r hr => B1 r (m1 r hr)) hA1 hD1 a1b d1b hk2 (by
        rcases g2 with ⟨h, -, -⟩ | ⟨h, h'⟩
        · exact Or.inl (z2 h)
        · rw [h'] at d2b; refine Or.inr ⟨?_, d2b⟩; rw [← h]; unfold big; omega)
      obtain ⟨st2, hst2⟩ : ∃ z, z = E2.foldl keepS ([], st1.2) := ⟨_, rfl⟩
      rw [← hst2] at q2
      have B2 : ∀ r ∈ E2, rB A2 D2 r := by
        intro r hr
        rcases g2 with ⟨h, rfl, rfl⟩ | ⟨rfl, rfl⟩
        · exact q8 (z2 h) r hr
        · exact q7 r hr
      have m2 : ∀ r ∈ st2.1, r ∈ E2 := by
        intro r hr; rw [hst2] at hr
        rcases fold_mem E2 _ hr with h | h
        · simp at h
        · exact h
      have s2 : ∀ p, semR st2 p ↔ ∃ t, semR st1 (updp p (ke2 k) t) := by
        intro p
        rw [hst2, sem_fold]
        unfold semR
        rw [q5 p]
        constructor
        · rintro ⟨⟨a, -⟩, t, ht⟩; exact ⟨t, a, ht⟩
        · rintro ⟨t, a, ht⟩; exact ⟨⟨a, by simp⟩, t, ht⟩
      have len2 : st2.1.length ≤ 441 := by
        have := fold_len E2 ([], st1.2)
        rw [← hst2] at this
        have : cap 42 = 441 := by decide
        simp at *; omega
      have o11 : offC [9, 10, 11, 12, 13, 14, 15] σ σ11 := o06.trans (q3.mono (by simp))
      have nz2 : ∀ r ∈ st2.1, rco r k ≠ 0 := by
        intro r hr h
        have hz : z3 r = false := by rw [hst2] at hr; exact fold_nz E2 _ (by simp) r hr
        have c1 : rco r (ke2 k) = 0 := (q6 r (m2 r hr)).1
        have c2 : rco r (ke1 k) = 0 := (q6 r (m2 r hr)).2 _ (fun q hq => (f6 q (m1 q hq)).1)
        have : z3 r = true := by
          rw [z3_iff]
          have a0 : rco r 0 = 0 := by rcases hall 0 (by omega) with h' | h' | h' <;> rw [h'] <;> assumption
          have a1 : rco r 1 = 0 := by rcases hall 1 (by omega) with h' | h' | h' <;> rw [h'] <;> assumption
          have a2 : rco r 2 = 0 := by rcases hall 2 (by omega) with h' | h' | h' <;> rw [h'] <;> assumption
          exact ⟨a0, a1, a2⟩
        rw [this] at hz; cases hz
      have lin2 : ∀ r ∈ st2.1, ∀ p : pT, lin r p = (rco r k : Rat) * p k := by
        intro r hr p
        have c1 : rco r (ke2 k) = 0 := (q6 r (m2 r hr)).1
        have c2 : rco r (ke1 k) = 0 := (q6 r (m2 r hr)).2 _ (fun q hq => (f6 q (m1 q hq)).1)
        have key : ∀ j, j < 3 → j ≠ k → rco r j = 0 := by
          intro j hj hn
          rcases hall j hj with h' | h' | h'
          · exact absurd h' hn
          · rw [h']; exact c2
          · rw [h']; exact c1
        unfold lin
        rcases (show k = 0 ∨ k = 1 ∨ k = 2 by omega) with rfl | rfl | rfl
        · have x1 := key 1 (by omega) (by omega); have x2 := key 2 (by omega) (by omega)
          simp only [rco] at x1 x2 ⊢; simp at x1 x2 ⊢; rw [x1, x2]; grind
        · have x1 := key 0 (by omega) (by omega); have x2 := key 2 (by omega) (by omega)
          simp only [rco] at x1 x2 ⊢; simp at x1 x2 ⊢; rw [x1, x2]; grind
        · have x1 := key 0 (by omega) (by omega); have x2 := key 1 (by omega) (by omega)
          simp only [rco] at x1 x2 ⊢; simp at x1 x2 ⊢; rw [x1, x2]; grind
      have proj : ∀ t, (∃ p : pT, p k = t ∧ semR st p) ↔ ∃ p : pT, p k = t ∧ semR st2 p := by
        intro t
        constructor
        · rintro ⟨p, hp, hs⟩
          refine ⟨p, hp, (s2 p).mpr ⟨p (ke2 k), ?_⟩⟩
          rw [updp_self]
          exact (s1 p).mpr ⟨p (ke1 k), by rw [updp_self]; exact hs⟩
        · rintro ⟨p, hp, hs⟩
          obtain ⟨t2, h2⟩ := (s2 p).mp hs
          obtain ⟨t1, h1⟩ := (s1 _).mp h2
          refine ⟨_, ?_, h1⟩
          unfold updp; rw [if_neg n1, if_neg n2]; exact hp
      have S2 : ∀ x8 : Int32, x8 = nI (ke2 k) → ∃ (σ1 : sT) (b : Bool), (db1 (fRw_eliminate 9 10 11 168 42 12 13 14 1764 441 x8 σ6) fun σ11 =>
        if (σ11.1 12 3) = 0 then
          dlt (fun (σ15 : sT) =>
            db1 (fSp_isEmpty σ15) fun r18 =>
            if r18 = 0 then
              some ((1 : Int32), σ15)
            else
              some ((0 : Int32), σ15)) fun K16 =>
          fSo_narrow_L74 (nI k) K16 FU (0 : Int32) σ11
        else
          some ((0 : Int32), σ11)) = some (b01 b, σ1) ∧ offC [9, 10, 11, 12, 13, 14, 15] σ σ1 ∧ (b = true ↔ ∃ p, semR st p) ∧
      (b = true → ∃ e : enT × enT, LoAt σ1 e.1 ∧ HiAt σ1 e.2 ∧ enB A2 D2 e.1 ∧ enB A2 D2 e.2 ∧ ∀ t, ivS e t ↔ ∃ p : pT, p k = t ∧ semR st p) := by
        intro x8 hx8
        rw [hx8, db1_t q1, q2.2.1, b01_if]
        cases hbr2 : st2.2 with
        | true =>
          rw [if_neg (by decide)]
          refine ⟨σ11, false, rfl, o11, ?_, by simp⟩
          simp only [Bool.false_eq_true, false_iff]
          rintro ⟨p, hp⟩
          obtain ⟨p', -, hp'⟩ := (proj (p k)).mp ⟨p, rfl, hp⟩
          rw [hp'.1] at hbr2
          cases hbr2
        | false =>
          rw [if_pos (by decide), dlt_u]
          have hL11 : LoAt σ11 none := hL0.of (by rw [(q3 15 (by decide)).2, (f3 15 (by decide)).2]) (by rw [(q3 15 (by decide)).2, (f3 15 (by decide)).2]) (by rw [(q3 15 (by decide)).1, (f3 15 (by decide)).1])
          have hH11 : HiAt σ11 none := hH0.of (by rw [(q3 15 (by decide)).2, (f3 15 (by decide)).2]) (by rw [(q3 15 (by decide)).2, (f3 15 (by decide)).2]) (by rw [(q3 15 (by decide)).1, (f3 15 (by decide)).1])
          have hr2 : ∀ r ∈ st2.1, rB A2 D2 r ∧ rco r k ≠ 0 := fun r hr => ⟨B2 r (m2 r hr), nz2 r hr⟩
          obtain ⟨σ15, w1, w2, w3, w4⟩ := nar_loop a2b d2b hk len2 hr2 (fun (σ15 : sT) =>
            db1 (fSp_isEmpty σ15) fun r18 =>
            if r18 = 0 then
              some ((1 : Int32), σ15)
            else
              some ((0 : Int32), σ15)) FU 0 σ11 (none, none) (by unfold FU; omega) (by omega) q2 hL11 hH11 trivial trivial
          rw [List.drop_zero] at w2 w3
          obtain ⟨t1, t2, t3⟩ := tk_fold a2b d2b st2.1 (none, none) trivial trivial hr2
          obtain ⟨b, v1, v2⟩ := empty_spec w2 w3 (enB_ok t1 a2b d2b) (enB_ok t2 a2b d2b)
          have ivp : ∀ t, ivS (st2.1.foldl (tkF k) (none, none)) t ↔ ∃ p : pT, p k = t ∧ semR st p := by
            intro t
            rw [t3 t, proj t]
            constructor
            · rintro ⟨-, h⟩
              refine ⟨fun _ => t, rfl, hbr2, fun r hr => ?_⟩
              unfold hol; rw [lin2 r hr]; exact h r hr
            · rintro ⟨p, hp, hs⟩
              refine ⟨⟨trivial, trivial⟩, fun r hr => ?_⟩
              have := hs.2 r hr
              unfold hol at this
              rw [lin2 r hr, hp] at this
              exact this
          rw [show nI 0 = (0 : Int32) from rfl] at w1
          rw [w1]
          rw [db1_t v1]
          refine ⟨σ15, !b, ?_, o11.trans (w4.mono (by simp)), ?_, fun _ => ⟨_, w2, w3, t1, t2, ivp⟩⟩
          · cases b
            · rw [if_pos (by decide)]; rfl
            · rw [if_neg (by decide)]; rfl
          · rw [show ((!b) = true) ↔ b = false by cases b <;> simp, v2]
            constructor
            · rintro ⟨t, ht⟩; obtain ⟨p, -, hp⟩ := (ivp t).mp ht; exact ⟨p, hp⟩
            · rintro ⟨p, hp⟩; exact ⟨p k, (ivp _).mpr ⟨p, rfl, hp⟩⟩
      have hJ2 : ke2 k = if k = 0 then 1 else 0 := rfl
      by_cases k0 : k = 0
      · rw [if_pos ((nI_eq0 (by omega)).mpr k0)]
        exact S2 _ (by rw [hJ2, if_pos k0]; rfl)
      · rw [if_neg (fun z => k0 ((nI_eq0 (by omega)).mp z))]
        exact S2 _ (by rw [hJ2, if_neg k0]; rfl)
  by_cases k2 : k = 2
  · rw [if_pos ((nI_eq2 (by omega)).mpr k2)]
    exact S1 _ (by unfold ke1; rw [if_pos k2]; rfl)
  · rw [if_neg (fun z => k2 ((nI_eq2 (by omega)).mp z))]
    exact S1 _ (by unfold ke1; rw [if_neg k2]; rfl)
