/-! the canonical solution, and the class's solve -/
def sbs (k : Nat) (X : Nat → Rat) (t : pT) : pT := fun j => if j < k then X j else t j
def QP (g : gT) (m k : Nat) (X : Nat → Rat) (t : pT) : Prop := ∀ j, m.testBit j = true → hol (sbs k X t) (rowOf g j)
def cn (g : gT) (m : Nat) (X : Nat → Rat) (k : Nat) : Prop := ∃ e : enT × enT, (∃ t, ivS e t) ∧ (∀ t, ivS e t ↔ ∃ p : pT, p k = t ∧ QP g m k X p) ∧ X k = cv (vw e.1) (vw e.2)
theorem cn_one {g : gT} {m k : Nat} {X : Nat → Rat} (h : cn g m X k) {f : enT × enT} (hf : ∀ t, ivS f t ↔ ∃ p : pT, p k = t ∧ QP g m k X p) : X k = cv (vw f.1) (vw f.2) := by
  obtain ⟨e, h1, h2, h3⟩ := h
  obtain ⟨s1, s2⟩ := ends_one h1 (fun t => (h2 t).trans (hf t).symm)
  rw [h3, eqv_vw s1, eqv_vw s2]
theorem num_den (u : Rat) : (u.num : Rat) = u * ((u.den : Int) : Rat) := by
  have h : ((u.den : Int) : Rat) ≠ 0 := by
    have := den_pos' u
    exact Rat.ne_of_gt (cast_pos this)
  have e : (u.num : Rat) / ((u.den : Int) : Rat) = u := fr_self u
  have k := Rat.div_mul_cancel (a := (u.num : Rat)) h
  rw [e] at k
  exact k.symm
def nmX (X : Nat → Rat) : Nat → Int := fun u => (X u).num
def dnX (X : Nat → Rat) : Nat → Int := fun u => ((X u).den : Int)
theorem hol_vrw {X : Nat → Rat} {k : Nat} (hk : k ≤ 2) (r : rT) (t : pT) : hol t (vrw (nmX X) (dnX X) k r) ↔ hol (sbs k X t) r := by
  have n0 := num_den (X 0)
  have n1 := num_den (X 1)
  have p0 := cast_pos (den_pos' (X 0))
  have p1 := cast_pos (den_pos' (X 1))
  obtain ⟨a, b, c, d, kd⟩ := r
  unfold hol
  rw [relk_sub, relk_sub (x := lin _ (sbs k X t))]
  rcases (show k = 0 ∨ k = 1 ∨ k = 2 by omega) with rfl | rfl | rfl
  · have : sbs 0 X t = t := by funext j; unfold sbs; rw [if_neg (by omega)]
    rw [this]; exact Iff.rfl
  · have e : ((rd (vrw (nmX X) (dnX X) 1 (a, b, c, d, kd)) : Int) : Rat) - lin (vrw (nmX X) (dnX X) 1 (a, b, c, d, kd)) t = (((X 0).den : Int) : Rat) * ((rd (a, b, c, d, kd) : Rat) - lin (a, b, c, d, kd) (sbs 1 X t)) := by
      have s0 : sbs 1 X t 0 = X 0 := rfl
      have s1 : sbs 1 X t 1 = t 1 := rfl
      have s2 : sbs 1 X t 2 = t 2 := rfl
      simp only [vrw, rd, lin, nmX, dnX, if_neg (show ¬ (1 : Nat) = 0 by omega), if_pos trivial, Rat.intCast_sub, Rat.intCast_mul, s0, s1, s2, n0]
      grind
    rw [e, relk_scale p0]; exact Iff.rfl
  · have e : ((rd (vrw (nmX X) (dnX X) 2 (a, b, c, d, kd)) : Int) : Rat) - lin (vrw (nmX X) (dnX X) 2 (a, b, c, d, kd)) t = (((X 0).den : Int) : Rat) * ((((X 1).den : Int) : Rat) * ((rd (a, b, c, d, kd) : Rat) - lin (a, b, c, d, kd) (sbs 2 X t))) := by
      have s0 : sbs 2 X t 0 = X 0 := rfl
      have s1 : sbs 2 X t 1 = X 1 := rfl
      have s2 : sbs 2 X t 2 = t 2 := rfl
      simp only [vrw, rd, lin, nmX, dnX, if_neg (show ¬ (2 : Nat) = 0 by omega), if_neg (show ¬ (2 : Nat) = 1 by omega), Rat.intCast_sub, Rat.intCast_mul, s0, s1, s2, n0, n1]
      grind
    rw [e, relk_scale p0, relk_scale p1]; exact Iff.rfl
/-- how large the chosen values get -/
def XB (X : Nat → Rat) : Prop := ((-100000 ≤ (X 0).num ∧ (X 0).num ≤ 100000) ∧ ((X 0).den : Int) ≤ 10000) ∧ ((-20000000 ≤ (X 1).num ∧ (X 1).num ≤ 20000000) ∧ ((X 1).den : Int) ≤ 1000000)
theorem vrw_B {n i : Nat} {g : gT} (ok : BkOk n g) (hi : i < n) {X : Nat → Rat} (hX : XB X) : rB 5 50 (vrw (nmX X) (dnX X) 0 (rowOf g i)) ∧ rB 50000 1000000 (vrw (nmX X) (dnX X) 1 (rowOf g i)) ∧ rB 50000000000 2000000000000 (vrw (nmX X) (dnX X) 2 (rowOf g i)) := by
  obtain ⟨⟨x1, x2⟩, y1, y2⟩ := hX
  have d0 := den_pos' (X 0)
  have d1 := den_pos' (X 1)
  obtain ⟨c, kd, dd, -⟩ := ok.2 i hi
  have c0 := c 0 (by omega)
  have c1 := c 1 (by omega)
  have c2 := c 2 (by omega)
  have hk : (g i 3).toNat ≤ 2 := by omega
  refine ⟨rowOf_B ok hi, ?_, ?_⟩
  · have m1 := mulB c1 (show -10000 ≤ dnX X 0 ∧ dnX X 0 ≤ 10000 by unfold dnX; omega)
    have m2 := mulB c2 (show -10000 ≤ dnX X 0 ∧ dnX X 0 ≤ 10000 by unfold dnX; omega)
    have m3 := mulB dd (show -10000 ≤ dnX X 0 ∧ dnX X 0 ≤ 10000 by unfold dnX; omega)
    have m4 := mulB c0 (show -100000 ≤ nmX X 0 ∧ nmX X 0 ≤ 100000 by unfold nmX; omega)
    unfold rB vrw rowOf
    simp only [if_neg (show ¬ (1 : Nat) = 0 by omega), if_pos trivial]
    omega
  · have m1 := mulB c1 (show -10000 ≤ dnX X 0 ∧ dnX X 0 ≤ 10000 by unfold dnX; omega)
    have m2 := mulB c2 (show -10000 ≤ dnX X 0 ∧ dnX X 0 ≤ 10000 by unfold dnX; omega)
    have m3 := mulB dd (show -10000 ≤ dnX X 0 ∧ dnX X 0 ≤ 10000 by unfold dnX; omega)
    have m4 := mulB c0 (show -100000 ≤ nmX X 0 ∧ nmX X 0 ≤ 100000 by unfold nmX; omega)
    have e1 := mulB (show -50000 ≤ g i 2 * dnX X 0 ∧ g i 2 * dnX X 0 ≤ 50000 by omega) (show -1000000 ≤ dnX X 1 ∧ dnX X 1 ≤ 1000000 by unfold dnX; omega)
    have e2 := mulB (show -1000000 ≤ g i 4 * dnX X 0 - g i 0 * nmX X 0 ∧ g i 4 * dnX X 0 - g i 0 * nmX X 0 ≤ 1000000 by omega) (show -1000000 ≤ dnX X 1 ∧ dnX X 1 ≤ 1000000 by unfold dnX; omega)
    have e3 := mulB (show -50000 ≤ g i 1 * dnX X 0 ∧ g i 1 * dnX X 0 ≤ 50000 by omega) (show -20000000 ≤ nmX X 1 ∧ nmX X 1 ≤ 20000000 by unfold nmX; omega)
    unfold rB vrw rowOf
    simp only [if_neg (show ¬ (2 : Nat) = 0 by omega), if_neg (show ¬ (2 : Nat) = 1 by omega)]
    omega
theorem stage_N {n m k : Nat} {g : gT} (ok : BkOk n g) (hm : m < 2 ^ n) (hk : k < 3) {X : Nat → Rat} {A D A1 D1 A2 D2 : Int} (hb : ∀ i, i < n → rB A D (vrw (nmX X) (dnX X) k (rowOf g i))) (hA : 1 ≤ A) (hD : 0 ≤ D) (hAb : A ≤ big) (hDb : D ≤ big)
    (g1 : grow ((setF g m 12 0).map (vrw (nmX X) (dnX X) k)) (ke1 k) A D A1 D1) (g2 : grow ((setF g m 12 0).map (vrw (nmX X) (dnX X) k)) (ke2 k) A1 D1 A2 D2) (a1b : A1 ≤ big) (d1b : D1 ≤ big) (a2b : A2 < 70368744177664) (d2b : D2 < 1000000000000000000)
    (hc : cn g m X k) {σ : sT} (hB : BkC σ n g) (hv : ∀ u, u < k → σ.2 18 u = jI (nmX X u) ∧ σ.2 19 u = jI (dnX X u)) :
    ∃ (σ1 : sT) (r : Int32) (σ2 σ3 : sT), fSo_loadWithValues (nI m) (nI k) σ = some σ1 ∧ fSo_narrow (nI k) σ1 = some (r, σ2) ∧ fSp_pick σ2 = some σ3 ∧ σ3.2 15 6 = jI (nmX X k) ∧ σ3.2 15 7 = jI (dnX X k) ∧ offC [6, 7, 8, 9, 10, 11, 12, 13, 14, 15, 17] σ σ3 := by
  obtain ⟨σ1, e1, e2, e3⟩ := lwv_spec ok hm (show k ≤ 2 by omega) hAb hDb hb hB hv
  have hl := fold_len ((setF g m 12 0).map (vrw (nmX X) (dnX X) k)) ([], false)
  have hl2 := setF_len (g := g) (m := m) 12 0
  rw [List.length_map] at hl
  have hin : ∀ r ∈ (((setF g m 12 0).map (vrw (nmX X) (dnX X) k)).foldl keepS ([], false)).1, r ∈ (setF g m 12 0).map (vrw (nmX X) (dnX X) k) := by
    intro r hr
    rcases fold_mem _ _ hr with h | h
    · simp at h
    · exact h
  have gw : ∀ (L L' : List rT) (j : Nat) (a b a' b' : Int), (∀ r ∈ L', r ∈ L) → grow L j a b a' b' → grow L' j a b a' b' := by
    intro L L' j a b a' b' h hg
    rcases hg with ⟨z, h1, h2⟩ | hg
    · exact Or.inl ⟨fun r hr => z r (h r hr), h1, h2⟩
    · exact Or.inr hg
  obtain ⟨σ2, b, f1, f2, f3, f4⟩ := narrow_spec e2 (by simp at hl; omega) (A := A) (D := D) (A1 := A1) (D1 := D1) (A2 := A2) (D2 := D2) (by
    intro r hr
    obtain ⟨q, hq, rfl⟩ := List.mem_map.mp (hin r hr)
    obtain ⟨j, -, -, hj, rfl⟩ := (setF_mem 12 0).mp hq
    exact hb j (bit_lt hm hj)) hA hD hAb hDb hk (gw _ _ _ _ _ _ _ hin g1) (gw _ _ _ _ _ _ _ hin g2) a1b d1b (by omega) (by unfold big; omega)
  have hsem : ∀ p, semR (((setF g m 12 0).map (vrw (nmX X) (dnX X) k)).foldl keepS ([], false)) p ↔ QP g m k X p := by
    intro p
    rw [sem_fold]
    unfold semR QP
    constructor
    · rintro ⟨-, h⟩ j hj
      have := h _ (List.mem_map.mpr ⟨rowOf g j, (setF_mem 12 0).mpr ⟨j, by omega, by have := bit_lt hm hj; have := ok.1; omega, hj, rfl⟩, rfl⟩)
      exact (hol_vrw (by omega) _ _).mp this
    · intro h
      refine ⟨⟨rfl, by simp⟩, fun r hr => ?_⟩
      obtain ⟨q, hq, rfl⟩ := List.mem_map.mp hr
      obtain ⟨j, -, -, hj, rfl⟩ := (setF_mem 12 0).mp hq
      exact (hol_vrw (by omega) _ _).mpr (h j hj)
  have hne : ∃ p, QP g m k X p := by
    obtain ⟨e, ⟨t, h1⟩, h2, -⟩ := hc
    obtain ⟨p, -, hp⟩ := (h2 t).mp h1
    exact ⟨p, hp⟩
  have hbt : b = true := by
    rw [f3]
    obtain ⟨p, hp⟩ := hne
    exact ⟨p, (hsem p).mpr hp⟩
  obtain ⟨e, y1, y2, y3, y4, y5⟩ := f4 hbt
  have y6 : ∀ t, ivS e t ↔ ∃ p : pT, p k = t ∧ QP g m k X p := fun t => (y5 t).trans (exists_congr (fun p => and_congr Iff.rfl (hsem p)))
  have hv2 := cn_one hc y6
  obtain ⟨σ3, p1, p2, p3, p4⟩ := pick_spec y1 y2 y3 y4 a2b d2b (by
    obtain ⟨p, hp⟩ := hne
    exact ⟨p k, (y6 _).mpr ⟨p, rfl, hp⟩⟩)
  rw [← hv2] at p2 p3
  exact ⟨σ1, _, σ2, σ3, e1, f1, p1, p2, p3, ((e3.mono (by simp)).trans (f2.mono (by simp))).trans (p4.mono (by simp))⟩
theorem stage_C {n m k : Nat} {g : gT} (ok : BkOk n g) (hm : m < 2 ^ n) (hk : k < 3) {X : Nat → Rat} (hX : XB X) (hc : cn g m X k) {σ : sT} (hB : BkC σ n g) (hv : ∀ u, u < k → σ.2 18 u = jI (nmX X u) ∧ σ.2 19 u = jI (dnX X u)) :
    ∃ (σ1 : sT) (r : Int32) (σ2 σ3 : sT), fSo_loadWithValues (nI m) (nI k) σ = some σ1 ∧ fSo_narrow (nI k) σ1 = some (r, σ2) ∧ fSp_pick σ2 = some σ3 ∧ σ3.2 15 6 = jI (nmX X k) ∧ σ3.2 15 7 = jI (dnX X k) ∧ offC [6, 7, 8, 9, 10, 11, 12, 13, 14, 15, 17] σ σ3 := by
  have z : ∀ (kn j : Nat), j < kn → kn ≤ 2 → ∀ r ∈ (setF g m 12 0).map (vrw (nmX X) (dnX X) kn), rco r j = 0 := by
    intro kn j hj hkn r hr
    obtain ⟨q, hq, rfl⟩ := List.mem_map.mp hr
    rcases (show (kn = 1 ∧ j = 0) ∨ (kn = 2 ∧ j = 0) ∨ (kn = 2 ∧ j = 1) by omega) with ⟨rfl, rfl⟩ | ⟨rfl, rfl⟩ | ⟨rfl, rfl⟩ <;> simp [vrw, rco]
  rcases (show k = 0 ∨ k = 1 ∨ k = 2 by omega) with rfl | rfl | rfl
  · exact stage_N ok hm hk (A := 5) (D := 50) (A1 := 50) (D1 := 500) (A2 := 5000) (D2 := 50000) (fun i hi => (vrw_B ok hi hX).1) (by omega) (by omega) (by unfold big; omega) (by unfold big; omega) (Or.inr ⟨rfl, rfl⟩) (Or.inr ⟨rfl, rfl⟩) (by unfold big; omega) (by unfold big; omega) (by omega) (by omega) hc hB hv
  · exact stage_N ok hm hk (A := 50000) (D := 1000000) (A1 := 5000000000) (D1 := 100000000000) (A2 := 5000000000) (D2 := 100000000000) (fun i hi => (vrw_B ok hi hX).2.1) (by omega) (by omega) (by unfold big; omega) (by unfold big; omega) (Or.inr ⟨rfl, rfl⟩) (Or.inl ⟨z 1 (ke2 1) (by decide) (by omega), rfl, rfl⟩) (by unfold big; omega) (by unfold big; omega) (by omega) (by omega) hc hB hv
  · exact stage_N ok hm hk (A := 50000000000) (D := 2000000000000) (A1 := 50000000000) (D1 := 2000000000000) (A2 := 50000000000) (D2 := 2000000000000) (fun i hi => (vrw_B ok hi hX).2.2) (by omega) (by omega) (by unfold big; omega) (by unfold big; omega) (Or.inl ⟨z 2 (ke1 2) (by decide) (by omega), rfl, rfl⟩) (Or.inl ⟨z 2 (ke2 2) (by decide) (by omega), rfl, rfl⟩) (by unfold big; omega) (by unfold big; omega) (by omega) (by omega) hc hB hv
theorem solve_loop {n m last : Nat} {g : gT} (ok : BkOk n g) (hm : m < 2 ^ n) (hl : last ≤ 2) {X : Nat → Rat} (hX : XB X) (hc : ∀ k, k < 3 → cn g m X k) : ∀ (c k f : Nat) (σ : sT), k + c = last + 1 → c < f → BkC σ n g → (∀ u, u < k → σ.2 18 u = jI (nmX X u) ∧ σ.2 19 u = jI (dnX X u)) →
    ∃ σ1, fSo_solve_L2 (nI m) (nI last) f (nI k) σ = some σ1 ∧ (∀ u, u ≤ last → σ1.2 18 u = jI (nmX X u) ∧ σ1.2 19 u = jI (dnX X u)) ∧ offC [6, 7, 8, 9, 10, 11, 12, 13, 14, 15, 17, 18, 19] σ σ1 := by
  intro c
  induction c with
  | zero =>
    intro k f σ h1 h2 hB hv
    obtain ⟨f', rfl⟩ : ∃ f', f = f' + 1 := ⟨f - 1, by omega⟩
    unfold fSo_solve_L2
    rw [if_pos (nI_lt (by omega) (by omega))]
    exact ⟨σ, rfl, fun u hu => hv u (by omega), offC.refl _ _⟩
  | succ c ih =>
    intro k f σ h1 h2 hB hv
    obtain ⟨f', rfl⟩ : ∃ f', f = f' + 1 := ⟨f - 1, by omega⟩
    obtain ⟨σ1, r, σ2, σ3, e1, e2, e3, e4, e5, e6⟩ := stage_C ok hm (show k < 3 by omega) hX (hc k (by omega)) hB hv
    obtain ⟨σ4, h4⟩ : ∃ z, z = sjW (sjW σ3 18 k (jI (nmX X k))) 19 k (jI (dnX X k)) := ⟨_, rfl⟩
    have oo : offC [6, 7, 8, 9, 10, 11, 12, 13, 14, 15, 17, 18, 19] σ σ4 := by
      rw [h4]; exact (e6.mono (by simp)).trans ((offC_sj (by simp)).trans (offC_sj (by simp)))
    obtain ⟨σ5, f1, f2, f3⟩ := ih (k + 1) f' σ4 (by omega) (by omega) (hB.of oo (by decide) (by decide)) (fun u hu => by
      rw [h4, sjW_n (by decide), sjW_s, sjW_s, sjW_n (by decide)]
      by_cases e : u = k
      · rw [if_pos e, if_pos e, e]; exact ⟨rfl, rfl⟩
      · rw [if_neg e, if_neg e, (e6 18 (by decide)).2, (e6 19 (by decide)).2]; exact hv u (by omega))
    refine ⟨σ5, ?_, f2, oo.trans f3⟩
    unfold fSo_solve_L2
    rw [if_neg (nI_nlt (by omega) (by omega)), show (3 : Int32) = nI 3 from rfl, if_neg (nI_ge (by omega) (by omega)), db1_t e1, db2_t e2, db1_t e3, dck_t (okI_n (by omega) (by omega)), nc (by omega), e4, dlt_u, dck_t (okI_n (by omega) (by omega)), sjW_n (by decide), e5, dlt_u, ← h4, nI_1]
    exact f1
theorem solve_spec {n m last : Nat} {g : gT} (ok : BkOk n g) (hm : m < 2 ^ n) (hl : last ≤ 2) {X : Nat → Rat} (hX : XB X) (hc : ∀ k, k < 3 → cn g m X k) {σ : sT} (hB : BkC σ n g) :
    ∃ σ1, fSo_solve (nI m) (nI last) σ = some σ1 ∧ (∀ u, u ≤ last → σ1.2 18 u = jI (nmX X u) ∧ σ1.2 19 u = jI (dnX X u)) ∧ offC [6, 7, 8, 9, 10, 11, 12, 13, 14, 15, 17, 18, 19] σ σ1 := by
  obtain ⟨σ1, e1, e2, e3⟩ := solve_loop ok hm hl hX hc (last + 1) 0 FU σ (by omega) (by unfold FU; omega) hB (fun u hu => by omega)
  rw [nI_0] at e1
  unfold fSo_solve
  exact ⟨σ1, e1, e2, e3⟩
