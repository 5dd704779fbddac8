/-! eliminate: what it leaves, and how much -/
theorem mulB {a b A B : Int} (ha : -A ≤ a ∧ a ≤ A) (hb : -B ≤ b ∧ b ≤ B) : -(A * B) ≤ a * b ∧ a * b ≤ A * B := by
  have h1 := Int.mul_nonneg (show 0 ≤ A - a by omega) (show 0 ≤ B + b by omega)
  have h2 := Int.mul_nonneg (show 0 ≤ A + a by omega) (show 0 ≤ B - b by omega)
  have h3 := Int.mul_nonneg (show 0 ≤ A - a by omega) (show 0 ≤ B - b by omega)
  have h4 := Int.mul_nonneg (show 0 ≤ A + a by omega) (show 0 ≤ B + b by omega)
  constructor <;> grind
theorem comb_self (r : rT) : comb 1 r 0 r = r := by
  obtain ⟨a, b, c, d, k⟩ := r
  simp [comb]
theorem comb_B {A D P Q : Int} {r s : rT} (hr : rB A D r) (hs : rB A D s) (hP : -A ≤ P ∧ P ≤ A) (hQ : -A ≤ Q ∧ Q ≤ A) : rB (2 * A * A) (2 * A * D) (comb P r Q s) := by
  obtain ⟨a1, a2, a3, a4, a5⟩ := hr
  obtain ⟨b1, b2, b3, b4, b5⟩ := hs
  have c1 := mulB hP a1
  have c2 := mulB hP a2
  have c3 := mulB hP a3
  have c4 := mulB hP a4
  have d1 := mulB hQ b1
  have d2 := mulB hQ b2
  have d3 := mulB hQ b3
  have d4 := mulB hQ b4
  have e1 : 2 * A * A = A * A + A * A := by grind
  have e2 : 2 * A * D = A * D + A * D := by grind
  unfold rB comb
  rw [e1, e2]
  dsimp only
  refine ⟨?_, ?_, ?_, ?_, ?_⟩ <;> omega
theorem rB_mono {A D A' D' : Int} {r : rT} (h : rB A D r) (hA : A ≤ A') (hD : D ≤ D') : rB A' D' r := by
  unfold rB at *; omega
theorem rB_co {A D : Int} {r : rT} (h : rB A D r) (k : Nat) : -A ≤ rco r k ∧ rco r k ≤ A := by
  obtain ⟨a, b, c, -, -⟩ := h
  unfold rco; split
  · exact a
  · split
    · exact b
    · exact c
theorem Efrom_mem {f : Nat → rT → List rT} : ∀ {L : List rT} {i : Nat} {e : rT}, e ∈ Efrom f L i ↔ ∃ j r, L[j]? = some r ∧ e ∈ f (i + j) r
  | [], i, e => by simp [Efrom]
  | r :: T, i, e => by
    rw [Efrom, List.mem_append, Efrom_mem (L := T)]
    constructor
    · rintro (h | ⟨j, q, h1, h2⟩)
      · exact ⟨0, r, rfl, h⟩
      · exact ⟨j + 1, q, by simpa using h1, by rw [show i + (j + 1) = i + 1 + j by omega]; exact h2⟩
    · rintro ⟨j, q, h1, h2⟩
      cases j with
      | zero => simp at h1; subst h1; exact Or.inl h2
      | succ j => exact Or.inr ⟨j, q, by simpa using h1, by rw [show i + 1 + j = i + (j + 1) by omega]; exact h2⟩
def isP (k : Nat) (r : rT) : Bool := decide (0 < rco r k)
def isN (k : Nat) (r : rT) : Bool := decide (rco r k < 0)
def isZ (k : Nat) (r : rT) : Bool := decide (rco r k = 0)
theorem np_len (L0 : List rT) (k : Nat) : ∀ (L : List rT) (i : Nat), (Efrom (fNP L0 k) L i).length = (L.filter (isZ k)).length + (L.filter (isP k)).length * (L0.filter (isN k)).length
  | [], i => by simp [Efrom]
  | r :: T, i => by
    have ih := np_len L0 k T (i + 1)
    rw [Efrom, List.length_append, ih]
    unfold fNP
    by_cases z : rco r k = 0
    · have hp : isP k r = false := by simp [isP, z]
      have hz : isZ k r = true := by simp [isZ, z]
      rw [if_pos z, List.filter_cons, List.filter_cons, hp, hz]; simp; omega
    · have hz : isZ k r = false := by simp [isZ, z]
      rw [if_neg z]
      by_cases p : 0 < rco r k
      · have hp : isP k r = true := by simp [isP, p]
        rw [if_pos p, List.filter_cons, List.filter_cons, hp, hz]
        have : (negs k r L0).length = (L0.filter (isN k)).length := by unfold negs isN; simp
        rw [this]
        simp only [if_true, List.length_cons]
        simp only [Bool.false_eq_true, if_false]
        grind
      · have hp : isP k r = false := by simp [isP]; omega
        rw [if_neg p, List.filter_cons, List.filter_cons, hp, hz]; simp
theorem znp (k : Nat) : ∀ L : List rT, (L.filter (isZ k)).length + (L.filter (isP k)).length + (L.filter (isN k)).length = L.length
  | [] => rfl
  | r :: T => by
    have ih := znp k T
    rw [List.filter_cons, List.filter_cons, List.filter_cons]
    rcases Int.lt_trichotomy (rco r k) 0 with h | h | h
    · have a : isZ k r = false := by simp [isZ]; omega
      have b : isP k r = false := by simp [isP]; omega
      have c : isN k r = true := by simp [isN]; omega
      rw [a, b, c]; simp; omega
    · have a : isZ k r = true := by simp [isZ]; omega
      have b : isP k r = false := by simp [isP]; omega
      have c : isN k r = false := by simp [isN]; omega
      rw [a, b, c]; simp; omega
    · have a : isZ k r = false := by simp [isZ]; omega
      have b : isP k r = true := by simp [isP]; omega
      have c : isN k r = false := by simp [isN]; omega
      rw [a, b, c]; simp; omega
theorem sq4 (p n : Int) : 4 * (p * n) ≤ (p + n) * (p + n) := by
  rcases Int.le_total n p with h | h
  · have := Int.mul_nonneg (show 0 ≤ p - n by omega) (show 0 ≤ p - n by omega)
    grind
  · have := Int.mul_nonneg (show 0 ≤ n - p by omega) (show 0 ≤ n - p by omega)
    grind
theorem quad {z p n l : Nat} (h : z + p + n ≤ l) (h4 : 4 ≤ l) : 4 * (z + p * n) ≤ l * l := by
  obtain ⟨s, hs⟩ : ∃ s, s = p + n := ⟨_, rfl⟩
  have h1 : 4 * (p * n) ≤ s * s := by
    have h0 := sq4 (p : Int) (n : Int)
    rw [hs]
    have e1 : ((4 * (p * n) : Nat) : Int) = 4 * ((p : Int) * n) := by simp
    have e2 : (((p + n) * (p + n) : Nat) : Int) = ((p : Int) + n) * ((p : Int) + n) := by simp
    omega
  have h2 : s * s ≤ l * s := Nat.mul_le_mul_right s (by omega)
  have h3 : (l - 4) * s ≤ (l - 4) * l := Nat.mul_le_mul_left _ (by omega)
  obtain ⟨m, rfl⟩ : ∃ m, l = m + 4 := ⟨l - 4, by omega⟩
  simp only [Nat.add_sub_cancel] at h3
  have e1 : (m + 4) * s = m * s + 4 * s := by grind
  have e2 : (m + 4) * (m + 4) = m * (m + 4) + 4 * (m + 4) := by grind
  omega
theorem pv_len (pi : Nat) (s : rT) (k : Nat) : ∀ (L : List rT) (i : Nat), (Efrom (fPV pi s k) L i).length ≤ L.length
  | [], i => by simp [Efrom]
  | r :: T, i => by
    have ih := pv_len pi s k T (i + 1)
    rw [Efrom, List.length_append]
    have : (fPV pi s k i r).length ≤ 1 := by
      unfold fPV
      split
      · simp
      · split <;> simp
    simp; omega
/-- how many rows a list of l rows may leave -/
def cap (l : Nat) : Nat := max l (l * l / 4)
theorem np_cap {L : List rT} {k l : Nat} (h : L.length ≤ l) : (Efrom (fNP L k) L 0).length ≤ cap l := by
  rw [np_len]
  have hz := znp k L
  generalize (L.filter (isZ k)).length = z at *
  generalize (L.filter (isP k)).length = p at *
  generalize (L.filter (isN k)).length = n at *
  unfold cap
  by_cases h4 : 4 ≤ l
  · have := quad (show z + p + n ≤ l by omega) h4
    have : z + p * n ≤ l * l / 4 := by omega
    omega
  · have hp : p ≤ 3 := by omega
    have hn : n ≤ 3 := by omega
    have : p * n ≤ p + n := by
      rcases (show p = 0 ∨ p = 1 ∨ p = 2 ∨ p = 3 by omega) with rfl | rfl | rfl | rfl <;> omega
    omega
theorem pv_cap {L : List rT} {k l pi : Nat} {s : rT} (h : L.length ≤ l) : (Efrom (fPV pi s k) L 0).length ≤ cap l := by
  have := pv_len pi s k L 0
  unfold cap; omega
set_option maxHeartbeats 4000000 in
/-- eliminate: the projection, with its size and its numbers -/
theorem elim_spec {o c kd N4 N o' c' kd' M4 M : Nat} (h4 : N4 = N * 4) (hN : N ≤ 900) (h4' : M4 = M * 4) (hM : M ≤ 1000) (d0 : o' ≠ c' ∧ o' ≠ kd' ∧ c' ≠ kd') (n0 : o ∉ [o', c', kd'] ∧ c ∉ [o', c', kd'] ∧ kd ∉ [o', c', kd']) {σ : sT} {st : stR} (hR : RowsAt σ o c kd st) {l : Nat} (hl : st.1.length ≤ l) (hlN : l ≤ N) (hcap : cap l ≤ M) {A D : Int} (hB : ∀ r ∈ st.1, rB A D r) (hA : 1 ≤ A) (hD : 0 ≤ D) (hAb : A ≤ big) (hDb : D ≤ big) {k : Nat} (hk : k < 3)
    (hbig : (∀ r ∈ st.1, rco r k = 0) ∨ (2 * A * A ≤ big ∧ 2 * A * D ≤ big)) :
    ∃ (σ1 : sT) (E : List rT), fRw_eliminate o c kd N4 N o' c' kd' M4 M (nI k) σ = some σ1 ∧ RowsAt σ1 o' c' kd' (E.foldl keepS ([], st.2)) ∧ offC [o', c', kd'] σ σ1 ∧ E.length ≤ cap l ∧
      (∀ p, (∀ r ∈ E, hol p r) ↔ ∃ t, ∀ r ∈ st.1, hol (updp p k t) r) ∧ (∀ e ∈ E, rco e k = 0 ∧ ∀ j, (∀ r ∈ st.1, rco r j = 0) → rco e j = 0) ∧ (∀ e ∈ E, rB (2 * A * A) (2 * A * D) e) ∧ ((∀ r ∈ st.1, rco r k = 0) → ∀ e ∈ E, rB A D e) := by
  obtain ⟨d1, d2, d3⟩ := d0
  obtain ⟨n1, n2, n3⟩ := n0
  have hj : ∀ r ∈ st.1, J4k r := fun r hr => ⟨rB_j (hB r hr) hAb hDb, (hB r hr).2.2.2.2⟩
  have hAA : A ≤ 2 * A * A := by have := Int.mul_le_mul_of_nonneg_left hA (show 0 ≤ 2 * A by omega); grind
  have hAD : D ≤ 2 * A * D := by have := Int.mul_le_mul_of_nonneg_right hA hD; grind
  have he : fRw_empty o' c' kd' M4 M σ = some (siW (siW σ o' 2 0) o' 3 0) := rfl
  unfold fRw_eliminate
  rw [db1_t he]
  obtain ⟨σ2, e2⟩ : ∃ z, z = siW (siW σ o' 2 0) o' 3 0 := ⟨_, rfl⟩
  rw [← e2]
  have o2 : offC [o', c', kd'] σ σ2 := by rw [e2]; exact (offC_si (by simp)).trans (offC_si (by simp))
  have hR2 := hR.of_off o2 n1 n2 n3
  rw [hR2.2.1, dck_t (by cases st.2 <;> decide), dlt_u]
  obtain ⟨σ4, e4⟩ : ∃ z, z = siW σ2 o' 3 (if st.2 = true then 1 else 0) := ⟨_, rfl⟩
  rw [← e4]
  have o4 : offC [o', c', kd'] σ2 σ4 := by rw [e4]; exact offC_si (by simp)
  have hR4 := hR2.of_off o4 n1 n2 n3
  have hR4' : RowsAt σ4 o' c' kd' ([], st.2) := by
    refine ⟨?_, ?_, fun i r h => by simp at h⟩
    · rw [e4, siW_s, if_neg (by decide), e2, siW_s, if_neg (by decide), siW_s, if_pos rfl]; rfl
    · rw [e4, siW_s, if_pos rfl]
  obtain ⟨v, ev, hv⟩ := eqw_loop h4 (by omega) hR4 (by omega) hj hk FU 0 (by unfold FU; omega) (by omega)
  have ev' : fRw_equalityWith o c kd N4 N (nI k) σ4 = some v := ev
  rw [db1_t ev', show (0 : Int32) = nI 0 from rfl]
  rcases hv with ⟨pi, s, -, hs, hse, rfl⟩ | ⟨hne, rfl⟩
  · -- an equality is there
    have hsB := hB s (List.mem_of_getElem? hs)
    have hmem : ∀ e ∈ Efrom (fPV pi s k) st.1 0, ∃ r ∈ st.1, (rco r k = 0 ∧ e = r) ∨ (rco r k ≠ 0 ∧ e = comb (iabs (rco s k)) r (pvq (rco s k) (rco r k)) s) := by
      intro e hE
      obtain ⟨j, r, hr, h⟩ := Efrom_mem.mp hE
      refine ⟨r, List.mem_of_getElem? hr, ?_⟩
      unfold fPV at h
      by_cases z : rco r k = 0
      · rw [if_pos z] at h; rw [List.mem_singleton.mp h]; exact Or.inl ⟨z, comb_self r⟩
      · rw [if_neg z] at h
        split at h
        · simp at h
        · exact Or.inr ⟨z, List.mem_singleton.mp h⟩
    have hAbs : -A ≤ iabs (rco s k) ∧ iabs (rco s k) ≤ A := by have := rB_co hsB k; unfold iabs; split <;> omega
    have hbE : ∀ e ∈ Efrom (fPV pi s k) st.1 0, rB (2 * A * A) (2 * A * D) e := by
      intro e hE
      obtain ⟨r, hr, ⟨-, rfl⟩ | ⟨-, rfl⟩⟩ := hmem e hE
      · exact rB_mono (hB e hr) hAA hAD
      · exact comb_B (hB r hr) hsB hAbs (by have := rB_co (hB r hr) k; unfold pvq; split <;> omega)
    have hb0 : (∀ r ∈ st.1, rco r k = 0) → ∀ e ∈ Efrom (fPV pi s k) st.1 0, rB A D e := fun h => absurd (h s (List.mem_of_getElem? hs)) hse.2
    have hJ : ∀ e ∈ Efrom (fPV pi s k) st.1 0, J4 e := by
      intro e hE
      rcases hbig with h | ⟨h, h'⟩
      · exact rB_j (hb0 h e hE) hAb hDb
      · exact rB_j (hbE e hE) h h'
    have hc := pv_cap (k := k) (pi := pi) (s := s) hl
    obtain ⟨σ5, f1, f2, f3⟩ := loop_pv h4 hN h4' hM d1 d2 d3 n1 n2 n3 (by omega) hj hk hs FU 0 σ4 ([], st.2) (by unfold FU; omega) (by omega) hR4 hR4' (by rw [List.drop_zero]; simp; omega) (by rw [List.drop_zero]; exact hJ)
    rw [List.drop_zero] at f2
    refine ⟨σ5, _, f1, f2, (o2.trans o4).trans f3, hc, fun p => ?_, fun e hE => ?_, hbE, hb0⟩
    · rw [fm_pivot st.1 hk (List.mem_of_getElem? hs) hse.1 hse.2 (fun r hr => (hB r hr).2.2.2.2) p]
      constructor
      · intro h
        refine ⟨fun r hr z => ?_, fun r hr z => ?_⟩
        · obtain ⟨j, hj'⟩ := List.getElem?_of_mem hr
          have := h (comb 1 r 0 r) (Efrom_mem.mpr ⟨j, r, hj', by unfold fPV; rw [if_pos z]; simp⟩)
          rwa [comb_self] at this
        · obtain ⟨j, hj'⟩ := List.getElem?_of_mem hr
          by_cases hjp : j = pi
          · subst hjp
            rw [hs] at hj'; cases hj'
            have hzero : comb (iabs (rco s k)) s (pvq (rco s k) (rco s k)) s = (0, 0, 0, 0, 2) := by
              have hk2 : s.2.2.2.2 = 2 := hse.1
              unfold comb iabs pvq; split <;> simp [hk2] <;> grind
            rw [hzero]; unfold hol; rw [show rk (0, 0, 0, 0, 2) = 2 from rfl, relk2]
            simp [lin, rd]; grind
          · exact h _ (Efrom_mem.mpr ⟨j, r, hj', by unfold fPV; rw [if_neg z, if_neg (by omega)]; simp⟩)
      · rintro ⟨h1, h2⟩ e hE
        obtain ⟨r, hr, ⟨z, rfl⟩ | ⟨z, rfl⟩⟩ := hmem e hE
        · exact h1 e hr z
        · exact h2 r hr z
    · obtain ⟨r, hr, ⟨z, rfl⟩ | ⟨z, rfl⟩⟩ := hmem e hE
      · exact ⟨z, fun j h => h e hr⟩
      · refine ⟨rco_pv r s k, fun j h => ?_⟩
        rw [rco_comb, h r hr, h s (List.mem_of_getElem? hs)]; simp
  · -- none: by pairs
    have hkind : ∀ r ∈ st.1, rk r ≤ 1 ∨ rco r k = 0 := by
      intro r hr
      obtain ⟨j, hj'⟩ := List.getElem?_of_mem hr
      have h1 := hne j r (Nat.zero_le _) hj'
      have h2 : rk r ≤ 2 := (hB r hr).2.2.2.2
      by_cases z : rco r k = 0
      · exact Or.inr z
      · refine Or.inl ?_
        have : rk r ≠ 2 := fun e => h1 ⟨e, z⟩
        omega
    have hmem : ∀ e ∈ Efrom (fNP st.1 k) st.1 0, ∃ r ∈ st.1, (rco r k = 0 ∧ e = r) ∨ (0 < rco r k ∧ ∃ s ∈ st.1, rco s k < 0 ∧ e = comb (-(rco s k)) r (rco r k) s) := by
      intro e hE
      obtain ⟨j, r, hr, h⟩ := Efrom_mem.mp hE
      refine ⟨r, List.mem_of_getElem? hr, ?_⟩
      unfold fNP at h
      by_cases z : rco r k = 0
      · rw [if_pos z] at h; rw [List.mem_singleton.mp h]; exact Or.inl ⟨z, comb_self r⟩
      · rw [if_neg z] at h
        split at h
        · rename_i hp
          unfold negs at h
          obtain ⟨s, hs, rfl⟩ := List.mem_map.mp h
          obtain ⟨hs, h2⟩ := List.mem_filter.mp hs
          exact Or.inr ⟨hp, s, hs, of_decide_eq_true h2, rfl⟩
        · simp at h
    have hbE : ∀ e ∈ Efrom (fNP st.1 k) st.1 0, rB (2 * A * A) (2 * A * D) e := by
      intro e hE
      obtain ⟨r, hr, ⟨-, rfl⟩ | ⟨-, s, hs, -, rfl⟩⟩ := hmem e hE
      · exact rB_mono (hB e hr) hAA hAD
      · exact comb_B (hB r hr) (hB s hs) (by have := rB_co (hB s hs) k; omega) (rB_co (hB r hr) k)
    have hb0 : (∀ r ∈ st.1, rco r k = 0) → ∀ e ∈ Efrom (fNP st.1 k) st.1 0, rB A D e := by
      intro h e hE
      obtain ⟨r, hr, ⟨-, rfl⟩ | ⟨z, -⟩⟩ := hmem e hE
      · exact hB e hr
      · have := h r hr; omega
    have hJ : ∀ e ∈ Efrom (fNP st.1 k) st.1 0, J4 e := by
      intro e hE
      rcases hbig with h | ⟨h, h'⟩
      · exact rB_j (hb0 h e hE) hAb hDb
      · exact rB_j (hbE e hE) h h'
    have hc := np_cap (k := k) hl
    obtain ⟨σ5, f1, f2, f3⟩ := loop_np h4 hN h4' hM d1 d2 d3 n1 n2 n3 (by omega) hj hk FU 0 σ4 ([], st.2) (by unfold FU; omega) (by omega) hR4 hR4' (by rw [List.drop_zero]; simp; omega) (by rw [List.drop_zero]; exact hJ)
    rw [List.drop_zero] at f2
    refine ⟨σ5, _, f1, f2, (o2.trans o4).trans f3, hc, fun p => ?_, fun e hE => ?_, hbE, hb0⟩
    · rw [fm_pairs st.1 hk hkind p]
      constructor
      · intro h
        refine ⟨fun r hr z => ?_, fun r hr s hs z z' => ?_⟩
        · obtain ⟨j, hj'⟩ := List.getElem?_of_mem hr
          have := h (comb 1 r 0 r) (Efrom_mem.mpr ⟨j, r, hj', by unfold fNP; rw [if_pos z]; simp⟩)
          rwa [comb_self] at this
        · obtain ⟨j, hj'⟩ := List.getElem?_of_mem hr
          refine h _ (Efrom_mem.mpr ⟨j, r, hj', ?_⟩)
          unfold fNP negs
          rw [if_neg (by omega), if_pos z]
          exact List.mem_map.mpr ⟨s, List.mem_filter.mpr ⟨hs, by simpa using z'⟩, rfl⟩
      · rintro ⟨h1, h2⟩ e hE
        obtain ⟨r, hr, ⟨z, rfl⟩ | ⟨z, s, hs, z', rfl⟩⟩ := hmem e hE
        · exact h1 e hr z
        · exact h2 r hr s hs z z'
    · obtain ⟨r, hr, ⟨z, rfl⟩ | ⟨z, s, hs, z', rfl⟩⟩ := hmem e hE
      · exact ⟨z, fun j h => h e hr⟩
      · refine ⟨by rw [rco_comb]; grind, fun j h => ?_⟩
        rw [rco_comb, h r hr, h s hs]; simp
