/-! the loops of eliminate -/
def Efrom (f : Nat → rT → List rT) : List rT → Nat → List rT
  | [], _ => []
  | r :: T, i => f i r ++ Efrom f T (i + 1)
def negs (k : Nat) (r : rT) (L : List rT) : List rT := (L.filter (fun s => decide (rco s k < 0))).map (fun s => comb (-(rco s k)) r (rco r k) s)
def fNP (L : List rT) (k : Nat) (_ : Nat) (r : rT) : List rT := if rco r k = 0 then [comb 1 r 0 r] else if 0 < rco r k then negs k r L else []
def fPV (pi : Nat) (s : rT) (k : Nat) (i : Nat) (r : rT) : List rT := if rco r k = 0 then [comb 1 r 0 r] else if i = pi then [] else [comb (iabs (rco s k)) r (pvq (rco s k) (rco r k)) s]
theorem drop_cons {α : Type} {L : List α} {i : Nat} {r : α} (h : L[i]? = some r) : L.drop i = r :: L.drop (i + 1) := by
  obtain ⟨hl, he⟩ := List.getElem?_eq_some_iff.mp h
  rw [List.drop_eq_getElem_cons hl, he]
theorem negs_cons (k : Nat) (r s : rT) (T : List rT) : negs k r (s :: T) = (if rco s k < 0 then [comb (-(rco s k)) r (rco r k) s] else []) ++ negs k r T := by
  unfold negs; by_cases h : rco s k < 0 <;> simp [h]
theorem keep_len' (st : stR) (r : rT) : st.1.length ≤ (keepS st r).1.length := by unfold keepS; split <;> simp
section EL
variable {o c kd N4 N o' c' kd' M4 M : Nat}
theorem inner_loop (h4 : N4 = N * 4) (hN : N ≤ 1000) (h4' : M4 = M * 4) (hM : M ≤ 1000) (d1 : o' ≠ c') (d2 : o' ≠ kd') (d3 : c' ≠ kd') (n1 : o ∉ [o', c', kd']) (n2 : c ∉ [o', c', kd']) (n3 : kd ∉ [o', c', kd']) {st : stR} (hlen : st.1.length ≤ N) (hj : ∀ r ∈ st.1, J4k r) {k i : Nat} (hk : k < 3) {r : rT} (hr : st.1[i]? = some r) (K : sT → Option sT) :
    ∀ (n j : Nat) (σ : sT) (st' : stR), st.1.length - j < n → j ≤ st.1.length → RowsAt σ o c kd st → RowsAt σ o' c' kd' st' → st'.1.length + (negs k r (st.1.drop j)).length ≤ M → (∀ q ∈ negs k r (st.1.drop j), J4 q) →
      ∃ σ1, fRw_eliminate_L131 o c kd N4 N o' c' kd' M4 M (nI k) (nI i) (jI (rco r k)) K n (nI j) σ = K σ1 ∧ RowsAt σ1 o' c' kd' ((negs k r (st.1.drop j)).foldl keepS st') ∧ offC [o', c', kd'] σ σ1 := by
  have hkr := (hj r (List.mem_of_getElem? hr)).2
  intro n
  induction n with
  | zero => intro j σ st' h; omega
  | succ n ih =>
    intro j σ st' hn hjl hR hR' hM' hJ
    unfold fRw_eliminate_L131
    rw [hR.1]
    by_cases hlt : j < st.1.length
    · obtain ⟨s, hs⟩ := get_lt hlt
      have hsi := hR.2.2 j s hs
      have hjs := hj s (List.mem_of_getElem? hs)
      rw [drop_cons hs, negs_cons] at hM' hJ ⊢
      rw [if_neg (nI_ge hlt (by omega)), n4, na, dck_t (okI_n (by rw [h4]; omega) (by omega)), nc (by omega), dlt_u, hsi.co hk]
      by_cases hneg : rco s k < 0
      · rw [if_pos hneg] at hM' hJ ⊢
        rw [if_neg (fun z => by have := (cmp_ge0 (hjs.1.co k)).mp z; omega), jI_neg]
        simp only [List.length_append, List.length_singleton, List.length_cons, List.length_nil] at hM'
        obtain ⟨σ1, e1, e2, e3⟩ := mix_spec h4 hN h4' hM d1 d2 d3 hR hlen hR' (by omega) hr hs hkr hjs.2 (-(rco s k)) (rco r k) (hJ _ (by simp))
        rw [db1_t e1, nI_1]
        have kl := keep_len st' (comb (-(rco s k)) r (rco r k) s)
        obtain ⟨σ2, f1, f2, f3⟩ := ih (j + 1) σ1 _ (by omega) (by omega) (hR.of_off e3 n1 n2 n3) e2 (by omega) (fun q hq => hJ q (by simp [hq]))
        exact ⟨σ2, f1, by simpa using f2, e3.trans f3⟩
      · rw [if_neg hneg] at hM' hJ ⊢
        rw [if_pos ((cmp_ge0 (hjs.1.co k)).mpr (by omega)), nI_1]
        obtain ⟨σ2, f1, f2, f3⟩ := ih (j + 1) σ st' (by omega) (by omega) hR hR' (by simpa using hM') (fun q hq => hJ q (by simp [hq]))
        exact ⟨σ2, f1, by simpa using f2, f3⟩
    · have : j = st.1.length := by omega
      subst this
      rw [if_pos (nI_le (Nat.le_refl _) (by omega))]
      exact ⟨σ, rfl, by rw [List.drop_length]; exact hR', offC.refl _ _⟩
theorem iabs_j {x : Int} (h : inJ x) : (if 0 < jI x then jI x else -jI x) = jI (iabs x) := by
  have : (0 < jI x) ↔ 0 < x := by rw [j0]; exact jI_lt inJ0 h
  unfold iabs
  by_cases hx : 0 < x
  · rw [if_pos (this.mpr hx), if_pos hx]
  · rw [if_neg (fun z => hx (this.mp z)), if_neg hx, jI_neg]
theorem loop_np (h4 : N4 = N * 4) (hN : N ≤ 900) (h4' : M4 = M * 4) (hM : M ≤ 1000) (d1 : o' ≠ c') (d2 : o' ≠ kd') (d3 : c' ≠ kd') (n1 : o ∉ [o', c', kd']) (n2 : c ∉ [o', c', kd']) (n3 : kd ∉ [o', c', kd']) {st : stR} (hlen : st.1.length ≤ N) (hj : ∀ r ∈ st.1, J4k r) {k : Nat} (hk : k < 3) :
    ∀ (n i : Nat) (σ : sT) (st' : stR), st.1.length - i < n → i ≤ st.1.length → RowsAt σ o c kd st → RowsAt σ o' c' kd' st' → st'.1.length + (Efrom (fNP st.1 k) (st.1.drop i) i).length ≤ M → (∀ q ∈ Efrom (fNP st.1 k) (st.1.drop i) i, J4 q) →
      ∃ σ1, fRw_eliminate_L21 o c kd N4 N o' c' kd' M4 M (nI k) (-1) n (nI i) σ = some σ1 ∧ RowsAt σ1 o' c' kd' ((Efrom (fNP st.1 k) (st.1.drop i) i).foldl keepS st') ∧ offC [o', c', kd'] σ σ1 := by
  intro n
  induction n with
  | zero => intro i σ st' h; omega
  | succ n ih =>
    intro i σ st' hn hil hR hR' hM' hJ
    unfold fRw_eliminate_L21
    rw [hR.1]
    by_cases hlt : i < st.1.length
    · obtain ⟨r, hr⟩ := get_lt hlt
      have hri := hR.2.2 i r hr
      have hjr := hj r (List.mem_of_getElem? hr)
      rw [drop_cons hr] at hM' hJ ⊢
      simp only [Efrom] at hM' hJ ⊢
      rw [if_neg (nI_ge hlt (by omega)), n4, na, dck_t (okI_n (by rw [h4]; omega) (by omega)), nc (by omega), dlt_u, hri.co hk]
      rw [List.length_append] at hM'
      rw [List.foldl_append]
      by_cases z : rco r k = 0
      · rw [if_pos ((cmp_eq0 (hjr.1.co k)).mpr z)]
        have hf : fNP st.1 k i r = [comb 1 r 0 r] := by unfold fNP; rw [if_pos z]
        rw [hf] at hM' hJ ⊢
        simp only [List.length_singleton] at hM'
        obtain ⟨σ1, e1, e2, e3⟩ := mix_spec h4 (by omega) h4' hM d1 d2 d3 hR hlen hR' (by omega) hr hr hjr.2 hjr.2 1 0 (hJ _ (by simp))
        rw [j1, j0, db1_t e1, nI_1]
        have kl := keep_len st' (comb 1 r 0 r)
        obtain ⟨σ2, f1, f2, f3⟩ := ih (i + 1) σ1 _ (by omega) (by omega) (hR.of_off e3 n1 n2 n3) e2 (by omega) (fun q hq => hJ q (by simp [hq]))
        exact ⟨σ2, f1, f2, e3.trans f3⟩
      · rw [if_neg (fun y => z ((cmp_eq0 (hjr.1.co k)).mp y)), dlt_u, if_pos (by decide), if_neg (by decide)]
        by_cases hp : 0 < rco r k
        · have hf : fNP st.1 k i r = negs k r st.1 := by unfold fNP; rw [if_neg z, if_pos hp]
          rw [hf] at hM' hJ ⊢
          rw [if_neg (fun y => by have := (cmp_le0 (hjr.1.co k)).mp y; omega), dlt_u]
          obtain ⟨σ1, e1, e2, e3⟩ := inner_loop h4 (by omega) h4' hM d1 d2 d3 n1 n2 n3 hlen hj hk hr (fun σ19 => fRw_eliminate_L21 o c kd N4 N o' c' kd' M4 M (nI k) (-1) n (nI i + (1 : Int32)) σ19) FU 0 σ st' (by unfold FU; omega) (by omega) hR hR' (by rw [List.drop_zero]; omega) (fun q hq => hJ q (by rw [List.drop_zero] at hq; simp [hq]))
          rw [List.drop_zero] at e2
          rw [show (0 : Int32) = nI 0 from rfl, e1, nI_1]
          have kl : ((negs k r st.1).foldl keepS st').1.length ≤ st'.1.length + (negs k r st.1).length := by
            generalize negs k r st.1 = E
            have : ∀ (E : List rT) (s : stR), (E.foldl keepS s).1.length ≤ s.1.length + E.length := by
              intro E; induction E with
              | nil => intro s; simp
              | cons x E ihE => intro s; have := ihE (keepS s x); have := keep_len s x; simp; omega
            exact this E st'
          obtain ⟨σ2, f1, f2, f3⟩ := ih (i + 1) σ1 _ (by omega) (by omega) (hR.of_off e3 n1 n2 n3) e2 (by omega) (fun q hq => hJ q (by simp [hq]))
          exact ⟨σ2, f1, f2, e3.trans f3⟩
        · have hf : fNP st.1 k i r = [] := by unfold fNP; rw [if_neg z, if_neg hp]
          rw [hf] at hM' hJ ⊢
          rw [if_pos ((cmp_le0 (hjr.1.co k)).mpr (by omega)), nI_1]
          obtain ⟨σ2, f1, f2, f3⟩ := ih (i + 1) σ st' (by omega) (by omega) hR hR' (by simpa using hM') (fun q hq => hJ q (by simp [hq]))
          exact ⟨σ2, f1, f2, f3⟩
    · have : i = st.1.length := by omega
      subst this
      rw [if_pos (nI_le (Nat.le_refl _) (by omega))]
      exact ⟨σ, rfl, by rw [List.drop_length]; exact hR', offC.refl _ _⟩
theorem loop_pv (h4 : N4 = N * 4) (hN : N ≤ 900) (h4' : M4 = M * 4) (hM : M ≤ 1000) (d1 : o' ≠ c') (d2 : o' ≠ kd') (d3 : c' ≠ kd') (n1 : o ∉ [o', c', kd']) (n2 : c ∉ [o', c', kd']) (n3 : kd ∉ [o', c', kd']) {st : stR} (hlen : st.1.length ≤ N) (hj : ∀ r ∈ st.1, J4k r) {k : Nat} (hk : k < 3) {pi : Nat} {s : rT} (hs : st.1[pi]? = some s) :
    ∀ (n i : Nat) (σ : sT) (st' : stR), st.1.length - i < n → i ≤ st.1.length → RowsAt σ o c kd st → RowsAt σ o' c' kd' st' → st'.1.length + (Efrom (fPV pi s k) (st.1.drop i) i).length ≤ M → (∀ q ∈ Efrom (fPV pi s k) (st.1.drop i) i, J4 q) →
      ∃ σ1, fRw_eliminate_L21 o c kd N4 N o' c' kd' M4 M (nI k) (nI pi) n (nI i) σ = some σ1 ∧ RowsAt σ1 o' c' kd' ((Efrom (fPV pi s k) (st.1.drop i) i).foldl keepS st') ∧ offC [o', c', kd'] σ σ1 := by
  have hpl := (List.getElem?_eq_some_iff.mp hs).1
  have hjs := hj s (List.mem_of_getElem? hs)
  intro n
  induction n with
  | zero => intro i σ st' h; omega
  | succ n ih =>
    intro i σ st' hn hil hR hR' hM' hJ
    unfold fRw_eliminate_L21
    rw [hR.1]
    by_cases hlt : i < st.1.length
    · obtain ⟨r, hr⟩ := get_lt hlt
      have hri := hR.2.2 i r hr
      have hsi := hR.2.2 pi s hs
      have hjr := hj r (List.mem_of_getElem? hr)
      rw [drop_cons hr] at hM' hJ ⊢
      simp only [Efrom] at hM' hJ ⊢
      rw [if_neg (nI_ge hlt (by omega)), n4, na, dck_t (okI_n (by rw [h4]; omega) (by omega)), nc (by omega), dlt_u, hri.co hk]
      rw [List.length_append] at hM'
      rw [List.foldl_append]
      by_cases z : rco r k = 0
      · rw [if_pos ((cmp_eq0 (hjr.1.co k)).mpr z)]
        have hf : fPV pi s k i r = [comb 1 r 0 r] := by unfold fPV; rw [if_pos z]
        rw [hf] at hM' hJ ⊢
        simp only [List.length_singleton] at hM'
        obtain ⟨σ1, e1, e2, e3⟩ := mix_spec h4 (by omega) h4' hM d1 d2 d3 hR hlen hR' (by omega) hr hr hjr.2 hjr.2 1 0 (hJ _ (by simp))
        rw [j1, j0, db1_t e1, nI_1]
        have kl := keep_len st' (comb 1 r 0 r)
        obtain ⟨σ2, f1, f2, f3⟩ := ih (i + 1) σ1 _ (by omega) (by omega) (hR.of_off e3 n1 n2 n3) e2 (by omega) (fun q hq => hJ q (by simp [hq]))
        exact ⟨σ2, f1, f2, e3.trans f3⟩
      · rw [if_neg (fun y => z ((cmp_eq0 (hjr.1.co k)).mp y)), dlt_u, if_neg (nI_pos (by omega))]
        by_cases hp : i = pi
        · subst hp
          have hf : fPV i s k i r = [] := by unfold fPV; rw [if_neg z, if_pos rfl]
          rw [hf] at hM' hJ ⊢
          rw [if_pos rfl, if_pos (nI_pos' (by omega)), nI_1]
          obtain ⟨σ2, f1, f2, f3⟩ := ih (i + 1) σ st' (by omega) (by omega) hR hR' (by simpa using hM') (fun q hq => hJ q (by simp [hq]))
          exact ⟨σ2, f1, f2, f3⟩
        · have hf : fPV pi s k i r = [comb (iabs (rco s k)) r (pvq (rco s k) (rco r k)) s] := by unfold fPV; rw [if_neg z, if_neg hp]
          rw [hf] at hM' hJ ⊢
          simp only [List.length_singleton] at hM'
          rw [if_neg (fun y => hp ((nI_eq (by omega) (by omega)).mp y)), n4, na, dck_t (okI_n (by rw [h4]; omega) (by omega)), nc (by omega), dlt_u, hsi.co hk, dlt_u, iabs_j (hjs.1.co k)]
          obtain ⟨σ1, e1, e2, e3⟩ := mix_spec h4 (by omega) h4' hM d1 d2 d3 hR hlen hR' (by omega) hr hs hjr.2 hjs.2 (iabs (rco s k)) (pvq (rco s k) (rco r k)) (hJ _ (by simp))
          have kl := keep_len st' (comb (iabs (rco s k)) r (pvq (rco s k) (rco r k)) s)
          obtain ⟨σ2, f1, f2, f3⟩ := ih (i + 1) σ1 _ (by omega) (by omega) (hR.of_off e3 n1 n2 n3) e2 (by omega) (fun q hq => hJ q (by simp [hq]))
          refine ⟨σ2, ?_, f2, e3.trans f3⟩
          by_cases hpos : 0 < rco s k
          · rw [if_neg (fun y => by have := (cmp_le0 (hjs.1.co k)).mp y; omega), jI_neg]
            have : pvq (rco s k) (rco r k) = -(rco r k) := by unfold pvq; rw [if_pos hpos]
            rw [this] at e1
            dsimp only
            rw [db1_t e1, nI_1]; exact f1
          · rw [if_pos ((cmp_le0 (hjs.1.co k)).mpr (by omega))]
            have : pvq (rco s k) (rco r k) = rco r k := by unfold pvq; rw [if_neg hpos]
            rw [this] at e1
            dsimp only
            rw [db1_t e1, nI_1]; exact f1
    · have : i = st.1.length := by omega
      subst this
      rw [if_pos (nI_le (Nat.le_refl _) (by omega))]
      exact ⟨σ, rfl, by rw [List.drop_length]; exact hR', offC.refl _ _⟩
end EL
