/-! Rows: a variable eliminated, as the class does it -/
def J4 (r : rT) : Prop := inJ r.1 ∧ inJ r.2.1 ∧ inJ r.2.2.1 ∧ inJ r.2.2.2.1
def J4k (r : rT) : Prop := J4 r ∧ r.2.2.2.2 ≤ 2
theorem RowIs.co {σ : sT} {c kd i : Nat} {r : rT} (h : RowIs σ c kd i r) {k : Nat} (hk : k < 3) : σ.2 c (i * 4 + k) = jI (rco r k) := by
  obtain ⟨a, b, d, -, -⟩ := h
  rcases (show k = 0 ∨ k = 1 ∨ k = 2 by omega) with rfl | rfl | rfl
  · simpa [rco] using a
  · simpa [rco] using b
  · simpa [rco] using d
theorem J4.co {r : rT} (h : J4 r) (k : Nat) : inJ (rco r k) := by
  unfold rco; split
  · exact h.1
  · split
    · exact h.2.1
    · exact h.2.2.1
theorem RowsAt.of_off {C : List Nat} {σ σ1 : sT} {o c kd : Nat} {st : stR} (h : RowsAt σ o c kd st) (ho : offC C σ σ1) (h1 : o ∉ C) (h2 : c ∉ C) (h3 : kd ∉ C) : RowsAt σ1 o c kd st := by
  obtain ⟨a, b, d⟩ := h
  refine ⟨by rw [(ho o h1).1]; exact a, by rw [(ho o h1).1]; exact b, fun i r hr => ?_⟩
  obtain ⟨x1, x2, x3, x4, x5⟩ := d i r hr
  exact ⟨by rw [(ho c h2).2]; exact x1, by rw [(ho c h2).2]; exact x2, by rw [(ho c h2).2]; exact x3, by rw [(ho c h2).2]; exact x4, by rw [(ho kd h3).1]; exact x5⟩
def isEq (k : Nat) (r : rT) : Prop := rk r = 2 ∧ rco r k ≠ 0
theorem get_lt {α : Type} {L : List α} {i : Nat} (h : i < L.length) : ∃ r, L[i]? = some r := ⟨L[i], List.getElem?_eq_getElem h⟩
theorem eqw_loop {o c kd N4 N : Nat} (h4 : N4 = N * 4) (hN : N ≤ 1000) {σ : sT} {st : stR} (hR : RowsAt σ o c kd st) (hlen : st.1.length ≤ N) (hj : ∀ r ∈ st.1, J4k r) {k : Nat} (hk : k < 3) :
    ∀ (n i : Nat), st.1.length - i < n → i ≤ st.1.length → ∃ v : Int32, fRw_equalityWith_L2 o c kd N4 N (nI k) σ n (nI i) = some v ∧ ((∃ j r, i ≤ j ∧ st.1[j]? = some r ∧ isEq k r ∧ v = nI j) ∨ ((∀ j r, i ≤ j → st.1[j]? = some r → ¬ isEq k r) ∧ v = -1)) := by
  subst h4
  intro n
  induction n with
  | zero => intro i h; omega
  | succ n ih =>
    intro i hn hi
    obtain ⟨e1, e2, e3⟩ := id hR
    unfold fRw_equalityWith_L2
    rw [e1]
    by_cases hlt : i < st.1.length
    · obtain ⟨r, hr⟩ := get_lt hlt
      have hri := e3 i r hr
      have hjr := hj r (List.mem_of_getElem? hr)
      rw [if_neg (nI_ge hlt (by omega)), dck_t (okI_n (by omega) (by omega)), nc (by omega), hri.2.2.2.2]
      have step : (¬ isEq k r) → ∃ v : Int32, fRw_equalityWith_L2 o c kd (N * 4) N (nI k) σ n (nI i + (1 : Int32)) = some v ∧ ((∃ j r, i ≤ j ∧ st.1[j]? = some r ∧ isEq k r ∧ v = nI j) ∨ ((∀ j r, i ≤ j → st.1[j]? = some r → ¬ isEq k r) ∧ v = -1)) := by
        intro hne
        rw [nI_1]
        obtain ⟨v, h1, h2⟩ := ih (i + 1) (by omega) (by omega)
        refine ⟨v, h1, ?_⟩
        rcases h2 with ⟨j, q, a, b, d⟩ | ⟨a, b⟩
        · exact Or.inl ⟨j, q, by omega, b, d⟩
        · refine Or.inr ⟨fun j q hj hq => ?_, b⟩
          by_cases hji : j = i
          · subst hji; rw [hr] at hq; cases hq; exact hne
          · exact a j q (by omega) hq
      by_cases k2 : r.2.2.2.2 = 2
      · rw [if_pos ((nI_eq2 hjr.2).mpr k2), n4, na, dck_t (okI_n (by omega) (by omega)), nc (by omega), hri.co hk]
        by_cases c0 : rco r k = 0
        · rw [if_pos ((cmp_eq0 (hjr.1.co k)).mpr c0)]
          exact step (fun z => z.2 c0)
        · rw [if_neg (fun z => c0 ((cmp_eq0 (hjr.1.co k)).mp z))]
          exact ⟨_, rfl, Or.inl ⟨i, r, Nat.le_refl _, hr, ⟨k2, c0⟩, rfl⟩⟩
      · rw [if_neg (fun z => k2 ((nI_eq2 hjr.2).mp z))]
        exact step (fun z => k2 z.1)
    · have : i = st.1.length := by omega
      subst this
      rw [if_pos (nI_le (Nat.le_refl _) (by omega))]
      refine ⟨_, rfl, Or.inr ⟨fun j q hj hq => ?_, rfl⟩⟩
      have := (List.getElem?_eq_some_iff.mp hq).1
      omega
theorem min_nI {a b : Nat} (ha : a ≤ 2) (hb : b ≤ 2) : (if nI b < nI a then nI b else nI a) = nI (min a b) := by
  rcases (show a = 0 ∨ a = 1 ∨ a = 2 by omega) with rfl | rfl | rfl <;> rcases (show b = 0 ∨ b = 1 ∨ b = 2 by omega) with rfl | rfl | rfl <;> decide
theorem mix_spec {o c kd N4 N o' c' kd' M4 M : Nat} (h4 : N4 = N * 4) (hN : N ≤ 1000) (h4' : M4 = M * 4) (hM : M ≤ 1000) (d1 : o' ≠ c') (d2 : o' ≠ kd') (d3 : c' ≠ kd') {σ : sT} {st st' : stR} (hR : RowsAt σ o c kd st) (hlen : st.1.length ≤ N) (hR' : RowsAt σ o' c' kd' st') (hlen' : st'.1.length < M) {i j : Nat} {r q : rT} (hr : st.1[i]? = some r) (hq : st.1[j]? = some q) (hkr : r.2.2.2.2 ≤ 2) (hkq : q.2.2.2.2 ≤ 2) (P Q : Int) (hJ : J4 (comb P r Q q)) :
    ∃ σ1, fRw_mix o c kd N4 N o' c' kd' M4 M (nI i) (jI P) (nI j) (jI Q) σ = some σ1 ∧ RowsAt σ1 o' c' kd' (keepS st' (comb P r Q q)) ∧ offC [o', c', kd'] σ σ1 := by
  subst h4
  have hi := (List.getElem?_eq_some_iff.mp hr).1
  have hj := (List.getElem?_eq_some_iff.mp hq).1
  obtain ⟨a1, a2, a3, a4, a5⟩ := hR.2.2 i r hr
  obtain ⟨b1, b2, b3, b4, b5⟩ := hR.2.2 j q hq
  unfold fRw_mix
  simp only [dlt_u, n4, show (1 : Int32) = nI 1 from rfl, show (2 : Int32) = nI 2 from rfl, show (3 : Int32) = nI 3 from rfl, na]
  rw [dck_t (okI_n (by omega) (by omega)), dck_t (okI_n (by omega) (by omega)), dck_t (okI_n (by omega) (by omega)), dck_t (okI_n (by omega) (by omega)), dck_t (okI_n (by omega) (by omega)), dck_t (okI_n (by omega) (by omega)), dck_t (okI_n (by omega) (by omega)), dck_t (okI_n (by omega) (by omega)), dck_t (okI_n (by omega) (by omega)), dck_t (okI_n (by omega) (by omega))]
  rw [nc (i := i * 4) (by omega), nc (i := j * 4) (by omega), nc (i := i * 4 + 1) (by omega), nc (i := j * 4 + 1) (by omega), nc (i := i * 4 + 2) (by omega), nc (i := j * 4 + 2) (by omega), nc (i := i * 4 + 3) (by omega), nc (i := j * 4 + 3) (by omega), nc (i := i) (by omega), nc (i := j) (by omega)]
  rw [a1, a2, a3, a4, a5, b1, b2, b3, b4, b5]
  simp only [jI_mul, jI_add]
  rw [min_nI hkr hkq]
  obtain ⟨σ1, e1, e2, e3⟩ := keep_spec d1 d2 d3 h4' hM hR' hlen' hJ (show (comb P r Q q).2.2.2.2 ≤ 2 from Nat.le_trans (Nat.min_le_left _ _) hkr)
  exact ⟨σ1, db1_t (k := fun σ => some σ) e1, e2, e3⟩
