/-! the past: remembered and restored, on both sides -/
theorem ring1 {x : Nat} (h : x < 6) : nI x + (1 : Int32) - (nI x + (1 : Int32)) / (6 : Int32) * (6 : Int32) = nI ((x + 1) % 6) := by
  have : ∀ j : Fin 6, nI j.1 + (1 : Int32) - (nI j.1 + (1 : Int32)) / (6 : Int32) * (6 : Int32) = nI ((j.1 + 1) % 6) := by decide
  exact this ⟨x, h⟩
theorem ring2 {u : Nat} (h : u ≤ 6) : (if (6 : Int32) < nI u + (1 : Int32) then (6 : Int32) else nI u + (1 : Int32)) = nI (min 6 (u + 1)) := by
  have : ∀ j : Fin 7, (if (6 : Int32) < nI j.1 + (1 : Int32) then (6 : Int32) else nI j.1 + (1 : Int32)) = nI (min 6 (j.1 + 1)) := by decide
  exact this ⟨u, by omega⟩
theorem ring3 {x : Nat} (h : x < 6) : nI x + (6 : Int32) - (1 : Int32) - (nI x + (6 : Int32) - (1 : Int32)) / (6 : Int32) * (6 : Int32) = nI ((x + 5) % 6) := by
  have : ∀ j : Fin 6, nI j.1 + (6 : Int32) - (1 : Int32) - (nI j.1 + (6 : Int32) - (1 : Int32)) / (6 : Int32) * (6 : Int32) = nI ((j.1 + 5) % 6) := by decide
  exact this ⟨x, h⟩
theorem ring4 {x : Nat} (h : x < 6) : okC (0 : Int32) (nI x * (72 : Int32)) (72 : Int32) 72 432 = true ∧ okC (nI x * (72 : Int32)) (0 : Int32) (72 : Int32) 432 72 = true ∧ (nI x * (72 : Int32)).toNatClampNeg = x * 72 := by
  have : ∀ j : Fin 6, okC (0 : Int32) (nI j.1 * (72 : Int32)) (72 : Int32) 72 432 = true ∧ okC (nI j.1 * (72 : Int32)) (0 : Int32) (72 : Int32) 432 72 = true ∧ (nI j.1 * (72 : Int32)).toNatClampNeg = j.1 * 72 := by decide
  exact this ⟨x, h⟩
theorem PastC.of' {σ σ1 : sT} {U : List (Nat × gT)} (h : PastC σ U) (e4 : σ1.1 1 4 = σ.1 1 4) (e5 : σ1.1 1 5 = σ.1 1 5) (c3 : σ1.1 3 = σ.1 3) (c4 : σ1.1 4 = σ.1 4) : PastC σ1 U := by
  unfold PastC at *
  rw [e4, e5, c3, c4]; exact h
theorem remember_spec {σ : sT} {n : Nat} {g : gT} {U : List (Nat × gT)} (hB : BkC σ n g) (hn : n ≤ 12) (hP : PastC σ U) (hO : ∀ q ∈ U, q.1 ≤ 12) (hU : U.length ≤ 6) :
    ∃ σ1, fBk_remember σ = some σ1 ∧ BkC σ1 n g ∧ PastC σ1 (((n, g) :: U).take 6) ∧ offC [1, 3, 4] σ σ1 := by
  obtain ⟨nx, h1, h2, h3, h4⟩ := hP
  obtain ⟨r4, -, r6⟩ := ring4 h1
  refine ⟨siW (siW (siW (saW σ 3 (va_cpy (σ.1 2) (σ.1 3) 0 (nx * 72) 72)) 4 nx (nI n)) 1 4 (nI ((nx + 1) % 6))) 1 5 (nI (min 6 (U.length + 1))), ?_, ?_, ?_, ?_⟩
  · unfold fBk_remember
    simp only [dlt_u]
    rw [h2, dck_t r4, r6, show (0 : Int32).toNatClampNeg = 0 from rfl, show (72 : Int32).toNatClampNeg = 72 from rfl]
    have e1 : ∀ f, (saW σ 3 f).1 1 4 = nI nx := fun _ => h2
    have e2 : ∀ f, (saW σ 3 f).1 1 3 = nI n := fun _ => hB.1
    have e3 : ∀ f k v, (siW (saW σ 3 f) 4 k v).1 1 4 = nI nx := fun f k v => (siW_n (by decide) 4).trans h2
    have e4 : ∀ f k v w, (siW (siW (saW σ 3 f) 4 k v) 1 4 w).1 1 5 = nI U.length := fun f k v w => by
      rw [siW_s, if_neg (by decide), siW_n (by decide)]; exact h3
    simp only [e1, e2, e3]
    rw [dck_t (okI_n (by omega) (by omega)), nc (by omega), ring1 h1, e4, ring2 hU]
  · refine ⟨?_, fun i hi k hk => ?_⟩
    · rw [siW_s, if_neg (by decide), siW_s, if_neg (by decide), siW_n (by decide)]; exact hB.1
    · rw [siW_n (by decide), siW_n (by decide), siW_n (by decide), saW_1, if_neg (by decide)]; exact hB.2 i hi k hk
  · refine ⟨(nx + 1) % 6, by omega, ?_, ?_, fun j q hq => ?_⟩
    · rw [siW_s, if_neg (by decide), siW_s, if_pos rfl]
    · rw [siW_s, if_pos rfl, List.length_take, List.length_cons]
    · rw [List.getElem?_take] at hq
      by_cases hj : j < 6
      · rw [if_pos hj] at hq
        cases j with
        | zero =>
          cases hq
          have hs : ((nx + 1) % 6 + 5 - 0) % 6 = nx := by omega
          rw [hs]
          refine ⟨?_, fun i hi k hk => ?_⟩
          · rw [siW_n (by decide), siW_n (by decide), siW_s, if_pos rfl]
          · have hi' : i < n := hi
            rw [siW_n (by decide), siW_n (by decide), siW_n (by decide), saW_1, if_pos rfl, pk_cpy_in (by omega) (by omega), show 0 + (nx * 72 + (i * 6 + k) - nx * 72) = i * 6 + k by omega]
            exact hB.2 i hi k hk
        | succ j =>
          have hq' : U[j]? = some q := by simpa using hq
          obtain ⟨a, b⟩ := h4 j q hq'
          have hs : ((nx + 1) % 6 + 5 - (j + 1)) % 6 = (nx + 5 - j) % 6 := by omega
          have hne : (nx + 5 - j) % 6 ≠ nx := by omega
          rw [hs]
          refine ⟨?_, fun i hi k hk => ?_⟩
          · rw [siW_n (by decide), siW_n (by decide), siW_s, if_neg hne, saW_1, if_neg (by decide)]; exact a
          · have hlt : (nx + 5 - j) % 6 < 6 := by omega
            have hq12 := hO q (List.mem_of_getElem? hq')
            rw [siW_n (by decide), siW_n (by decide), siW_n (by decide), saW_1, if_pos rfl, pk_cpy_out (by omega)]; exact b i hi k hk
      · rw [if_neg hj] at hq; cases hq
  · exact ((offC_sa (by simp)).trans (offC_si (by simp))).trans ((offC_si (by simp)).trans (offC_si (by simp)))
theorem restore_spec {σ : sT} {q : Nat × gT} {U : List (Nat × gT)} (hP : PastC σ (q :: U)) (hq : q.1 ≤ 12) (hU : U.length ≤ 5) :
    ∃ σ1, fBk_restore σ = some σ1 ∧ BkC σ1 q.1 q.2 ∧ PastC σ1 U ∧ offC [1, 2] σ σ1 := by
  obtain ⟨nx, h1, h2, h3, h4⟩ := hP
  have hx : (nx + 5) % 6 < 6 := by omega
  obtain ⟨-, r5, r6⟩ := ring4 hx
  rw [List.length_cons] at h3
  obtain ⟨q1, q2⟩ := h4 0 q rfl
  rw [Nat.sub_zero] at q1 q2
  refine ⟨siW (siW (saW (siW σ 1 4 (nI ((nx + 5) % 6))) 2 (va_cpy (σ.1 3) (σ.1 2) ((nx + 5) % 6 * 72) 0 72)) 1 3 (nI q.1)) 1 5 (nI U.length), ?_, ?_, ?_, ?_⟩
  · unfold fBk_restore
    rw [if_pos (by rw [h3]; exact nI_lt (a := 0) (by omega) (by omega))]
    simp only [dlt_u]
    rw [h2, ring3 h1]
    have e1 : ∀ v, (siW σ 1 4 v).1 1 4 = v := fun v => by rw [siW_s, if_pos rfl]
    have e2 : ∀ v, (siW σ 1 4 v).1 3 = σ.1 3 := fun v => by funext k; rw [siW_n (by decide)]
    have e2' : ∀ v, (siW σ 1 4 v).1 2 = σ.1 2 := fun v => by funext k; rw [siW_n (by decide)]
    have e3 : ∀ v f, (saW (siW σ 1 4 v) 2 f).1 1 4 = v := fun v f => by rw [saW_1, if_neg (by decide), siW_s, if_pos rfl]
    have e4 : ∀ v f k, (saW (siW σ 1 4 v) 2 f).1 4 k = σ.1 4 k := fun v f k => by rw [saW_1, if_neg (by decide), siW_n (by decide)]
    have e5 : ∀ v f w, (siW (saW (siW σ 1 4 v) 2 f) 1 3 w).1 1 5 = nI (U.length + 1) := fun v f w => by
      rw [siW_s, if_neg (by decide), saW_1, if_neg (by decide), siW_s, if_neg (by decide), h3]
    simp only [e1, e2, e2', e3]
    rw [dck_t r5, r6, show (0 : Int32).toNatClampNeg = 0 from rfl, show (72 : Int32).toNatClampNeg = 72 from rfl, dck_t (okI_n hx (by omega)), nc (by omega), e5, nI_pred, e4, q1]
  · refine ⟨?_, fun i hi k hk => ?_⟩
    · rw [siW_s, if_neg (by decide), siW_s, if_pos rfl]
    · rw [siW_n (by decide), siW_n (by decide), saW_1, if_pos rfl, pk_cpy_in (by omega) (by omega), show (nx + 5) % 6 * 72 + (i * 6 + k - 0) = (nx + 5) % 6 * 72 + (i * 6 + k) by omega]
      exact q2 i hi k hk
  · refine ⟨(nx + 5) % 6, hx, ?_, ?_, fun j p hp => ?_⟩
    · rw [siW_s, if_neg (by decide), siW_s, if_neg (by decide), saW_1, if_neg (by decide), siW_s, if_pos rfl]
    · rw [siW_s, if_pos rfl]
    · have hj : j < U.length := (List.getElem?_eq_some_iff.mp hp).1
      obtain ⟨a, b⟩ := h4 (j + 1) p (by simpa using hp)
      have hs : ((nx + 5) % 6 + 5 - j) % 6 = (nx + 5 - (j + 1)) % 6 := by omega
      rw [hs]
      refine ⟨?_, fun i hi k hk => ?_⟩
      · rw [siW_n (by decide), siW_n (by decide), saW_1, if_neg (by decide), siW_n (by decide)]; exact a
      · rw [siW_n (by decide), siW_n (by decide), saW_1, if_neg (by decide), siW_n (by decide)]; exact b i hi k hk
  · exact ((offC_si (by simp)).trans (offC_sa (by simp))).trans ((offC_si (by simp)).trans (offC_si (by simp)))
/-! the model's past -/
theorem n73 (i : Nat) : (73 : Int32) * nI i = nI (73 * i) := pk_mul 73 i
theorem mshift_loop (F : Nat → Int32) : ∀ (c i f : Nat) (σ : sT), i + c = 365 → c < f → (∀ k, σ.1 35 k = if k < i then F (k + 73) else F k) →
    ∃ σ1, (∀ K : sT → Option sT, fMM_keep_L11 K f (nI i) σ = K σ1) ∧ (∀ k, σ1.1 35 k = if k < 365 then F (k + 73) else F k) ∧ mOff [35] [] σ σ1 := by
  intro c
  induction c with
  | zero =>
    intro i f σ h1 h2 hF
    obtain ⟨f', rfl⟩ : ∃ f', f = f' + 1 := ⟨f - 1, by omega⟩
    obtain rfl : i = 365 := by omega
    refine ⟨σ, fun K => ?_, hF, mOff.refl _ _ _⟩
    unfold fMM_keep_L11
    rw [show (365 : Int32) = nI 365 from rfl, if_pos (nI_le (by omega) (by omega))]
  | succ c ih =>
    intro i f σ h1 h2 hF
    obtain ⟨f', rfl⟩ : ∃ f', f = f' + 1 := ⟨f - 1, by omega⟩
    obtain ⟨σ1, e1, e2, e3⟩ := ih (i + 1) f' (siW σ 35 i (σ.1 35 (i + 73))) (by omega) (by omega) (fun k => by
      rw [siW_s]
      by_cases hk : k = i
      · subst hk
        rw [if_pos rfl, if_pos (by omega), hF, if_neg (by omega)]
      · rw [if_neg hk, hF]
        by_cases hl : k < i
        · rw [if_pos hl, if_pos (by omega)]
        · rw [if_neg hl, if_neg (by omega)])
    refine ⟨σ1, fun K => ?_, e2, (mOff_ci (by simp) (by decide)).trans e3⟩
    unfold fMM_keep_L11
    rw [show (365 : Int32) = nI 365 from rfl, if_neg (nI_ge (by omega) (by omega)), show (73 : Int32) = nI 73 from rfl, na, dck_t (okI_n (by omega) (by omega)), dck_t (okI_n (by omega) (by omega)), nc (by omega), nc (by omega), dlt_u, nI_1]
    exact e1 K
theorem mcopy_loop {s : Nat} (hs : s ≤ 5) (F : Nat → Int32) : ∀ (c i f : Nat) (σ : sT), i + c = 73 → c < f → σ.1 33 2 = nI s → (∀ k, σ.1 35 k = if 73 * s ≤ k ∧ k < 73 * s + i then σ.1 34 (k - 73 * s) else F k) →
    ∃ σ1, (∀ K : sT → Option sT, fMM_keep_L51 K f (nI i) σ = K σ1) ∧ (∀ k, σ1.1 35 k = if 73 * s ≤ k ∧ k < 73 * s + 73 then σ.1 34 (k - 73 * s) else F k) ∧ mOff [35] [] σ σ1 := by
  intro c
  induction c with
  | zero =>
    intro i f σ h1 h2 h3 hF
    obtain ⟨f', rfl⟩ : ∃ f', f = f' + 1 := ⟨f - 1, by omega⟩
    obtain rfl : i = 73 := by omega
    refine ⟨σ, fun K => ?_, hF, mOff.refl _ _ _⟩
    unfold fMM_keep_L51
    rw [show (73 : Int32) = nI 73 from rfl, if_pos (nI_le (by omega) (by omega))]
  | succ c ih =>
    intro i f σ h1 h2 h3 hF
    obtain ⟨f', rfl⟩ : ∃ f', f = f' + 1 := ⟨f - 1, by omega⟩
    have h34 : (siW σ 35 (73 * s + i) (σ.1 34 i)).1 34 = σ.1 34 := by funext k; rw [siW_n (by decide)]
    obtain ⟨σ1, e1, e2, e3⟩ := ih (i + 1) f' (siW σ 35 (73 * s + i) (σ.1 34 i)) (by omega) (by omega) (by rw [siW_n (by decide)]; exact h3) (fun k => by
      rw [siW_s, h34]
      by_cases hk : k = 73 * s + i
      · subst hk
        rw [if_pos rfl, if_pos (by omega), show 73 * s + i - 73 * s = i by omega]
      · rw [if_neg hk, hF]
        by_cases hl : 73 * s ≤ k ∧ k < 73 * s + i
        · rw [if_pos hl, if_pos (by omega)]
        · rw [if_neg hl, if_neg (by omega)])
    rw [h34] at e2
    refine ⟨σ1, fun K => ?_, e2, (mOff_ci (by simp) (by decide)).trans e3⟩
    unfold fMM_keep_L51
    rw [h3, n73, show (73 : Int32) = nI 73 from rfl, if_neg (nI_ge (by omega) (by omega)), na, dck_t (okI_n (by omega) (by omega)), dck_t (okI_n (by omega) (by omega)), nc (by omega), nc (by omega), dlt_u, nI_1]
    exact e1 K
theorem mK_spec {τ : sT} {n : Nat} {g : gT} {U : List (Nat × gT)} (hB : BkM τ n g) (hn : n ≤ 12) (hP : PastM τ U) (hO : ∀ q ∈ U, q.1 ≤ 12) (hU : U.length ≤ 5) :
    ∃ τ0, (∀ K : sT → Option sT, fMM_keep_L51 K FU (0 : Int32) τ = K τ0) ∧ τ0.1 33 2 = nI U.length ∧ BkM (siW τ0 33 2 (nI (U.length + 1))) n g ∧ PastM (siW τ0 33 2 (nI (U.length + 1))) ((n, g) :: U) ∧ mOff [35] [2] τ (siW τ0 33 2 (nI (U.length + 1))) := by
  obtain ⟨τ1, e1, e2, e3⟩ := mcopy_loop hU (τ.1 35) 73 0 FU τ (by omega) (by unfold FU; omega) hP.1 (fun k => by rw [if_neg (by omega)])
  rw [nI_0] at e1
  have h33 : τ1.1 33 2 = nI U.length := by rw [(e3.2 2 (by simp)).1]; exact hP.1
  have om : mOff [35] [2] τ (siW τ1 33 2 (nI (U.length + 1))) := (e3.mono (by simp) (by simp)).trans (mOff_si (by simp))
  refine ⟨τ1, e1, h33, hB.of om (by decide), ⟨?_, fun j q hq => ?_⟩, om⟩
  · rw [siW_s, if_pos rfl, List.length_cons]
  · have h35 : (siW τ1 33 2 (nI (U.length + 1))).1 35 = τ1.1 35 := by funext k; rw [siW_n (by decide)]
    rw [h35, List.length_cons]
    cases j with
    | zero =>
      cases hq
      rw [show U.length + 1 - 1 - 0 = U.length by omega]
      refine ⟨?_, fun i hi k hk => ?_⟩
      · rw [e2, if_pos (by omega), Nat.sub_self]; exact hB.1
      · have hi' : i < n := hi
        rw [e2, if_pos (by omega), show 73 * U.length + (1 + 6 * i + k) - 73 * U.length = 1 + 6 * i + k by omega]; exact hB.2 i hi k hk
    | succ j =>
      have hq' : U[j]? = some q := by simpa using hq
      have hj : j < U.length := (List.getElem?_eq_some_iff.mp hq').1
      obtain ⟨a, b⟩ := hP.2 j q hq'
      have hq12 := hO q (List.mem_of_getElem? hq')
      rw [show U.length + 1 - 1 - (j + 1) = U.length - 1 - j by omega]
      refine ⟨?_, fun i hi k hk => ?_⟩
      · rw [e2, if_neg (by omega)]; exact a
      · rw [e2, if_neg (by omega)]; exact b i hi k hk
theorem mkeep_spec {τ : sT} {n : Nat} {g : gT} {U : List (Nat × gT)} (hB : BkM τ n g) (hn : n ≤ 12) (hP : PastM τ U) (hO : ∀ q ∈ U, q.1 ≤ 12) (hU : U.length ≤ 6) :
    ∃ τ1, fMM_keep τ = some τ1 ∧ BkM τ1 n g ∧ PastM τ1 (((n, g) :: U).take 6) ∧ mOff [35] [2] τ τ1 := by
  by_cases h6 : U.length = 6
  · obtain ⟨τ1, e1, e2, e3⟩ := mshift_loop (τ.1 35) 365 0 FU τ (by omega) (by unfold FU; omega) (fun k => by rw [if_neg (by omega)])
    rw [nI_0] at e1
    have h33 : τ1.1 33 2 = nI (5 + 1) := by rw [(e3.2 2 (by simp)).1, hP.1, h6]
    have om : mOff [35] [2] τ (siW τ1 33 2 (nI 5)) := (e3.mono (by simp) (by simp)).trans (mOff_si (by simp))
    have hP1 : PastM (siW τ1 33 2 (nI 5)) (U.take 5) := by
      refine ⟨by rw [siW_s, if_pos rfl, List.length_take, h6]; rfl, fun j q hq => ?_⟩
      have h35 : (siW τ1 33 2 (nI 5)).1 35 = τ1.1 35 := by funext k; rw [siW_n (by decide)]
      rw [h35, List.length_take, h6]
      rw [List.getElem?_take] at hq
      by_cases hj : j < 5
      · rw [if_pos hj] at hq
        obtain ⟨a, b⟩ := hP.2 j q hq
        have hq12 := hO q (List.mem_of_getElem? hq)
        rw [h6] at a b
        rw [show min 5 6 - 1 - j = 4 - j by omega]
        refine ⟨?_, fun i hi k hk => ?_⟩
        · rw [e2, if_pos (by omega), show 73 * (4 - j) + 73 = 73 * (6 - 1 - j) by omega]; exact a
        · rw [e2, if_pos (by omega), show 73 * (4 - j) + (1 + 6 * i + k) + 73 = 73 * (6 - 1 - j) + (1 + 6 * i + k) by omega]; exact b i hi k hk
      · rw [if_neg hj] at hq; cases hq
    have h5 : (U.take 5).length = 5 := by rw [List.length_take]; omega
    obtain ⟨τ2, f1, f0, f2, f3, f4⟩ := mK_spec (hB.of om (by decide)) hn hP1 (fun q hq => hO q (List.mem_of_mem_take hq)) (by omega)
    rw [h5] at f0 f2 f3 f4
    refine ⟨_, ?_, f2, f3, om.trans f4⟩
    unfold fMM_keep
    rw [dlt_u, hP.1, if_pos (by rw [h6]; rfl), dlt_u, e1, h33, nI_pred, dlt_u]
    dsimp only
    rw [dlt_u, f1, f0, dlt_u, nI_1]
  · obtain ⟨τ2, f1, f0, f2, f3, f4⟩ := mK_spec hB hn hP hO (by omega)
    rw [List.take_of_length_le (by rw [List.length_cons]; omega)]
    refine ⟨_, ?_, f2, f3, f4⟩
    unfold fMM_keep
    rw [dlt_u, hP.1, if_neg (fun z => h6 ((nI_eq (by omega) (by omega)).mp (z.trans (show (6 : Int32) = nI 6 from rfl))))]
    dsimp only
    rw [dlt_u, f1, f0, dlt_u, nI_1]
theorem mback_loop {s : Nat} (hs : s ≤ 5) (F : Nat → Int32) : ∀ (c i f : Nat) (σ : sT), i + c = 73 → c < f → σ.1 33 2 = nI s → (∀ k, σ.1 34 k = if k < i then σ.1 35 (73 * s + k) else F k) →
    ∃ σ1, fMM_back_L26 f (nI i) σ = some (nI s, σ1) ∧ (∀ k, σ1.1 34 k = if k < 73 then σ.1 35 (73 * s + k) else F k) ∧ mOff [34] [] σ σ1 := by
  intro c
  induction c with
  | zero =>
    intro i f σ h1 h2 h3 hF
    obtain ⟨f', rfl⟩ : ∃ f', f = f' + 1 := ⟨f - 1, by omega⟩
    unfold fMM_back_L26
    rw [show (73 : Int32) = nI 73 from rfl, if_pos (nI_le (by omega) (by omega)), h3]
    obtain rfl : i = 73 := by omega
    exact ⟨σ, rfl, hF, mOff.refl _ _ _⟩
  | succ c ih =>
    intro i f σ h1 h2 h3 hF
    obtain ⟨f', rfl⟩ : ∃ f', f = f' + 1 := ⟨f - 1, by omega⟩
    unfold fMM_back_L26
    rw [h3, n73, show (73 : Int32) = nI 73 from rfl, if_neg (nI_ge (by omega) (by omega)), na, dck_t (okI_n (by omega) (by omega)), dck_t (okI_n (by omega) (by omega)), nc (by omega), nc (by omega), dlt_u, nI_1]
    have h35 : (siW σ 34 i (σ.1 35 (73 * s + i))).1 35 = σ.1 35 := by funext k; rw [siW_n (by decide)]
    obtain ⟨σ1, e1, e2, e3⟩ := ih (i + 1) f' (siW σ 34 i (σ.1 35 (73 * s + i))) (by omega) (by omega) (by rw [siW_n (by decide)]; exact h3) (fun k => by
      rw [siW_s, h35]
      by_cases hk : k = i
      · subst hk
        rw [if_pos rfl, if_pos (by omega)]
      · rw [if_neg hk, hF]
        by_cases hl : k < i
        · rw [if_pos hl, if_pos (by omega)]
        · rw [if_neg hl, if_neg (by omega)])
    rw [h35] at e2
    exact ⟨σ1, e1, e2, (mOff_ci (by simp) (by decide)).trans e3⟩
theorem do_back : op_back Inv := by
  intro σ τ hI _
  obtain ⟨n, g, U, T, h⟩ := id hI
  obtain ⟨a1, a2, a3, a4, a5, a6, a7, a8, a9, a10⟩ := id h
  have hu := a4.2
  have hc5 : σ.1 1 5 = nI U.length := by obtain ⟨nx, -, -, z, -⟩ := a5; exact z
  unfold fRM_back fMM_back
  rw [hc5, a6.1]
  cases U with
  | nil =>
    obtain ⟨σ1, τ1, e1, e2, e3⟩ := ref_N hI
    rw [if_neg (by decide), if_pos (by decide), db2_t e1, db2_t e2]
    exact ⟨_, _, _, rfl, rfl, e3⟩
  | cons q U =>
    rw [List.length_cons] at hu hc5 ⊢
    have hq := a4.1 q List.mem_cons_self
    obtain ⟨σ1, e1, e2, e3, e4⟩ := restore_spec a5 hq.1 (by omega)
    have hm1 : (siW τ 33 2 (nI U.length)).1 35 = τ.1 35 := by funext k; rw [siW_n (by decide)]
    have hm2 : (siW τ 33 2 (nI U.length)).1 34 = τ.1 34 := by funext k; rw [siW_n (by decide)]
    obtain ⟨τ1, f1, f2, f3⟩ := mback_loop (s := U.length) (by omega) (τ.1 34) 73 0 FU (siW τ 33 2 (nI U.length)) (by omega) (by unfold FU; omega) (by rw [siW_s, if_pos rfl]) (fun k => by rw [if_neg (by omega), hm2])
    rw [nI_0] at f1
    rw [hm1] at f2
    have om : mOff [34] [2] τ τ1 := (mOff_si (by simp)).trans (f3.mono (by simp) (by simp))
    obtain ⟨m1, m2⟩ := a6.2 0 q rfl
    rw [List.length_cons, show U.length + 1 - 1 - 0 = U.length by omega] at m1 m2
    have hs1 : σ1.1 1 5 = nI U.length := by obtain ⟨nx, -, -, z, -⟩ := e3; exact z
    rw [if_pos (show (0 : Int32) < nI (U.length + 1) from nI_lt (a := 0) (by omega) (by omega)), if_neg (nI_ne0 (by omega) (by omega)), db1_t e1, dlt_u, nI_pred, f1, hs1]
    refine ⟨_, _, _, rfl, rfl, q.1, q.2, U, T, hq, e2, ⟨?_, fun i hi k hk => ?_⟩, ⟨fun p hp => a4.1 p (List.mem_cons_of_mem _ hp), by omega⟩, e3, ⟨?_, fun j p hp => ?_⟩, a7.of e4 (by decide) (by decide), a8.of om (by decide) (by decide), a9, a10.of e4 om (by decide) (by decide)⟩
    · rw [f2, if_pos (by omega), Nat.add_zero]; exact m1
    · have hq12 := hq.1
      rw [f2, if_pos (by omega)]; exact m2 i hi k hk
    · rw [(f3.2 2 (by simp)).1, siW_s, if_pos rfl]
    · have hj : j < U.length := (List.getElem?_eq_some_iff.mp hp).1
      obtain ⟨x, y⟩ := a6.2 (j + 1) p (by simpa using hp)
      rw [List.length_cons, show U.length + 1 - 1 - (j + 1) = U.length - 1 - j by omega] at x y
      rw [(om.1 35 (by decide) (by decide)).1]
      exact ⟨x, y⟩
