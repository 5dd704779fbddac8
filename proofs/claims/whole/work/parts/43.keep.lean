/-! Rows: a row kept -/
def z3 (r : rT) : Bool := decide (r.1 = 0) && (decide (r.2.1 = 0) && decide (r.2.2.1 = 0))
def h0 (r : rT) : Bool := if rk r = 0 then decide (0 < rd r) else if rk r = 1 then decide (0 ≤ rd r) else decide (rd r = 0)
abbrev stR : Type := List rT × Bool
def keepS (st : stR) (r : rT) : stR := if z3 r = true then (st.1, st.2 || !h0 r) else (st.1 ++ [r], st.2)
def semR (st : stR) (p : pT) : Prop := st.2 = false ∧ ∀ r ∈ st.1, hol p r
theorem z3_iff {r : rT} : z3 r = true ↔ r.1 = 0 ∧ r.2.1 = 0 ∧ r.2.2.1 = 0 := by simp [z3]
theorem hol_z3 {r : rT} (h : z3 r = true) (p : pT) : hol p r ↔ h0 r = true := by
  obtain ⟨a, b, c⟩ := z3_iff.mp h
  have hl : lin r p = 0 := by unfold lin; rw [a, b, c]; grind
  unfold hol h0 relk
  rw [hl]
  split
  · simp [Rat.intCast_pos]
  · split
    · simp [Rat.intCast_nonneg]
    · constructor
      · intro e; simpa using (Rat.intCast_inj (a := 0)).mp e |>.symm
      · intro e; have := of_decide_eq_true e; rw [this]; rfl
theorem sem_keep (st : stR) (r : rT) (p : pT) : semR (keepS st r) p ↔ semR st p ∧ hol p r := by
  unfold keepS semR
  by_cases h : z3 r = true
  · rw [if_pos h, hol_z3 h p]
    cases st.2 <;> cases h0 r <;> simp
  · rw [if_neg h]
    simp only [List.mem_append, List.mem_singleton]
    constructor
    · rintro ⟨a, b⟩; exact ⟨⟨a, fun q hq => b q (Or.inl hq)⟩, b r (Or.inr rfl)⟩
    · rintro ⟨⟨a, b⟩, c⟩
      refine ⟨a, fun q hq => ?_⟩
      rcases hq with hq | rfl
      · exact b q hq
      · exact c
theorem sem_fold (E : List rT) : ∀ (st : stR) (p : pT), semR (E.foldl keepS st) p ↔ semR st p ∧ ∀ r ∈ E, hol p r := by
  induction E with
  | nil => intro st p; simp
  | cons r E ih =>
    intro st p
    rw [List.foldl_cons, ih, sem_keep, List.forall_mem_cons, and_assoc]
theorem keep_len (st : stR) (r : rT) : (keepS st r).1.length ≤ st.1.length + 1 := by
  unfold keepS; split <;> simp
theorem keep_mem {st : stR} {r q : rT} (h : q ∈ (keepS st r).1) : q ∈ st.1 ∨ q = r := by
  unfold keepS at h; split at h
  · exact Or.inl h
  · rcases List.mem_append.mp h with h | h
    · exact Or.inl h
    · exact Or.inr (List.mem_singleton.mp h)
theorem fold_mem (E : List rT) : ∀ (st : stR) {q : rT}, q ∈ (E.foldl keepS st).1 → q ∈ st.1 ∨ q ∈ E := by
  induction E with
  | nil => intro st q h; exact Or.inl h
  | cons r E ih =>
    intro st q h
    rcases ih _ h with h | h
    · rcases keep_mem h with h | h
      · exact Or.inl h
      · exact Or.inr (h ▸ List.mem_cons_self)
    · exact Or.inr (List.mem_cons_of_mem _ h)
def RowIs (σ : sT) (c kd i : Nat) (r : rT) : Prop := σ.2 c (i * 4) = jI r.1 ∧ σ.2 c (i * 4 + 1) = jI r.2.1 ∧ σ.2 c (i * 4 + 2) = jI r.2.2.1 ∧ σ.2 c (i * 4 + 3) = jI r.2.2.2.1 ∧ σ.1 kd i = nI r.2.2.2.2
def RowsAt (σ : sT) (o c kd : Nat) (st : stR) : Prop := σ.1 o 2 = nI st.1.length ∧ σ.1 o 3 = (if st.2 = true then 1 else 0) ∧ ∀ i r, st.1[i]? = some r → RowIs σ c kd i r
/-- a row's numbers are small -/
def rB (M N : Int) (r : rT) : Prop := (-M ≤ r.1 ∧ r.1 ≤ M) ∧ (-M ≤ r.2.1 ∧ r.2.1 ≤ M) ∧ (-M ≤ r.2.2.1 ∧ r.2.2.1 ≤ M) ∧ (-N ≤ r.2.2.2.1 ∧ r.2.2.2.1 ≤ N) ∧ r.2.2.2.2 ≤ 2
def big : Int := 4000000000000000000
theorem rB_j {M N : Int} {r : rT} (h : rB M N r) (hM : M ≤ big) (hN : N ≤ big) : inJ r.1 ∧ inJ r.2.1 ∧ inJ r.2.2.1 ∧ inJ r.2.2.2.1 := by
  obtain ⟨a, b, c, d, e⟩ := h
  unfold big at hM hN
  unfold inJ
  omega
theorem nI_eq0 {n : Nat} (h : n ≤ 2) : (nI n = 0) ↔ n = 0 := by
  rcases (show n = 0 ∨ n = 1 ∨ n = 2 by omega) with rfl | rfl | rfl <;> decide
theorem nI_eq1 {n : Nat} (h : n ≤ 2) : (nI n = (1 : Int32)) ↔ n = 1 := by
  rcases (show n = 0 ∨ n = 1 ∨ n = 2 by omega) with rfl | rfl | rfl <;> decide
theorem nI_eq2 {n : Nat} (h : n ≤ 2) : (nI n = (2 : Int32)) ↔ n = 2 := by
  rcases (show n = 0 ∨ n = 1 ∨ n = 2 by omega) with rfl | rfl | rfl <;> decide
set_option maxHeartbeats 4000000 in
theorem keep_spec {o c kd N4 N : Nat} (h1 : o ≠ c) (h2 : o ≠ kd) (h3 : c ≠ kd) (h4 : N4 = N * 4) (hN : N ≤ 1000) {σ : sT} {st : stR} {r : rT} (hR : RowsAt σ o c kd st) (hlen : st.1.length < N) (hj : inJ r.1 ∧ inJ r.2.1 ∧ inJ r.2.2.1 ∧ inJ r.2.2.2.1) (hk : r.2.2.2.2 ≤ 2) :
    ∃ σ1, fRw_keep o c kd N4 N (jI r.1) (jI r.2.1) (jI r.2.2.1) (jI r.2.2.2.1) (nI r.2.2.2.2) σ = some σ1 ∧ RowsAt σ1 o c kd (keepS st r) ∧ offC [o, c, kd] σ σ1 := by
  subst h4
  obtain ⟨e1, e2, e3⟩ := hR
  obtain ⟨b1, b2, b3, b4⟩ := hj
  have hz : (Int32.ofNat N) = nI N := rfl
  have KEEP : z3 r = false → ∃ σ1, (if (σ.1 o 2) < (Int32.ofNat N) then
      dlt ((σ.1 o 2) * (4 : Int32)) fun x3 =>
      dck (okI x3 (N * 4)) <|
      dlt (sjW σ c x3.toNatClampNeg (jI r.1)) fun σ5 =>
      dck (okI (x3 + (1 : Int32)) (N * 4)) <|
      dlt (sjW σ5 c (x3 + (1 : Int32)).toNatClampNeg (jI r.2.1)) fun σ7 =>
      dck (okI (x3 + (2 : Int32)) (N * 4)) <|
      dlt (sjW σ7 c (x3 + (2 : Int32)).toNatClampNeg (jI r.2.2.1)) fun σ9 =>
      dck (okI (x3 + (3 : Int32)) (N * 4)) <|
      dlt (sjW σ9 c (x3 + (3 : Int32)).toNatClampNeg (jI r.2.2.2.1)) fun σ11 =>
      dck (okI (σ11.1 o 2) N) <|
      dlt (siW σ11 kd (σ11.1 o 2).toNatClampNeg (nI r.2.2.2.2)) fun σ13 =>
      dlt (siW σ13 o 2 ((σ13.1 o 2) + (1 : Int32))) fun σ14 =>
      some σ14
    else
      some σ) = some σ1 ∧ RowsAt σ1 o c kd (keepS st r) ∧ offC [o, c, kd] σ σ1 := by
    intro hz3
    rw [e1, hz, if_pos (nI_lt hlen (by omega))]
    simp only [dlt_u, n4, show (1 : Int32) = nI 1 from rfl, show (2 : Int32) = nI 2 from rfl, show (3 : Int32) = nI 3 from rfl, na, sjW_1]
    rw [nc (by omega), nc (by omega), nc (by omega), nc (by omega), e1, nc (by omega), dck_t (okI_n (by omega) (by omega)), dck_t (okI_n (by omega) (by omega)), dck_t (okI_n (by omega) (by omega)), dck_t (okI_n (by omega) (by omega)), dck_t (okI_n (by omega) (by omega))]
    refine ⟨_, rfl, ⟨?_, ?_, ?_⟩, ?_⟩
    · rw [siW_1, if_pos rfl, if_pos rfl, siW_1, if_neg h2, sjW_1, sjW_1, sjW_1, sjW_1, e1, na]
      simp [keepS, hz3]
    · rw [siW_1, if_pos rfl, if_neg (by decide), siW_1, if_neg h2, sjW_1, sjW_1, sjW_1, sjW_1, e2]
      simp [keepS, hz3]
    · intro i q hq
      have hst : (keepS st r).1 = st.1 ++ [r] := by simp [keepS, hz3]
      rw [hst] at hq
      by_cases hi : i < st.1.length
      · rw [List.getElem?_append_left hi] at hq
        obtain ⟨f1, f2, f3, f4, f5⟩ := e3 i q hq
        refine ⟨?_, ?_, ?_, ?_, ?_⟩
        · rw [siW_2, siW_2, sjW_s, if_neg (by omega), sjW_s, if_neg (by omega), sjW_s, if_neg (by omega), sjW_s, if_neg (by omega)]; exact f1
        · rw [siW_2, siW_2, sjW_s, if_neg (by omega), sjW_s, if_neg (by omega), sjW_s, if_neg (by omega), sjW_s, if_neg (by omega)]; exact f2
        · rw [siW_2, siW_2, sjW_s, if_neg (by omega), sjW_s, if_neg (by omega), sjW_s, if_neg (by omega), sjW_s, if_neg (by omega)]; exact f3
        · rw [siW_2, siW_2, sjW_s, if_neg (by omega), sjW_s, if_neg (by omega), sjW_s, if_neg (by omega), sjW_s, if_neg (by omega)]; exact f4
        · rw [siW_1, if_neg (Ne.symm h2), siW_1, if_pos rfl, if_neg (by omega), sjW_1, sjW_1, sjW_1, sjW_1]; exact f5
      · rw [List.getElem?_append_right (by omega)] at hq
        have hz : i - st.1.length < 1 := (List.getElem?_eq_some_iff.mp hq).1
        have hi0 : i = st.1.length := by omega
        subst hi0
        rw [Nat.sub_self] at hq
        cases hq
        refine ⟨?_, ?_, ?_, ?_, ?_⟩
        · rw [siW_2, siW_2, sjW_s, if_neg (by omega), sjW_s, if_neg (by omega), sjW_s, if_neg (by omega), sjW_s, if_pos rfl]
        · rw [siW_2, siW_2, sjW_s, if_neg (by omega), sjW_s, if_neg (by omega), sjW_s, if_pos rfl]
        · rw [siW_2, siW_2, sjW_s, if_neg (by omega), sjW_s, if_pos rfl]
        · rw [siW_2, siW_2, sjW_s, if_pos rfl]
        · rw [siW_1, if_neg (Ne.symm h2), siW_1, if_pos rfl, if_pos rfl]
    · refine offC.trans ?_ (offC_si (by simp))
      refine offC.trans ?_ (offC_si (by simp))
      refine offC.trans ?_ (offC_sj (by simp))
      refine offC.trans ?_ (offC_sj (by simp))
      refine offC.trans ?_ (offC_sj (by simp))
      exact offC_sj (by simp)
  unfold fRw_keep
  rw [dlt_u]
  by_cases c1 : r.1 = 0
  · rw [if_pos ((cmp_eq0 b1).mpr c1)]
    by_cases c2 : r.2.1 = 0
    · rw [if_pos ((cmp_eq0 b2).mpr c2)]
      by_cases c3 : r.2.2.1 = 0
      · rw [if_pos ((cmp_eq0 b3).mpr c3)]
        have hz3 : z3 r = true := z3_iff.mpr ⟨c1, c2, c3⟩
        have hks : keepS st r = (st.1, st.2 || !h0 r) := by simp [keepS, hz3]
        have fin : ∀ (x : Int32) (b : Bool), x = (if b = true then 1 else 0) → b = (st.2 || !h0 r) → ∃ σ1, (dck (okZ x) <| dlt (siW σ o 3 x) fun σ23 => some σ23) = some σ1 ∧ RowsAt σ1 o c kd (keepS st r) ∧ offC [o, c, kd] σ σ1 := by
          intro x b hx hb
          rw [dck_t (by rw [hx]; cases b <;> decide), dlt_u]
          refine ⟨_, rfl, ⟨?_, ?_, ?_⟩, offC_si (by simp)⟩
          · rw [siW_1, if_pos rfl, if_neg (by decide), e1, hks]
          · rw [siW_1, if_pos rfl, if_pos rfl, hx, hks, hb]
          · intro i q hq
            rw [hks] at hq
            obtain ⟨f1, f2, f3, f4, f5⟩ := e3 i q hq
            exact ⟨f1, f2, f3, f4, by rw [siW_1, if_neg (Ne.symm h2)]; exact f5⟩
        have e2' : (σ.1 o 3 = 0) ↔ st.2 = false := by rw [e2]; cases st.2 <;> decide
        have J : ∀ (x18 : Int32), (x18 = if h0 r = true then 1 else 0) → ∃ σ1, (dlt (fun (x20 : Int32) =>
            dck (okZ x20) <|
            dlt (siW σ o 3 x20) fun σ23 =>
            some σ23) fun J21 =>
          dlt (fun (_u : Unit) =>
            J21 (1 : Int32)) fun J24 =>
          if (σ.1 o 3) = 0 then
            if x18 = 0 then
              J24 ()
            else
              J21 (0 : Int32)
          else
            J24 ()) = some σ1 ∧ RowsAt σ1 o c kd (keepS st r) ∧ offC [o, c, kd] σ σ1 := by
          intro x18 hx
          rw [dlt_u, dlt_u]
          by_cases d1 : st.2 = false
          · rw [if_pos (e2'.mpr d1)]
            by_cases d2 : h0 r = true
            · rw [if_neg (by rw [hx, if_pos d2]; decide)]
              exact fin 0 false rfl (by rw [d1, d2]; rfl)
            · rw [if_pos (by rw [hx, if_neg d2])]
              exact fin 1 true rfl (by rw [d1]; simp at d2; rw [d2]; rfl)
          · rw [if_neg (fun z => d1 (e2'.mp z))]
            exact fin 1 true rfl (by simp at d1; rw [d1]; rfl)
        rw [dlt_u]
        by_cases k0 : r.2.2.2.2 = 0
        · rw [if_pos ((nI_eq0 hk).mpr k0)]
          by_cases c4 : r.2.2.2.1 ≤ 0
          · rw [if_pos ((cmp_le0 b4).mpr c4)]
            exact J 0 (by rw [if_neg (by unfold h0 rk rd; rw [k0]; simp; omega)])
          · rw [if_neg (fun z => c4 ((cmp_le0 b4).mp z))]
            exact J 1 (by rw [if_pos (by unfold h0 rk rd; rw [k0]; simp; omega)])
        · rw [if_neg (fun z => k0 ((nI_eq0 hk).mp z))]
          by_cases k1 : r.2.2.2.2 = 1
          · rw [if_pos ((nI_eq1 hk).mpr k1)]
            by_cases c4 : r.2.2.2.1 < 0
            · rw [if_pos ((cmp_lt0 b4).mpr c4)]
              exact J 0 (by rw [if_neg (by unfold h0 rk rd; rw [k1]; simp; omega)])
            · rw [if_neg (fun z => c4 ((cmp_lt0 b4).mp z))]
              exact J 1 (by rw [if_pos (by unfold h0 rk rd; rw [k1]; simp; omega)])
          · rw [if_neg (fun z => k1 ((nI_eq1 hk).mp z))]
            by_cases c4 : r.2.2.2.1 = 0
            · rw [if_pos ((cmp_eq0 b4).mpr c4)]
              exact J 1 (by simp [h0, rk, rd, k0, k1, c4])
            · rw [if_neg (fun z => c4 ((cmp_eq0 b4).mp z))]
              exact J 0 (by simp [h0, rk, rd, k0, k1, c4])
      · rw [if_neg (fun z => c3 ((cmp_eq0 b3).mp z))]
        exact KEEP (by simp [z3, c1, c2, c3])
    · rw [if_neg (fun z => c2 ((cmp_eq0 b2).mp z))]
      exact KEEP (by simp [z3, c2])
  · rw [if_neg (fun z => c1 ((cmp_eq0 b1).mp z))]
    exact KEEP (by simp [z3, c1])
