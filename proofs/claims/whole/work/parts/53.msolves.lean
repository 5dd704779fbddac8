/-! the model's solves -/
theorem np_mem {L : List rT} {k : Nat} {e : rT} : e ∈ Efrom (fNP L k) L 0 ↔ (e ∈ L ∧ rco e k = 0) ∨ ∃ r ∈ L, ∃ s ∈ L, 0 < rco r k ∧ rco s k < 0 ∧ e = comb (-(rco s k)) r (rco r k) s := by
  rw [Efrom_mem]
  constructor
  · rintro ⟨j, r, hr, h⟩
    have hm := List.mem_of_getElem? hr
    unfold fNP at h
    by_cases z : rco r k = 0
    · rw [if_pos z, comb_self] at h; rw [List.mem_singleton.mp h]; exact Or.inl ⟨hm, z⟩
    · rw [if_neg z] at h
      split at h
      · rename_i hp
        unfold negs at h
        obtain ⟨s, hs, rfl⟩ := List.mem_map.mp h
        obtain ⟨hs, h2⟩ := List.mem_filter.mp hs
        exact Or.inr ⟨r, hm, s, hs, hp, of_decide_eq_true h2, rfl⟩
      · simp at h
  · rintro (⟨hm, z⟩ | ⟨r, hm, s, hs, h1, h2, rfl⟩)
    · obtain ⟨j, hj⟩ := List.getElem?_of_mem hm
      exact ⟨j, e, hj, by unfold fNP; rw [if_pos z, comb_self]; simp⟩
    · obtain ⟨j, hj⟩ := List.getElem?_of_mem hm
      refine ⟨j, r, hj, ?_⟩
      unfold fNP
      rw [if_neg (by omega), if_pos h1]
      unfold negs
      exact List.mem_map.mpr ⟨s, List.mem_filter.mpr ⟨hs, by simpa using h2⟩, rfl⟩
theorem np_sem {L : List rT} {k : Nat} (hk : k < 3) (hkind : ∀ r ∈ L, rk r ≤ 1) (p : pT) : (∀ r ∈ Efrom (fNP L k) L 0, hol p r) ↔ ∃ t, ∀ r ∈ L, hol (updp p k t) r := by
  rw [fm_pairs L hk (fun r hr => Or.inl (hkind r hr)) p]
  constructor
  · intro h
    exact ⟨fun r hr z => h r (np_mem.mpr (Or.inl ⟨hr, z⟩)), fun r hr s hs h1 h2 => h _ (np_mem.mpr (Or.inr ⟨r, hr, s, hs, h1, h2, rfl⟩))⟩
  · rintro ⟨h1, h2⟩ e he
    rcases np_mem.mp he with ⟨a, b⟩ | ⟨r, hr, s, hs, a, b, rfl⟩
    · exact h1 e a b
    · exact h2 r hr s hs a b
theorem np_kind {L : List rT} {k : Nat} (hkind : ∀ r ∈ L, rk r ≤ 1) : ∀ e ∈ Efrom (fNP L k) L 0, rk e ≤ 1 := by
  intro e he
  rcases np_mem.mp he with ⟨a, b⟩ | ⟨r, hr, s, hs, a, b, rfl⟩
  · exact hkind e a
  · rw [rk_comb]; have := hkind r hr; omega
theorem np_zero {L : List rT} {k : Nat} : ∀ e ∈ Efrom (fNP L k) L 0, rco e k = 0 ∧ ∀ j, (∀ r ∈ L, rco r j = 0) → rco e j = 0 := by
  intro e he
  rcases np_mem.mp he with ⟨a, b⟩ | ⟨r, hr, s, hs, a, b, rfl⟩
  · exact ⟨b, fun j h => h e a⟩
  · refine ⟨by rw [rco_comb]; grind, fun j h => ?_⟩
    rw [rco_comb, h r hr, h s hs]; simp
theorem np_B {L : List rT} {k : Nat} {A D A1 D1 : Int} (hA : 1 ≤ A) (hD : 0 ≤ D) (hB : ∀ r ∈ L, rB A D r) (g : grow L k A D A1 D1) : ∀ e ∈ Efrom (fNP L k) L 0, rB A1 D1 e := by
  have hAA : A ≤ 2 * A * A := by have := Int.mul_le_mul_of_nonneg_left hA (show 0 ≤ 2 * A by omega); grind
  have hAD : D ≤ 2 * A * D := by have := Int.mul_le_mul_of_nonneg_right hA hD; grind
  intro e he
  rcases g with ⟨h, rfl, rfl⟩ | ⟨rfl, rfl⟩
  · rcases np_mem.mp he with ⟨a, b⟩ | ⟨r, hr, s, hs, a, b, rfl⟩
    · exact hB e a
    · rw [h r hr] at a; omega
  · rcases np_mem.mp he with ⟨a, b⟩ | ⟨r, hr, s, hs, a, b, rfl⟩
    · exact rB_mono (hB e a) hAA hAD
    · exact comb_B (hB r hr) (hB s hs) (by have := rB_co (hB s hs) k; omega) (rB_co (hB r hr) k)
def mtk (t : Nat) (s : mT) (r : rT) : mT := mSt s (rco r t) (rd r) (rk r)
theorem mtk_B {A D : Int} {t : Nat} {s : mT} (h1 : enB A D s.2.1) (h2 : enB A D s.2.2) {r : rT} (hr : rB A D r) : enB A D (mtk t s r).2.1 ∧ enB A D (mtk t s r).2.2 := by
  unfold mtk mSt
  by_cases z : rco r t = 0
  · rw [if_pos z]; exact ⟨h1, h2⟩
  · rw [if_neg z]; exact takU_B h1 h2 z (rB_co hr t) hr.2.2.2.1
theorem mt_fold {A D : Int} (hA : A < 140737488355328) (hD : D ≤ big) {t : Nat} : ∀ (E : List rT) (s : mT), enB A D s.2.1 → enB A D s.2.2 → (∀ r ∈ E, rB A D r ∧ rk r ≤ 1) → enB A D (E.foldl (mtk t) s).2.1 ∧ enB A D (E.foldl (mtk t) s).2.2 ∧ ∀ x, ((E.foldl (mtk t) s).1 = true ∧ ivS (E.foldl (mtk t) s).2 x) ↔ (s.1 = true ∧ ivS s.2 x) ∧ ∀ r ∈ E, relk (rk r) ((rco r t : Rat) * x) (rd r : Rat)
  | [], s, h1, h2, _ => ⟨h1, h2, fun x => by simp⟩
  | r :: E, s, h1, h2, hr => by
    have hr0 := hr r List.mem_cons_self
    have hB := mtk_B (t := t) h1 h2 hr0.1
    obtain ⟨a, b, c⟩ := mt_fold hA hD E (mtk t s r) hB.1 hB.2 (fun q hq => hr q (List.mem_cons_of_mem _ hq))
    refine ⟨a, b, fun x => ?_⟩
    rw [List.foldl_cons, c x, List.forall_mem_cons, ← and_assoc]
    refine and_congr ?_ Iff.rfl
    unfold mtk mSt
    by_cases z : rco r t = 0
    · rw [if_pos z, z]
      have : relk (rk r) (((0 : Int) : Rat) * x) (rd r : Rat) ↔ h0 (0, 0, 0, rd r, rk r) = true := by
        have hh := hol_z3 (r := (0, 0, 0, rd r, rk r)) (by rfl) (fun _ => x)
        rw [← hh]
        unfold hol
        have e1 : lin (0, 0, 0, rd r, rk r) (fun _ => x) = ((0 : Int) : Rat) * x := by unfold lin; grind
        rw [e1]
        exact Iff.rfl
      rw [this, Bool.and_eq_true]
      constructor
      · rintro ⟨⟨a, b⟩, c⟩; exact ⟨⟨a, c⟩, b⟩
      · rintro ⟨⟨a, c⟩, b⟩; exact ⟨⟨a, b⟩, c⟩
    · rw [if_neg z]
      dsimp only
      rw [takU_S (k := rk r) (d := rd r) (enB_ok h1 hA hD) (enB_ok h2 hA hD) z (by omega) x, and_assoc]
set_option maxHeartbeats 4000000 in
theorem solve_in {t u : Nat} {S : List rT} (hlen : S.length ≤ 200) (hj : ∀ r ∈ S, J4 r ∧ rk r ≤ 1) {A D : Int} (hAD : 2 * A * D ≤ big) (hA : A ≤ big) (hD : D ≤ big) {i : Nat} {r : rT} (hr : S[i]? = some r) (hp : 0 < rco r u) (K : sT → Option sT) :
    ∀ (n j : Nat) (σ : sT) (s : mT), S.length - j < n → j ≤ S.length → StAt σ t u S → MAt σ s → enB A D s.2.1 → enB A D s.2.2 → (∀ q ∈ negs u r (S.drop j), rB A D q) →
      ∃ σ1, fMM_solves_L106 (nI (4 * i)) K n (nI j) σ = K σ1 ∧ MAt σ1 ((negs u r (S.drop j)).foldl (mtk t) s) ∧ enB A D ((negs u r (S.drop j)).foldl (mtk t) s).2.1 ∧ enB A D ((negs u r (S.drop j)).foldl (mtk t) s).2.2 ∧ mOff [] [8, 9, 10, 11, 12, 13, 14] σ σ1 := by
  have hi := (List.getElem?_eq_some_iff.mp hr).1
  have hjr := hj r (List.mem_of_getElem? hr)
  intro n
  induction n with
  | zero => intro j σ S h; omega
  | succ n ih =>
    intro j σ s hn hjl hS hM h1 h2 hB
    unfold fMM_solves_L106
    rw [hS.1]
    by_cases hlt : j < S.length
    · obtain ⟨q, hs⟩ := get_lt hlt
      have hjs := hj q (List.mem_of_getElem? hs)
      obtain ⟨a1, a2, a3, a4⟩ := hS.2 i r hr
      obtain ⟨b1, b2, b3, b4⟩ := hS.2 j q hs
      rw [drop_cons hs, negs_cons] at hB ⊢
      simp only [show (1 : Int32) = nI 1 from rfl, show (2 : Int32) = nI 2 from rfl, show (3 : Int32) = nI 3 from rfl, na]
      rw [if_neg (nI_ge hlt (by omega)), dck_t (okI_n (by omega) (by omega)), nc (by omega), a2, if_neg (fun z => by have := (cmp_le0 (hjr.1.co u)).mp z; omega), dlt_u, n4', na, dck_t (okI_n (by omega) (by omega)), nc (by omega), b2]
      by_cases hneg : rco q u < 0
      · rw [if_pos hneg] at hB ⊢
        rw [if_neg (fun z => by have := (cmp_ge0 (hjs.1.co u)).mp z; omega)]
        simp only [na]
        simp (disch := omega) only [okI_n, dck_tt, nc, dlt_u]
        rw [a1, a3, a4, b1, b3, b4]
        simp only [jI_neg, jI_mul]
        have hBq := hB _ (List.mem_append_left _ (List.mem_singleton.mpr rfl))
        have hkq : rk (comb (-(rco q u)) r (rco r u) q) ≤ 1 := by rw [rk_comb]; have := hjr.2; omega
        have STEP : ∀ x : Int32, x = b01 (decide (rk (comb (-(rco q u)) r (rco r u) q) = 0)) → ∃ σ1, (db1 (fMM_takes (jI (-rco q u * rco r t) + jI (rco r u * rco q t)) (jI (-rco q u * rd r) + jI (rco r u * rd q)) x σ) fun σ58 =>
            fMM_solves_L106 (nI (4 * i)) K n (nI (j + 1)) σ58) = K σ1 ∧ MAt σ1 (([comb (-(rco q u)) r (rco r u) q] ++ negs u r (S.drop (j + 1))).foldl (mtk t) s) ∧ enB A D (([comb (-(rco q u)) r (rco r u) q] ++ negs u r (S.drop (j + 1))).foldl (mtk t) s).2.1 ∧ enB A D (([comb (-(rco q u)) r (rco r u) q] ++ negs u r (S.drop (j + 1))).foldl (mtk t) s).2.2 ∧ mOff [] [8, 9, 10, 11, 12, 13, 14] σ σ1 := by
          intro x hx
          rw [jI_add, jI_add]
          have hc := rB_co hBq t
          have hd : -D ≤ rd (comb (-(rco q u)) r (rco r u) q) ∧ rd (comb (-(rco q u)) r (rco r u) q) ≤ D := hBq.2.2.2.1
          obtain ⟨σ1, e1, e2, e3⟩ := takes_spec hAD hA hD hM h1 h2 hc hd hkq hx
          rw [rco_comb] at e1
          rw [show rd (comb (-(rco q u)) r (rco r u) q) = -rco q u * rd r + rco r u * rd q from rfl] at e1
          rw [db1_t e1]
          have hBm := mtk_B (t := t) h1 h2 hBq
          obtain ⟨σ2, f1, f2, f3, f4, f5⟩ := ih (j + 1) σ1 _ (by omega) (by omega) (hS.of e3 (by decide) (by decide)) e2 hBm.1 hBm.2 (fun q hq => hB q (List.mem_append_right _ hq))
          exact ⟨σ2, f1, f2, f3, f4, e3.trans f5⟩
        by_cases hkk : rk r = 1 ∧ rk q = 1
        · rw [if_pos ((less_add hjr.2 hjs.2).mpr hkk)]
          exact STEP 0 (by rw [rk_comb, hkk.1, hkk.2]; rfl)
        · rw [if_neg (fun z => hkk ((less_add hjr.2 hjs.2).mp z))]
          exact STEP 1 (by
            have h1 := hjr.2
            have h2 := hjs.2
            rw [rk_comb, show min (rk r) (rk q) = 0 by omega]; rfl)
      · rw [if_neg hneg] at hB ⊢
        rw [if_pos ((cmp_ge0 (hjs.1.co u)).mpr (by omega))]
        obtain ⟨σ2, f1, f2, f3, f4, f5⟩ := ih (j + 1) σ s (by omega) (by omega) hS hM h1 h2 (fun q hq => hB q (List.mem_append_right _ hq))
        exact ⟨σ2, f1, by simpa using f2, by simpa using f3, by simpa using f4, f5⟩
    · have : j = S.length := by omega
      subst this
      rw [if_pos (nI_le (Nat.le_refl _) (by omega))]
      rw [List.drop_length]
      exact ⟨σ, rfl, hM, h1, h2, mOff.refl _ _ _⟩
theorem solve_out0 {t u i : Nat} {S : List rT} (hlen : S.length ≤ 200) (hj : ∀ r ∈ S, J4 r ∧ rk r ≤ 1) {r : rT} (hr : S[i]? = some r) (hp : ¬ 0 < rco r u) (K : sT → Option sT) (n : Nat) {σ : sT} (hS : StAt σ t u S) : fMM_solves_L106 (nI (4 * i)) K (n + 1) (nI 0) σ = K σ := by
  have hi := (List.getElem?_eq_some_iff.mp hr).1
  have hjr := hj r (List.mem_of_getElem? hr)
  unfold fMM_solves_L106
  rw [hS.1, if_neg (nI_ge (by omega) (by omega)), show (1 : Int32) = nI 1 from rfl, na, dck_t (okI_n (by omega) (by omega)), nc (by omega), (hS.2 i r hr).2.1, if_pos ((cmp_le0 (hjr.1.co u)).mpr (by omega))]
set_option maxHeartbeats 4000000 in
theorem solve_out {t u : Nat} {S : List rT} (hlen : S.length ≤ 200) (hj : ∀ r ∈ S, J4 r ∧ rk r ≤ 1) {A D : Int} (hAD : 2 * A * D ≤ big) (hA : A ≤ big) (hD : D ≤ big) (K : sT → Option sT) :
    ∀ (n i : Nat) (σ : sT) (s : mT), S.length - i < n → i ≤ S.length → StAt σ t u S → MAt σ s → enB A D s.2.1 → enB A D s.2.2 → (∀ q ∈ Efrom (fNP S u) (S.drop i) i, rB A D q) →
      ∃ σ1, fMM_solves_L42 K n (nI i) σ = K σ1 ∧ MAt σ1 ((Efrom (fNP S u) (S.drop i) i).foldl (mtk t) s) ∧ mOff [] [8, 9, 10, 11, 12, 13, 14] σ σ1 := by
  have FU1 : FU = 999 + 1 := rfl
  intro n
  induction n with
  | zero => intro i σ S h; omega
  | succ n ih =>
    intro i σ s hn hil hS hM h1 h2 hB
    unfold fMM_solves_L42
    rw [hS.1]
    by_cases hlt : i < S.length
    · obtain ⟨r, hr⟩ := get_lt hlt
      have hjr := hj r (List.mem_of_getElem? hr)
      obtain ⟨a1, a2, a3, a4⟩ := hS.2 i r hr
      rw [drop_cons hr] at hB ⊢
      simp only [Efrom] at hB ⊢
      rw [List.foldl_append]
      rw [if_neg (nI_ge hlt (by omega)), dlt_u, n4', show (1 : Int32) = nI 1 from rfl, na, na, dck_t (okI_n (by omega) (by omega)), nc (by omega), a2, dlt_u]
      by_cases z : rco r u = 0
      · rw [if_pos ((cmp_eq0 (hjr.1.co u)).mpr z)]
        have hf : fNP S u i r = [r] := by unfold fNP; rw [if_pos z, comb_self]
        rw [hf] at hB ⊢
        simp only [show (2 : Int32) = nI 2 from rfl, show (3 : Int32) = nI 3 from rfl, na]
        simp (disch := omega) only [okI_n, dck_tt, nc, dlt_u]
        rw [a1, a3, a4]
        have hBr := hB r (List.mem_append_left _ (List.mem_singleton.mpr rfl))
        have STEP : ∀ x : Int32, x = b01 (decide (rk r = 0)) → ∃ σ1, (db1 (fMM_takes (jI (rco r t)) (jI (rd r)) x σ) fun σ69 =>
            fMM_solves_L106 (nI (4 * i)) (fun (σ34 : sT) => fMM_solves_L42 K n (nI (i + 1)) σ34) FU (0 : Int32) σ69) = K σ1 ∧ MAt σ1 ((Efrom (fNP S u) (S.drop (i + 1)) (i + 1)).foldl (mtk t) ([r].foldl (mtk t) s)) ∧ mOff [] [8, 9, 10, 11, 12, 13, 14] σ σ1 := by
          intro x hx
          obtain ⟨σ1, e1, e2, e3⟩ := takes_spec hAD hA hD hM h1 h2 (rB_co hBr t) (show -D ≤ rd r ∧ rd r ≤ D from hBr.2.2.2.1) hjr.2 hx
          have hBm := mtk_B (t := t) h1 h2 hBr
          rw [db1_t e1, show (0 : Int32) = nI 0 from rfl, FU1, solve_out0 hlen hj hr (by omega) _ _ (hS.of e3 (by decide) (by decide))]
          obtain ⟨σ2, f1, f2, f3⟩ := ih (i + 1) σ1 _ (by omega) (by omega) (hS.of e3 (by decide) (by decide)) e2 hBm.1 hBm.2 (fun q hq => hB q (List.mem_append_right _ hq))
          exact ⟨σ2, f1, f2, e3.trans f3⟩
        by_cases hkk : rk r = 0
        · have hc : lg_cmp (jI (less r)) (1 : Int64) = 0 := by rw [j1, cmp_eq (inJ_less r) (by unfold inJ; omega)]; unfold less; rw [if_pos hkk]
          rw [if_pos hc]
          exact STEP 1 (by rw [hkk]; rfl)
        · have hc : ¬ lg_cmp (jI (less r)) (1 : Int64) = 0 := by rw [j1, cmp_eq (inJ_less r) (by unfold inJ; omega)]; unfold less; rw [if_neg hkk]; decide
          rw [if_neg hc]
          exact STEP 0 (by simp [hkk, b01])
      · rw [if_neg (fun y => z ((cmp_eq0 (hjr.1.co u)).mp y))]
        simp only [dlt_u]
        by_cases hp : 0 < rco r u
        · have hf : fNP S u i r = negs u r S := by unfold fNP; rw [if_neg z, if_pos hp]
          rw [hf] at hB ⊢
          obtain ⟨σ1, e1, e2, e4, e5, e3⟩ := solve_in hlen hj hAD hA hD hr hp (fun (σ34 : sT) => fMM_solves_L42 K n (nI (i + 1)) σ34) FU 0 σ s (by unfold FU; omega) (by omega) hS hM h1 h2 (by rw [List.drop_zero]; exact fun q hq => hB q (List.mem_append_left _ hq))
          rw [List.drop_zero] at e2 e4 e5
          rw [show nI 0 = (0 : Int32) from rfl] at e1
          rw [e1]
          obtain ⟨σ2, f1, f2, f3⟩ := ih (i + 1) σ1 _ (by omega) (by omega) (hS.of e3 (by decide) (by decide)) e2 e4 e5 (fun q hq => hB q (List.mem_append_right _ hq))
          exact ⟨σ2, f1, f2, e3.trans f3⟩
        · have hf : fNP S u i r = [] := by unfold fNP; rw [if_neg z, if_neg hp]
          rw [hf] at hB ⊢
          rw [show (0 : Int32) = nI 0 from rfl, FU1, solve_out0 hlen hj hr hp _ _ hS]
          obtain ⟨σ2, f1, f2, f3⟩ := ih (i + 1) σ s (by omega) (by omega) hS hM h1 h2 (fun q hq => hB q (List.mem_append_right _ hq))
          exact ⟨σ2, f1, f2, f3⟩
    · have : i = S.length := by omega
      subst this
      rw [if_pos (nI_le (Nat.le_refl _) (by omega))]
      exact ⟨σ, rfl, by rw [List.drop_length]; exact hM, mOff.refl _ _ _⟩
