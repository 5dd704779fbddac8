/-! the model's rows: laid, and the stage behind one variable -/
def mOff (C F : List Nat) (σ σ1 : sT) : Prop := (∀ q, q ∉ C → q ≠ 33 → σ1.1 q = σ.1 q ∧ σ1.2 q = σ.2 q) ∧ ∀ k, k ∉ F → σ1.1 33 k = σ.1 33 k ∧ σ1.2 33 k = σ.2 33 k
theorem mOff.refl (C F : List Nat) (σ : sT) : mOff C F σ σ := ⟨fun _ _ _ => ⟨rfl, rfl⟩, fun _ _ => ⟨rfl, rfl⟩⟩
theorem mOff.trans {C F : List Nat} {a b c : sT} (h1 : mOff C F a b) (h2 : mOff C F b c) : mOff C F a c := ⟨fun q hq hn => ⟨(h2.1 q hq hn).1.trans (h1.1 q hq hn).1, (h2.1 q hq hn).2.trans (h1.1 q hq hn).2⟩, fun k hk => ⟨(h2.2 k hk).1.trans (h1.2 k hk).1, (h2.2 k hk).2.trans (h1.2 k hk).2⟩⟩
theorem mOff.mono {C F C' F' : List Nat} {a b : sT} (h : mOff C F a b) (h1 : ∀ q ∈ C, q ∈ C') (h2 : ∀ k ∈ F, k ∈ F') : mOff C' F' a b := ⟨fun q hq hn => h.1 q (fun z => hq (h1 q z)) hn, fun k hk => h.2 k (fun z => hk (h2 k z))⟩
theorem mOff_si {C F : List Nat} {σ : sT} {k : Nat} {v : Int32} (h : k ∈ F) : mOff C F σ (siW σ 33 k v) := by
  refine ⟨fun q _ hn => ⟨by funext j; rw [siW_1, if_neg hn], rfl⟩, fun j hj => ⟨?_, rfl⟩⟩
  rw [siW_s, if_neg (show j ≠ k from fun e => hj (e ▸ h))]
theorem mOff_sj {C F : List Nat} {σ : sT} {k : Nat} {v : Int64} (h : k ∈ F) : mOff C F σ (sjW σ 33 k v) := by
  refine ⟨fun q _ hn => ⟨rfl, by funext j; rw [sjW_2, if_neg hn]⟩, fun j hj => ⟨rfl, ?_⟩⟩
  rw [sjW_s, if_neg (show j ≠ k from fun e => hj (e ▸ h))]
theorem mOff_ci {C F : List Nat} {σ : sT} {c k : Nat} {v : Int32} (h : c ∈ C) (h3 : c ≠ 33) : mOff C F σ (siW σ c k v) :=
  ⟨fun q hq _ => ⟨by funext j; rw [siW_1, if_neg (show q ≠ c from fun e => hq (e ▸ h))], rfl⟩, fun j _ => ⟨by rw [siW_n (Ne.symm h3)], rfl⟩⟩
theorem mOff_cj {C F : List Nat} {σ : sT} {c k : Nat} {v : Int64} (h : c ∈ C) (h3 : c ≠ 33) : mOff C F σ (sjW σ c k v) :=
  ⟨fun q hq _ => ⟨rfl, by funext j; rw [sjW_2, if_neg (show q ≠ c from fun e => hq (e ▸ h))]⟩, fun j _ => ⟨rfl, by rw [sjW_n (Ne.symm h3)]⟩⟩
def less (r : rT) : Int := if rk r = 0 then 1 else 0
def LaidAt (σ : sT) (L : List rT) : Prop := σ.1 33 5 = nI L.length ∧ ∀ i r, L[i]? = some r → (∀ k, k < 3 → σ.2 37 (5 * i + k) = jI (rco r k)) ∧ σ.2 37 (5 * i + 3) = jI (rd r) ∧ σ.2 37 (5 * i + 4) = jI (less r)
def StAt (σ : sT) (t u : Nat) (L : List rT) : Prop := σ.1 33 7 = nI L.length ∧ ∀ i r, L[i]? = some r → σ.2 38 (4 * i) = jI (rco r t) ∧ σ.2 38 (4 * i + 1) = jI (rco r u) ∧ σ.2 38 (4 * i + 2) = jI (rd r) ∧ σ.2 38 (4 * i + 3) = jI (less r)
theorem LaidAt.of {C F : List Nat} {σ σ1 : sT} {L : List rT} (h : LaidAt σ L) (ho : mOff C F σ σ1) (h1 : 37 ∉ C) (h2 : 5 ∉ F) : LaidAt σ1 L := by
  refine ⟨by rw [(ho.2 5 h2).1]; exact h.1, fun i r hr => ?_⟩
  rw [(ho.1 37 h1 (by decide)).2]
  exact h.2 i r hr
theorem StAt.of {C F : List Nat} {σ σ1 : sT} {t u : Nat} {L : List rT} (h : StAt σ t u L) (ho : mOff C F σ σ1) (h1 : 38 ∉ C) (h2 : 7 ∉ F) : StAt σ1 t u L := by
  refine ⟨by rw [(ho.2 7 h2).1]; exact h.1, fun i r hr => ?_⟩
  rw [(ho.1 38 h1 (by decide)).2]
  exact h.2 i r hr
theorem n5 (i : Nat) : (5 : Int32) * nI i = nI (5 * i) := pk_mul 5 i
theorem n4' (i : Nat) : (4 : Int32) * nI i = nI (4 * i) := pk_mul 4 i
theorem dck_tt {β : Type} (k : Option β) : dck true k = k := rfl
theorem inJ_less (r : rT) : inJ (less r) := by unfold less inJ; split <;> omega
theorem stages_spec {σ : sT} {t u : Nat} {L : List rT} (h : StAt σ t u L) (hl : L.length < 200) (q : rT) {f g d : Int} {x : Int32} (h1 : rco q t = f) (h2 : rco q u = g) (h3 : rd q = d) (hx : x = b01 (decide (rk q = 0))) :
    ∃ σ1, fMM_stages (jI f) (jI g) (jI d) x σ = some σ1 ∧ StAt σ1 t u (L ++ [q]) ∧ mOff [38] [7] σ σ1 := by
  have fin : ∀ y : Int64, y = jI (less q) → ∃ σ1, (dck (okI (nI (4 * L.length + 3)) 800) <|
      dlt (sjW (sjW (sjW (sjW σ 38 (4 * L.length) (jI f)) 38 (4 * L.length + 1) (jI g)) 38 (4 * L.length + 2) (jI d)) 38 (nI (4 * L.length + 3)).toNatClampNeg y) fun σ12 =>
      dlt (siW σ12 33 7 ((σ12.1 33 7) + (1 : Int32))) fun σ13 =>
      some σ13) = some σ1 ∧ StAt σ1 t u (L ++ [q]) ∧ mOff [38] [7] σ σ1 := by
    intro y hy
    rw [dck_t (okI_n (by omega) (by omega)), nc (by omega), dlt_u, dlt_u]
    refine ⟨_, rfl, ⟨?_, fun i r hr => ?_⟩, ?_⟩
    · rw [siW_s, if_pos rfl, sjW_1, sjW_1, sjW_1, sjW_1, h.1, show (1 : Int32) = nI 1 from rfl, na]; simp
    · rw [siW_2]
      by_cases hi : i < L.length
      · rw [List.getElem?_append_left hi] at hr
        obtain ⟨a, b, c, e⟩ := h.2 i r hr
        simp (disch := omega) only [sjW_s, if_neg]
        exact ⟨a, b, c, e⟩
      · rw [List.getElem?_append_right (by omega)] at hr
        have hz : i - L.length < 1 := (List.getElem?_eq_some_iff.mp hr).1
        have hi0 : i = L.length := by omega
        subst hi0
        rw [Nat.sub_self] at hr
        cases hr
        refine ⟨?_, ?_, ?_, ?_⟩
        · simp (disch := omega) only [sjW_s, if_neg]; rw [if_pos trivial, h1]
        · simp (disch := omega) only [sjW_s, if_neg]; rw [if_pos trivial, h2]
        · simp (disch := omega) only [sjW_s, if_neg]; rw [if_pos trivial, h3]
        · rw [sjW_s, if_pos rfl, hy]
    · refine mOff.trans ?_ (mOff_si (by simp))
      refine mOff.trans ?_ (mOff_cj (by simp) (by decide))
      refine mOff.trans ?_ (mOff_cj (by simp) (by decide))
      refine mOff.trans ?_ (mOff_cj (by simp) (by decide))
      exact mOff_cj (by simp) (by decide)
  unfold fMM_stages
  simp only [dlt_u, h.1, n4', show (1 : Int32) = nI 1 from rfl, show (2 : Int32) = nI 2 from rfl, show (3 : Int32) = nI 3 from rfl, na]
  simp (disch := omega) only [okI_n, dck_tt, nc]
  by_cases k0 : rk q = 0
  · have hx1 : x = 1 := by rw [hx]; simp [k0, b01]
    rw [hx1, if_neg (by decide)]
    have := fin 1 (by unfold less; rw [if_pos k0]; rfl)
    simpa only [dlt_u, show (1 : Int32) = nI 1 from rfl, okI_n (show 4 * L.length + 3 < 800 by omega) (by omega), dck_tt, nc (show 4 * L.length + 3 < 2147483648 by omega)] using this
  · have hx1 : x = 0 := by rw [hx]; simp [k0, b01]
    rw [hx1, if_pos rfl]
    have := fin 0 (by unfold less; rw [if_neg k0]; rfl)
    simpa only [dlt_u, show (1 : Int32) = nI 1 from rfl, okI_n (show 4 * L.length + 3 < 800 by omega) (by omega), dck_tt, nc (show 4 * L.length + 3 < 2147483648 by omega)] using this
theorem less_add {r s : rT} (hr : rk r ≤ 1) (hs : rk s ≤ 1) : (lg_cmp (jI (less r) + jI (less s)) (0 : Int64) ≤ 0) ↔ rk r = 1 ∧ rk s = 1 := by
  rw [jI_add, cmp_le0 (by unfold less inJ; split <;> split <;> omega)]
  unfold less; split <;> split <;> omega
set_option maxHeartbeats 4000000 in
theorem lose_in {t u k : Nat} (ht : t < 3) (hu : u < 3) (hk : k < 3) {L : List rT} (hlen : L.length ≤ 26) (hj : ∀ r ∈ L, J4 r ∧ rk r ≤ 1) {i : Nat} {r : rT} (hr : L[i]? = some r) (hp : 0 < rco r k) (K : sT → Option sT) :
    ∀ (n j : Nat) (σ : sT) (S : List rT), L.length - j < n → j ≤ L.length → LaidAt σ L → StAt σ t u S → S.length + (negs k r (L.drop j)).length ≤ 200 →
      ∃ σ1, fMM_loses_L90 (nI t) (nI u) (nI k) (nI (5 * i)) K n (nI j) σ = K σ1 ∧ StAt σ1 t u (S ++ negs k r (L.drop j)) ∧ mOff [38] [7] σ σ1 := by
  have hi := (List.getElem?_eq_some_iff.mp hr).1
  have hjr := hj r (List.mem_of_getElem? hr)
  intro n
  induction n with
  | zero => intro j σ S h; omega
  | succ n ih =>
    intro j σ S hn hjl hL hS hM
    unfold fMM_loses_L90
    rw [hL.1]
    by_cases hlt : j < L.length
    · obtain ⟨s, hs⟩ := get_lt hlt
      have hjs := hj s (List.mem_of_getElem? hs)
      obtain ⟨a1, a2, a3⟩ := hL.2 i r hr
      obtain ⟨b1, b2, b3⟩ := hL.2 j s hs
      rw [drop_cons hs, negs_cons] at hM ⊢
      rw [if_neg (nI_ge hlt (by omega)), na, dck_t (okI_n (by omega) (by omega)), nc (by omega), a1 k hk, if_neg (fun z => by have := (cmp_le0 (hjr.1.co k)).mp z; omega), dlt_u, n5, na, dck_t (okI_n (by omega) (by omega)), nc (by omega), b1 k hk]
      by_cases hneg : rco s k < 0
      · rw [if_pos hneg] at hM ⊢
        rw [if_neg (fun z => by have := (cmp_ge0 (hjs.1.co k)).mp z; omega)]
        simp only [show (3 : Int32) = nI 3 from rfl, show (4 : Int32) = nI 4 from rfl, na]
        simp (disch := omega) only [okI_n, dck_tt, nc, dlt_u]
        rw [a1 t ht, a1 u hu, a2, a3, b1 t ht, b1 u hu, b2, b3]
        simp only [jI_neg, jI_mul]
        simp only [List.length_append, List.length_cons, List.length_nil] at hM
        have STEP : ∀ x : Int32, x = b01 (decide (rk (comb (-(rco s k)) r (rco r k) s) = 0)) → ∃ σ1, (db1 (fMM_stages (jI (-rco s k * rco r t) + jI (rco r k * rco s t)) (jI (-rco s k * rco r u) + jI (rco r k * rco s u)) (jI (-rco s k * rd r) + jI (rco r k * rd s)) x σ) fun σ39 =>
            fMM_loses_L90 (nI t) (nI u) (nI k) (nI (5 * i)) K n (nI j + (1 : Int32)) σ39) = K σ1 ∧ StAt σ1 t u (S ++ ([comb (-(rco s k)) r (rco r k) s] ++ negs k r (L.drop (j + 1)))) ∧ mOff [38] [7] σ σ1 := by
          intro x hx
          obtain ⟨σ1, e1, e2, e3⟩ := stages_spec hS (by omega) (comb (-(rco s k)) r (rco r k) s) (rco_comb _ _ _ _ t) (rco_comb _ _ _ _ u) (show rd (comb (-(rco s k)) r (rco r k) s) = -rco s k * rd r + rco r k * rd s from rfl) hx
          rw [jI_add, jI_add, jI_add, db1_t e1, nI_1]
          obtain ⟨σ2, f1, f2, f3⟩ := ih (j + 1) σ1 _ (by omega) (by omega) (hL.of e3 (by decide) (by decide)) e2 (by simp; omega)
          exact ⟨σ2, f1, by simpa using f2, e3.trans f3⟩
        by_cases hkk : rk r = 1 ∧ rk s = 1
        · rw [if_pos ((less_add hjr.2 hjs.2).mpr hkk)]
          exact STEP 0 (by rw [rk_comb, hkk.1, hkk.2]; rfl)
        · rw [if_neg (fun z => hkk ((less_add hjr.2 hjs.2).mp z))]
          exact STEP 1 (by
            have h1 := hjr.2
            have h2 := hjs.2
            rw [rk_comb, show min (rk r) (rk s) = 0 by omega]; rfl)
      · rw [if_neg hneg] at hM ⊢
        rw [if_pos ((cmp_ge0 (hjs.1.co k)).mpr (by omega)), nI_1]
        obtain ⟨σ2, f1, f2, f3⟩ := ih (j + 1) σ S (by omega) (by omega) hL hS (by simpa using hM)
        exact ⟨σ2, f1, by simpa using f2, f3⟩
    · have : j = L.length := by omega
      subst this
      rw [if_pos (nI_le (Nat.le_refl _) (by omega))]
      exact ⟨σ, rfl, by rw [List.drop_length]; simpa [negs] using hS, mOff.refl _ _ _⟩
theorem lose_out0 {t u k i : Nat} (hk : k < 3) {L : List rT} (hlen : L.length ≤ 26) (hj : ∀ r ∈ L, J4 r ∧ rk r ≤ 1) {r : rT} (hr : L[i]? = some r) (hp : ¬ 0 < rco r k) (K : sT → Option sT) (n : Nat) {σ : sT} (hL : LaidAt σ L) : fMM_loses_L90 (nI t) (nI u) (nI k) (nI (5 * i)) K (n + 1) (nI 0) σ = K σ := by
  have hi := (List.getElem?_eq_some_iff.mp hr).1
  have hjr := hj r (List.mem_of_getElem? hr)
  unfold fMM_loses_L90
  rw [hL.1, if_neg (nI_ge (by omega) (by omega)), na, dck_t (okI_n (by omega) (by omega)), nc (by omega), (hL.2 i r hr).1 k hk, if_pos ((cmp_le0 (hjr.1.co k)).mpr (by omega))]
set_option maxHeartbeats 4000000 in
theorem lose_out {t u k : Nat} (ht : t < 3) (hu : u < 3) (hk : k < 3) {L : List rT} (hlen : L.length ≤ 26) (hj : ∀ r ∈ L, J4 r ∧ rk r ≤ 1) :
    ∀ (n i : Nat) (σ : sT) (S : List rT), L.length - i < n → i ≤ L.length → LaidAt σ L → StAt σ t u S → S.length + (Efrom (fNP L k) (L.drop i) i).length ≤ 200 →
      ∃ σ1, fMM_loses_L8 (nI t) (nI u) (nI k) n (nI i) σ = some σ1 ∧ StAt σ1 t u (S ++ Efrom (fNP L k) (L.drop i) i) ∧ mOff [38] [7] σ σ1 := by
  have FU1 : FU = 999 + 1 := rfl
  intro n
  induction n with
  | zero => intro i σ S h; omega
  | succ n ih =>
    intro i σ S hn hil hL hS hM
    unfold fMM_loses_L8
    rw [hL.1]
    by_cases hlt : i < L.length
    · obtain ⟨r, hr⟩ := get_lt hlt
      have hjr := hj r (List.mem_of_getElem? hr)
      obtain ⟨a1, a2, a3⟩ := hL.2 i r hr
      rw [drop_cons hr] at hM ⊢
      simp only [Efrom] at hM ⊢
      rw [List.length_append] at hM
      rw [if_neg (nI_ge hlt (by omega)), dlt_u, n5, na, dck_t (okI_n (by omega) (by omega)), nc (by omega), a1 k hk, dlt_u]
      by_cases z : rco r k = 0
      · rw [if_pos ((cmp_eq0 (hjr.1.co k)).mpr z)]
        have hf : fNP L k i r = [r] := by unfold fNP; rw [if_pos z, comb_self]
        rw [hf] at hM ⊢
        simp only [show (3 : Int32) = nI 3 from rfl, show (4 : Int32) = nI 4 from rfl, na]
        simp (disch := omega) only [okI_n, dck_tt, nc, dlt_u]
        rw [a1 t ht, a1 u hu, a2, a3]
        simp only [List.length_cons, List.length_nil] at hM
        have STEP : ∀ x : Int32, x = b01 (decide (rk r = 0)) → ∃ σ1, (db1 (fMM_stages (jI (rco r t)) (jI (rco r u)) (jI (rd r)) x σ) fun σ52 =>
            fMM_loses_L90 (nI t) (nI u) (nI k) (nI (5 * i)) (fun (σ12 : sT) => fMM_loses_L8 (nI t) (nI u) (nI k) n (nI i + (1 : Int32)) σ12) FU (0 : Int32) σ52) = some σ1 ∧ StAt σ1 t u (S ++ ([r] ++ Efrom (fNP L k) (L.drop (i + 1)) (i + 1))) ∧ mOff [38] [7] σ σ1 := by
          intro x hx
          obtain ⟨σ1, e1, e2, e3⟩ := stages_spec hS (by omega) r rfl rfl rfl hx
          rw [db1_t e1, show (0 : Int32) = nI 0 from rfl, FU1, lose_out0 hk hlen hj hr (by omega) _ _ (hL.of e3 (by decide) (by decide)), nI_1]
          obtain ⟨σ2, f1, f2, f3⟩ := ih (i + 1) σ1 _ (by omega) (by omega) (hL.of e3 (by decide) (by decide)) e2 (by simp; omega)
          exact ⟨σ2, f1, by simpa using f2, e3.trans f3⟩
        by_cases hkk : rk r = 0
        · have hc : lg_cmp (jI (less r)) (1 : Int64) = 0 := by rw [j1, cmp_eq (inJ_less r) (by unfold inJ; omega)]; unfold less; rw [if_pos hkk]
          rw [if_pos hc]
          exact STEP 1 (by rw [hkk]; rfl)
        · have hc : ¬ lg_cmp (jI (less r)) (1 : Int64) = 0 := by rw [j1, cmp_eq (inJ_less r) (by unfold inJ; omega)]; unfold less; rw [if_neg hkk]; decide
          rw [if_neg hc]
          exact STEP 0 (by simp [hkk, b01])
      · rw [if_neg (fun y => z ((cmp_eq0 (hjr.1.co k)).mp y))]
        simp only [dlt_u]
        by_cases hp : 0 < rco r k
        · have hf : fNP L k i r = negs k r L := by unfold fNP; rw [if_neg z, if_pos hp]
          rw [hf] at hM ⊢
          obtain ⟨σ1, e1, e2, e3⟩ := lose_in ht hu hk hlen hj hr hp (fun (σ12 : sT) => fMM_loses_L8 (nI t) (nI u) (nI k) n (nI i + (1 : Int32)) σ12) FU 0 σ S (by unfold FU; omega) (by omega) hL hS (by rw [List.drop_zero]; omega)
          rw [List.drop_zero] at e2
          rw [show nI 0 = (0 : Int32) from rfl] at e1
          rw [e1, nI_1]
          obtain ⟨σ2, f1, f2, f3⟩ := ih (i + 1) σ1 _ (by omega) (by omega) (hL.of e3 (by decide) (by decide)) e2 (by simp; omega)
          exact ⟨σ2, f1, by simpa using f2, e3.trans f3⟩
        · have hf : fNP L k i r = [] := by unfold fNP; rw [if_neg z, if_neg hp]
          rw [hf] at hM ⊢
          rw [show (0 : Int32) = nI 0 from rfl, FU1, lose_out0 hk hlen hj hr hp _ _ hL, nI_1]
          obtain ⟨σ2, f1, f2, f3⟩ := ih (i + 1) σ S (by omega) (by omega) hL hS (by simpa using hM)
          exact ⟨σ2, f1, by simpa using f2, f3⟩
    · have : i = L.length := by omega
      subst this
      rw [if_pos (nI_le (Nat.le_refl _) (by omega))]
      exact ⟨σ, rfl, by rw [List.drop_length]; simpa [Efrom] using hS, mOff.refl _ _ _⟩
