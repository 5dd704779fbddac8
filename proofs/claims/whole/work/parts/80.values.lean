/-! the class: rows with values put in -/
def PtAt (σ : sT) (v : Nat → Int) : Prop := ∀ j, j < 4 → σ.2 17 j = jI (v j)
theorem pv2_loop {n i : Nat} {g : gT} (ok : BkOk n g) (hi : i < n) : ∀ (c k f : Nat) (σ : sT), k + c = 3 → c < f → BkC σ n g → (∀ j, j < k → σ.2 17 j = jI (g i j)) →
    ∃ σ1, (∀ K : sT → Option sT, fSo_putValues_L2 (nI i) K f (nI k) σ = K σ1) ∧ (∀ j, j < 3 → σ1.2 17 j = jI (g i j)) ∧ offC [17] σ σ1 := by
  intro c
  induction c with
  | zero =>
    intro k f σ h1 h2 hB hP
    obtain ⟨f', rfl⟩ : ∃ f', f = f' + 1 := ⟨f - 1, by omega⟩
    obtain rfl : k = 3 := by omega
    refine ⟨σ, fun K => ?_, hP, offC.refl _ _⟩
    unfold fSo_putValues_L2
    rw [show (3 : Int32) = nI 3 from rfl, if_pos (nI_le (by omega) (by omega))]
  | succ c ih =>
    intro k f σ h1 h2 hB hP
    obtain ⟨f', rfl⟩ : ∃ f', f = f' + 1 := ⟨f - 1, by omega⟩
    obtain ⟨c3, -⟩ := ok.2 i hi
    have hv := c3 k (by omega)
    have o1 : offC [17] σ (sjW σ 17 k (jI (g i k))) := offC_sj (by simp)
    obtain ⟨σ1, e1, e2, e3⟩ := ih (k + 1) f' (sjW σ 17 k (jI (g i k))) (by omega) (by omega) (hB.of o1 (by decide) (by decide)) (fun j hj => by
      rw [sjW_s]
      by_cases e : j = k
      · rw [if_pos e, e]
      · rw [if_neg e]; exact hP j (by omega))
    refine ⟨σ1, fun K => ?_, e2, o1.trans e3⟩
    unfold fSo_putValues_L2
    rw [show (3 : Int32) = nI 3 from rfl, if_neg (nI_ge (by omega) (by omega)), db1_t (get_spec hB ok.1 hi (by omega)), dck_t (okI_n (by omega) (by omega)), nc (by omega), iI_l (by unfold inI; omega), dlt_u, nI_1]
    exact e1 K
theorem pv75_loop {u : Nat} (hu : u < 3) {B : Int} {v : Nat → Int} : ∀ (c k f : Nat) (σ : sT), k + c = 4 → c < f → σ.2 19 u = jI B → (∀ j, j < 4 → σ.2 17 j = jI (if j < k then v j * B else v j)) →
    ∃ σ1, (∀ K : sT → Option sT, fSo_putValues_L75 (nI u) K f (nI k) σ = K σ1) ∧ (∀ j, j < 4 → σ1.2 17 j = jI (v j * B)) ∧ offC [17] σ σ1 := by
  intro c
  induction c with
  | zero =>
    intro k f σ h1 h2 hB hP
    obtain ⟨f', rfl⟩ : ∃ f', f = f' + 1 := ⟨f - 1, by omega⟩
    obtain rfl : k = 4 := by omega
    refine ⟨σ, fun K => ?_, fun j hj => by rw [hP j hj, if_pos hj], offC.refl _ _⟩
    unfold fSo_putValues_L75
    rw [show (4 : Int32) = nI 4 from rfl, if_pos (nI_le (by omega) (by omega))]
  | succ c ih =>
    intro k f σ h1 h2 hB hP
    obtain ⟨f', rfl⟩ : ∃ f', f = f' + 1 := ⟨f - 1, by omega⟩
    have o1 : offC [17] σ (sjW σ 17 k (jI (v k * B))) := offC_sj (by simp)
    obtain ⟨σ1, e1, e2, e3⟩ := ih (k + 1) f' (sjW σ 17 k (jI (v k * B))) (by omega) (by omega) (by rw [sjW_n (by decide)]; exact hB) (fun j hj => by
      rw [sjW_s]
      by_cases e : j = k
      · rw [if_pos e, if_pos (by omega), e]
      · rw [if_neg e, hP j hj]
        by_cases l : j < k
        · rw [if_pos l, if_pos (by omega)]
        · rw [if_neg l, if_neg (by omega)])
    refine ⟨σ1, fun K => ?_, e2, o1.trans e3⟩
    unfold fSo_putValues_L75
    rw [show (4 : Int32) = nI 4 from rfl, if_neg (nI_ge (by omega) (by omega)), dck_t (okI_n (by omega) (by omega)), dck_t (okI_n (by omega) (by omega)), dck_t (okI_n (by omega) (by omega)), nc (by omega), nc (by omega), hB, hP k (by omega), if_neg (by omega), jI_mul, dlt_u, nI_1]
    exact e1 K
def stp (v : Nat → Int) (u : Nat) (T B : Int) : Nat → Int := fun j => if j = 3 then v 3 * B - v u * T else if j = u then 0 else v j * B
theorem pv47_st {u kn : Nat} (hu : u < kn) (hk : kn ≤ 2) {T B : Int} {v : Nat → Int} {f : Nat} {σ : sT} (hP : PtAt σ v) (hT : σ.2 18 u = jI T) (hB : σ.2 19 u = jI B) :
    ∃ σ1, fSo_putValues_L47 (nI kn) (f + 1) (nI u) σ = fSo_putValues_L47 (nI kn) f (nI (u + 1)) σ1 ∧ PtAt σ1 (stp v u T B) ∧ offC [17] σ σ1 := by
  obtain ⟨σ1, e1, e2, e3⟩ := pv75_loop (u := u) (by omega) (B := B) (v := v) 4 0 FU σ (by omega) (by unfold FU; omega) hB (fun j hj => by rw [if_neg (by omega)]; exact hP j hj)
  rw [nI_0] at e1
  refine ⟨sjW (sjW σ1 17 u 0) 17 3 (jI (v 3 * B - v u * T)), ?_, fun j hj => ?_, e3.trans ((offC_sj (by simp)).trans (offC_sj (by simp)))⟩
  · obtain ⟨G, hG⟩ : ∃ G, FU = G := ⟨_, rfl⟩
    rw [hG] at e1
    conv => lhs; unfold fSo_putValues_L47
    rw [hG, if_neg (nI_ge hu (by omega)), show (3 : Int32) = nI 3 from rfl, if_neg (nI_ge (by omega) (by omega)), dck_t (okI_n (by omega) (by omega)), dck_t (okI_n (by omega) (by omega)), nc (by omega), hP u (by omega), hT, jI_mul, dlt_u, dlt_u, e1, dck_t (okI_n (by omega) (by omega)), dlt_u, dck_t (okI_n (by omega) (by omega)), dck_t (okI_n (by omega) (by omega)), nc (by omega), sjW_s, if_neg (by omega), e2 3 (by omega), jI_sub, dlt_u, nI_1]
  · unfold stp
    rw [sjW_s]
    by_cases e : j = 3
    · rw [if_pos e, if_pos e]
    · rw [if_neg e, if_neg e, sjW_s]
      by_cases e' : j = u
      · rw [if_pos e', if_pos e']; rfl
      · rw [if_neg e', if_neg e', e2 j hj]
theorem pv47_end {u kn : Nat} (hu : kn ≤ u) (hk : u ≤ 10) {f : Nat} {σ : sT} : fSo_putValues_L47 (nI kn) (f + 1) (nI u) σ = some σ := by
  unfold fSo_putValues_L47
  rw [if_pos (nI_le hu (by omega))]
def v0 (g : gT) (i : Nat) : Nat → Int := fun j => if j < 3 then g i j else g i 4
def pvF (g : gT) (i : Nat) (T B : Nat → Int) : Nat → Nat → Int
  | 0 => v0 g i
  | k + 1 => stp (pvF g i T B k) k (T k) (B k)
theorem putV_spec {n i kn : Nat} {g : gT} (ok : BkOk n g) (hi : i < n) (hk : kn ≤ 2) {σ : sT} (hB : BkC σ n g) {T B : Nat → Int} (hv : ∀ u, u < kn → σ.2 18 u = jI (T u) ∧ σ.2 19 u = jI (B u)) :
    ∃ σ1, fSo_putValues (nI i) (nI kn) σ = some σ1 ∧ PtAt σ1 (pvF g i T B kn) ∧ offC [17] σ σ1 := by
  obtain ⟨σ2, e1, e2, e3⟩ := pv2_loop ok hi 3 0 FU σ (by omega) (by unfold FU; omega) hB (fun j hj => by omega)
  rw [nI_0] at e1
  have hB2 := hB.of e3 (by decide) (by decide)
  obtain ⟨-, -, d, -⟩ := ok.2 i hi
  have t4 : fBk_get (nI i) (4 : Int32) σ2 = some (iI (g i 4)) := get_spec hB2 ok.1 hi (k := 4) (by omega)
  have o3 : offC [17] σ2 (sjW σ2 17 3 (jI (g i 4))) := offC_sj (by simp)
  have hP3 : PtAt (sjW σ2 17 3 (jI (g i 4))) (v0 g i) := by
    intro j hj
    unfold v0
    rw [sjW_s]
    by_cases e : j = 3
    · rw [if_pos e, if_neg (by omega)]
    · rw [if_neg e, if_pos (by omega)]; exact e2 j (by omega)
  obtain ⟨N, hN, hN9⟩ := FU_s
  have key : ∀ f, 900 ≤ f → ∃ σ1, fSo_putValues_L47 (nI kn) f (nI 0) (sjW σ2 17 3 (jI (g i 4))) = some σ1 ∧ PtAt σ1 (pvF g i T B kn) ∧ offC [17] σ σ1 := by
    intro f hf
    have oo := e3.trans o3
    obtain ⟨f1, rfl⟩ : ∃ f1, f = f1 + 1 + 1 + 1 := ⟨f - 3, by omega⟩
    rcases (show kn = 0 ∨ kn = 1 ∨ kn = 2 by omega) with rfl | rfl | rfl
    · exact ⟨_, pv47_end (by omega) (by omega), hP3, oo⟩
    · obtain ⟨x1, x2⟩ := hv 0 (by omega)
      obtain ⟨σ4, f2, f3, f4⟩ := pv47_st (f := f1 + 1 + 1) (show 0 < 1 by omega) (by omega) hP3 (by rw [(oo 18 (by decide)).2]; exact x1) (by rw [(oo 19 (by decide)).2]; exact x2)
      rw [f2]
      exact ⟨_, pv47_end (by omega) (by omega), f3, oo.trans f4⟩
    · obtain ⟨x1, x2⟩ := hv 0 (by omega)
      obtain ⟨y1, y2⟩ := hv 1 (by omega)
      obtain ⟨σ4, f2, f3, f4⟩ := pv47_st (f := f1 + 1 + 1) (show 0 < 2 by omega) (by omega) hP3 (by rw [(oo 18 (by decide)).2]; exact x1) (by rw [(oo 19 (by decide)).2]; exact x2)
      have o4 := oo.trans f4
      obtain ⟨σ5, p2, p3, p4⟩ := pv47_st (f := f1 + 1) (u := 0 + 1) (show 0 + 1 < 2 by omega) (by omega) f3 (by rw [(o4 18 (by decide)).2]; exact y1) (by rw [(o4 19 (by decide)).2]; exact y2)
      rw [f2, p2]
      exact ⟨_, pv47_end (by omega) (by omega), p3, o4.trans p4⟩
  obtain ⟨σ1, k1, k2, k3⟩ := key FU (by rw [hN]; omega)
  rw [nI_0] at k1
  refine ⟨σ1, ?_, k2, k3⟩
  obtain ⟨G, hG⟩ : ∃ G, FU = G := ⟨_, rfl⟩
  rw [hG] at k1 e1
  unfold fSo_putValues
  rw [hG, dlt_u, e1, db1_t t4, dck_t (by decide), iI_l (by unfold inI; omega), dlt_u]
  exact k1
/-- a row with values put in -/
def vrw (T B : Nat → Int) (kn : Nat) (r : rT) : rT := if kn = 0 then r else if kn = 1 then (0, r.2.1 * B 0, r.2.2.1 * B 0, r.2.2.2.1 * B 0 - r.1 * T 0, r.2.2.2.2) else (0, 0, r.2.2.1 * B 0 * B 1, (r.2.2.2.1 * B 0 - r.1 * T 0) * B 1 - r.2.1 * B 0 * T 1, r.2.2.2.2)
theorem pvF_row {g : gT} {i kn : Nat} {T B : Nat → Int} (hk : kn ≤ 2) : (pvF g i T B kn 0, pvF g i T B kn 1, pvF g i T B kn 2, pvF g i T B kn 3, (g i 3).toNat) = vrw T B kn (rowOf g i) := by
  rcases (show kn = 0 ∨ kn = 1 ∨ kn = 2 by omega) with rfl | rfl | rfl
  · rfl
  · rfl
  · simp [vrw, pvF, stp, v0, rowOf]
theorem lwv_loop {n m kn : Nat} {g : gT} (ok : BkOk n g) (hm : m < 2 ^ n) (hk : kn ≤ 2) {T B : Nat → Int} {A D : Int} (hA : A ≤ big) (hD : D ≤ big) (hb : ∀ i, i < n → rB A D (vrw T B kn (rowOf g i))) : ∀ (c i f : Nat) (σ : sT) (st : stR), i + c = 12 → c < f → BkC σ n g → (∀ u, u < kn → σ.2 18 u = jI (T u) ∧ σ.2 19 u = jI (B u)) → RowsAt σ 6 7 8 st → st.1.length ≤ i →
    ∃ σ1, fSo_loadWithValues_L9 (nI m) (nI kn) f (nI i) σ = some σ1 ∧ RowsAt σ1 6 7 8 (((setF g m c i).map (vrw T B kn)).foldl keepS st) ∧ offC [6, 7, 8, 17] σ σ1 := by
  have hm' := lt_4096 ok.1 hm
  intro c
  induction c with
  | zero =>
    intro i f σ st h1 h2 hB hv hR hl
    obtain ⟨f', rfl⟩ : ∃ f', f = f' + 1 := ⟨f - 1, by omega⟩
    unfold fSo_loadWithValues_L9
    rw [show (12 : Int32) = nI 12 from rfl, if_pos (nI_le (by omega) (by omega))]
    exact ⟨σ, rfl, hR, offC.refl _ _⟩
  | succ c ih =>
    intro i f σ st h1 h2 hB hv hR hl
    obtain ⟨f', rfl⟩ : ∃ f', f = f' + 1 := ⟨f - 1, by omega⟩
    unfold fSo_loadWithValues_L9
    rw [show (12 : Int32) = nI 12 from rfl, if_neg (nI_ge (by omega) (by omega)), db1_t (isIn_spec hm' (by omega)), setF, nI_1]
    cases b : m.testBit i
    · rw [if_pos b0, if_neg (by decide)]
      exact ih (i + 1) f' σ st (by omega) (by omega) hB hv hR (by omega)
    · have hi := bit_lt hm b
      have hkd := kd_n ok hi
      rw [if_neg b1, if_pos rfl]
      obtain ⟨σ2, e1, e2, e3⟩ := putV_spec ok hi hk hB hv
      have hB2 := hB.of e3 (by decide) (by decide)
      have hR2 := hR.of_off e3 (by decide) (by decide) (by decide)
      have t3 : fBk_get (nI i) (3 : Int32) σ2 = some (iI (g i 3)) := get_spec hB2 ok.1 hi (k := 3) (by omega)
      have hj := rB_j (hb i hi) hA hD
      have hkk := (hb i hi).2.2.2.2
      rw [← pvF_row hk] at hj hkk
      obtain ⟨σ3, f1, f2, f3⟩ := keep_spec (o := 6) (c := 7) (kd := 8) (N4 := 52) (N := 13) (by decide) (by decide) (by decide) rfl (by omega) (r := (pvF g i T B kn 0, pvF g i T B kn 1, pvF g i T B kn 2, pvF g i T B kn 3, (g i 3).toNat)) hR2 (by omega) hj hkk
      have f1' : fRw_keep 6 7 8 52 13 (jI (pvF g i T B kn 0)) (jI (pvF g i T B kn 1)) (jI (pvF g i T B kn 2)) (jI (pvF g i T B kn 3)) (nI (g i 3).toNat) σ2 = some σ3 := f1
      rw [db1_t e1, dck_t (by decide), dck_t (by decide), dck_t (by decide), dck_t (by decide), db1_t t3, show (0 : Int32).toNatClampNeg = 0 from rfl, show (1 : Int32).toNatClampNeg = 1 from rfl, show (2 : Int32).toNatClampNeg = 2 from rfl, show (3 : Int32).toNatClampNeg = 3 from rfl, e2 0 (by omega), e2 1 (by omega), e2 2 (by omega), e2 3 (by omega), hkd.1, db1_t f1']
      rw [pvF_row hk] at f2
      have hkl := keep_len st (vrw T B kn (rowOf g i))
      have oo : offC [6, 7, 8, 17] σ σ3 := (e3.mono (by simp)).trans (f3.mono (by simp))
      obtain ⟨σ4, p1, p2, p3⟩ := ih (i + 1) f' σ3 _ (by omega) (by omega) (hB.of oo (by decide) (by decide)) (fun u hu => by rw [(oo 18 (by decide)).2, (oo 19 (by decide)).2]; exact hv u hu) f2 (by omega)
      exact ⟨σ4, p1, p2, oo.trans p3⟩
theorem lwv_spec {n m kn : Nat} {g : gT} (ok : BkOk n g) (hm : m < 2 ^ n) (hk : kn ≤ 2) {T B : Nat → Int} {A D : Int} (hA : A ≤ big) (hD : D ≤ big) (hb : ∀ i, i < n → rB A D (vrw T B kn (rowOf g i))) {σ : sT} (hB : BkC σ n g) (hv : ∀ u, u < kn → σ.2 18 u = jI (T u) ∧ σ.2 19 u = jI (B u)) :
    ∃ σ1, fSo_loadWithValues (nI m) (nI kn) σ = some σ1 ∧ RowsAt σ1 6 7 8 (((setF g m 12 0).map (vrw T B kn)).foldl keepS ([], false)) ∧ offC [6, 7, 8, 17] σ σ1 := by
  have he : fRw_empty 6 7 8 52 13 σ = some (siW (siW σ 6 2 0) 6 3 0) := rfl
  unfold fSo_loadWithValues
  rw [db1_t he]
  have o2 : offC [6, 7, 8, 17] σ (siW (siW σ 6 2 0) 6 3 0) := (offC_si (by simp)).trans (offC_si (by simp))
  have hR : RowsAt (siW (siW σ 6 2 0) 6 3 0) 6 7 8 ([], false) := by
    refine ⟨?_, ?_, fun i r h => by simp at h⟩
    · rw [siW_s, if_neg (by decide), siW_s, if_pos rfl]; rfl
    · rw [siW_s, if_pos rfl]; rfl
  obtain ⟨σ1, e1, e2, e3⟩ := lwv_loop ok hm hk hA hD hb 12 0 FU _ _ (by omega) (by unfold FU; omega) (hB.of o2 (by decide) (by decide)) (fun u hu => by rw [(o2 18 (by decide)).2, (o2 19 (by decide)).2]; exact hv u hu) hR (by simp)
  rw [show nI 0 = (0 : Int32) from rfl] at e1
  exact ⟨σ1, e1, e2, o2.trans e3⟩
