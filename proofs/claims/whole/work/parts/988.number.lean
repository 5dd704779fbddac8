/-! reading a number, both sides -/
def dg (T : List Nat) (p : Nat) : Bool := decide (48 ≤ ch T p ∧ ch T p ≤ 57)
def nuL (T : List Nat) : Nat → Nat → Nat → Nat × Nat
  | 0, p, v => (p, v)
  | c + 1, p, v => if dg T p = true then nuL T c (p + 1) (10 * v + (ch T p - 48).toNat) else (p, v)
theorem dg_i {T : List Nat} {p : Nat} (h : dg T p = true) : 48 ≤ ch T p ∧ ch T p ≤ 57 := of_decide_eq_true h
theorem dg_lt {T : List Nat} {p : Nat} (h : dg T p = true) : p < T.length := ch_lt (by have := dg_i h; omega)
theorem nuL_pl {T : List Nat} : ∀ (c p v : Nat), p ≤ T.length → p ≤ (nuL T c p v).1 ∧ (nuL T c p v).1 ≤ T.length ∧ (nuL T c p v).1 ≤ p + c
  | 0, p, v, h => by rw [nuL]; exact ⟨Nat.le_refl _, h, Nat.le_refl _⟩
  | c + 1, p, v, h => by
    rw [nuL]
    by_cases z : dg T p = true
    · rw [if_pos z]
      have := nuL_pl (T := T) c (p + 1) (10 * v + (ch T p - 48).toNat) (dg_lt z)
      omega
    · rw [if_neg z]
      exact ⟨Nat.le_refl _, h, Nat.le_add_right _ _⟩
theorem nuL_v2 (T : List Nat) (p : Nat) : (nuL T 2 p 0).2 < 100 := by
  rw [nuL]
  by_cases z : dg T p = true
  · rw [if_pos z, nuL]
    have h1 := dg_i z
    by_cases y : dg T (p + 1) = true
    · have h2 := dg_i y
      rw [if_pos y, nuL]
      dsimp only
      omega
    · rw [if_neg y]
      dsimp only
      omega
  · rw [if_neg z]
    dsimp only
    omega
theorem ch_inI {T : List Nat} (hT : TxOk T) (p : Nat) : -1 ≤ ch T p ∧ ch T p < 128 := by
  by_cases z : p < T.length
  · obtain ⟨c, hc, hc'⟩ := ch_in z
    have := hT.2 c (List.mem_of_getElem? hc)
    omega
  · rw [ch_out (by omega)]; omega
theorem wi_ch {T : List Nat} (hT : TxOk T) (p : Nat) (lo hi : Int) : wi (iI (ch T p)) lo hi = decide (lo ≤ ch T p ∧ ch T p ≤ hi) := by
  have := ch_inI hT p
  unfold wi
  rw [iI_to (by unfold inI; omega)]
theorem chn {T : List Nat} (hT : TxOk T) {p : Nat} {k : Int} (h : ch T p ≠ k) (hk : -1 ≤ k ∧ k < 1000) : ¬ iI (ch T p) = iI k := by
  have := ch_inI hT p
  exact fun z => h ((iI_eq (by unfold inI; omega) (by unfold inI; omega)).mp z)
theorem dig_val {T : List Nat} {p v : Nat} (h : dg T p = true) : (10 : Int32) * nI v + iI (ch T p) - (48 : Int32) = nI (10 * v + (ch T p - 48).toNat) := by
  have h1 := dg_i h
  have h2 : ((10 * v + (ch T p - 48).toNat : Nat) : Int) = 10 * (v : Int) + ch T p - 48 := by omega
  rw [nI_iI (10 * v + (ch T p - 48).toNat), h2, nI_iI v, show (10 : Int32) = iI 10 from rfl, show (48 : Int32) = iI 48 from rfl, iI_mul, iI_add, iI_sub]
theorem sstep_spec {σ : sT} {T : List Nat} {p : Nat} {q : Int} (h : ScAt σ T p q) : fSc_step σ = some (siW σ 26 2 (nI (p + 1))) := by
  unfold fSc_step
  rw [h.2.1, nI_1, dlt_u]
theorem hasF0 {σ : sT} (h : σ.1 26 3 = iI (-1)) : fSc_hasFailed σ = some (0 : Int32) := by
  unfold fSc_hasFailed
  rw [h, show iI (-1) = (-1 : Int32) from rfl, if_pos (by decide)]
theorem hasF1 {σ : sT} {q : Nat} (h : σ.1 26 3 = iI (q : Int)) (hq : q < 1000) : fSc_hasFailed σ = some (1 : Int32) := by
  unfold fSc_hasFailed
  rw [h, iI_nI, if_neg (nI_pos (by omega))]
theorem fail0 {σ : sT} (h : σ.1 26 3 = iI (-1)) (x : Int32) : fSc_failAt x σ = some (siW σ 26 3 x) := by
  unfold fSc_failAt
  rw [h, show iI (-1) = (-1 : Int32) from rfl, if_neg (by decide), dlt_u]
theorem fail1 {σ : sT} {q : Nat} (h : σ.1 26 3 = iI (q : Int)) (hq : q < 1000) (x : Int32) : fSc_failAt x σ = some σ := by
  unfold fSc_failAt
  rw [h, iI_nI, if_pos (nI_pos' (by omega))]
theorem dgC {T : List Nat} (hT : TxOk T) (p : Nat) : fRM_isWithin (iI (ch T p)) (48 : Int32) (57 : Int32) = some (b01 (dg T p)) := by
  have : dg T p = wi (iI (ch T p)) 48 57 := by rw [wi_ch hT]; rfl
  rw [this]
  exact wiC _ 48 57 rfl rfl (by decide) (by decide)
theorem rn10_loop {T : List Nat} (hT : TxOk T) : ∀ (c p x v f : Nat) (σ : sT) (q : Int), x + c = 2 → c < f → p ≤ T.length → ScAt σ T p q →
    ∃ σ1, (∀ K : Int32 → sT → Option (Int32 × sT), fSc_readNumber_L10 K f (nI v) (nI x) σ = K (nI (nuL T c p v).2) σ1) ∧ ScAt σ1 T (nuL T c p v).1 q ∧ scO [] σ σ1 := by
  intro c
  induction c with
  | zero =>
    intro p x v f σ q h1 h2 hp h
    obtain ⟨f', rfl⟩ : ∃ f', f = f' + 1 := ⟨f - 1, by omega⟩
    refine ⟨σ, fun K => ?_, h, scO.refl _ _⟩
    unfold fSc_readNumber_L10
    rw [if_pos (show (2 : Int32) ≤ nI x from nI_le (a := 2) (by omega) (by omega)), nuL]
  | succ c ih =>
    intro p x v f σ q h1 h2 hp h
    obtain ⟨f', rfl⟩ : ∃ f', f = f' + 1 := ⟨f - 1, by omega⟩
    rw [nuL]
    cases z : dg T p
    · refine ⟨σ, fun K => ?_, by rw [if_neg (by decide)]; exact h, scO.refl _ _⟩
      unfold fSc_readNumber_L10
      rw [if_neg (show ¬ (2 : Int32) ≤ nI x from nI_ge (b := 2) (by omega) (by omega)), db1_t (shere_spec hT h hp), db1_t (dgC hT p), z, if_pos b0, if_neg (by decide)]
    · obtain ⟨σ1, e1, e2, e3⟩ := ih (p + 1) (x + 1) (10 * v + (ch T p - 48).toNat) f' (siW σ 26 2 (nI (p + 1))) q (by omega) (by omega) (dg_lt z) h.p
      refine ⟨σ1, fun K => ?_, by rw [if_pos rfl]; exact e2, (scO_p σ _).trans e3⟩
      unfold fSc_readNumber_L10
      rw [if_neg (show ¬ (2 : Int32) ≤ nI x from nI_ge (b := 2) (by omega) (by omega)), db1_t (shere_spec hT h hp), db1_t (dgC hT p), z, if_neg b1, if_pos rfl, db1_t (shere_spec hT h hp), dig_val z, dlt_u, db1_t (sstep_spec h), nI_1]
      exact e1 K
def nuOk (T : List Nat) (p : Nat) : Bool := decide ((nuL T 2 p 0).1 ≠ p) && !dg T (nuL T 2 p 0).1
theorem rnum_spec {T : List Nat} (hT : TxOk T) {p : Nat} {lim : Int} {σ : sT} (hp : p ≤ T.length) (hl : -1 ≤ lim ∧ lim < 100) (h : ScAt σ T p (-1)) :
    ∃ σ1, fSc_readNumber (iI lim) σ = some (nI (nuL T 2 p 0).2, σ1) ∧ ScAt σ1 T (nuL T 2 p 0).1 (if nuOk T p = true then (if ((nuL T 2 p 0).2 : Int) ≤ lim then -1 else (p : Int)) else ((nuL T 2 p 0).1 : Int)) ∧ scO [] σ σ1 := by
  have hTl := hT.1
  obtain ⟨σ1, e1, e2, e3⟩ := rn10_loop hT 2 p 0 0 FU σ (-1) (by omega) (by unfold FU; omega) hp h
  rw [nI_0] at e1
  have hv := nuL_v2 T p
  obtain ⟨a1, a2, a3⟩ := nuL_pl (T := T) 2 p 0 hp
  unfold nuOk
  generalize nuL T 2 p 0 = r at *
  obtain ⟨r, v⟩ := r
  dsimp only at hv a1 a2 a3 e1 e2 ⊢
  have hfr := fail0 e2.2.2 (nI r)
  have hfp := fail0 e2.2.2 (nI p)
  have key : ∀ x, (x = if (decide (r ≠ p) && !dg T r) = true then (if (v : Int) ≤ lim then σ1 else siW σ1 26 3 (nI p)) else siW σ1 26 3 (nI r)) → fSc_readNumber (iI lim) σ = some (nI v, x) := by
    intro x hx
    obtain ⟨A, hA⟩ : ∃ A, FU = A := ⟨_, rfl⟩
    rw [hA] at e1
    unfold fSc_readNumber
    rw [hA, dlt_u, dlt_u, e1, dlt_u, e2.2.1, h.2.1, db1_t hfr]
    by_cases z : r = p
    · rw [if_pos (by rw [z]), hx, if_neg (by simp [z])]
    · rw [if_neg (fun w => z ((nI_eq (by omega) (by omega)).mp w)), db1_t (shere_spec hT e2 a2), db1_t (dgC hT r)]
      cases y : dg T r
      · rw [if_pos b0, hx, y, if_pos (show (decide (r ≠ p) && !false) = true by simp [z])]
        by_cases u : (v : Int) ≤ lim
        · rw [if_pos (show nI v ≤ iI lim by rw [nI_iI]; exact (iI_le (by unfold inI; omega) (by unfold inI; omega)).mpr u), if_pos u]
        · rw [if_neg (show ¬ nI v ≤ iI lim by rw [nI_iI]; exact fun w => u ((iI_le (by unfold inI; omega) (by unfold inI; omega)).mp w)), db1_t hfp, if_neg u]
      · rw [if_neg b1, hx, y, if_neg (show ¬ (decide (r ≠ p) && !true) = true by simp)]
  refine ⟨_, key _ rfl, ?_, ?_⟩
  · split
    · split
      · exact e2
      · rw [← iI_nI]; exact e2.q
    · rw [← iI_nI]; exact e2.q
  · split
    · split
      · exact e3
      · exact e3.trans (scO_q _ _)
    · exact e3.trans (scO_q _ _)
/-! the model -/
theorem dgM {T : List Nat} (hT : TxOk T) {p : Nat} {τ : sT} (h : TxM τ T) (hp : p ≤ T.length) : fMM_isFigure (nI p) τ = some (b01 (dg T p)) := by
  have hl := hT.1
  unfold fMM_isFigure
  rw [h.1]
  by_cases z : p < T.length
  · obtain ⟨c, hc, hc'⟩ := ch_in z
    have hw : fMM_in (iI (ch T p)).toInt64 (48 : Int64) (57 : Int64) = some (b01 (dg T p)) := by
      have : dg T p = wi (iI (ch T p)) 48 57 := by rw [wi_ch hT]; rfl
      rw [this]
      exact wiM _ 48 57 rfl rfl (by decide) (by decide)
    rw [if_neg (nI_ge (by omega) (by omega)), dck_t (okI_n (by omega) (by omega)), nc (by omega), h.2 p c hc, nI_iI c, ← hc', db1_t hw]
    cases dg T p
    · rw [if_pos b0]; rfl
    · rw [if_neg b1]; rfl
  · rw [if_pos (nI_le (by omega) (by omega))]
    have : dg T p = false := by unfold dg; rw [ch_out (by omega)]; rfl
    rw [this]; rfl
theorem tn7_loop {T : List Nat} (hT : TxOk T) : ∀ (c p x v f : Nat) (τ : sT), x + c = 2 → c < f → p ≤ T.length → MsAt τ T p → τ.1 33 32 = nI v →
    ∃ τ1, (∀ K : Int32 → sT → Option (Int32 × sT), fMM_takesNumber_L7 K f (nI x) τ = K (nI (x + ((nuL T c p v).1 - p))) τ1) ∧ MsAt τ1 T (nuL T c p v).1 ∧ τ1.1 33 32 = nI (nuL T c p v).2 ∧ mOff [] [27, 32] τ τ1 := by
  have hl := hT.1
  intro c
  induction c with
  | zero =>
    intro p x v f τ h1 h2 hp h hv
    obtain ⟨f', rfl⟩ : ∃ f', f = f' + 1 := ⟨f - 1, by omega⟩
    refine ⟨τ, fun K => ?_, h, hv, mOff.refl _ _ _⟩
    unfold fMM_takesNumber_L7
    rw [h.2, db1_t (dgM hT h.1 hp), if_pos (show (2 : Int32) ≤ nI x from nI_le (a := 2) (by omega) (by omega)), nuL, Nat.sub_self, Nat.add_zero]
    split <;> rfl
  | succ c ih =>
    intro p x v f τ h1 h2 hp h hv
    obtain ⟨f', rfl⟩ : ∃ f', f = f' + 1 := ⟨f - 1, by omega⟩
    rw [nuL]
    cases z : dg T p
    · refine ⟨τ, fun K => ?_, by rw [if_neg (by decide)]; exact h, by rw [if_neg (by decide)]; exact hv, mOff.refl _ _ _⟩
      unfold fMM_takesNumber_L7
      rw [h.2, db1_t (dgM hT h.1 hp), z, if_pos b0, if_neg (by decide), Nat.sub_self, Nat.add_zero]
    · have hlt := dg_lt z
      obtain ⟨y, hy, hy'⟩ := ch_in hlt
      obtain ⟨τa, ha⟩ : ∃ t, t = siW (siW τ 33 32 (nI (10 * v + (ch T p - 48).toNat))) 33 27 (nI (p + 1)) := ⟨_, rfl⟩
      have oa : mOff [] [27, 32] τ τa := by rw [ha]; exact (mOff_si (by simp)).trans (mOff_si (by simp))
      have hA : MsAt τa T (p + 1) := ⟨h.1.ms oa (by decide) (by decide), by rw [ha, siW_s, if_pos rfl]⟩
      have hVa : τa.1 33 32 = nI (10 * v + (ch T p - 48).toNat) := by rw [ha, siW_s, if_neg (by decide), siW_s, if_pos rfl]
      obtain ⟨τ1, e1, e2, e3, e4⟩ := ih (p + 1) (x + 1) (10 * v + (ch T p - 48).toNat) f' τa (by omega) (by omega) hlt hA hVa
      have hge := (nuL_pl (T := T) c (p + 1) (10 * v + (ch T p - 48).toNat) hlt).1
      refine ⟨τ1, fun K => ?_, by rw [if_pos rfl]; exact e2, by rw [if_pos rfl]; exact e3, oa.trans e4⟩
      unfold fMM_takesNumber_L7
      rw [h.2, db1_t (dgM hT h.1 hp), z, if_neg b1, if_neg (show ¬ (2 : Int32) ≤ nI x from nI_ge (b := 2) (by omega) (by omega)), dck_t (okI_n (by omega) (by omega)), nc (by omega), hv, h.1.2 p y hy, nI_iI y, ← hy', dig_val z, dlt_u, dlt_u, siW_s, if_neg (by decide), h.2, nI_1, nI_1, ← ha, if_pos rfl, e1 K]
      rw [show x + 1 + ((nuL T c (p + 1) (10 * v + (ch T p - 48).toNat)).1 - (p + 1)) = x + ((nuL T c (p + 1) (10 * v + (ch T p - 48).toNat)).1 - p) by omega]
theorem tnum_spec {T : List Nat} (hT : TxOk T) {p : Nat} {τ : sT} (hp : p ≤ T.length) (h : MsAt τ T p) :
    ∃ τ1, fMM_takesNumber τ = some (b01 (nuOk T p), τ1) ∧ MsAt τ1 T (nuL T 2 p 0).1 ∧ τ1.1 33 32 = nI (nuL T 2 p 0).2 ∧ mOff [] [27, 32] τ τ1 := by
  have hTl := hT.1
  obtain ⟨τa, ha⟩ : ∃ t, t = siW τ 33 32 (0 : Int32) := ⟨_, rfl⟩
  have oa : mOff [] [27, 32] τ τa := by rw [ha]; exact mOff_si (by simp)
  have hA : MsAt τa T p := ⟨h.1.ms oa (by decide) (by decide), by rw [ha, siW_s, if_neg (by decide)]; exact h.2⟩
  obtain ⟨τ1, e1, e2, e3, e4⟩ := tn7_loop hT 2 p 0 0 FU τa (by omega) (by unfold FU; omega) hp hA (by rw [ha, siW_s, if_pos rfl]; rfl)
  rw [nI_0] at e1
  obtain ⟨a1, a2, a3⟩ := nuL_pl (T := T) 2 p 0 hp
  refine ⟨τ1, ?_, e2, e3, oa.trans e4⟩
  unfold nuOk
  generalize nuL T 2 p 0 = r at *
  obtain ⟨r, v⟩ := r
  dsimp only at a1 a2 a3 e1 e2 e3 ⊢
  obtain ⟨A, hA'⟩ : ∃ A, FU = A := ⟨_, rfl⟩
  rw [hA'] at e1
  unfold fMM_takesNumber
  rw [hA', dlt_u, ← ha, dlt_u, e1, e2.2, db1_t (dgM hT e2.1 a2)]
  by_cases z : r = p
  · have : (decide (r ≠ p) && !dg T r) = false := by simp [z]
    rw [this, if_pos (show nI (0 + (r - p)) ≤ (0 : Int32) from nI_le (b := 0) (by omega) (by omega))]; rfl
  · rw [if_neg (show ¬ nI (0 + (r - p)) ≤ (0 : Int32) from nI_ge (a := 0) (by omega) (by omega))]
    cases y : dg T r
    · have : (decide (r ≠ p) && !false) = true := by simp [z]
      rw [this, if_pos b0]; rfl
    · have : (decide (r ≠ p) && !true) = false := by simp
      rw [this, if_neg b1]; rfl
