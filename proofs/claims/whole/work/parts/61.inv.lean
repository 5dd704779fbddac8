/-! the relation between class and model -/
def wi (a : Int32) (lo hi : Int) : Bool := decide (lo ≤ a.toInt ∧ a.toInt ≤ hi)
theorem wi_C (a : Int32) {lo hi : Int} (h1 : inI lo) (h2 : inI hi) : fRM_isWithin a (iI lo) (iI hi) = some (b01 (wi a lo hi)) := by
  have h := within_spec (inI_self a) h1 h2
  rw [← iI_self] at h; exact h
theorem l_self (a : Int32) : a.toInt64 = jI a.toInt := by
  have := iI_l (inI_self a)
  rw [← iI_self] at this; exact this
theorem wi_M (a : Int32) {lo hi : Int} (h1 : inI lo) (h2 : inI hi) : fMM_in a.toInt64 (jI lo) (jI hi) = some (b01 (wi a lo hi)) := by
  have ja := inI_self a
  unfold inI at ja h1 h2
  rw [l_self]
  exact in_spec (by unfold inJ; omega) (by unfold inJ; omega) (by unfold inJ; omega)
theorem wiC (a : Int32) (lo hi : Int) {x y : Int32} (hx : iI lo = x) (hy : iI hi = y) (h1 : -2147483648 ≤ lo ∧ lo < 2147483648) (h2 : -2147483648 ≤ hi ∧ hi < 2147483648) : fRM_isWithin a x y = some (b01 (wi a lo hi)) := by
  subst hx; subst hy; exact wi_C a h1 h2
theorem wiM (a : Int32) (lo hi : Int) {x y : Int64} (hx : jI lo = x) (hy : jI hi = y) (h1 : -2147483648 ≤ lo ∧ lo < 2147483648) (h2 : -2147483648 ≤ hi ∧ hi < 2147483648) : fMM_in a.toInt64 x y = some (b01 (wi a lo hi)) := by
  subst hx; subst hy; exact wi_M a h1 h2
theorem wi_i {a : Int32} {lo hi : Int} (h : wi a lo hi = true) : lo ≤ a.toInt ∧ a.toInt ≤ hi := of_decide_eq_true h
theorem wi_n {a : Int32} {hi : Int} (h : wi a 0 hi = true) : ∃ k : Nat, (k : Int) ≤ hi ∧ a = nI k := by
  have h1 := wi_i h
  refine ⟨a.toInt.toNat, by omega, ?_⟩
  rw [nI_iI, Int.toNat_of_nonneg h1.1]; exact iI_self a
theorem bhas_wi {σ : sT} {n : Nat} (h : σ.1 1 3 = nI n) (hn : n ≤ 12) (a : Int32) : fBk_has a σ = some (b01 (wi a 0 ((n : Int) - 1))) := by
  have ha := inI_self a
  unfold fBk_has wi
  rw [h]
  by_cases c1 : a.toInt < 0
  · rw [if_pos (by rw [Int32.lt_iff_toInt_lt]; exact c1), decide_eq_false (by omega)]; rfl
  · rw [if_neg (fun z => c1 (by rw [Int32.lt_iff_toInt_lt] at z; exact z))]
    by_cases c2 : (n : Int) ≤ a.toInt
    · rw [if_pos (by rw [Int32.le_iff_toInt_le, nI_toInt (by omega)]; exact c2), decide_eq_false (by omega)]; rfl
    · rw [if_neg (fun z => c2 (by rw [Int32.le_iff_toInt_le, nI_toInt (by omega)] at z; exact z)), decide_eq_true (by omega)]; rfl
theorem isRow_wi {σ : sT} {n : Nat} (h : σ.1 34 0 = nI n) (hn : n ≤ 12) (a : Int32) : fMM_isRow a σ = some (b01 (wi a 0 ((n : Int) - 1))) := by
  unfold fMM_isRow
  rw [dck_t (by decide), show (0 : Int32).toNatClampNeg = 0 from rfl, h, nI_iI, show (1 : Int32) = iI 1 from rfl, iI_sub, iI_l (by unfold inI; omega)]
  rw [show (0 : Int64) = jI 0 from rfl, db1_t (wi_M a (by unfold inI; omega) (by unfold inI; omega)), dck_t (okZ_b _)]
abbrev gT : Type := Nat → Nat → Int
def PastC (σ : sT) (U : List (Nat × gT)) : Prop := ∃ nx : Nat, nx < 6 ∧ σ.1 1 4 = nI nx ∧ σ.1 1 5 = nI U.length ∧ ∀ (j : Nat) (q : Nat × gT), U[j]? = some q → σ.1 4 ((nx + 5 - j) % 6) = nI q.1 ∧ ∀ i, i < q.1 → ∀ k, k < 6 → σ.1 3 ((nx + 5 - j) % 6 * 72 + (i * 6 + k)) = iI (q.2 i k)
def PastM (τ : sT) (U : List (Nat × gT)) : Prop := τ.1 33 2 = nI U.length ∧ ∀ (j : Nat) (q : Nat × gT), U[j]? = some q → τ.1 35 (73 * (U.length - 1 - j)) = nI q.1 ∧ ∀ i, i < q.1 → ∀ k, k < 6 → τ.1 35 (73 * (U.length - 1 - j) + (1 + 6 * i + k)) = iI (q.2 i k)
def TxC (σ : sT) (T : List Nat) : Prop := σ.1 26 1 = nI T.length ∧ ∀ (j c : Nat), T[j]? = some c → σ.1 27 j = nI c
def TxM (τ : sT) (T : List Nat) : Prop := τ.1 33 26 = nI T.length ∧ ∀ (j c : Nat), T[j]? = some c → τ.1 45 j = nI c
def Cnt (σ τ : sT) : Prop := σ.1 0 8 = τ.1 36 0 ∧ σ.1 0 9 = τ.1 36 1 ∧ σ.1 0 10 = τ.1 36 2
def InvD (σ τ : sT) (n : Nat) (g : gT) (U : List (Nat × gT)) (T : List Nat) : Prop :=
  BkOk n g ∧ BkC σ n g ∧ BkM τ n g ∧ ((∀ q ∈ U, BkOk q.1 q.2) ∧ U.length ≤ 6) ∧ PastC σ U ∧ PastM τ U ∧ TxC σ T ∧ TxM τ T ∧ (T.length ≤ 80 ∧ ∀ c ∈ T, c < 128) ∧ Cnt σ τ
def Inv (σ τ : sT) : Prop := ∃ n g U T, InvD σ τ n g U T
def sameC (σ σ1 : sT) : Prop := σ1.1 0 = σ.1 0 ∧ σ1.1 1 = σ.1 1 ∧ σ1.1 2 = σ.1 2 ∧ σ1.1 3 = σ.1 3 ∧ σ1.1 4 = σ.1 4 ∧ σ1.1 26 1 = σ.1 26 1 ∧ σ1.1 27 = σ.1 27
def sameM (τ τ1 : sT) : Prop := τ1.1 33 2 = τ.1 33 2 ∧ τ1.1 33 26 = τ.1 33 26 ∧ τ1.1 34 = τ.1 34 ∧ τ1.1 35 = τ.1 35 ∧ τ1.1 36 = τ.1 36 ∧ τ1.1 45 = τ.1 45
theorem sameC.refl (σ : sT) : sameC σ σ := ⟨rfl, rfl, rfl, rfl, rfl, rfl, rfl⟩
theorem sameM.refl (σ : sT) : sameM σ σ := ⟨rfl, rfl, rfl, rfl, rfl, rfl⟩
theorem sameC.trans {a b c : sT} (h : sameC a b) (k : sameC b c) : sameC a c := ⟨k.1.trans h.1, k.2.1.trans h.2.1, k.2.2.1.trans h.2.2.1, k.2.2.2.1.trans h.2.2.2.1, k.2.2.2.2.1.trans h.2.2.2.2.1, k.2.2.2.2.2.1.trans h.2.2.2.2.2.1, k.2.2.2.2.2.2.trans h.2.2.2.2.2.2⟩
theorem sameM.trans {a b c : sT} (h : sameM a b) (k : sameM b c) : sameM a c := ⟨k.1.trans h.1, k.2.1.trans h.2.1, k.2.2.1.trans h.2.2.1, k.2.2.2.1.trans h.2.2.2.1, k.2.2.2.2.1.trans h.2.2.2.2.1, k.2.2.2.2.2.trans h.2.2.2.2.2⟩
theorem sameC.off {C : List Nat} {σ σ1 : sT} (h : offC C σ σ1) (hc : ∀ q ∈ [0, 1, 2, 3, 4, 26, 27], q ∉ C) : sameC σ σ1 :=
  ⟨(h 0 (hc 0 (by simp))).1, (h 1 (hc 1 (by simp))).1, (h 2 (hc 2 (by simp))).1, (h 3 (hc 3 (by simp))).1, (h 4 (hc 4 (by simp))).1, by rw [(h 26 (hc 26 (by simp))).1], (h 27 (hc 27 (by simp))).1⟩
theorem sameM.off {C F : List Nat} {σ σ1 : sT} (h : mOff C F σ σ1) (hc : ∀ q ∈ [34, 35, 36, 45], q ∉ C) (hf : 2 ∉ F ∧ 26 ∉ F) : sameM σ σ1 :=
  ⟨(h.2 2 hf.1).1, (h.2 26 hf.2).1, (h.1 34 (hc 34 (by simp)) (by decide)).1, (h.1 35 (hc 35 (by simp)) (by decide)).1, (h.1 36 (hc 36 (by simp)) (by decide)).1, (h.1 45 (hc 45 (by simp)) (by decide)).1⟩
theorem InvD.same {σ σ1 τ τ1 : sT} {n : Nat} {g : gT} {U : List (Nat × gT)} {T : List Nat} (h : InvD σ τ n g U T) (hC : sameC σ σ1) (hM : sameM τ τ1) : InvD σ1 τ1 n g U T := by
  obtain ⟨c0, c1, c2, c3, c4, c5, c6⟩ := hC
  obtain ⟨m0, m1, m2, m3, m4, m5⟩ := hM
  unfold InvD BkC BkM PastC PastM TxC TxM Cnt at *
  simp only [c0, c1, c2, c3, c4, c5, c6, m0, m1, m2, m3, m4, m5]
  exact h
theorem Inv.same {σ σ1 τ τ1 : sT} (h : Inv σ τ) (hC : sameC σ σ1) (hM : sameM τ τ1) : Inv σ1 τ1 := by
  obtain ⟨n, g, U, T, h⟩ := h
  exact ⟨n, g, U, T, h.same hC hM⟩
theorem PastC.of {C : List Nat} {σ σ1 : sT} {U : List (Nat × gT)} (h : PastC σ U) (ho : offC C σ σ1) (h1 : 1 ∉ C) (h3 : 3 ∉ C) (h4 : 4 ∉ C) : PastC σ1 U := by
  unfold PastC at *
  rw [(ho 1 h1).1, (ho 3 h3).1, (ho 4 h4).1]; exact h
theorem PastM.of {C F : List Nat} {σ σ1 : sT} {U : List (Nat × gT)} (h : PastM σ U) (ho : mOff C F σ σ1) (h1 : 35 ∉ C) (h2 : 2 ∉ F) : PastM σ1 U := by
  unfold PastM at *
  rw [(ho.1 35 h1 (by decide)).1, (ho.2 2 h2).1]; exact h
theorem TxC.of {C : List Nat} {σ σ1 : sT} {T : List Nat} (h : TxC σ T) (ho : offC C σ σ1) (h1 : 26 ∉ C) (h2 : 27 ∉ C) : TxC σ1 T := by
  unfold TxC at *
  rw [(ho 26 h1).1, (ho 27 h2).1]; exact h
theorem TxM.of {C F : List Nat} {σ σ1 : sT} {T : List Nat} (h : TxM σ T) (ho : mOff C F σ σ1) (h1 : 45 ∉ C) (h2 : 26 ∉ F) : TxM σ1 T := by
  unfold TxM at *
  rw [(ho.1 45 h1 (by decide)).1, (ho.2 26 h2).1]; exact h
theorem Cnt.of {C D F : List Nat} {σ σ1 τ τ1 : sT} (h : Cnt σ τ) (ho : offC C σ σ1) (hm : mOff D F τ τ1) (h1 : 0 ∉ C) (h2 : 36 ∉ D) : Cnt σ1 τ1 := by
  unfold Cnt at *
  rw [(ho 0 h1).1, (hm.1 36 h2 (by decide)).1]; exact h
/-! refusals -/
theorem InvD.cnt {σ σ1 τ τ1 : sT} {n : Nat} {g : gT} {U : List (Nat × gT)} {T : List Nat} (h : InvD σ τ n g U T) (ho : offC [0] σ σ1) (hm : mOff [36] [] τ τ1) (hc : Cnt σ1 τ1) : InvD σ1 τ1 n g U T := by
  obtain ⟨a1, a2, a3, a4, a5, a6, a7, a8, a9, a10⟩ := h
  exact ⟨a1, a2.of ho (by decide) (by decide), a3.of hm (by decide), a4, a5.of ho (by decide) (by decide) (by decide), a6.of hm (by decide) (by decide), a7.of ho (by decide) (by decide), a8.of hm (by decide) (by decide), a9, hc⟩
theorem ref_B {σ τ : sT} (h : Inv σ τ) : ∃ σ1 τ1, fRM_bad σ = some (-1000002, σ1) ∧ fMM_refuses (-1000002) τ = some (-1000002, τ1) ∧ Inv σ1 τ1 := by
  obtain ⟨n, g, U, T, h⟩ := h
  refine ⟨siW σ 0 8 (σ.1 0 8 + 1), siW τ 36 0 (τ.1 36 0 + 1), rfl, rfl, n, g, U, T, h.cnt (offC_si (by simp)) (mOff_ci (by simp) (by decide)) ?_⟩
  obtain ⟨c1, c2, c3⟩ := h.2.2.2.2.2.2.2.2.2
  refine ⟨?_, ?_, ?_⟩
  · rw [siW_s, siW_s, if_pos rfl, if_pos rfl, c1]
  · rw [siW_s, siW_s, if_neg (by decide), if_neg (by decide), c2]
  · rw [siW_s, siW_s, if_neg (by decide), if_neg (by decide), c3]
theorem ref_N {σ τ : sT} (h : Inv σ τ) : ∃ σ1 τ1, fRM_no σ = some (-1000003, σ1) ∧ fMM_refuses (-1000003) τ = some (-1000003, τ1) ∧ Inv σ1 τ1 := by
  obtain ⟨n, g, U, T, h⟩ := h
  refine ⟨siW σ 0 9 (σ.1 0 9 + 1), siW τ 36 1 (τ.1 36 1 + 1), rfl, rfl, n, g, U, T, h.cnt (offC_si (by simp)) (mOff_ci (by simp) (by decide)) ?_⟩
  obtain ⟨c1, c2, c3⟩ := h.2.2.2.2.2.2.2.2.2
  refine ⟨?_, ?_, ?_⟩
  · rw [siW_s, siW_s, if_neg (by decide), if_neg (by decide), c1]
  · rw [siW_s, siW_s, if_pos rfl, if_pos rfl, c2]
  · rw [siW_s, siW_s, if_neg (by decide), if_neg (by decide), c3]
theorem ref_F {σ τ : sT} (h : Inv σ τ) : ∃ σ1 τ1, fRM_full σ = some (-1000004, σ1) ∧ fMM_refuses (-1000004) τ = some (-1000004, τ1) ∧ Inv σ1 τ1 := by
  obtain ⟨n, g, U, T, h⟩ := h
  refine ⟨siW σ 0 10 (σ.1 0 10 + 1), siW τ 36 2 (τ.1 36 2 + 1), rfl, rfl, n, g, U, T, h.cnt (offC_si (by simp)) (mOff_ci (by simp) (by decide)) ?_⟩
  obtain ⟨c1, c2, c3⟩ := h.2.2.2.2.2.2.2.2.2
  refine ⟨?_, ?_, ?_⟩
  · rw [siW_s, siW_s, if_neg (by decide), if_neg (by decide), c1]
  · rw [siW_s, siW_s, if_neg (by decide), if_neg (by decide), c2]
  · rw [siW_s, siW_s, if_pos rfl, if_pos rfl, c3]
theorem Inv_0 : Inv s0 s0 := by
  refine ⟨0, fun _ _ => 0, [], [], ⟨by omega, fun i hi => by omega⟩, ⟨rfl, fun i hi => by omega⟩, ⟨rfl, fun i hi => by omega⟩, ⟨by simp, by simp⟩, ⟨0, by omega, rfl, rfl, fun j q h => by simp at h⟩, ⟨rfl, fun j q h => by simp at h⟩, ⟨rfl, fun j q h => by simp at h⟩, ⟨rfl, fun j q h => by simp at h⟩, ⟨by simp, by simp⟩, rfl, rfl, rfl⟩
/-! calls without arithmetic -/
theorem b0 : b01 false = 0 := rfl
theorem b1 : ¬ b01 true = 0 := by decide
theorem do_can : op_can Inv := by
  intro σ τ hI a
  obtain ⟨n, g, U, T, h⟩ := id hI
  obtain ⟨ok, hC, hM, -⟩ := id h
  unfold fRM_can fMM_can
  rw [db1_t (covers_spec ok.1 hC.1 a), db1_t (isSet_spec ok.1 hM.1 a)]
  cases hc : cov a n
  · rw [if_pos b0, if_pos b0]
    obtain ⟨σ1, τ1, e1, e2, e3⟩ := ref_B hI
    rw [db2_t e1, db2_t e2]
    exact ⟨_, _, _, rfl, rfl, e3⟩
  · rw [if_neg b1, if_neg b1]
    obtain ⟨m, hm, rfl⟩ := cov_n hc
    obtain ⟨σ1, b, e1, e2, e3⟩ := sat_spec ok hm hC
    obtain ⟨τ1, b', f1, f2, f3⟩ := canSet_spec ok hm hM
    have hb : b = b' := Bool.eq_iff_iff.mpr (e3.trans f3.symm)
    subst hb
    rw [db2_t e1, db2_t f1]
    have hI1 := hI.same (sameC.off e2 (by decide)) (sameM.off f2 (by decide) (by decide))
    cases b
    · exact ⟨_, _, _, rfl, rfl, hI1⟩
    · exact ⟨_, _, _, rfl, rfl, hI1⟩
theorem do_of : op_of Inv := by
  intro σ τ hI a w
  obtain ⟨n, g, U, T, h⟩ := id hI
  obtain ⟨ok, hC, hM, -⟩ := id h
  unfold fRM_of fMM_of
  rw [db1_t (bhas_wi hC.1 ok.1 a), db1_t (isRow_wi hM.1 ok.1 a), dlt_u, dlt_u]
  obtain ⟨σ1, τ1, e1, e2, e3⟩ := ref_B hI
  rw [db2_t e1, db2_t e2]
  cases hc : wi a 0 ((n : Int) - 1)
  · rw [if_pos b0, if_pos b0]
    exact ⟨_, _, _, rfl, rfl, e3⟩
  · rw [if_neg b1, if_neg b1]
    have w1 : fRM_isWithin w (0 : Int32) (5 : Int32) = some (b01 (wi w 0 5)) := wiC w 0 5 rfl rfl (by decide) (by decide)
    have w2 : fMM_in w.toInt64 (0 : Int64) (5 : Int64) = some (b01 (wi w 0 5)) := wiM w 0 5 rfl rfl (by decide) (by decide)
    rw [db1_t w1, db1_t w2]
    cases hw : wi w 0 5
    · rw [if_pos b0, if_pos b0]
      exact ⟨_, _, _, rfl, rfl, e3⟩
    · rw [if_neg b1, if_neg b1]
      obtain ⟨i, hi, rfl⟩ := wi_n hc
      obtain ⟨k, hk, rfl⟩ := wi_n hw
      rw [db1_t (get_spec hC ok.1 (by omega) (by omega)), db1_t (at_spec hM ok.1 (by omega) (by omega))]
      exact ⟨_, _, _, rfl, rfl, hI⟩
theorem countOf_spec {σ : sT} {n : Nat} {U : List (Nat × gT)} {T : List Nat} (h1 : σ.1 26 1 = nI T.length) (h2 : σ.1 1 3 = nI n) (h3 : σ.1 1 5 = nI U.length) {k : Nat} (hk : k ≤ 5) : fRM_countOf (nI k) σ = some (if k = 0 then σ.1 0 8 else if k = 1 then σ.1 0 9 else if k = 2 then σ.1 0 10 else if k = 3 then nI T.length else if k = 4 then nI n else nI U.length) := by
  rw [← h1, ← h2, ← h3]
  rcases (show k = 0 ∨ k = 1 ∨ k = 2 ∨ k = 3 ∨ k = 4 ∨ k = 5 by omega) with rfl | rfl | rfl | rfl | rfl | rfl <;> rfl
theorem toldOf_spec {σ : sT} {n : Nat} {U : List (Nat × gT)} {T : List Nat} (h1 : σ.1 33 26 = nI T.length) (h2 : σ.1 34 0 = nI n) (h3 : σ.1 33 2 = nI U.length) {k : Nat} (hk : k ≤ 5) : fMM_toldOf (nI k) σ = some (if k = 0 then σ.1 36 0 else if k = 1 then σ.1 36 1 else if k = 2 then σ.1 36 2 else if k = 3 then nI T.length else if k = 4 then nI n else nI U.length) := by
  rw [← h1, ← h2, ← h3]
  rcases (show k = 0 ∨ k = 1 ∨ k = 2 ∨ k = 3 ∨ k = 4 ∨ k = 5 by omega) with rfl | rfl | rfl | rfl | rfl | rfl <;> rfl
theorem told_same {σ τ : sT} {n : Nat} {g : gT} {U : List (Nat × gT)} {T : List Nat} (h : InvD σ τ n g U T) {k : Nat} (hk : k ≤ 5) : ∃ v, fRM_countOf (nI k) σ = some v ∧ fMM_toldOf (nI k) τ = some v := by
  obtain ⟨a1, a2, a3, a4, ⟨nx, -, -, a5, -⟩, a6, a7, a8, a9, c1, c2, c3⟩ := h
  refine ⟨_, countOf_spec a7.1 a2.1 a5 hk, ?_⟩
  rw [toldOf_spec a8.1 a3.1 a6.1 hk, c1, c2, c3]
theorem do_told : op_told Inv := by
  intro σ τ hI w
  obtain ⟨n, g, U, T, h⟩ := id hI
  unfold fRM_told fMM_told
  have w1 : fRM_isWithin w (0 : Int32) (5 : Int32) = some (b01 (wi w 0 5)) := wiC w 0 5 rfl rfl (by decide) (by decide)
  have w2 : fMM_in w.toInt64 (0 : Int64) (5 : Int64) = some (b01 (wi w 0 5)) := wiM w 0 5 rfl rfl (by decide) (by decide)
  rw [db1_t w1, db1_t w2]
  cases hw : wi w 0 5
  · rw [if_pos b0, if_pos b0]
    obtain ⟨σ1, τ1, e1, e2, e3⟩ := ref_B hI
    rw [db2_t e1, db2_t e2]
    exact ⟨_, _, _, rfl, rfl, e3⟩
  · rw [if_neg b1, if_neg b1]
    obtain ⟨k, hk, rfl⟩ := wi_n hw
    obtain ⟨v, e1, e2⟩ := told_same h (k := k) (by omega)
    rw [db1_t e1, db1_t e2]
    exact ⟨_, _, _, rfl, rfl, hI⟩
theorem do_clear : op_clear Inv := by
  intro σ τ hI _
  obtain ⟨n, g, U, T, a1, a2, a3, a4, a5, a6, a7, a8, a9, a10⟩ := hI
  have ho : offC [26] σ (siW σ 26 1 0) := offC_si (by simp)
  have hm : mOff [] [26] τ (siW τ 33 26 0) := mOff_si (by simp)
  refine ⟨nI T.length, siW σ 26 1 0, siW τ 33 26 0, ?_, ?_, n, g, U, [], a1, a2.of ho (by decide) (by decide), a3.of hm (by decide), a4, a5.of ho (by decide) (by decide) (by decide), a6.of hm (by decide) (by decide), ⟨?_, fun j q h => by simp at h⟩, ⟨?_, fun j q h => by simp at h⟩, ⟨by simp, by simp⟩, a10.of ho hm (by decide) (by decide)⟩
  · unfold fRM_clear; rw [dlt_u, dlt_u, a7.1]
  · unfold fMM_clear; rw [dlt_u, dlt_u, a8.1]
  · rw [siW_s, if_pos rfl]; rfl
  · rw [siW_s, if_pos rfl]; rfl
