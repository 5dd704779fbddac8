/-! type, row, sets, drops -/
theorem byte_n {k : Nat} (h : k < 128) : vp_nar .byte (nI k).toInt8.toInt32 = nI k := by
  have : ∀ j : Fin 128, vp_nar .byte (nI j.1).toInt8.toInt32 = nI j.1 := by decide +kernel
  exact this ⟨k, h⟩
theorem Tx_snoc {f : Nat → Int32} {T : List Nat} (h : ∀ (j c : Nat), T[j]? = some c → f j = nI c) {k : Nat} {f1 : Nat → Int32} (h1 : ∀ j, f1 j = if j = T.length then nI k else f j) : ∀ (j c : Nat), (T ++ [k])[j]? = some c → f1 j = nI c := by
  intro j c hc
  rw [h1]
  by_cases hj : j < T.length
  · rw [if_neg (by omega)]
    rw [List.getElem?_append_left hj] at hc
    exact h j c hc
  · rw [List.getElem?_append_right (by omega)] at hc
    have hz : j - T.length < 1 := (List.getElem?_eq_some_iff.mp hc).1
    have hj0 : j = T.length := by omega
    subst hj0
    rw [Nat.sub_self] at hc
    cases hc
    rw [if_pos rfl]
theorem do_type : op_type Inv := by
  intro σ τ hI w
  obtain ⟨n, g, U, T, h⟩ := id hI
  obtain ⟨a1, a2, a3, a4, a5, a6, a7, a8, a9, a10⟩ := id h
  have ht := a9.1
  unfold fRM_type fMM_type
  have w1 : fRM_isWithin w (0 : Int32) (127 : Int32) = some (b01 (wi w 0 127)) := wiC w 0 127 rfl rfl (by decide) (by decide)
  have w2 : fMM_in w.toInt64 (0 : Int64) (127 : Int64) = some (b01 (wi w 0 127)) := wiM w 0 127 rfl rfl (by decide) (by decide)
  rw [db1_t w1, db1_t w2]
  cases hw : wi w 0 127
  · rw [if_pos b0, if_pos b0]
    obtain ⟨σ1, τ1, e1, e2, e3⟩ := ref_B hI
    rw [db2_t e1, db2_t e2]
    exact ⟨_, _, _, rfl, rfl, e3⟩
  · rw [if_neg b1, if_neg b1]
    obtain ⟨k, hk, rfl⟩ := wi_n hw
    rw [a7.1, a8.1]
    by_cases h80 : T.length = 80
    · rw [if_neg (by rw [h80]; decide), if_pos (by rw [h80]; rfl)]
      obtain ⟨σ1, τ1, e1, e2, e3⟩ := ref_F hI
      rw [db2_t e1, db2_t e2]
      exact ⟨_, _, _, rfl, rfl, e3⟩
    · rw [if_pos (show nI T.length < (80 : Int32) from nI_lt (b := 80) (by omega) (by omega)), if_neg (fun z => h80 ((nI_eq (by omega) (by omega)).mp (z.trans (show (80 : Int32) = nI 80 from rfl))))]
      have ea : fSc_append (nI k) σ = some (siW (siW σ 27 T.length (nI k)) 26 1 (nI (T.length + 1))) := by
        unfold fSc_append
        rw [a7.1, if_neg (show ¬ (80 : Int32) ≤ nI T.length from nI_ge (b := 80) (by omega) (by omega)), dck_t (okI_n (by omega) (by omega)), nc (by omega), byte_n (by omega), dlt_u, dlt_u, siW_n (by decide), a7.1, nI_1]
      rw [db1_t ea, dck_t (okI_n (by omega) (by omega)), nc (by omega), dlt_u, dlt_u, siW_n (σ := τ) (by decide), a8.1, nI_1, siW_s, if_pos rfl, siW_s, if_pos rfl]
      have oc : offC [26, 27] σ (siW (siW σ 27 T.length (nI k)) 26 1 (nI (T.length + 1))) := (offC_si (by simp)).trans (offC_si (by simp))
      have om : mOff [45] [26] τ (siW (siW τ 45 T.length (nI k)) 33 26 (nI (T.length + 1))) := (mOff_ci (by simp) (by decide)).trans (mOff_si (by simp))
      refine ⟨_, _, _, rfl, rfl, n, g, U, T ++ [k], a1, a2.of oc (by decide) (by decide), a3.of om (by decide), a4, a5.of oc (by decide) (by decide) (by decide), a6.of om (by decide) (by decide), ⟨?_, Tx_snoc a7.2 (fun j => ?_)⟩, ⟨?_, Tx_snoc a8.2 (fun j => ?_)⟩, ⟨by simp; omega, fun c hc => ?_⟩, a10.of oc om (by decide) (by decide)⟩
      · rw [siW_s, if_pos rfl]; simp
      · rw [siW_n (by decide), siW_s]
      · rw [siW_s, if_pos rfl]; simp
      · rw [siW_n (by decide), siW_s]
      · rcases List.mem_append.mp hc with hc | hc
        · exact a9.2 c hc
        · rw [List.mem_singleton.mp hc]; omega
def v6 (a b c d e f : Int) (k : Nat) : Int := if k = 0 then a else if k = 1 then b else if k = 2 then c else if k = 3 then d else if k = 4 then e else f
def appG (g : gT) (n : Nat) (v : Nat → Int) : gT := fun i k => if i = n then v k else g i k
theorem append_spec {σ : sT} {n : Nat} {g : gT} (hB : BkC σ n g) (hn : n < 12) (a b c d e f : Int) :
    ∃ σ1, fBk_append (iI a) (iI b) (iI c) (iI d) (iI e) (iI f) σ = some σ1 ∧ BkC σ1 (n + 1) (appG g n (v6 a b c d e f)) ∧ offC [1, 2] σ σ1 ∧ σ1.1 1 4 = σ.1 1 4 ∧ σ1.1 1 5 = σ.1 1 5 := by
  refine ⟨siW (siW (siW (siW (siW (siW (siW σ 2 (n * 6) (iI a)) 2 (n * 6 + 1) (iI b)) 2 (n * 6 + 2) (iI c)) 2 (n * 6 + 3) (iI d)) 2 (n * 6 + 4) (iI e)) 2 (n * 6 + 5) (iI f)) 1 3 (nI (n + 1)), ?_, ⟨?_, fun i hi k hk => ?_⟩, ?_, ?_, ?_⟩
  · unfold fBk_append
    rw [hB.1, if_pos (show nI n < (12 : Int32) from nI_lt (b := 12) (by omega) (by omega)), dlt_u, show (6 : Int32) = nI 6 from rfl, pk_mul]
    simp only [show (1 : Int32) = nI 1 from rfl, show (2 : Int32) = nI 2 from rfl, show (3 : Int32) = nI 3 from rfl, show (4 : Int32) = nI 4 from rfl, show (5 : Int32) = nI 5 from rfl, na, dlt_u]
    simp (disch := omega) only [okI_n, dck_tt, nc]
    rw [siW_n (by decide), siW_n (by decide), siW_n (by decide), siW_n (by decide), siW_n (by decide), siW_n (by decide), hB.1, na]
  · rw [siW_s, if_pos rfl]
  · rw [siW_n (by decide)]
    unfold appG
    by_cases h : i = n
    · subst h
      rw [if_pos rfl]
      unfold v6
      rcases (show k = 0 ∨ k = 1 ∨ k = 2 ∨ k = 3 ∨ k = 4 ∨ k = 5 by omega) with rfl | rfl | rfl | rfl | rfl | rfl <;> simp [siW_s]
    · rw [if_neg h]
      simp (disch := omega) only [siW_s, if_neg]
      exact hB.2 i (by omega) k hk
  · refine offC.trans ?_ (offC_si (by simp))
    refine offC.trans ?_ (offC_si (by simp))
    refine offC.trans ?_ (offC_si (by simp))
    refine offC.trans ?_ (offC_si (by simp))
    refine offC.trans ?_ (offC_si (by simp))
    refine offC.trans ?_ (offC_si (by simp))
    exact offC_si (by simp)
  · rw [siW_s, if_neg (by decide), siW_n (by decide), siW_n (by decide), siW_n (by decide), siW_n (by decide), siW_n (by decide), siW_n (by decide)]
  · rw [siW_s, if_neg (by decide), siW_n (by decide), siW_n (by decide), siW_n (by decide), siW_n (by decide), siW_n (by decide), siW_n (by decide)]
theorem n6' (i : Nat) : (6 : Int32) * nI i = nI (6 * i) := pk_mul 6 i
theorem rowNow_spec {τ : sT} {n : Nat} {g : gT} (hB : BkM τ n g) (hn : n < 12) (a b c d e f : Int) :
    ∃ τ1, fMM_rowNow (iI a) (iI b) (iI c) (iI d) (iI e) (iI f) τ = some (nI n, τ1) ∧ BkM τ1 (n + 1) (appG g n (v6 a b c d e f)) ∧ mOff [34] [] τ τ1 := by
  refine ⟨siW (siW (siW (siW (siW (siW (siW τ 34 (1 + 6 * n) (iI a)) 34 (1 + 6 * n + 1) (iI b)) 34 (1 + 6 * n + 2) (iI c)) 34 (1 + 6 * n + 3) (iI d)) 34 (1 + 6 * n + 4) (iI e)) 34 (1 + 6 * n + 5) (iI f)) 34 0 (nI (n + 1)), ?_, ⟨?_, fun i hi k hk => ?_⟩, ?_⟩
  · unfold fMM_rowNow
    rw [dck_t (by decide), show (0 : Int32).toNatClampNeg = 0 from rfl, hB.1, n6', dlt_u]
    simp only [show (1 : Int32) = nI 1 from rfl, show (2 : Int32) = nI 2 from rfl, show (3 : Int32) = nI 3 from rfl, show (4 : Int32) = nI 4 from rfl, show (5 : Int32) = nI 5 from rfl, na, dlt_u]
    simp (disch := omega) only [okI_n, dck_tt, nc]
    have e0 : (siW (siW (siW (siW (siW (siW τ 34 (1 + 6 * n) (iI a)) 34 (1 + 6 * n + 1) (iI b)) 34 (1 + 6 * n + 2) (iI c)) 34 (1 + 6 * n + 3) (iI d)) 34 (1 + 6 * n + 4) (iI e)) 34 (1 + 6 * n + 5) (iI f)).1 34 0 = nI n := by
      simp (disch := omega) only [siW_s, if_neg]; exact hB.1
    rw [dck_t (by decide), dck_t (by decide), dck_t (by decide), e0, siW_s, if_pos rfl, na, pk_sub (by omega)]
    rfl
  · rw [siW_s, if_pos rfl]
  · unfold appG
    by_cases h : i = n
    · subst h
      rw [if_pos rfl]
      unfold v6
      rcases (show k = 0 ∨ k = 1 ∨ k = 2 ∨ k = 3 ∨ k = 4 ∨ k = 5 by omega) with rfl | rfl | rfl | rfl | rfl | rfl <;> simp [siW_s] <;> omega
    · rw [if_neg h]
      simp (disch := omega) only [siW_s, if_neg]
      exact hB.2 i (by omega) k hk
  · refine mOff.trans ?_ (mOff_ci (by simp) (by decide))
    refine mOff.trans ?_ (mOff_ci (by simp) (by decide))
    refine mOff.trans ?_ (mOff_ci (by simp) (by decide))
    refine mOff.trans ?_ (mOff_ci (by simp) (by decide))
    refine mOff.trans ?_ (mOff_ci (by simp) (by decide))
    refine mOff.trans ?_ (mOff_ci (by simp) (by decide))
    exact mOff_ci (by simp) (by decide)
theorem appG_ok {n : Nat} {g : gT} (ok : BkOk n g) (hn : n < 12) {a b c d e f : Int} (ha : -5 ≤ a ∧ a ≤ 5) (hb : -5 ≤ b ∧ b ≤ 5) (hc : -5 ≤ c ∧ c ≤ 5) (hd : 0 ≤ d ∧ d ≤ 2) (he : -50 ≤ e ∧ e ≤ 50) (hf : 0 ≤ f ∧ f ≤ 1) : BkOk (n + 1) (appG g n (v6 a b c d e f)) := by
  refine ⟨by omega, fun i hi => ?_⟩
  unfold appG
  by_cases h : i = n
  · simp only [if_pos h]
    refine ⟨fun k hk => ?_, hd, he, hf⟩
    rcases (show k = 0 ∨ k = 1 ∨ k = 2 by omega) with rfl | rfl | rfl
    · exact ha
    · exact hb
    · exact hc
  · simp only [if_neg h]
    exact ok.2 i (by omega)
theorem fac_C (a : Int32) : fRM_isFactor a = some (b01 (wi a (-5) 5)) := by
  have h : fRM_isWithin a (-5 : Int32) (5 : Int32) = some (b01 (wi a (-5) 5)) := wiC a (-5) 5 rfl rfl (by decide) (by decide)
  unfold fRM_isFactor; rw [db1_t h, dck_t (okZ_b _)]
theorem fac_M (a : Int32) : fMM_isNumber a = some (b01 (wi a (-5) 5)) := by
  have h : fMM_in a.toInt64 (-5 : Int64) (5 : Int64) = some (b01 (wi a (-5) 5)) := wiM a (-5) 5 rfl rfl (by decide) (by decide)
  unfold fMM_isNumber; rw [db1_t h, dck_t (okZ_b _)]
theorem prop_3 (a : Int32) : fRM_isProperty (3 : Int32) a = some (b01 (wi a 0 2)) := by
  have h : fRM_isWithin a (0 : Int32) (2 : Int32) = some (b01 (wi a 0 2)) := wiC a 0 2 rfl rfl (by decide) (by decide)
  unfold fRM_isProperty; rw [if_pos rfl, db1_t h, dck_t (okZ_b _)]
theorem prop_4 (a : Int32) : fRM_isProperty (4 : Int32) a = some (b01 (wi a (-50) 50)) := by
  have h : fRM_isWithin a (-50 : Int32) (50 : Int32) = some (b01 (wi a (-50) 50)) := wiC a (-50) 50 rfl rfl (by decide) (by decide)
  unfold fRM_isProperty; rw [if_neg (by decide), if_pos rfl, db1_t h, dck_t (okZ_b _)]
theorem prop_5 (a : Int32) : fRM_isProperty (5 : Int32) a = some (b01 (wi a 0 1)) := by
  have h : fRM_isWithin a (0 : Int32) (1 : Int32) = some (b01 (wi a 0 1)) := wiC a 0 1 rfl rfl (by decide) (by decide)
  unfold fRM_isProperty; rw [if_neg (by decide), if_neg (by decide), if_pos rfl, db1_t h]
  cases wi a 0 1 <;> rfl
theorem past_ok {n : Nat} {g : gT} {U : List (Nat × gT)} (ok : BkOk n g) (h : (∀ q ∈ U, BkOk q.1 q.2) ∧ U.length ≤ 6) : (∀ q ∈ ((n, g) :: U).take 6, BkOk q.1 q.2) ∧ (((n, g) :: U).take 6).length ≤ 6 := by
  refine ⟨fun q hq => ?_, by rw [List.length_take]; omega⟩
  rcases List.mem_cons.mp (List.mem_of_mem_take hq) with rfl | hq
  · exact ok
  · exact h.1 q hq
theorem do_row : op_row Inv := by
  intro σ τ hI x1 x2 x3 x4 x5 x6
  obtain ⟨n, g, U, T, h⟩ := id hI
  obtain ⟨a1, a2, a3, a4, a5, a6, a7, a8, a9, a10⟩ := id h
  have hn := a1.1
  obtain ⟨σ1, τ1, e1, e2, e3⟩ := ref_B hI
  have m4 : fMM_in x4.toInt64 (0 : Int64) (2 : Int64) = some (b01 (wi x4 0 2)) := wiM x4 0 2 rfl rfl (by decide) (by decide)
  have m5 : fMM_in x5.toInt64 (-50 : Int64) (50 : Int64) = some (b01 (wi x5 (-50) 50)) := wiM x5 (-50) 50 rfl rfl (by decide) (by decide)
  have m6 : fMM_in x6.toInt64 (0 : Int64) (1 : Int64) = some (b01 (wi x6 0 1)) := wiM x6 0 1 rfl rfl (by decide) (by decide)
  unfold fRM_row fMM_row
  simp only [dlt_u]
  rw [db1_t (fac_C x1), db1_t (fac_M x1), db2_t e1, db2_t e2]
  cases h1 : wi x1 (-5) 5
  · rw [if_pos b0, if_pos b0]
    exact ⟨_, _, _, rfl, rfl, e3⟩
  rw [if_neg b1, if_neg b1, db1_t (fac_C x2), db1_t (fac_M x2)]
  cases h2 : wi x2 (-5) 5
  · rw [if_pos b0, if_pos b0]
    exact ⟨_, _, _, rfl, rfl, e3⟩
  rw [if_neg b1, if_neg b1, db1_t (fac_C x3), db1_t (fac_M x3)]
  cases h3 : wi x3 (-5) 5
  · rw [if_pos b0, if_pos b0]
    exact ⟨_, _, _, rfl, rfl, e3⟩
  rw [if_neg b1, if_neg b1, db1_t (prop_3 x4), db1_t m4]
  cases h4 : wi x4 0 2
  · rw [if_pos b0, if_pos b0]
    exact ⟨_, _, _, rfl, rfl, e3⟩
  rw [if_neg b1, if_neg b1, db1_t (prop_4 x5), db1_t m5]
  cases h5 : wi x5 (-50) 50
  · rw [if_pos b0, if_pos b0]
    exact ⟨_, _, _, rfl, rfl, e3⟩
  rw [if_neg b1, if_neg b1, db1_t (prop_5 x6), db1_t m6]
  cases h6 : wi x6 0 1
  · rw [if_pos b0, if_pos b0]
    exact ⟨_, _, _, rfl, rfl, e3⟩
  rw [if_neg b1, if_neg b1, dck_t (by decide), show (0 : Int32).toNatClampNeg = 0 from rfl, a2.1, a3.1]
  by_cases h12 : n = 12
  · rw [if_neg (by rw [h12]; decide), if_pos (by rw [h12]; rfl)]
    obtain ⟨σ1, τ1, e1, e2, e3⟩ := ref_F hI
    rw [db2_t e1, db2_t e2]
    exact ⟨_, _, _, rfl, rfl, e3⟩
  rw [if_pos (show nI n < (12 : Int32) from nI_lt (b := 12) (by omega) (by omega)), if_neg (fun z => h12 ((nI_eq (by omega) (by omega)).mp (z.trans (show (12 : Int32) = nI 12 from rfl))))]
  obtain ⟨σ2, f1, f2, f3, f4⟩ := remember_spec a2 hn a5 (fun q hq => (a4.1 q hq).1) a4.2
  obtain ⟨τ2, p1, p2, p3, p4⟩ := mkeep_spec a3 hn a6 (fun q hq => (a4.1 q hq).1) a4.2
  obtain ⟨σ3, g1, g2, g3, g4, g5⟩ := append_spec f2 (by omega) x1.toInt x2.toInt x3.toInt x4.toInt x5.toInt x6.toInt
  obtain ⟨τ3, q1, q2, q3⟩ := rowNow_spec p2 (by omega) x1.toInt x2.toInt x3.toInt x4.toInt x5.toInt x6.toInt
  simp only [← iI_self] at g1 q1
  rw [db1_t f1, db1_t g1, db1_t p1, db2_t q1, g2.1, nI_pred]
  have oc : offC [1, 2, 3, 4] σ σ3 := (f4.mono (by simp)).trans (g3.mono (by simp))
  have om : mOff [34, 35] [2] τ τ3 := (p4.mono (by simp) (by simp)).trans (q3.mono (by simp) (by simp))
  refine ⟨_, _, _, rfl, rfl, n + 1, _, _, T, appG_ok a1 (by omega) (wi_i h1) (wi_i h2) (wi_i h3) (wi_i h4) (wi_i h5) (wi_i h6), g2, q2, past_ok a1 a4, f3.of' g4 g5 (g3 3 (by decide)).1 (g3 4 (by decide)).1, p3.of q3 (by decide) (by decide), a7.of oc (by decide) (by decide), a8.of om (by decide) (by decide), a9, a10.of oc om (by decide) (by decide)⟩
