/-! sign vectors: the class's count -/
theorem count_spec {n : Nat} {g : gT} (ok : BkOk n g) {L : List Nat} (hL : ∀ i ∈ L, i < n) (hs : L.length ≤ 5) {tbl : Int32} {tb : Nat → Nat} (htb : ∀ pl, pl < 32 → ((tbl.toUInt32 >>> ((nI pl).toUInt32 &&& Int32.toUInt32 31)).toInt32) &&& (1 : Int32) = nI (tb pl)) :
    ∀ (R : List Nat) (Q : List (Nat × Nat)) (pl d t : Nat) (σ : sT), L = Q.map Prod.fst ++ R → R.length < d → BkC σ n g → SgAt σ L → RowsAt σ 6 7 8 (stQ g Q) → satQ g Q → pl < 2 ^ Q.length →
      ∃ σ1, fSg_rec d t (nI Q.length) (nI pl) tbl σ = some (nI (cntC g tb R Q pl), σ1) ∧ RowsAt σ1 6 7 8 (stQ g Q) ∧ offC [6, 7, 8, 9, 10, 11, 12, 13, 14, 15] σ σ1 := by
  intro R
  induction R with
  | nil =>
    intro Q pl d t σ hLQ hd hB hS hR hq hp
    obtain ⟨d', rfl⟩ : ∃ d', d = d' + 1 := ⟨d - 1, by omega⟩
    have hlen : L.length = Q.length := by rw [hLQ, List.append_nil, List.length_map]
    have hp32 : pl < 32 := Nat.lt_of_lt_of_le hp (show 2 ^ Q.length ≤ 2 ^ 5 from Nat.pow_le_pow_right (by omega) (by omega))
    rw [fSg_rec]
    unfold fSg_count_B
    rw [hS.1, hlen, if_pos (nI_le (Nat.le_refl _) (by omega)), htb pl hp32]
    exact ⟨σ, rfl, hR, offC.refl _ _⟩
  | cons i R ih =>
    intro Q pl d t σ hLQ hd hB hS hR hq hp
    obtain ⟨d', rfl⟩ : ∃ d', d = d' + 1 := ⟨d - 1, by omega⟩
    have hlen : L.length = Q.length + (R.length + 1) := by rw [hLQ, List.length_append, List.length_map, List.length_cons]
    have hi : i < n := hL i (by rw [hLQ]; simp)
    have hQn : ∀ q ∈ Q, q.1 < n := fun q hq => hL q.1 (by rw [hLQ]; exact List.mem_append_left _ (List.mem_map.mpr ⟨q, hq, rfl⟩))
    have hget : L[Q.length]? = some i := by
      rw [hLQ, List.getElem?_append_right (by rw [List.length_map]; omega), List.length_map, Nat.sub_self]; rfl
    have hp12 : pl < 4096 := Nat.lt_of_lt_of_le hp (show 2 ^ Q.length ≤ 2 ^ 12 from Nat.pow_le_pow_right (by omega) (by omega))
    rw [List.length_cons] at hd
    -- one sign
    obtain ⟨term, hterm⟩ : ∃ term : Nat → Nat, term = fun e => if dP (satQ g (Q ++ [(i, e)])) = true then cntC g tb R (Q ++ [(i, e)]) (pl ||| (if truE g i e = true then 2 ^ Q.length else 0)) else 0 := ⟨_, rfl⟩
    have one : ∀ (e f : Nat) (acc : Nat) (σ0 : sT), e < 3 → BkC σ0 n g → SgAt σ0 L → RowsAt σ0 6 7 8 (stQ g Q) → ∃ σ1, fSg_count_B_L42 (fSg_rec d') (nI Q.length) (nI pl) tbl (nI i) (nI (stQ g Q).1.length) (f + 1) (nI acc) (iI ((e : Int) - 1)) σ0 = fSg_count_B_L42 (fSg_rec d') (nI Q.length) (nI pl) tbl (nI i) (nI (stQ g Q).1.length) f (nI (acc + term e)) (iI (((e + 1 : Nat) : Int) - 1)) σ1 ∧ RowsAt σ1 6 7 8 (stQ g Q) ∧ offC [6, 7, 8, 9, 10, 11, 12, 13, 14, 15] σ0 σ1 := by
      intro e f acc σ0 he hB0 hS0 hR0
      obtain ⟨σ1, b, a1, a2, a3, a4⟩ := tsign_spec ok hi he hB0 hQn hR0 (by omega)
      have hB1 := hB0.of a4 (by decide) (by decide)
      have hS1 := hS0.of a4 (by decide) (by decide)
      have hnx : iI ((e : Int) - 1) + (1 : Int32) = iI (((e + 1 : Nat) : Int) - 1) := by
        rw [show (1 : Int32) = iI 1 from rfl, iI_add]; congr 1; omega
      have hlt : ¬ (1 : Int32) < iI ((e : Int) - 1) := fun z => by
        have := (iI_lt (a := 1) (by unfold inI; omega) (by unfold inI; omega)).mp z
        omega
      have hdp : b = dP (satQ g (Q ++ [(i, e)])) := dP_of a3
      conv => enter [1, σ1, 1, 1]; unfold fSg_count_B_L42
      rw [if_neg hlt, db2_t a1, hnx]
      simp only [dlt_u]
      cases b
      · obtain ⟨σ2, c1, c2, c3⟩ := ret_spec (by omega) a2 hq
        rw [if_pos b0, db1_t c1]
        refine ⟨σ2, ?_, c2, a4.trans (c3.mono (by simp))⟩
        have : term e = 0 := by rw [hterm]; dsimp only; rw [← hdp, if_neg (by decide)]
        rw [this, show acc + 0 = acc from rfl]
      · rw [if_neg b1, db1_t (istrue_spec ok hi he hB1)]
        have hsat : satQ g (Q ++ [(i, e)]) := a3.mp rfl
        have hQl : (Q ++ [(i, e)]).length = Q.length + 1 := by rw [List.length_append, List.length_singleton]
        have hpl := or32 hp (show Q.length < 5 by omega) (truE g i e)
        obtain ⟨σ2, r1, r2, r3⟩ := ih (Q ++ [(i, e)]) (pl ||| (if truE g i e = true then 2 ^ Q.length else 0)) d' 0 σ1 (by rw [hLQ, List.map_append, List.append_assoc]; rfl) (by omega) hB1 hS1 a2 hsat (by rw [hQl]; exact hpl)
        rw [hQl] at r1
        obtain ⟨σ3, c1, c2, c3⟩ := ret_spec (by omega) r2 hq
        have hterm' : term e = cntC g tb R (Q ++ [(i, e)]) (pl ||| (if truE g i e = true then 2 ^ Q.length else 0)) := by
          rw [hterm]; dsimp only; rw [← hdp, if_pos rfl]
        have hpow : 2 ^ Q.length < 4096 := Nat.lt_of_lt_of_le (Nat.pow_lt_pow_right (by omega) (show Q.length < 5 by omega)) (by decide)
        refine ⟨σ3, ?_, c2, (a4.trans r3).trans (c3.mono (by simp))⟩
        rw [hterm', ← na, nI_1, shl_n (show Q.length ≤ 12 by omega)]
        cases ht : truE g i e
        · rw [ht, if_neg (by decide)] at r1
          rw [if_pos b0, show (0 : Int32) = nI 0 from rfl, nI_or' hp12 (by omega), db2_t r1, db1_t c1]
          rfl
        · rw [ht, if_pos rfl] at r1
          rw [if_neg b1, nI_or' hp12 hpow, db2_t r1, db1_t c1]
          rfl
    obtain ⟨N, hN, hN9⟩ := FU_s
    obtain ⟨N', rfl⟩ : ∃ N', N = N' + 1 + 1 + 1 := ⟨N - 3, by omega⟩
    obtain ⟨σ1, a1, a2, a3⟩ := one 0 (N' + 1 + 1 + 1) 0 σ (by omega) hB hS hR
    obtain ⟨σ2, c1, c2, c3⟩ := one 1 (N' + 1 + 1) (0 + term 0) σ1 (by omega) (hB.of a3 (by decide) (by decide)) (hS.of a3 (by decide) (by decide)) a2
    have o2 := a3.trans c3
    obtain ⟨σ3, e1, e2, e3⟩ := one 2 (N' + 1) (0 + term 0 + term 1) σ2 (by omega) (hB.of o2 (by decide) (by decide)) (hS.of o2 (by decide) (by decide)) c2
    refine ⟨σ3, ?_, e2, o2.trans e3⟩
    rw [fSg_rec]
    unfold fSg_count_B
    rw [hS.1, if_neg (nI_ge (by omega) (by omega)), if_pos (show nI Q.length < (5 : Int32) from nI_lt (b := 5) (by omega) (by omega)), dck_t (okI_n (by omega) (by omega)), dlt_u, nc (by omega), hS.2 _ _ hget]
    have hmk : fSo_mark σ = some (nI (stQ g Q).1.length) := by unfold fSo_mark; rw [hR.1]
    rw [db1_t hmk, hN, show (0 : Int32) = nI 0 from rfl, show (-1 : Int32) = iI (((0 : Nat) : Int) - 1) from rfl, a1, c1, e1]
    unfold fSg_count_B_L42
    rw [if_pos (by decide)]
    have : cntC g tb (i :: R) Q pl = 0 + term 0 + term 1 + term 2 := by
      rw [cntC, hterm]; dsimp only; omega
    rw [this]
