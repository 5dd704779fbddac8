/-! shown: the model's row, and the call -/
theorem mwrite_spec {n i : Nat} {g : gT} (ok : BkOk n g) (hi : i < n) {τ : sT} (hB : BkM τ n g) : ∃ τ1, fMM_writesRow (nI i) τ = some τ1 ∧ WrM τ1 (rowL g i) ∧ mOff [50] [38] τ τ1 := by
  have hn := ok.1
  obtain ⟨-, kd, rd, -⟩ := ok.2 i hi
  have hk := kd_n ok hi
  have o1 : mOff [50] [38] τ (siW τ 33 38 0) := mOff_si (by simp)
  have hB1 := hB.of o1 (by decide)
  obtain ⟨τ2, e1, e2, e4⟩ := mterms_loop ok hi 3 0 FU (siW τ 33 38 0) [] (by omega) (by unfold FU; omega) hB1 ⟨by rw [siW_s, if_pos rfl]; rfl, fun j c h => by simp at h⟩ (by simp)
  rw [nI_0] at e1
  have hB2 := hB1.of e4 (by decide)
  have e3 : (termsL g i 3 0 []).length ≤ 9 := by
    have t1 := termL_len [] (g i 0) (120 + 0)
    have t2 := termL_len (termL [] (g i 0) (120 + 0)) (g i 1) (120 + 1)
    have t3 := termL_len (termL (termL [] (g i 0) (120 + 0)) (g i 1) (120 + 1)) (g i 2) (120 + 2)
    have e0 : termsL g i 3 0 [] = termL (termL (termL [] (g i 0) (120 + 0)) (g i 1) (120 + 1)) (g i 2) (120 + 2) := rfl
    rw [e0]
    rw [List.length_nil] at t1
    omega
  have hz := zerL_len _ e3
  have hkl := kndL_len (zerL (termsL g i 3 0 [])) (g i 3).toNat
  -- right side
  have fr4 : ∀ σ16, BkM σ16 n g → WrM σ16 (kndL (zerL (termsL g i 3 0 [])) (g i 3).toNat) → ∃ τ1, (db1 (fMM_at (nI i) (4 : Int32) σ16) fun r19 =>
          if 0 ≤ r19 then
            (db1 (fMM_at (nI i) (4 : Int32) σ16) fun r23 =>
            if 0 ≤ r23 then
              db1 (fMM_at (nI i) (4 : Int32) σ16) fun r30 =>
              db1 (fMM_writesNumber r30 σ16) fun σ27 => some σ27
            else
              db1 (fMM_at (nI i) (4 : Int32) σ16) fun r32 =>
              db1 (fMM_writesNumber (-r32) σ16) fun σ27 => some σ27)
          else
            db1 (fMM_writes (45 : Int32) σ16) fun σ35 =>
            (db1 (fMM_at (nI i) (4 : Int32) σ35) fun r23 =>
            if 0 ≤ r23 then
              db1 (fMM_at (nI i) (4 : Int32) σ35) fun r30 =>
              db1 (fMM_writesNumber r30 σ35) fun σ27 => some σ27
            else
              db1 (fMM_at (nI i) (4 : Int32) σ35) fun r32 =>
              db1 (fMM_writesNumber (-r32) σ35) fun σ27 => some σ27)) = some τ1 ∧ WrM τ1 (rowL g i) ∧ mOff [50] [38] σ16 τ1 := by
    intro σ16 hB6 hW6
    have t4 : fMM_at (nI i) (4 : Int32) σ16 = some (iI (g i 4)) := at_spec hB6 hn hi (k := 4) (by omega)
    rw [db1_t t4]
    unfold rowL rgtL
    by_cases c : 0 ≤ g i 4
    · rw [if_pos ((nn32 (by omega)).mpr c), db1_t t4, if_pos ((nn32 (by omega)).mpr c), db1_t t4, if_pos c, pos_nat c]
      obtain ⟨τ3, f1, f2, f3⟩ := mnum_spec hW6 (by omega) (a := (g i 4).natAbs) (by omega)
      rw [db1_t f1]; exact ⟨τ3, rfl, f2, f3⟩
    · obtain ⟨τ3, f1, f2, f3⟩ := mput_spec hW6 (by omega) 45
      have f1' : fMM_writes (45 : Int32) σ16 = some τ3 := f1
      have t5 : fMM_at (nI i) (4 : Int32) τ3 = some (iI (g i 4)) := at_spec (hB6.of f3 (by decide)) hn hi (k := 4) (by omega)
      obtain ⟨τ4, p1, p2, p3⟩ := mnum_spec f2 (by rw [List.length_append, List.length_singleton]; omega) (a := (g i 4).natAbs) (by omega)
      rw [if_neg (fun z => c ((nn32 (by omega)).mp z)), db1_t f1', db1_t t5, if_neg (fun z => c ((nn32 (by omega)).mp z)), db1_t t5, if_neg c, neg_nat (by omega) (by omega), db1_t p1]
      exact ⟨τ4, rfl, p2, f3.trans p3⟩
  have fin : ∀ σ6, BkM σ6 n g → WrM σ6 (zerL (termsL g i 3 0 [])) → ∃ τ1, (db1 (fMM_at (nI i) (3 : Int32) σ6) fun r9 =>
      if r9 = (2 : Int32) then
        (db1 (fMM_writes (61 : Int32) σ6) fun σ13 =>
        db1 (fMM_at (nI i) (3 : Int32) σ13) fun r15 =>
        if r15 = (1 : Int32) then
          db1 (fMM_writes (61 : Int32) σ13) fun σ38 =>
          (db1 (fMM_at (nI i) (4 : Int32) σ38) fun r19 =>
          if 0 ≤ r19 then
            (db1 (fMM_at (nI i) (4 : Int32) σ38) fun r23 =>
            if 0 ≤ r23 then
              db1 (fMM_at (nI i) (4 : Int32) σ38) fun r30 =>
              db1 (fMM_writesNumber r30 σ38) fun σ27 => some σ27
            else
              db1 (fMM_at (nI i) (4 : Int32) σ38) fun r32 =>
              db1 (fMM_writesNumber (-r32) σ38) fun σ27 => some σ27)
          else
            db1 (fMM_writes (45 : Int32) σ38) fun σ35 =>
            (db1 (fMM_at (nI i) (4 : Int32) σ35) fun r23 =>
            if 0 ≤ r23 then
              db1 (fMM_at (nI i) (4 : Int32) σ35) fun r30 =>
              db1 (fMM_writesNumber r30 σ35) fun σ27 => some σ27
            else
              db1 (fMM_at (nI i) (4 : Int32) σ35) fun r32 =>
              db1 (fMM_writesNumber (-r32) σ35) fun σ27 => some σ27))
        else
          (db1 (fMM_at (nI i) (4 : Int32) σ13) fun r19 =>
          if 0 ≤ r19 then
            (db1 (fMM_at (nI i) (4 : Int32) σ13) fun r23 =>
            if 0 ≤ r23 then
              db1 (fMM_at (nI i) (4 : Int32) σ13) fun r30 =>
              db1 (fMM_writesNumber r30 σ13) fun σ27 => some σ27
            else
              db1 (fMM_at (nI i) (4 : Int32) σ13) fun r32 =>
              db1 (fMM_writesNumber (-r32) σ13) fun σ27 => some σ27)
          else
            db1 (fMM_writes (45 : Int32) σ13) fun σ35 =>
            (db1 (fMM_at (nI i) (4 : Int32) σ35) fun r23 =>
            if 0 ≤ r23 then
              db1 (fMM_at (nI i) (4 : Int32) σ35) fun r30 =>
              db1 (fMM_writesNumber r30 σ35) fun σ27 => some σ27
            else
              db1 (fMM_at (nI i) (4 : Int32) σ35) fun r32 =>
              db1 (fMM_writesNumber (-r32) σ35) fun σ27 => some σ27)))
      else
        (db1 (fMM_writes (60 : Int32) σ6) fun σ13 =>
        db1 (fMM_at (nI i) (3 : Int32) σ13) fun r15 =>
        if r15 = (1 : Int32) then
          db1 (fMM_writes (61 : Int32) σ13) fun σ38 =>
          (db1 (fMM_at (nI i) (4 : Int32) σ38) fun r19 =>
          if 0 ≤ r19 then
            (db1 (fMM_at (nI i) (4 : Int32) σ38) fun r23 =>
            if 0 ≤ r23 then
              db1 (fMM_at (nI i) (4 : Int32) σ38) fun r30 =>
              db1 (fMM_writesNumber r30 σ38) fun σ27 => some σ27
            else
              db1 (fMM_at (nI i) (4 : Int32) σ38) fun r32 =>
              db1 (fMM_writesNumber (-r32) σ38) fun σ27 => some σ27)
          else
            db1 (fMM_writes (45 : Int32) σ38) fun σ35 =>
            (db1 (fMM_at (nI i) (4 : Int32) σ35) fun r23 =>
            if 0 ≤ r23 then
              db1 (fMM_at (nI i) (4 : Int32) σ35) fun r30 =>
              db1 (fMM_writesNumber r30 σ35) fun σ27 => some σ27
            else
              db1 (fMM_at (nI i) (4 : Int32) σ35) fun r32 =>
              db1 (fMM_writesNumber (-r32) σ35) fun σ27 => some σ27))
        else
          (db1 (fMM_at (nI i) (4 : Int32) σ13) fun r19 =>
          if 0 ≤ r19 then
            (db1 (fMM_at (nI i) (4 : Int32) σ13) fun r23 =>
            if 0 ≤ r23 then
              db1 (fMM_at (nI i) (4 : Int32) σ13) fun r30 =>
              db1 (fMM_writesNumber r30 σ13) fun σ27 => some σ27
            else
              db1 (fMM_at (nI i) (4 : Int32) σ13) fun r32 =>
              db1 (fMM_writesNumber (-r32) σ13) fun σ27 => some σ27)
          else
            db1 (fMM_writes (45 : Int32) σ13) fun σ35 =>
            (db1 (fMM_at (nI i) (4 : Int32) σ35) fun r23 =>
            if 0 ≤ r23 then
              db1 (fMM_at (nI i) (4 : Int32) σ35) fun r30 =>
              db1 (fMM_writesNumber r30 σ35) fun σ27 => some σ27
            else
              db1 (fMM_at (nI i) (4 : Int32) σ35) fun r32 =>
              db1 (fMM_writesNumber (-r32) σ35) fun σ27 => some σ27)))) = some τ1 ∧ WrM τ1 (rowL g i) ∧ mOff [50] [38] σ6 τ1 := by
    intro σ6 hB6 hW6
    have t3 : fMM_at (nI i) (3 : Int32) σ6 = some (iI (g i 3)) := at_spec hB6 hn hi (k := 3) (by omega)
    rw [db1_t t3, hk.1]
    rcases k012 hk.2 with k | k | k
    · obtain ⟨τ3, f1, f2, f3⟩ := mput_spec hW6 (by omega) 60
      have f1' : fMM_writes (60 : Int32) σ6 = some τ3 := f1
      have hB3 := hB6.of f3 (by decide)
      have t5 : fMM_at (nI i) (3 : Int32) τ3 = some (iI (g i 3)) := at_spec hB3 hn hi (k := 3) (by omega)
      rw [k, if_neg (by decide), db1_t f1', db1_t t5, hk.1, k, if_neg (by decide)]
      obtain ⟨τ4, p1, p2, p3⟩ := fr4 τ3 hB3 (by unfold kndL; rw [if_pos k]; exact f2)
      exact ⟨τ4, p1, p2, f3.trans p3⟩
    · obtain ⟨τ3, f1, f2, f3⟩ := mput_spec hW6 (by omega) 60
      have f1' : fMM_writes (60 : Int32) σ6 = some τ3 := f1
      have hB3 := hB6.of f3 (by decide)
      have t5 : fMM_at (nI i) (3 : Int32) τ3 = some (iI (g i 3)) := at_spec hB3 hn hi (k := 3) (by omega)
      obtain ⟨τ4, q1, q2, q3⟩ := mput_spec f2 (by rw [List.length_append, List.length_singleton]; omega) 61
      have q1' : fMM_writes (61 : Int32) τ3 = some τ4 := q1
      rw [k, if_neg (by decide), db1_t f1', db1_t t5, hk.1, k, if_pos (by decide), db1_t q1']
      obtain ⟨τ5, p1, p2, p3⟩ := fr4 τ4 (hB3.of q3 (by decide)) (by unfold kndL; rw [if_neg (by omega), if_pos k]; exact q2)
      exact ⟨τ5, p1, p2, (f3.trans q3).trans p3⟩
    · obtain ⟨τ3, f1, f2, f3⟩ := mput_spec hW6 (by omega) 61
      have f1' : fMM_writes (61 : Int32) σ6 = some τ3 := f1
      have hB3 := hB6.of f3 (by decide)
      have t5 : fMM_at (nI i) (3 : Int32) τ3 = some (iI (g i 3)) := at_spec hB3 hn hi (k := 3) (by omega)
      rw [k, if_pos (by decide), db1_t f1', db1_t t5, hk.1, k, if_neg (by decide)]
      obtain ⟨τ4, p1, p2, p3⟩ := fr4 τ3 hB3 (by unfold kndL; rw [if_neg (by omega), if_neg (by omega)]; exact f2)
      exact ⟨τ4, p1, p2, f3.trans p3⟩
  unfold fMM_writesRow
  simp only [dlt_u]
  rw [e1, e2.1]
  by_cases z : (termsL g i 3 0 []).length = 0
  · rw [if_pos (by rw [z]; rfl)]
    obtain ⟨τ3, f1, f2, f3⟩ := mput_spec e2 (by omega) 48
    have f1' : fMM_writes (48 : Int32) τ2 = some τ3 := f1
    rw [db1_t f1']
    obtain ⟨τ4, p1, p2, p3⟩ := fin τ3 (hB2.of f3 (by decide)) (by unfold zerL; rw [if_pos z]; exact f2)
    exact ⟨τ4, p1, p2, (o1.trans e4).trans (f3.trans p3)⟩
  · rw [if_neg (nI_ne0 (by omega) (by omega))]
    obtain ⟨τ4, p1, p2, p3⟩ := fin τ2 hB2 (by unfold zerL; rw [if_neg z]; exact e2)
    exact ⟨τ4, p1, p2, (o1.trans e4).trans p3⟩
theorem do_shown : op_shown Inv := by
  intro σ τ hI x1 x2
  obtain ⟨n, g, U, T, h⟩ := id hI
  obtain ⟨ok, hC, hM, -⟩ := id h
  have hn := ok.1
  obtain ⟨σ1, τ1, e1, e2, e3⟩ := ref_B hI
  unfold fRM_shown fMM_shown
  simp only [dlt_u]
  rw [db1_t (bhas_wi hC.1 hn x1), db1_t (isRow_wi hM.1 hn x1), db2_t e1, db2_t e2]
  cases hc : wi x1 0 ((n : Int) - 1)
  · rw [if_pos b0, if_pos b0]
    exact ⟨_, _, _, rfl, rfl, e3⟩
  rw [if_neg b1, if_neg b1]
  by_cases hj : x2 < 0
  · rw [if_neg (fun z => by
      rw [Int32.le_iff_toInt_le] at z
      rw [Int32.lt_iff_toInt_lt] at hj
      omega), if_pos hj]
    exact ⟨_, _, _, rfl, rfl, e3⟩
  · obtain ⟨j, hj2, rfl⟩ := nI_of hj
    rw [if_pos (nI_pos' hj2), if_neg hj]
    obtain ⟨i, hi, rfl⟩ := wi_n hc
    obtain ⟨σ2, f1, f2, f3, f4⟩ := write_spec ok (i := i) (by omega) hC
    obtain ⟨τ2, p1, p2, p3⟩ := mwrite_spec ok (i := i) (by omega) hM
    have hI1 := hI.same (sameC.off f4 (by decide)) (sameM.off p3 (by decide) (by decide))
    unfold fMM_shownOf fWr_byteAt
    rw [db1_t f1, db1_t p1, f2.1, p2.1, if_neg hj]
    by_cases hl : (rowL g i).length ≤ j
    · rw [if_pos (nI_le hl hj2), if_pos (nI_le hl hj2)]
      exact ⟨_, _, _, rfl, rfl, hI1⟩
    · obtain ⟨c, hc⟩ := get_lt (show j < (rowL g i).length by omega)
      rw [if_neg (nI_ge (by omega) (by omega)), if_neg (nI_ge (by omega) (by omega)), if_neg (show ¬ (14 : Int32) ≤ nI j from nI_ge (b := 14) (by omega) (by omega)), dck_t (okI_n (by omega) (by omega)), dck_t (okI_n (by omega) (by omega)), nc (by omega), f2.2 j c hc, p2.2 j c hc]
      exact ⟨_, _, _, rfl, rfl, hI1⟩
