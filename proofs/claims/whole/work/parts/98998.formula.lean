/-! formula -/
theorem orL_ltn {n : Nat} : ∀ (is : List Nat) {O : Nat}, O < 2 ^ n → (∀ i ∈ is, i < n) → orL O is < 2 ^ n
  | [], _, h, _ => h
  | i :: is, O, h, hi => orL_ltn is (Nat.or_lt_two_pow h (Nat.pow_lt_pow_right (by omega) (hi i List.mem_cons_self))) (fun j hj => hi j (List.mem_cons_of_mem _ hj))
theorem lays_x {n C : Nat} {g : gT} (ok : BkOk n g) (hC : C < 2 ^ n) (hl : (idxL C 12 0).length ≤ 5) {τ : sT} (hB : BkM τ n g) : ∃ τ1, fMM_laysSides (nI C) τ = some τ1 ∧ SdAt τ1 (idxL C 12 0) ∧ mOff [43] [23] τ τ1 := by
  have hn := ok.1
  have hL' : idxL C n 0 = idxL C 12 0 := by
    have := idxL_ext (d := 12 - n) hC n 0 (by omega)
    rw [show n + (12 - n) = 12 by omega] at this
    rw [this]
  obtain ⟨τa, hta⟩ : ∃ z, z = siW τ 33 23 (0 : Int32) := ⟨_, rfl⟩
  have pa : mOff [43] [23] τ τa := by rw [hta]; exact mOff_si (by simp)
  have hDa : SdAt τa [] := ⟨by rw [hta, siW_s, if_pos rfl]; rfl, fun p y h => by simp at h⟩
  obtain ⟨τb, f1, f2, f3⟩ := ls7_loop ok hC n 0 FU τa [] (by omega) (by unfold FU; omega) (hB.of pa (by decide)) hDa (by rw [hL', List.length_nil]; omega)
  rw [List.nil_append, hL'] at f2
  rw [nI_0] at f1
  refine ⟨τb, ?_, f2, pa.trans f3⟩
  unfold fMM_laysSides
  rw [dlt_u, ← hta]; exact f1
theorem do_formula : op_formula Inv := by
  intro σ τ hI x1
  obtain ⟨n, g, U, T, h⟩ := id hI
  obtain ⟨a1, a2, a3, a4, a5, a6, a7, a8, a9, a10⟩ := id h
  have hn := a1.1
  have hT : TxOk T := a9
  have w1 : fRM_isWithin x1 (0 : Int32) (2 : Int32) = some (b01 (wi x1 0 2)) := wiC x1 0 2 rfl rfl (by decide) (by decide)
  have w2 : fMM_in x1.toInt64 (0 : Int64) (2 : Int64) = some (b01 (wi x1 0 2)) := wiM x1 0 2 rfl rfl (by decide) (by decide)
  unfold fRM_formula fMM_formula
  rw [db1_t w1, db1_t w2]
  cases hw : wi x1 0 2
  · rw [if_pos b0, if_pos b0]
    obtain ⟨σ1, τ1, e1, e2, e3⟩ := ref_B hI
    rw [db2_t e1, db2_t e2]
    exact ⟨_, _, _, rfl, rfl, e3⟩
  rw [if_neg b1, if_neg b1]
  obtain ⟨w, hw2, rfl⟩ := wi_n hw
  rcases form_x hT hn with ⟨q, rC, rM⟩ | ⟨R, F, hRl, hS, hN, rC, rM⟩
  · obtain ⟨y, σ1, e1, e2, e3⟩ := rC σ a7 a2.1
    obtain ⟨τ1, f1, f2, f3⟩ := rM τ a8 a3.1
    obtain ⟨hq, r, hr, hSc⟩ := id e2
    rw [db2_t e1, db1_t (e2.yes hT), if_neg (show ¬ (1 : Int32) = 0 by decide), hSc.2.2, iI_nI, db2_t f1, if_pos rfl, f2.2.2]
    exact ⟨_, _, _, rfl, rfl, hI.same (sameC.sc e3 (by decide)) (sameM.off f3 (by decide) (by decide))⟩
  · obtain ⟨y, q, σ1, e1, e2, e3, e4⟩ := rC σ a7 a2.1
    obtain ⟨τ1, f1, f2, f3⟩ := rM τ a8 a3.1
    have hI1 : Inv σ1 τ1 := hI.same (sameC.sc e3 (by decide)) (sameM.off f3 (by decide) (by decide))
    have h1 := h.same (sameC.sc e3 (by decide)) (sameM.off f3 (by decide) (by decide))
    obtain ⟨-, c2, c3, -⟩ := h1
    have hN12 : ∀ i ∈ numsR R, i < 12 := fun i hi => by have := hN i hi; omega
    have hnm := named_x f2 hRl hS.1 hN12
    have hC : orL 0 (numsR R) < 2 ^ n := orL_ltn _ (Nat.two_pow_pos n) hN
    have hC' := lt_4096 hn hC
    have hbit : ∀ i, (orL 0 (numsR R)).testBit i = true ↔ i ∈ numsR R := by
      intro i
      rw [orL_bit, Nat.zero_testBit]
      exact ⟨fun z => z.elim (fun z => by cases z) id, Or.inr⟩
    obtain ⟨hcp, sg, s28, -, slk, -⟩ := e2
    have hno := hcp.no
    obtain ⟨C, hCe⟩ : ∃ C, C = orL 0 (numsR R) := ⟨_, rfl⟩
    rw [← hCe] at hnm hC hC' hbit s28
    have hbc := bc_spec hC'
    have hon := ones_spec hC'
    obtain ⟨L, hLe⟩ : ∃ L, L = idxL C 12 0 := ⟨_, rfl⟩
    have hLmem : ∀ i, i ∈ L ↔ i ∈ numsR R := by
      intro i
      rw [hLe, idxL_mem]
      constructor
      · rintro ⟨-, -, z⟩
        exact (hbit i).mp z
      · intro z
        exact ⟨Nat.zero_le _, by have := hN12 i z; omega, (hbit i).mpr z⟩
    have hLn : ∀ i ∈ L, i < n := fun i hi => hN i ((hLmem i).mp hi)
    have hLnd : L.Nodup := by
      rw [hLe]
      exact (idxL_sorted (C := C) 12 0).imp (fun h => Nat.ne_of_lt h)
    rw [db2_t e1, db1_t hno, if_pos rfl, s28, db1_t hbc, db2_t f1, if_neg (show ¬ (1 : Int32) = 0 by decide), db1_t hnm, db1_t hon, ← hLe]
    have hl12 : L.length ≤ 12 := by
      have := nod_len hLnd (M := List.range 12) (fun i hi => List.mem_range.mpr (by have := hLn i hi; omega))
      rw [List.length_range] at this
      exact this
    by_cases hs : L.length ≤ 5
    · have h5 : nI L.length ≤ (5 : Int32) := nI_le (b := 5) hs (by omega)
      obtain ⟨τ2, g1, g2, g3⟩ := lays_x a1 hC (by rw [← hLe]; exact hs) c3
      rw [← hLe] at g2
      rw [if_pos h5, if_pos h5, db1_t g1]
      by_cases hw22 : w = 2
      · rw [if_pos (show nI w = (2 : Int32) by rw [hw22]; rfl), if_pos (show nI w = (2 : Int32) by rw [hw22]; rfl)]
        exact ⟨_, _, _, rfl, rfl, hI1.same (sameC.refl _) (sameM.off g3 (by decide) (by decide))⟩
      · have hwn : ¬ nI w = (2 : Int32) := fun z => hw22 ((nI_eq (b := 2) (by omega) (by omega)).mp z)
        rw [if_neg hwn, if_neg hwn]
        obtain ⟨σ2, k1, k2, k3⟩ := begin_spec σ1 g
        obtain ⟨Lc, hLc⟩ : ∃ Lc, Lc = addL [] (numsR R) := ⟨_, rfl⟩
        rw [← hLc] at sg slk
        obtain ⟨r1, r2⟩ := addL_room (n := n) hs (numsR R) (L := []) ⟨List.nodup_nil, by simp, fun i h => by cases h⟩ hN (fun j hj => by cases hj) (fun i hi => (hLmem i).mpr hi)
        rw [← hLc] at r1 r2
        have hperm : Lc.Perm L := (List.perm_ext_iff_of_nodup slk.1 hLnd).mpr (fun i => ⟨r2 i, fun hi => r1 i ((hLmem i).mp hi)⟩)
        obtain ⟨G, hG⟩ : ∃ G : List (Nat × Nat) → Bool, G = fun Q => if w = 1 then true else F (vQ g Q) := ⟨_, rfl⟩
        have hGp : ∀ Q Q' : List (Nat × Nat), Q.Perm Q' → G Q = G Q' := by
          intro Q Q' hQ
          rw [hG]
          dsimp only
          rw [vQ_perm hQ]
        obtain ⟨tbl, htbl⟩ : ∃ tbl : Int32, tbl = if w = 1 then (-1 : Int32) else y := ⟨_, rfl⟩
        have hGt : ∀ (Q : List (Nat × Nat)) (pl : Nat), Q.map Prod.fst = Lc → pl < 32 → (∀ (j : Nat) (q : Nat × Nat), Q[j]? = some q → pl.testBit j = truE g q.1 q.2) → tbl.toBitVec.getLsbD pl = G Q := by
          intro Q pl hQ hpl hb
          rw [htbl, hG]
          dsimp only
          by_cases z : w = 1
          · rw [if_pos z, if_pos z]; exact m1_bits ⟨pl, hpl⟩
          · rw [if_neg z, if_neg z]
            refine e4 ⟨L, hs, fun i hi => (by cases hi), fun i hi => (hLmem i).mpr hi⟩ pl (vQ g Q) hpl (fun j i hj => ?_)
            rw [← hLc, ← hQ, List.getElem?_map] at hj
            cases hQj : Q[j]? with
            | none => rw [hQj] at hj; cases hj
            | some q' =>
              rw [hQj] at hj
              have hqi : q'.1 = i := Option.some.inj hj
              rw [← hqi, vQ_at (by rw [hQ]; exact slk.1) (List.mem_of_getElem? hQj), hb j q' hQj]
        obtain ⟨σ3, m1, m2, m3⟩ := count_spec a1 slk.2.2 slk.2.1 (tbl := tbl) (tb := fun pl => if tbl.toBitVec.getLsbD pl = true then 1 else 0) (fun pl hp => tab_bit tbl hp) Lc [] 0 RDSG 0 σ2 rfl (by have := slk.2.1; unfold RDSG; omega) (c2.of k3 (by decide) (by decide)) (sg.of k3 (by decide) (by decide)) k2 (satQ_nil g) (by simp)
        rw [cnt_sgG Lc slk.2.1 hGt Lc [] 0 rfl (satQ_nil g) (by simp) (fun j q h => by simp at h), sgG_R hGp hperm, List.length_nil, nI_0] at m1
        have h243 : 3 ^ L.length ≤ 243 := show 3 ^ L.length ≤ 3 ^ 5 from Nat.pow_le_pow_right (by omega) hs
        obtain ⟨τ3, p1, p2⟩ := fo_loop a1 hLn hs hLnd hRl hS (fun i hi => (hLmem i).mpr hi) (w := w) (by omega) (G := G) (fun Q => by rw [hG]) (3 ^ L.length) 0 FU 0 τ2 (by omega) (by unfold FU; omega) (c3.of g3 (by decide)) g2 (f2.of g3 (by decide) (by decide)) rfl
        have sgg := sum_sgG (g := g) (G := G) L []
        simp only [List.nil_append] at sgg
        rw [sgg, nI_0] at p1
        refine ⟨nI (sgG g G L []), σ3, τ3, ?_, ?_, (hI1.same (sameC.off (k3.mono (by simp) |>.trans (m3.mono (by simp)) : offC [6, 7, 8, 9, 10, 11, 12, 13, 14, 15] σ1 σ3) (by decide)) (sameM.off ((g3.mono (by simp) (by simp)).trans (p2.mono (by simp) (by simp)) : mOff [43, 37, 38, 44, 48] [23, 5, 7, 8, 9, 10, 11, 12, 13, 14] τ1 τ3) (by decide) (by decide)))⟩
        · obtain ⟨D, hD⟩ : ∃ D, RDSG = D := ⟨_, rfl⟩
          rw [hD] at m1 ⊢
          rw [db1_t k1, dlt_u]
          by_cases z : w = 1
          · rw [if_pos z] at htbl
            rw [if_neg (show ¬ nI w = (0 : Int32) from nI_ne0 (by omega) (by omega))]
            rw [htbl] at m1
            dsimp only
            rw [db2_t m1]
          · have z0 : w = 0 := by omega
            rw [if_neg z] at htbl
            rw [if_pos (show nI w = (0 : Int32) by rw [z0]; rfl)]
            rw [htbl] at m1
            dsimp only
            rw [db2_t m1]
        · have p1' : fMM_formulaOf (nI w) τ2 = some (nI (sgG g G L []), τ3) := by
            unfold fMM_formulaOf
            exact p1
          rw [db2_t p1']
    · have h5 : ¬ nI L.length ≤ (5 : Int32) := nI_ge (a := 5) (by omega) (by omega)
      obtain ⟨σr, τr, r1, r2, r3⟩ := ref_N hI1
      rw [if_neg h5, if_neg h5, db2_t r1, db2_t r2]
      exact ⟨_, _, _, rfl, rfl, r3⟩
