/-! formulas: counts, whichever way and in whichever order they are taken -/
noncomputable def sgG (g : gT) (G : List (Nat × Nat) → Bool) : List Nat → List (Nat × Nat) → Nat
  | [], Q => if (dP (satQ g Q) && G Q) = true then 1 else 0
  | i :: R, Q => sgG g G R (Q ++ [(i, 0)]) + sgG g G R (Q ++ [(i, 1)]) + sgG g G R (Q ++ [(i, 2)])
theorem sgG_un {g : gT} {G : List (Nat × Nat) → Bool} : ∀ (R : List Nat) (Q : List (Nat × Nat)), ¬ satQ g Q → sgG g G R Q = 0
  | [], Q, h => by
    rw [sgG, if_neg (fun z => h (dP_iff.mp (Bool.and_eq_true _ _ ▸ z).1))]
  | i :: R, Q, h => by
    rw [sgG, sgG_un R _ (fun z => h (satQ_pre z)), sgG_un R _ (fun z => h (satQ_pre z)), sgG_un R _ (fun z => h (satQ_pre z))]
theorem sum_sgG {g : gT} {G : List (Nat × Nat) → Bool} : ∀ (R : List Nat) (Q : List (Nat × Nat)), sumN (fun k => if (dP (satQ g (Q ++ mQ R k)) && G (Q ++ mQ R k)) = true then 1 else 0) (3 ^ R.length) = sgG g G R Q
  | [], Q => by
    rw [List.length_nil, Nat.pow_zero, sumN, sumN, Nat.zero_add]
    rw [mQ, List.append_nil, sgG]
  | i :: R, Q => by
    rw [List.length_cons, Nat.pow_succ, Nat.mul_comm, sum3, sgG, ← sum_sgG R, ← sum_sgG R, ← sum_sgG R, sum_add, sum_add]
    have e : ∀ (d k : Nat), d < 3 → Q ++ mQ (i :: R) (3 * k + d) = Q ++ [(i, d)] ++ mQ R k := by
      intro d k hd
      rw [mQ, show (3 * k + d) % 3 = d by omega, show (3 * k + d) / 3 = k by omega, List.append_assoc]; rfl
    have e0 : ∀ k, Q ++ mQ (i :: R) (3 * k) = Q ++ [(i, 0)] ++ mQ R k := fun k => e 0 k (by omega)
    simp only [e0, e 1 _ (show 1 < 3 by omega), e 2 _ (show 2 < 3 by omega)]
theorem satQ_perm {g : gT} {Q Q' : List (Nat × Nat)} (h : Q.Perm Q') : satQ g Q ↔ satQ g Q' := by
  unfold satQ
  refine exists_congr fun p => ?_
  exact ⟨fun k q hq => k q (h.mem_iff.mpr hq), fun k q hq => k q (h.mem_iff.mp hq)⟩
theorem sgG_Q {g : gT} {G : List (Nat × Nat) → Bool} (hG : ∀ Q Q' : List (Nat × Nat), Q.Perm Q' → G Q = G Q') : ∀ (R : List Nat) (Q Q' : List (Nat × Nat)), Q.Perm Q' → sgG g G R Q = sgG g G R Q'
  | [], Q, Q', h => by
    have : dP (satQ g Q) = dP (satQ g Q') := dP_of (dP_iff.trans (satQ_perm h))
    rw [sgG, sgG, this, hG Q Q' h]
  | i :: R, Q, Q', h => by
    rw [sgG, sgG, sgG_Q hG R _ _ (h.append_right _), sgG_Q hG R _ _ (h.append_right _), sgG_Q hG R _ _ (h.append_right _)]
theorem sgG_R {g : gT} {G : List (Nat × Nat) → Bool} (hG : ∀ Q Q' : List (Nat × Nat), Q.Perm Q' → G Q = G Q') {R R' : List Nat} (h : R.Perm R') : ∀ Q : List (Nat × Nat), sgG g G R Q = sgG g G R' Q := by
  induction h with
  | nil => intro Q; rfl
  | cons x _ ih =>
    intro Q
    rw [sgG, sgG, ih, ih, ih]
  | swap x y l =>
    intro Q
    have e : ∀ a b : Nat, sgG g G l (Q ++ [(y, a)] ++ [(x, b)]) = sgG g G l (Q ++ [(x, b)] ++ [(y, a)]) := by
      intro a b
      refine sgG_Q hG l _ _ ?_
      rw [List.append_assoc, List.append_assoc]
      exact List.Perm.append_left Q (List.Perm.swap _ _ _)
    rw [sgG, sgG, sgG, sgG, sgG, sgG, sgG, sgG, e, e, e, e, e, e, e, e, e]
    omega
  | trans _ _ ih1 ih2 =>
    intro Q
    rw [ih1, ih2]
/-- the class's count by a table -/
theorem cnt_sgG {g : gT} {G : List (Nat × Nat) → Bool} {tbl : Int32} (L : List Nat) (hL : L.length ≤ 5) (hG : ∀ (Q : List (Nat × Nat)) (pl : Nat), Q.map Prod.fst = L → pl < 32 → (∀ (j : Nat) (q : Nat × Nat), Q[j]? = some q → pl.testBit j = truE g q.1 q.2) → tbl.toBitVec.getLsbD pl = G Q) :
    ∀ (R : List Nat) (Q : List (Nat × Nat)) (pl : Nat), Q.map Prod.fst ++ R = L → satQ g Q → pl < 2 ^ Q.length → (∀ (j : Nat) (q : Nat × Nat), Q[j]? = some q → pl.testBit j = truE g q.1 q.2) → cntC g (fun pl => if tbl.toBitVec.getLsbD pl = true then 1 else 0) R Q pl = sgG g G R Q
  | [], Q, pl, hQ, hs, hp, hb => by
    rw [List.append_nil] at hQ
    have hlen : Q.length ≤ 5 := by
      have := congrArg List.length hQ
      rw [List.length_map] at this
      omega
    have hp32 : pl < 32 := Nat.lt_of_lt_of_le hp (show 2 ^ Q.length ≤ 2 ^ 5 from Nat.pow_le_pow_right (by omega) hlen)
    rw [cntC, sgG, hG Q pl hQ hp32 hb, dP_iff.mpr hs, Bool.true_and]
  | i :: R, Q, pl, hQ, hs, hp, hb => by
    have t : ∀ e, (if dP (satQ g (Q ++ [(i, e)])) = true then cntC g (fun pl => if tbl.toBitVec.getLsbD pl = true then 1 else 0) R (Q ++ [(i, e)]) (pl ||| (if truE g i e = true then 2 ^ Q.length else 0)) else 0) = sgG g G R (Q ++ [(i, e)]) := by
      intro e
      by_cases z : satQ g (Q ++ [(i, e)])
      · rw [if_pos (dP_iff.mpr z)]
        refine cnt_sgG L hL hG R _ _ (by rw [List.map_append, List.append_assoc]; exact hQ) z ?_ ?_
        · rw [List.length_append, List.length_singleton]
          apply Nat.or_lt_two_pow
          · exact Nat.lt_of_lt_of_le hp (Nat.pow_le_pow_right (by omega) (by omega))
          · split
            · exact Nat.pow_lt_pow_right (by omega) (by omega)
            · exact Nat.two_pow_pos _
        · intro j q hq
          by_cases hj : j < Q.length
          · rw [List.getElem?_append_left hj] at hq
            rw [Nat.testBit_or, hb j q hq]
            split
            · rw [Nat.testBit_two_pow, decide_eq_false (by omega), Bool.or_false]
            · rw [Nat.zero_testBit, Bool.or_false]
          · rw [List.getElem?_append_right (by omega)] at hq
            have hz : j - Q.length < 1 := (List.getElem?_eq_some_iff.mp hq).1
            have hj0 : j = Q.length := by omega
            subst hj0
            rw [Nat.sub_self] at hq
            cases hq
            rw [Nat.testBit_or, Nat.testBit_lt_two_pow hp, Bool.false_or]
            cases ht : truE g i e
            · rw [if_neg (by decide), Nat.zero_testBit]
            · rw [if_pos rfl, Nat.testBit_two_pow, decide_eq_true rfl]
      · rw [if_neg (fun w => z (dP_iff.mp w)), sgG_un R _ z]
    rw [cntC, sgG, t, t, t]
theorem sh_all : ∀ j : Fin 32, ((nI j.1).toUInt32 &&& Int32.toUInt32 31).toBitVec = BitVec.ofNat 32 j.1 := by decide +kernel
theorem tab_bit (tbl : Int32) {pl : Nat} (hp : pl < 32) : ((tbl.toUInt32 >>> ((nI pl).toUInt32 &&& Int32.toUInt32 31)).toInt32) &&& (1 : Int32) = nI (if tbl.toBitVec.getLsbD pl = true then 1 else 0) := by
  apply Int32.toBitVec_inj.mp
  have h1 : ((tbl.toUInt32 >>> ((nI pl).toUInt32 &&& Int32.toUInt32 31)).toInt32).toBitVec = tbl.toBitVec >>> pl := by
    show (tbl.toUInt32 >>> ((nI pl).toUInt32 &&& Int32.toUInt32 31)).toBitVec = _
    rw [UInt32.toBitVec_shiftRight, sh_all ⟨pl, hp⟩]
    show tbl.toBitVec >>> (BitVec.ofNat 32 pl % 32) = _
    have h2 : (BitVec.ofNat 32 pl % 32 : BitVec 32).toNat = pl := by
      rw [BitVec.toNat_umod, BitVec.toNat_ofNat]
      show pl % 2 ^ 32 % 32 = pl
      omega
    show tbl.toBitVec >>> (BitVec.ofNat 32 pl % 32 : BitVec 32).toNat = _
    rw [h2]
  rw [Int32.toBitVec_and, h1]
  apply BitVec.eq_of_getLsbD_eq
  intro i hi
  rw [BitVec.getLsbD_and, BitVec.getLsbD_ushiftRight]
  have one : ∀ j : Fin 32, (1 : Int32).toBitVec.getLsbD j.1 = decide (j.1 = 0) := by decide +kernel
  have zero : ∀ j : Fin 32, (nI 0).toBitVec.getLsbD j.1 = false := by decide +kernel
  rw [one ⟨i, hi⟩]
  dsimp only
  by_cases z : i = 0
  · subst z
    rw [Nat.add_zero]
    cases h : tbl.toBitVec.getLsbD pl
    · rw [if_neg (by decide), zero ⟨0, hi⟩]; rfl
    · rw [if_pos rfl, show nI 1 = (1 : Int32) from rfl, one ⟨0, hi⟩]; rfl
  · rw [decide_eq_false z, Bool.and_false]
    split
    · rw [show nI 1 = (1 : Int32) from rfl, one ⟨i, hi⟩, decide_eq_false z]
    · rw [zero ⟨i, hi⟩]
theorem vQ_perm {g : gT} {Q Q' : List (Nat × Nat)} (h : Q.Perm Q') : vQ g Q = vQ g Q' := by
  funext i
  unfold vQ
  rw [Bool.eq_iff_iff, List.any_eq_true, List.any_eq_true]
  exact ⟨fun ⟨x, hx, k⟩ => ⟨x, h.mem_iff.mp hx, k⟩, fun ⟨x, hx, k⟩ => ⟨x, h.mem_iff.mpr hx, k⟩⟩
theorem mQ_3 : ∀ (L : List Nat) (k : Nat), ∀ q ∈ mQ L k, q.1 ∈ L ∧ q.2 < 3
  | [], _, q, h => by cases h
  | i :: R, k, q, h => by
    rw [mQ] at h
    rcases List.mem_cons.mp h with h | h
    · rw [h]; exact ⟨List.mem_cons_self, Nat.mod_lt _ (by omega)⟩
    · have := mQ_3 R (k / 3) q h
      exact ⟨List.mem_cons_of_mem _ this.1, this.2⟩
/-- the model's count -/
theorem fo_loop {n : Nat} {g : gT} (ok : BkOk n g) {L : List Nat} (hL : ∀ i ∈ L, i < n) (hs : L.length ≤ 5) (hnd : L.Nodup) {R : List Int} {F : (Nat → Bool) → Bool} (hR : R.length ≤ 80) (hS : Says R F) (hin : ∀ i ∈ numsR R, i ∈ L) {w : Nat} (hw : w ≤ 1) {G : List (Nat × Nat) → Bool} (hG : ∀ Q, G Q = if w = 1 then true else F (vQ g Q)) : ∀ (c k f x : Nat) (τ : sT), k + c = 3 ^ L.length → c < f → BkM τ n g → SdAt τ L → SaAt τ R → x = sumN (fun k => if (dP (satQ g (mQ L k)) && G (mQ L k)) = true then 1 else 0) k →
    ∃ τ1, fMM_formulaOf_L4 (nI w) f (nI x) (nI k) τ = some (nI (sumN (fun k => if (dP (satQ g (mQ L k)) && G (mQ L k)) = true then 1 else 0) (3 ^ L.length)), τ1) ∧ mOff [37, 38, 44, 48] [5, 7, 8, 9, 10, 11, 12, 13, 14] τ τ1 := by
  have h243 : 3 ^ L.length ≤ 243 := show 3 ^ L.length ≤ 3 ^ 5 from Nat.pow_le_pow_right (by omega) hs
  intro c
  induction c with
  | zero =>
    intro k f x τ h1 h2 hB hD hSa hx
    obtain ⟨f', rfl⟩ : ∃ f', f = f' + 1 := ⟨f - 1, by omega⟩
    refine ⟨τ, ?_, mOff.refl _ _ _⟩
    unfold fMM_formulaOf_L4
    rw [db1_t (many_spec hD.1 hs), if_pos (nI_le (by omega) (by omega)), hx, show k = 3 ^ L.length by omega]
  | succ c ih =>
    intro k f x τ h1 h2 hB hD hSa hx
    obtain ⟨f', rfl⟩ : ∃ f', f = f' + 1 := ⟨f - 1, by omega⟩
    obtain ⟨τa, b, e1, e2, e3, e4⟩ := canSides_spec ok hL hs (show k < 1000 by omega) hB hD
    have hBa := hB.of e3 (by decide)
    have hDa := hD.of e3 (by decide) (by decide)
    have hSaa := hSa.of e3 (by decide) (by decide)
    obtain ⟨y, hy⟩ : ∃ y, y = (if (dP (satQ g (mQ L k)) && G (mQ L k)) = true then 1 else 0) := ⟨_, rfl⟩
    have go : ∀ τb : sT, mOff [37, 38, 44, 48] [5, 7, 8, 9, 10, 11, 12, 13, 14] τa τb → ∃ τ1, fMM_formulaOf_L4 (nI w) f' (nI (x + y)) (nI (k + 1)) τb = some (nI (sumN (fun k => if (dP (satQ g (mQ L k)) && G (mQ L k)) = true then 1 else 0) (3 ^ L.length)), τ1) ∧ mOff [37, 38, 44, 48] [5, 7, 8, 9, 10, 11, 12, 13, 14] τ τ1 := by
      intro τb ob
      obtain ⟨τ1, f1, f2⟩ := ih (k + 1) f' (x + y) τb (by omega) (by omega) (hBa.of ob (by decide)) (hDa.of ob (by decide) (by decide)) (hSaa.of ob (by decide) (by decide)) (by rw [sumN, ← hx, hy])
      exact ⟨τ1, f1, ((e3.mono (by simp) (by simp)).trans ob).trans f2⟩
    unfold fMM_formulaOf_L4
    rw [db1_t (many_spec hD.1 hs), if_neg (nI_ge (by omega) (by omega)), db2_t e1]
    cases b
    · have hy0 : y = 0 := by
        have hd : dP (satQ g (mQ L k)) = false := by
          cases h : dP (satQ g (mQ L k))
          · rfl
          · have := e4.mpr (dP_iff.mp h); cases this
        rw [hy, hd, Bool.false_and, if_neg (by decide)]
      have := go τa (mOff.refl _ _ _)
      rw [hy0] at this
      rw [if_pos b0, dlt_u, Int32.add_zero, nI_1]
      exact this
    · have hd : dP (satQ g (mQ L k)) = true := dP_iff.mpr (e4.mp rfl)
      rw [hd, Bool.true_and] at hy
      rw [if_neg b1]
      rcases (show w = 0 ∨ w = 1 by omega) with rfl | rfl
      · -- its truth
        rw [if_neg (show ¬ nI 0 = (1 : Int32) by decide)]
        have hfst := mQ_fst L k
        have hev := hS.2 (vQ g (mQ L k)) [] []
        rw [List.append_nil, evR] at hev
        have hvv : ∀ τ' : sT, mOff [48] [] τa τ' → ∀ i ∈ numsR R, fMM_isTrue (nI i) τ' = some (b01 (vQ g (mQ L k) i)) := by
          intro τ' ho i hi
          refine mtrue ok (hBa.of ho (by decide)) (by rw [hfst]; exact hDa.of ho (by decide) (by decide)) (fun p q hq => ?_) (by rw [hfst]; exact hnd) (by rw [mQ_len]; exact hs) (fun q hq => ?_) (by rw [hfst]; exact hin i hi)
          · rw [(ho.1 44 (by decide) (by decide)).1]; exact e2 p q hq
          · have := mQ_3 L k q hq
            exact ⟨hL _ this.1, this.2⟩
        obtain ⟨τb, g1, g2⟩ := holds_loop hR hS.1 hSaa hvv R [] [] FU τa rfl (mOff.refl _ _ _) (fun j b h => by simp at h) (Nat.le_refl _) hev (by unfold FU; omega)
        have g1' : fMM_holds τa = some (b01 (F (vQ g (mQ L k))), τb) := by
          unfold fMM_holds
          exact g1
        have hg0 := hG (mQ L k)
        rw [if_neg (by decide)] at hg0
        rw [hg0] at hy
        rw [db2_t g1']
        have := go τb (g2.mono (by simp) (by simp))
        cases hf : F (vQ g (mQ L k))
        · rw [hf, if_neg (by decide)] at hy
          rw [hy] at this
          rw [if_pos b0, dlt_u, Int32.add_zero, nI_1]
          exact this
        · rw [hf, if_pos rfl] at hy
          rw [hy] at this
          rw [if_neg b1, dlt_u, nI_1, nI_1]
          exact this
      · have hg1 := hG (mQ L k)
        rw [if_pos rfl] at hg1
        rw [hg1, if_pos rfl] at hy
        have := go τa (mOff.refl _ _ _)
        rw [hy] at this
        rw [if_pos (show nI 1 = (1 : Int32) from rfl), dlt_u, nI_1, nI_1]
        exact this
