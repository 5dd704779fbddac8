/-! spare, same, core -/
theorem lt_4096 {n m : Nat} (hn : n ≤ 12) (hm : m < 2 ^ n) : m < 4096 := Nat.lt_of_lt_of_le hm (pow12 hn)
noncomputable def spF (g : gT) (m : Nat) : Nat → Nat → Nat → Nat
  | 0, _, acc => acc
  | c + 1, i, acc => spF g m c (i + 1) (if (m.testBit i && dP (impP g (clr m i) i)) = true then acc ||| 2 ^ i else acc)
theorem spF_none {g : gT} {m : Nat} : ∀ (c i acc : Nat), (∀ j, i ≤ j → m.testBit j = false) → spF g m c i acc = acc
  | 0, _, _, _ => rfl
  | c + 1, i, acc, h => by
    rw [spF, h i (Nat.le_refl i), Bool.false_and, if_neg (by decide)]
    exact spF_none c (i + 1) acc (fun j hj => h j (by omega))
theorem spF_ext {g : gT} {m n d : Nat} (hm : m < 2 ^ n) : ∀ (c i acc : Nat), i + c = n → spF g m (c + d) i acc = spF g m c i acc
  | 0, i, acc, h => by
    rw [Nat.zero_add]
    exact spF_none d i acc (fun j hj => by
      apply Bool.eq_false_iff.mpr
      intro z
      have := bit_lt hm z
      omega)
  | c + 1, i, acc, h => by
    rw [show c + 1 + d = (c + d) + 1 by omega, spF, spF]
    exact spF_ext hm c (i + 1) _ (by omega)
theorem spare_loop {n m : Nat} {g : gT} (ok : BkOk n g) (hm : m < 2 ^ n) : ∀ (c i f acc : Nat) (σ : sT), i + c = 12 → c < f → BkC σ n g → acc < 4096 →
    ∃ σ1, fRM_spare_L20 (nI m) f (nI acc) (nI i) σ = some (nI (spF g m c i acc), σ1) ∧ offC [6, 7, 8, 9, 10, 11, 12, 13, 14, 15] σ σ1 := by
  have hm' := lt_4096 ok.1 hm
  intro c
  induction c with
  | zero =>
    intro i f acc σ h1 h2 hB ha
    obtain ⟨f', rfl⟩ : ∃ f', f = f' + 1 := ⟨f - 1, by omega⟩
    unfold fRM_spare_L20
    rw [show (12 : Int32) = nI 12 from rfl, if_pos (nI_le (by omega) (by omega)), spF]
    exact ⟨σ, rfl, offC.refl _ _⟩
  | succ c ih =>
    intro i f acc σ h1 h2 hB ha
    obtain ⟨f', rfl⟩ : ∃ f', f = f' + 1 := ⟨f - 1, by omega⟩
    unfold fRM_spare_L20
    rw [show (12 : Int32) = nI 12 from rfl, if_neg (nI_ge (by omega) (by omega)), db1_t (isIn_spec hm' (by omega)), spF, nI_1]
    cases b : m.testBit i
    · rw [if_pos b0, Bool.false_and, if_neg (by decide)]
      exact ih (i + 1) f' acc σ (by omega) (by omega) hB ha
    · have hi := bit_lt hm b
      have hc := clr_le m i
      obtain ⟨σ1, e1, e2⟩ := implies_spec ok (show clr m i < 2 ^ n by omega) hB hi
      rw [if_neg b1, nI_clr hm' (by omega), db2_t e1, Bool.true_and]
      cases hd : dP (impP g (clr m i) i)
      · rw [if_pos b0, if_neg (by decide)]
        obtain ⟨σ2, f1, f2⟩ := ih (i + 1) f' acc σ1 (by omega) (by omega) (hB.of e2 (by decide) (by decide)) ha
        exact ⟨σ2, f1, e2.trans f2⟩
      · rw [if_neg b1, if_pos rfl, dlt_u, nI_orb ha (by omega)]
        obtain ⟨σ2, f1, f2⟩ := ih (i + 1) f' (acc ||| 2 ^ i) σ1 (by omega) (by omega) (hB.of e2 (by decide) (by decide)) (or_lt ha (by omega))
        exact ⟨σ2, f1, e2.trans f2⟩
theorem mspare_loop {n m : Nat} {g : gT} (ok : BkOk n g) (hm : m < 2 ^ n) : ∀ (c i f acc : Nat) (τ : sT), i + c = n → c < f → BkM τ n g → acc < 4096 →
    ∃ τ1, fMM_spare_L19 (nI m) f (nI acc) (nI i) τ = some (nI (spF g m c i acc), τ1) ∧ mOff [37, 38] [5, 7, 8, 9, 10, 11, 12, 13, 14] τ τ1 := by
  have hm' := lt_4096 ok.1 hm
  have hn := ok.1
  intro c
  induction c with
  | zero =>
    intro i f acc τ h1 h2 hB ha
    obtain ⟨f', rfl⟩ : ∃ f', f = f' + 1 := ⟨f - 1, by omega⟩
    unfold fMM_spare_L19
    rw [dck_t (by decide), show (0 : Int32).toNatClampNeg = 0 from rfl, hB.1, if_pos (nI_le (by omega) (by omega)), spF]
    exact ⟨τ, rfl, mOff.refl _ _ _⟩
  | succ c ih =>
    intro i f acc τ h1 h2 hB ha
    obtain ⟨f', rfl⟩ : ∃ f', f = f' + 1 := ⟨f - 1, by omega⟩
    unfold fMM_spare_L19
    rw [dck_t (by decide), show (0 : Int32).toNatClampNeg = 0 from rfl, hB.1, if_neg (nI_ge (by omega) (by omega)), db1_t (has_spec hm' (by omega)), spF, nI_1]
    simp only [dlt_u, nI_or0]
    cases b : m.testBit i
    · rw [if_pos b0, Bool.false_and, if_neg (by decide)]
      exact ih (i + 1) f' acc τ (by omega) (by omega) hB ha
    · have hi := bit_lt hm b
      have hc := clr_le m i
      obtain ⟨τ1, e1, e2⟩ := bringsRow_spec ok (show clr m i < 2 ^ n by omega) hB hi
      rw [if_neg b1, nI_clr hm' (by omega), db2_t e1, Bool.true_and]
      cases hd : dP (impP g (clr m i) i)
      · rw [if_pos b0, if_neg (by decide)]
        obtain ⟨τ2, f1, f2⟩ := ih (i + 1) f' acc τ1 (by omega) (by omega) (hB.of e2 (by decide)) ha
        exact ⟨τ2, f1, e2.trans f2⟩
      · rw [if_neg b1, if_pos rfl, nI_orb ha (by omega)]
        obtain ⟨τ2, f1, f2⟩ := ih (i + 1) f' (acc ||| 2 ^ i) τ1 (by omega) (by omega) (hB.of e2 (by decide)) (or_lt ha (by omega))
        exact ⟨τ2, f1, e2.trans f2⟩
theorem do_spare : op_spare Inv := by
  intro σ τ hI x1
  obtain ⟨n, g, U, T, h⟩ := id hI
  obtain ⟨ok, hC, hM, -⟩ := id h
  have hn := ok.1
  unfold fRM_spare fMM_spare
  rw [db1_t (covers_spec ok.1 hC.1 x1), db1_t (isSet_spec ok.1 hM.1 x1)]
  cases hc : cov x1 n
  · rw [if_pos b0, if_pos b0]
    obtain ⟨σ1, τ1, e1, e2, e3⟩ := ref_B hI
    rw [db2_t e1, db2_t e2]
    exact ⟨_, _, _, rfl, rfl, e3⟩
  rw [if_neg b1, if_neg b1]
  obtain ⟨m, hm, rfl⟩ := cov_n hc
  obtain ⟨σ2, f1, f2⟩ := spare_loop ok hm 12 0 FU 0 σ (by omega) (by unfold FU; omega) hC (by omega)
  obtain ⟨τ2, p1, p2⟩ := mspare_loop ok hm n 0 FU 0 τ (by omega) (by unfold FU; omega) hM (by omega)
  have hx := spF_ext (g := g) (d := 12 - n) hm n 0 0 (by omega)
  rw [show n + (12 - n) = 12 by omega] at hx
  rw [nI_0] at f1 p1
  rw [f1, p1, hx]
  exact ⟨_, _, _, rfl, rfl, hI.same (sameC.off f2 (by decide)) (sameM.off p2 (by decide) (by decide))⟩
/-! same -/
theorem imp_in {g : gT} {m i : Nat} (h : m.testBit i = true) : impP g m i := fun _ hp => hp i h
theorem same_loop {n m k : Nat} {g : gT} (ok : BkOk n g) (hm : m < 2 ^ n) (hk : k < 2 ^ n) : ∀ (c i f : Nat) (σ : sT), i + c = 12 → c < f → BkC σ n g →
    ∃ (σ1 : sT) (b : Bool), fRM_same_L29 (nI m) (nI k) f (nI i) σ = some (b01 b, σ1) ∧ offC [6, 7, 8, 9, 10, 11, 12, 13, 14, 15] σ σ1 ∧ (b = true ↔ ∀ j, i ≤ j → j < 12 → (k.testBit j = true → impP g m j) ∧ (m.testBit j = true → impP g k j)) := by
  have hm' := lt_4096 ok.1 hm
  have hk' := lt_4096 ok.1 hk
  intro c
  induction c with
  | zero =>
    intro i f σ h1 h2 hB
    obtain ⟨f', rfl⟩ : ∃ f', f = f' + 1 := ⟨f - 1, by omega⟩
    unfold fRM_same_L29
    rw [show (12 : Int32) = nI 12 from rfl, if_pos (nI_le (by omega) (by omega))]
    exact ⟨σ, true, rfl, offC.refl _ _, by simp; intro j h3 h4; omega⟩
  | succ c ih =>
    intro i f σ h1 h2 hB
    obtain ⟨f', rfl⟩ : ∃ f', f = f' + 1 := ⟨f - 1, by omega⟩
    have hd1 := dif_le k m
    have hd2 := dif_le m k
    -- the second half
    have tl : ∀ σ0 : sT, BkC σ0 n g → (k.testBit i = true → impP g m i) → ∃ (σ1 : sT) (b : Bool), (db1 (fRM_isIn (nI (difN m k)) (nI i)) fun r20 =>
        if r20 = 0 then
          fRM_same_L29 (nI m) (nI k) f' (nI (i + 1)) σ0
        else
          db2 (fSo_implies (nI k) (nI i) σ0) fun r23 σ24 =>
          if r23 = 0 then
            some ((0 : Int32), σ24)
          else
            fRM_same_L29 (nI m) (nI k) f' (nI (i + 1)) σ24) = some (b01 b, σ1) ∧ offC [6, 7, 8, 9, 10, 11, 12, 13, 14, 15] σ0 σ1 ∧ (b = true ↔ ∀ j, i ≤ j → j < 12 → (k.testBit j = true → impP g m j) ∧ (m.testBit j = true → impP g k j)) := by
      intro σ0 hB0 hyp
      have ext : ∀ b : Bool, (m.testBit i = true → impP g k i) → (b = true ↔ ∀ j, i + 1 ≤ j → j < 12 → (k.testBit j = true → impP g m j) ∧ (m.testBit j = true → impP g k j)) → (b = true ↔ ∀ j, i ≤ j → j < 12 → (k.testBit j = true → impP g m j) ∧ (m.testBit j = true → impP g k j)) := by
        intro b h1 h2
        rw [h2]
        constructor
        · intro h j hj hj2
          by_cases e : j = i
          · subst e; exact ⟨hyp, h1⟩
          · exact h j (by omega) hj2
        · intro h j hj hj2
          exact h j (by omega) hj2
      rw [db1_t (isIn_spec (by omega) (by omega)), dif_bit hm']
      cases b : (m.testBit i && !k.testBit i)
      · rw [if_pos b0]
        obtain ⟨σ2, b', f1, f2, f3⟩ := ih (i + 1) f' σ0 (by omega) (by omega) hB0
        refine ⟨σ2, b', f1, f2, ext b' (fun hb => imp_in ?_) f3⟩
        rw [hb] at b; simpa using b
      · have bb : m.testBit i = true := by
          cases hh : m.testBit i
          · rw [hh] at b; simp at b
          · rfl
        obtain ⟨σ2, f1, f2⟩ := implies_spec ok hk hB0 (bit_lt hm bb)
        rw [if_neg b1, db2_t f1]
        cases hd : dP (impP g k i)
        · rw [if_pos b0]
          refine ⟨σ2, false, rfl, f2, ?_⟩
          constructor
          · intro h; cases h
          · intro h
            have := dP_iff.mpr ((h i (Nat.le_refl i) (by omega)).2 bb)
            rw [hd] at this; cases this
        · rw [if_neg b1]
          obtain ⟨σ3, b', g1, g2, g3⟩ := ih (i + 1) f' σ2 (by omega) (by omega) (hB0.of f2 (by decide) (by decide))
          exact ⟨σ3, b', g1, f2.trans g2, ext b' (fun _ => dP_iff.mp hd) g3⟩
    unfold fRM_same_L29
    rw [show (12 : Int32) = nI 12 from rfl, if_neg (nI_ge (by omega) (by omega)), nI_dif hk' hm', nI_dif hm' hk', db1_t (isIn_spec (by omega) (by omega)), dif_bit hk', nI_1]
    simp only [dlt_u]
    cases b : (k.testBit i && !m.testBit i)
    · rw [if_pos b0]
      refine tl σ hB (fun hb => imp_in ?_)
      rw [hb] at b; simpa using b
    · have bb : k.testBit i = true := by
        cases hh : k.testBit i
        · rw [hh] at b; simp at b
        · rfl
      obtain ⟨σ2, f1, f2⟩ := implies_spec ok hm hB (bit_lt hk bb)
      rw [if_neg b1, db2_t f1]
      cases hd : dP (impP g m i)
      · rw [if_pos b0]
        refine ⟨σ2, false, rfl, f2, ?_⟩
        constructor
        · intro h; cases h
        · intro h
          have := dP_iff.mpr ((h i (Nat.le_refl i) (by omega)).1 bb)
          rw [hd] at this; cases this
      · rw [if_neg b1]
        obtain ⟨σ3, b', g1, g2, g3⟩ := tl σ2 (hB.of f2 (by decide) (by decide)) (fun _ => dP_iff.mp hd)
        exact ⟨σ3, b', g1, f2.trans g2, g3⟩
theorem ball_loop {n m k : Nat} {g : gT} (ok : BkOk n g) (hm : m < 2 ^ n) (hk : k < 2 ^ n) : ∀ (c i f : Nat) (x : Bool) (τ : sT), i + c = 12 → c < f → BkM τ n g →
    ∃ (τ1 : sT) (b : Bool), fMM_bringsAll_L5 (nI m) (nI k) f (b01 x) (nI i) τ = some (b01 b, τ1) ∧ mOff [37, 38] [5, 7, 8, 9, 10, 11, 12, 13, 14] τ τ1 ∧ (b = true ↔ x = true ∧ ∀ j, i ≤ j → j < 12 → k.testBit j = true → impP g m j) := by
  have hm' := lt_4096 ok.1 hm
  have hk' := lt_4096 ok.1 hk
  intro c
  induction c with
  | zero =>
    intro i f x τ h1 h2 hB
    obtain ⟨f', rfl⟩ : ∃ f', f = f' + 1 := ⟨f - 1, by omega⟩
    unfold fMM_bringsAll_L5
    rw [show (12 : Int32) = nI 12 from rfl, if_pos (nI_le (by omega) (by omega)), dck_t (okZ_b x)]
    exact ⟨τ, x, rfl, mOff.refl _ _ _, by simp; intro _ j h3 h4; omega⟩
  | succ c ih =>
    intro i f x τ h1 h2 hB
    obtain ⟨f', rfl⟩ : ∃ f', f = f' + 1 := ⟨f - 1, by omega⟩
    unfold fMM_bringsAll_L5
    rw [show (12 : Int32) = nI 12 from rfl, if_neg (nI_ge (by omega) (by omega)), nI_1]
    cases x
    · rw [if_pos b0]
      obtain ⟨τ2, b, f1, f2, f3⟩ := ih (i + 1) f' false τ (by omega) (by omega) hB
      have f1' : fMM_bringsAll_L5 (nI m) (nI k) f' (0 : Int32) (nI (i + 1)) τ = some (b01 b, τ2) := f1
      exact ⟨τ2, b, f1', f2, by rw [f3]; simp⟩
    · rw [if_neg b1, db1_t (has_spec hk' (by omega))]
      cases b : k.testBit i
      · rw [if_pos b0]
        obtain ⟨τ2, b', f1, f2, f3⟩ := ih (i + 1) f' true τ (by omega) (by omega) hB
        have f1' : fMM_bringsAll_L5 (nI m) (nI k) f' (1 : Int32) (nI (i + 1)) τ = some (b01 b', τ2) := f1
        refine ⟨τ2, b', f1', f2, ?_⟩
        rw [f3]
        refine and_congr Iff.rfl ⟨fun h j hj hj2 hb => ?_, fun h j hj hj2 hb => h j (by omega) hj2 hb⟩
        by_cases e : j = i
        · subst e; rw [b] at hb; cases hb
        · exact h j (by omega) hj2 hb
      · obtain ⟨τ2, f1, f2⟩ := bringsRow_spec ok hm hB (bit_lt hk b)
        rw [if_neg b1, db2_t f1]
        cases hd : dP (impP g m i)
        · rw [if_pos b0]
          obtain ⟨τ3, b', g1, g2, g3⟩ := ih (i + 1) f' false τ2 (by omega) (by omega) (hB.of f2 (by decide))
          have g1' : fMM_bringsAll_L5 (nI m) (nI k) f' (0 : Int32) (nI (i + 1)) τ2 = some (b01 b', τ3) := g1
          refine ⟨τ3, b', g1', f2.trans g2, ?_⟩
          rw [g3]
          constructor
          · rintro ⟨h, -⟩; cases h
          · rintro ⟨-, h⟩
            have := dP_iff.mpr (h i (Nat.le_refl i) (by omega) b)
            rw [hd] at this; cases this
        · rw [if_neg b1]
          obtain ⟨τ3, b', g1, g2, g3⟩ := ih (i + 1) f' true τ2 (by omega) (by omega) (hB.of f2 (by decide))
          have g1' : fMM_bringsAll_L5 (nI m) (nI k) f' (1 : Int32) (nI (i + 1)) τ2 = some (b01 b', τ3) := g1
          refine ⟨τ3, b', g1', f2.trans g2, ?_⟩
          rw [g3]
          refine and_congr Iff.rfl ⟨fun h j hj hj2 hb => ?_, fun h j hj hj2 hb => h j (by omega) hj2 hb⟩
          by_cases e : j = i
          · subst e; exact dP_iff.mp hd
          · exact h j (by omega) hj2 hb
theorem do_same : op_same Inv := by
  intro σ τ hI x1 x2
  obtain ⟨n, g, U, T, h⟩ := id hI
  obtain ⟨ok, hC, hM, -⟩ := id h
  have hn := ok.1
  obtain ⟨σ1, τ1, e1, e2, e3⟩ := ref_B hI
  unfold fRM_same fMM_same
  simp only [dlt_u]
  rw [db1_t (covers_spec ok.1 hC.1 x1), db1_t (isSet_spec ok.1 hM.1 x1), db2_t e1, db2_t e2]
  cases hc : cov x1 n
  · rw [if_pos b0, if_pos b0]
    exact ⟨_, _, _, rfl, rfl, e3⟩
  rw [if_neg b1, if_neg b1, db1_t (covers_spec ok.1 hC.1 x2), db1_t (isSet_spec ok.1 hM.1 x2)]
  cases hc2 : cov x2 n
  · rw [if_pos b0, if_pos b0]
    exact ⟨_, _, _, rfl, rfl, e3⟩
  rw [if_neg b1, if_neg b1]
  obtain ⟨m, hm, rfl⟩ := cov_n hc
  obtain ⟨k, hk, rfl⟩ := cov_n hc2
  obtain ⟨σ2, b, f1, f2, f3⟩ := same_loop ok hm hk 12 0 FU σ (by omega) (by unfold FU; omega) hC
  obtain ⟨τ2, b', p1, p2, p3⟩ := ball_loop ok hm hk 12 0 FU true τ (by omega) (by unfold FU; omega) hM
  rw [nI_0] at f1 p1
  have p1' : fMM_bringsAll (nI m) (nI k) τ = some (b01 b', τ2) := by unfold fMM_bringsAll; exact p1
  rw [f1, db2_t p1']
  cases b'
  · rw [if_pos b0]
    have hb : b = false := by
      apply Bool.eq_false_iff.mpr
      intro z
      have h1 := f3.mp z
      have := p3.mpr ⟨rfl, fun j hj hj2 hb => (h1 j hj hj2).1 hb⟩
      cases this
    rw [hb]
    exact ⟨_, _, _, rfl, rfl, hI.same (sameC.off f2 (by decide)) (sameM.off p2 (by decide) (by decide))⟩
  · rw [if_neg b1]
    obtain ⟨τ3, b'', q1, q2, q3⟩ := ball_loop ok hk hm 12 0 FU true τ2 (by omega) (by unfold FU; omega) (hM.of p2 (by decide))
    rw [nI_0] at q1
    have q1' : fMM_bringsAll (nI k) (nI m) τ2 = some (b01 b'', τ3) := by unfold fMM_bringsAll; exact q1
    rw [db2_t q1']
    have hb : b = b'' := by
      apply Bool.eq_iff_iff.mpr
      rw [f3, q3]
      have h0 := (p3.mp rfl).2
      constructor
      · intro h; exact ⟨rfl, fun j hj hj2 hb => (h j hj hj2).2 hb⟩
      · rintro ⟨-, h⟩ j hj hj2; exact ⟨h0 j hj hj2, h j hj hj2⟩
    subst hb
    have hI1 := hI.same (sameC.off f2 (by decide)) (sameM.off (p2.trans q2) (by decide) (by decide))
    cases b
    · exact ⟨_, _, _, rfl, rfl, hI1⟩
    · exact ⟨_, _, _, rfl, rfl, hI1⟩
/-! core -/
def satP (g : gT) (m : Nat) : Prop := ∃ p, setP g m p
noncomputable def coF (g : gT) : Nat → Nat → Nat
  | 0, m => m
  | i + 1, m => coF g i (if (m.testBit i && dP (¬ satP g (clr m i))) = true then clr m i else m)
def cI (c : Nat) : Int32 := iI ((c : Int) - 1)
theorem cI_s (k : Nat) : cI (k + 1) = nI k := by
  unfold cI; rw [nI_iI]; congr 1; omega
theorem cI_m (k : Nat) : nI k + (-1 : Int32) = cI k := by
  unfold cI; rw [nI_iI, show (-1 : Int32) = iI (-1) from rfl, iI_add]; congr 1
theorem clr_eq {m i : Nat} (hm : m < 4096) : clr m i = m ↔ m.testBit i = false := by
  constructor
  · intro h
    have := clr_bit (i := i) hm i
    rw [h] at this
    simpa using this
  · intro h
    apply Nat.eq_of_testBit_eq
    intro j
    rw [clr_bit hm]
    by_cases e : j = i
    · subst e; rw [h]; rfl
    · simp [e]
theorem core_loop {n : Nat} {g : gT} (ok : BkOk n g) : ∀ (c f m : Nat) (σ : sT), c ≤ 12 → c < f → m < 2 ^ n → BkC σ n g →
    ∃ σ1, fSo_coreOf_L5 f (nI m) (cI c) σ = some (nI (coF g c m), σ1) ∧ offC [6, 7, 8, 9, 10, 11, 12, 13, 14, 15] σ σ1 := by
  intro c
  induction c with
  | zero =>
    intro f m σ h1 h2 hm hB
    obtain ⟨f', rfl⟩ : ∃ f', f = f' + 1 := ⟨f - 1, by omega⟩
    unfold fSo_coreOf_L5
    rw [if_pos (by decide), coF]
    exact ⟨σ, rfl, offC.refl _ _⟩
  | succ c ih =>
    intro f m σ h1 h2 hm hB
    have hm' := lt_4096 ok.1 hm
    have hc := clr_le m c
    obtain ⟨f', rfl⟩ : ∃ f', f = f' + 1 := ⟨f - 1, by omega⟩
    unfold fSo_coreOf_L5
    rw [cI_s, if_neg (nI_pos (by omega)), dlt_u, nI_clr hm' (by omega), coF, cI_m]
    cases b : m.testBit c
    · rw [if_pos (by rw [(clr_eq hm').mpr b]), Bool.false_and, if_neg (by decide)]
      exact ih f' m σ (by omega) (by omega) hm hB
    · rw [if_neg (fun z => by
        have := (clr_eq (i := c) hm').mp ((nI_eq (by omega) (by omega)).mp z)
        rw [b] at this; cases this), Bool.true_and]
      obtain ⟨σ1, b', e1, e2, e3, -⟩ := measure_spec ok (show clr m c < 2 ^ n by omega) hB (k := 0) (by omega)
      rw [show (0 : Int32) = nI 0 from rfl, db2_t e1]
      cases b'
      · rw [if_pos (show b01 false = nI 0 from rfl), if_pos (dP_iff.mpr (fun z => by have := e3.mpr z; cases this))]
        obtain ⟨σ2, f1, f2⟩ := ih f' (clr m c) σ1 (by omega) (by omega) (by omega) (hB.of e2 (by decide) (by decide))
        exact ⟨σ2, f1, e2.trans f2⟩
      · rw [if_neg (show ¬ b01 true = nI 0 by decide), if_neg (show ¬ dP (¬ satP g (clr m c)) = true from fun z => dP_iff.mp z (e3.mp rfl))]
        obtain ⟨σ2, f1, f2⟩ := ih f' m σ1 (by omega) (by omega) hm (hB.of e2 (by decide) (by decide))
        exact ⟨σ2, f1, e2.trans f2⟩
theorem mcore_loop {n : Nat} {g : gT} (ok : BkOk n g) : ∀ (c f m : Nat) (τ : sT), c ≤ 12 → c < f → m < 2 ^ n → BkM τ n g →
    ∃ τ1, fMM_coreOf_L11 f (nI m) (cI c) τ = some (nI (coF g c m), τ1) ∧ mOff [37, 38] [5, 7, 8, 9, 10, 11, 12, 13, 14] τ τ1 := by
  intro c
  induction c with
  | zero =>
    intro f m τ h1 h2 hm hB
    obtain ⟨f', rfl⟩ : ∃ f', f = f' + 1 := ⟨f - 1, by omega⟩
    unfold fMM_coreOf_L11
    rw [if_pos (by decide), coF]
    exact ⟨τ, rfl, mOff.refl _ _ _⟩
  | succ c ih =>
    intro f m τ h1 h2 hm hB
    have hm' := lt_4096 ok.1 hm
    have hc := clr_le m c
    obtain ⟨f', rfl⟩ : ∃ f', f = f' + 1 := ⟨f - 1, by omega⟩
    unfold fMM_coreOf_L11
    rw [cI_s, if_neg (nI_pos (by omega)), db1_t (has_spec hm' (by omega)), nI_clr hm' (by omega), coF, cI_m]
    simp only [dlt_u]
    cases b : m.testBit c
    · rw [if_pos b0, Bool.false_and, if_neg (by decide)]
      exact ih f' m τ (by omega) (by omega) hm hB
    · rw [if_neg b1, Bool.true_and]
      obtain ⟨τ1, b', e1, e2, e3⟩ := canSet_spec ok (show clr m c < 2 ^ n by omega) hB
      rw [db2_t e1]
      cases b'
      · rw [if_pos b0, if_pos (dP_iff.mpr (fun z => by have := e3.mpr z; cases this))]
        obtain ⟨τ2, f1, f2⟩ := ih f' (clr m c) τ1 (by omega) (by omega) (by omega) (hB.of e2 (by decide))
        exact ⟨τ2, f1, e2.trans f2⟩
      · rw [if_neg b1, if_neg (show ¬ dP (¬ satP g (clr m c)) = true from fun z => dP_iff.mp z (e3.mp rfl))]
        obtain ⟨τ2, f1, f2⟩ := ih f' m τ1 (by omega) (by omega) hm (hB.of e2 (by decide))
        exact ⟨τ2, f1, e2.trans f2⟩
theorem coF_ext {g : gT} {m n : Nat} (hm : m < 2 ^ n) : ∀ d, coF g (n + d) m = coF g n m
  | 0 => rfl
  | d + 1 => by
    rw [show n + (d + 1) = (n + d) + 1 by omega, coF]
    have : m.testBit (n + d) = false := by
      apply Bool.eq_false_iff.mpr
      intro z
      have := bit_lt hm z
      omega
    rw [this, Bool.false_and, if_neg (by decide)]
    exact coF_ext hm d
theorem coreOf_spec {n m : Nat} {g : gT} (ok : BkOk n g) (hm : m < 2 ^ n) {σ : sT} (hB : BkC σ n g) :
    ∃ σ1, fSo_coreOf (nI m) σ = some (nI (coF g n m), σ1) ∧ offC [6, 7, 8, 9, 10, 11, 12, 13, 14, 15] σ σ1 := by
  have hn := ok.1
  obtain ⟨σ1, e1, e2⟩ := core_loop ok 12 FU m σ (by omega) (by unfold FU; omega) hm hB
  have hx := coF_ext (g := g) hm (12 - n)
  rw [show n + (12 - n) = 12 by omega] at hx
  rw [hx, show cI 12 = (11 : Int32) from rfl] at e1
  unfold fSo_coreOf
  exact ⟨σ1, e1, e2⟩
theorem mcoreOf_spec {n m : Nat} {g : gT} (ok : BkOk n g) (hm : m < 2 ^ n) {τ : sT} (hB : BkM τ n g) :
    ∃ τ1, fMM_coreOf (nI m) τ = some (nI (coF g n m), τ1) ∧ mOff [37, 38] [5, 7, 8, 9, 10, 11, 12, 13, 14] τ τ1 := by
  have hn := ok.1
  obtain ⟨τ1, e1, e2⟩ := mcore_loop ok n FU m τ (by omega) (by unfold FU; omega) hm hB
  have hc : nI n - (1 : Int32) = cI n := by
    unfold cI; rw [nI_iI, show (1 : Int32) = iI 1 from rfl, iI_sub]
  unfold fMM_coreOf
  rw [dck_t (by decide), dlt_u, show (0 : Int32).toNatClampNeg = 0 from rfl, hB.1, hc]
  exact ⟨τ1, e1, e2⟩
theorem do_core : op_core Inv := by
  intro σ τ hI x1
  obtain ⟨n, g, U, T, h⟩ := id hI
  obtain ⟨ok, hC, hM, -⟩ := id h
  have hn := ok.1
  unfold fRM_core fMM_core
  rw [db1_t (covers_spec ok.1 hC.1 x1), db1_t (isSet_spec ok.1 hM.1 x1)]
  cases hc : cov x1 n
  · rw [if_pos b0, if_pos b0]
    obtain ⟨σ1, τ1, e1, e2, e3⟩ := ref_B hI
    rw [db2_t e1, db2_t e2]
    exact ⟨_, _, _, rfl, rfl, e3⟩
  rw [if_neg b1, if_neg b1]
  obtain ⟨m, hm, rfl⟩ := cov_n hc
  obtain ⟨σ1, b, e1, e2, e3⟩ := sat_spec ok hm hC
  obtain ⟨τ1, b', f1, f2, f3⟩ := canSet_spec ok hm hM
  have hb : b = b' := Bool.eq_iff_iff.mpr (e3.trans f3.symm)
  subst hb
  have hI1 := hI.same (sameC.off e2 (by decide)) (sameM.off f2 (by decide) (by decide))
  rw [db2_t e1, db2_t f1]
  cases b
  · rw [if_pos b0, if_pos b0]
    obtain ⟨σ2, g1, g2⟩ := coreOf_spec ok hm (hC.of e2 (by decide) (by decide))
    obtain ⟨τ2, p1, p2⟩ := mcoreOf_spec ok hm (hM.of f2 (by decide))
    rw [db2_t g1, db2_t p1]
    exact ⟨_, _, _, rfl, rfl, hI1.same (sameC.off g2 (by decide)) (sameM.off p2 (by decide) (by decide))⟩
  · rw [if_neg b1, if_neg b1]
    obtain ⟨σ2, τ2, g1, g2, g3⟩ := ref_N hI1
    rw [db2_t g1, db2_t g2]
    exact ⟨_, _, _, rfl, rfl, g3⟩
