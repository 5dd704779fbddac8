/-! dimension: the model's side -/
theorem sgR_1' (g : gT) (i k : Nat) : sgR 1 g i k = (g i 0, g i 1, g i 2, g i 4, k) := by unfold sgR; simp
theorem setb {a i j : Nat} : (a ||| 2 ^ i).testBit j = (a.testBit j || decide (i = j)) := by rw [Nat.testBit_or, Nat.testBit_two_pow]
theorem fixed_loop {n m : Nat} {g : gT} (ok : BkOk n g) (hm : m < 2 ^ n) : ∀ (c i f acc : Nat) (τ : sT), i + c = n → c < f → BkM τ n g → acc < 4096 →
    ∃ (τ1 : sT) (F : Nat), fMM_fixed_L4 (nI m) f (nI acc) (nI i) τ = some (nI F, τ1) ∧ F < 4096 ∧ (∀ j, F.testBit j = true ↔ (acc.testBit j = true ∨ (i ≤ j ∧ j < n ∧ fxd g m j))) ∧ mOff [37, 38] [5, 7, 8, 9, 10, 11, 12, 13, 14] τ τ1 := by
  have hm' := lt_4096 ok.1 hm
  have hn := ok.1
  intro c
  induction c with
  | zero =>
    intro i f acc τ h1 h2 hB ha
    obtain ⟨f', rfl⟩ : ∃ f', f = f' + 1 := ⟨f - 1, by omega⟩
    unfold fMM_fixed_L4
    rw [dck_t (by decide), show (0 : Int32).toNatClampNeg = 0 from rfl, hB.1, if_pos (nI_le (by omega) (by omega))]
    refine ⟨τ, acc, rfl, ha, fun j => ?_, mOff.refl _ _ _⟩
    constructor
    · intro h; exact Or.inl h
    · rintro (h | ⟨h1, h2, -⟩)
      · exact h
      · omega
  | succ c ih =>
    intro i f acc τ h1 h2 hB ha
    obtain ⟨f', rfl⟩ : ∃ f', f = f' + 1 := ⟨f - 1, by omega⟩
    have skip : ∀ τ0, BkM τ0 n g → ¬ fxd g m i → ∃ (τ1 : sT) (F : Nat), fMM_fixed_L4 (nI m) f' (nI acc) (nI (i + 1)) τ0 = some (nI F, τ1) ∧ F < 4096 ∧ (∀ j, F.testBit j = true ↔ (acc.testBit j = true ∨ (i ≤ j ∧ j < n ∧ fxd g m j))) ∧ mOff [37, 38] [5, 7, 8, 9, 10, 11, 12, 13, 14] τ0 τ1 := by
      intro τ0 hB0 hf
      obtain ⟨τ1, F, e1, e2, e3, e4⟩ := ih (i + 1) f' acc τ0 (by omega) (by omega) hB0 ha
      refine ⟨τ1, F, e1, e2, fun j => ?_, e4⟩
      rw [e3 j]
      refine or_congr Iff.rfl ⟨fun ⟨a, b, c⟩ => ⟨by omega, b, c⟩, fun ⟨a, b, c⟩ => ⟨?_, b, c⟩⟩
      by_cases e : j = i
      · subst e; exact absurd c hf
      · omega
    have take : ∀ τ0, BkM τ0 n g → fxd g m i → ∃ (τ1 : sT) (F : Nat), fMM_fixed_L4 (nI m) f' (nI (acc ||| 2 ^ i)) (nI (i + 1)) τ0 = some (nI F, τ1) ∧ F < 4096 ∧ (∀ j, F.testBit j = true ↔ (acc.testBit j = true ∨ (i ≤ j ∧ j < n ∧ fxd g m j))) ∧ mOff [37, 38] [5, 7, 8, 9, 10, 11, 12, 13, 14] τ0 τ1 := by
      intro τ0 hB0 hf
      obtain ⟨τ1, F, e1, e2, e3, e4⟩ := ih (i + 1) f' (acc ||| 2 ^ i) τ0 (by omega) (by omega) hB0 (or_lt ha (by omega))
      refine ⟨τ1, F, e1, e2, fun j => ?_, e4⟩
      rw [e3 j, setb, Bool.or_eq_true, decide_eq_true_iff]
      constructor
      · rintro ((h | rfl) | ⟨a, b, c⟩)
        · exact Or.inl h
        · exact Or.inr ⟨Nat.le_refl _, by omega, hf⟩
        · exact Or.inr ⟨by omega, b, c⟩
      · rintro (h | ⟨a, b, c⟩)
        · exact Or.inl (Or.inl h)
        · by_cases e : i = j
          · exact Or.inl (Or.inr e)
          · exact Or.inr ⟨by omega, b, c⟩
    have hi : i < n := by omega
    have hk := kd_n ok hi
    unfold fMM_fixed_L4
    rw [dck_t (by decide), show (0 : Int32).toNatClampNeg = 0 from rfl, hB.1, if_neg (nI_ge (by omega) (by omega)), db1_t (has_spec hm' (by omega)), nI_1]
    simp only [dlt_u, nI_or0]
    rw [nI_orb ha (by omega)]
    cases b : m.testBit i
    · rw [if_pos b0]
      exact skip τ hB (fun z => by rw [z.1] at b; cases b)
    · rw [if_neg b1, show (3 : Int32) = nI 3 from rfl, db1_t (at_spec hB hn hi (by omega)), hk.1]
      by_cases k0 : (g i 3).toNat = 0
      · rw [if_pos (by rw [k0]; rfl)]
        exact skip τ hB (fun z => by have := z.2; omega)
      · rw [if_neg (fun z => k0 ((nI_eq0 hk.2).mp z))]
        obtain ⟨τ1, e1, e2, e3⟩ := lset_spec ok hm hB
        have hl := flat_len (setF g m n 0)
        have hl2 := setF_len (g := g) (m := m) n 0
        have hB1 := hB.of e3 (by decide)
        obtain ⟨τ2, f1, f2, f3⟩ := laysRow_spec hB1 ok e2 (by omega) hi (k := 0) (by omega)
        have f1' : fMM_laysRow (nI i) (0 : Int32) τ1 = some τ2 := f1
        have hB2 := hB1.of f3 (by decide)
        have hdb : dbl (g i 0, g i 1, g i 2, g i 4, 0) = [sgR 1 g i 0] := by
          rw [sgR_1']; unfold dbl; exact if_neg (show ¬ (0 : Nat) = 2 by decide)
        rw [hdb] at f2
        have om2 : mOff [37, 38] [5, 7, 8, 9, 10, 11, 12, 13, 14] τ τ2 := (e3.mono (by simp) (by simp)).trans (f3.mono (by simp) (by simp))
        rw [db1_t e1, db1_t f1', db1_t (at_spec hB2 hn hi (by omega)), hk.1]
        by_cases k2 : (g i 3).toNat = 2
        · rw [if_pos (by rw [k2]; rfl)]
          obtain ⟨τ3, F, g1, g2, g3, g4⟩ := take τ2 hB2 ⟨b, Or.inl k2⟩
          exact ⟨τ3, F, g1, g2, g3, om2.trans g4⟩
        · rw [if_neg (fun z => k2 ((nI_eq2 hk.2).mp z))]
          obtain ⟨τ3, b', g1, g2, g3⟩ := canLaid_spec f2 (by rw [List.length_append, List.length_singleton]; omega) (by
            intro r hr
            rcases List.mem_append.mp hr with hr | hr
            · exact (sflat_kind ok hm r hr).1
            · rw [List.mem_singleton.mp hr]; exact Nat.zero_le 1) (by
            intro r hr
            rcases List.mem_append.mp hr with hr | hr
            · exact (sflat_kind ok hm r hr).2
            · rw [List.mem_singleton.mp hr]; exact sgR_B ok hi (Or.inl rfl) (by omega))
          have hsem : (b' = true ↔ ∃ p, setP g m p ∧ hol p (sgR 1 g i 0)) := by
            rw [g3]
            refine exists_congr (fun p => ?_)
            rw [← setF_P hm (Nat.le_refl n) p, ← flat_P (L := setF g m n 0)]
            constructor
            · intro h
              exact ⟨fun r hr => h r (List.mem_append_left _ hr), h _ (List.mem_append_right _ (List.mem_singleton.mpr rfl))⟩
            · rintro ⟨h1, h2⟩ r hr
              rcases List.mem_append.mp hr with hr | hr
              · exact h1 r hr
              · rw [List.mem_singleton.mp hr]; exact h2
          have om3 : mOff [37, 38] [5, 7, 8, 9, 10, 11, 12, 13, 14] τ τ3 := om2.trans (g2.mono (by simp) (by simp))
          have hB3 := hB2.of g2 (by decide)
          rw [db2_t g1]
          cases b'
          · rw [if_pos b0]
            obtain ⟨τ4, F, p1, p2, p3, p4⟩ := take τ3 hB3 ⟨b, Or.inr ⟨by omega, fun z => by have := hsem.mpr z; cases this⟩⟩
            exact ⟨τ4, F, p1, p2, p3, om3.trans p4⟩
          · rw [if_neg b1]
            obtain ⟨τ4, F, p1, p2, p3, p4⟩ := skip τ3 hB3 (fun z => by
              rcases z.2 with z | z
              · exact k2 z
              · exact z.2 (hsem.mp rfl))
            exact ⟨τ4, F, p1, p2, p3, om3.trans p4⟩
theorem iz {x : Int} (h : -1000 ≤ x ∧ x ≤ 1000) : (iI x = 0) ↔ x = 0 := by
  rw [show (0 : Int32) = iI 0 from rfl]
  exact iI_eq (by unfold inI; omega) (by unfold inI; omega)
theorem third_loop {n F j : Nat} {g : gT} (ok : BkOk n g) (hF : F < 4096) (hj : j < n) {τ : sT} (hB : BkM τ n g) {N : vT} (hN : vB 50 N) : ∀ (c k f x : Nat), k + c = j → c < f →
    ∃ y : Nat, (∀ K : Int32 → Option Int32, fMM_rankWith_L154 (nI F) τ (nI j) (iI N.1) (iI N.2.1) (iI N.2.2) (1 : Int32) K f (nI x) (nI k) = K (nI y)) ∧ ((y = x ∧ ∀ k', k ≤ k' → k' < j → F.testBit k' = true → dot N (vec g k') = 0) ∨ (y = 3 ∧ ∃ k', k ≤ k' ∧ k' < j ∧ F.testBit k' = true ∧ dot N (vec g k') ≠ 0)) := by
  have hn := ok.1
  intro c
  induction c with
  | zero =>
    intro k f x h1 h2
    obtain ⟨f', rfl⟩ : ∃ f', f = f' + 1 := ⟨f - 1, by omega⟩
    refine ⟨x, fun K => ?_, Or.inl ⟨rfl, fun k' a b => by omega⟩⟩
    unfold fMM_rankWith_L154
    rw [if_pos (nI_le (by omega) (by omega))]
  | succ c ih =>
    intro k f x h1 h2
    obtain ⟨f', rfl⟩ : ∃ f', f = f' + 1 := ⟨f - 1, by omega⟩
    have hk : k < n := by omega
    have vb := vec_B ok hk
    have hd := dot_B hN vb
    have v0 : dot N (vec g k) = N.1 * g k 0 + N.2.1 * g k 1 + N.2.2 * g k 2 := rfl
    have step : ∀ K : Int32 → Option Int32, fMM_rankWith_L154 (nI F) τ (nI j) (iI N.1) (iI N.2.1) (iI N.2.2) (1 : Int32) K (f' + 1) (nI x) (nI k) = if (F.testBit k && decide (dot N (vec g k) ≠ 0)) = true then fMM_rankWith_L154 (nI F) τ (nI j) (iI N.1) (iI N.2.1) (iI N.2.2) (1 : Int32) K f' (nI 3) (nI (k + 1)) else fMM_rankWith_L154 (nI F) τ (nI j) (iI N.1) (iI N.2.1) (iI N.2.2) (1 : Int32) K f' (nI x) (nI (k + 1)) := by
      intro K
      conv => lhs; unfold fMM_rankWith_L154
      rw [if_neg (nI_ge (by omega) (by omega)), if_neg (show ¬ (1 : Int32) = 0 by decide), db1_t (has_spec hF (by omega)), nI_1]
      simp only [dlt_u]
      rw [if_pos trivial, if_neg (show ¬ (1 : Int32) = 0 by decide)]
      cases b : F.testBit k
      · rw [if_pos b0, Bool.false_and, if_neg (by decide)]
      · rw [if_neg b1, Bool.true_and]
        have t0 : fMM_at (nI k) (0 : Int32) τ = some (iI (g k 0)) := at_spec hB hn hk (k := 0) (by omega)
        have t1 : fMM_at (nI k) (1 : Int32) τ = some (iI (g k 1)) := at_spec hB hn hk (k := 1) (by omega)
        have t2 : fMM_at (nI k) (2 : Int32) τ = some (iI (g k 2)) := at_spec hB hn hk (k := 2) (by omega)
        rw [db1_t t0, db1_t t1, db1_t t2]
        simp only [iI_mul, iI_add]
        rw [← v0]
        by_cases z : dot N (vec g k) = 0
        · rw [if_pos ((iz (by omega)).mpr z), decide_eq_false (by simp [z]), if_neg (by decide)]
        · rw [if_neg (fun w => z ((iz (by omega)).mp w)), decide_eq_true z, if_pos rfl]; rfl
    by_cases hit : (F.testBit k && decide (dot N (vec g k) ≠ 0)) = true
    · obtain ⟨y, e1, e2⟩ := ih (k + 1) f' 3 (by omega) (by omega)
      refine ⟨y, fun K => by rw [step K, if_pos hit]; exact e1 K, Or.inr ⟨?_, k, Nat.le_refl k, by omega, ?_, ?_⟩⟩
      · rcases e2 with e2 | e2 <;> exact e2.1
      · rw [Bool.and_eq_true] at hit; exact hit.1
      · rw [Bool.and_eq_true] at hit; exact of_decide_eq_true hit.2
    · obtain ⟨y, e1, e2⟩ := ih (k + 1) f' x (by omega) (by omega)
      refine ⟨y, fun K => by rw [step K, if_neg hit]; exact e1 K, ?_⟩
      rcases e2 with ⟨a, b⟩ | ⟨a, k', b, c, d⟩
      · refine Or.inl ⟨a, fun k' h3 h4 h5 => ?_⟩
        by_cases e : k' = k
        · subst e
          rw [h5, Bool.true_and] at hit
          apply Decidable.byContradiction
          intro z; exact hit (decide_eq_true z)
        · exact b k' (by omega) h4 h5
      · exact Or.inr ⟨a, k', by omega, c, d⟩
