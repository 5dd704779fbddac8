/-! the model's rank -/
theorem with_loop {n F i : Nat} {g : gT} (ok : BkOk n g) (hF : F < 4096) (hi : i < n) {τ : sT} (hB : BkM τ n g) : ∀ (c j f x : Nat), j + c = i → c < f → 1 ≤ x → x ≤ 3 →
    ∃ y : Nat, fMM_rankWith_L5 (nI F) (nI i) τ f (nI x) (nI j) = some (nI y) ∧ 1 ≤ y ∧ y ≤ 3 ∧ (2 ≤ y ↔ 2 ≤ x ∨ ∃ j', j ≤ j' ∧ j' < i ∧ F.testBit j' = true ∧ ¬ vz (crs (vec g i) (vec g j'))) ∧ (3 ≤ y ↔ 3 ≤ x ∨ ∃ j' k', j ≤ j' ∧ j' < i ∧ k' < j' ∧ F.testBit j' = true ∧ F.testBit k' = true ∧ dot (crs (vec g i) (vec g j')) (vec g k') ≠ 0) := by
  have hn := ok.1
  intro c
  induction c with
  | zero =>
    intro j f x h1 h2 h3 h4
    obtain ⟨f', rfl⟩ : ∃ f', f = f' + 1 := ⟨f - 1, by omega⟩
    refine ⟨x, ?_, h3, h4, ⟨Or.inl, ?_⟩, ⟨Or.inl, ?_⟩⟩
    · unfold fMM_rankWith_L5
      rw [if_pos (nI_le (by omega) (by omega))]
    · rintro (h | ⟨j', a, b, -⟩)
      · exact h
      · omega
    · rintro (h | ⟨j', k', a, b, -⟩)
      · exact h
      · omega
  | succ c ih =>
    intro j f x h1 h2 h3 h4
    obtain ⟨f', rfl⟩ : ∃ f', f = f' + 1 := ⟨f - 1, by omega⟩
    have hj : j < n := by omega
    obtain ⟨N, hN⟩ : ∃ N, N = crs (vec g i) (vec g j) := ⟨_, rfl⟩
    have hNB : vB 50 N := by rw [hN]; exact crs_B (vec_B ok hi) (vec_B ok hj)
    -- what a step gives
    have fin : ∀ x' : Nat, 1 ≤ x' → x' ≤ 3 → (2 ≤ x' ↔ 2 ≤ x ∨ (F.testBit j = true ∧ ¬ vz N)) → (3 ≤ x' ↔ 3 ≤ x ∨ ((F.testBit j = true ∧ ¬ vz N) ∧ ∃ k', k' < j ∧ F.testBit k' = true ∧ dot N (vec g k') ≠ 0)) →
        ∃ y : Nat, fMM_rankWith_L5 (nI F) (nI i) τ f' (nI x') (nI (j + 1)) = some (nI y) ∧ 1 ≤ y ∧ y ≤ 3 ∧ (2 ≤ y ↔ 2 ≤ x ∨ ∃ j', j ≤ j' ∧ j' < i ∧ F.testBit j' = true ∧ ¬ vz (crs (vec g i) (vec g j'))) ∧ (3 ≤ y ↔ 3 ≤ x ∨ ∃ j' k', j ≤ j' ∧ j' < i ∧ k' < j' ∧ F.testBit j' = true ∧ F.testBit k' = true ∧ dot (crs (vec g i) (vec g j')) (vec g k') ≠ 0) := by
      intro x' a1 a2 a3 a4
      obtain ⟨y, e1, e2, e3, e4, e5⟩ := ih (j + 1) f' x' (by omega) (by omega) a1 a2
      refine ⟨y, e1, e2, e3, ?_, ?_⟩
      · rw [e4, a3]
        constructor
        · rintro ((h | ⟨h, h'⟩) | ⟨j', p, q, r⟩)
          · exact Or.inl h
          · exact Or.inr ⟨j, Nat.le_refl j, by omega, h, by rw [← hN]; exact h'⟩
          · exact Or.inr ⟨j', by omega, q, r⟩
        · rintro (h | ⟨j', p, q, r⟩)
          · exact Or.inl (Or.inl h)
          · by_cases e : j' = j
            · subst e; exact Or.inl (Or.inr (by rw [hN]; exact r))
            · exact Or.inr ⟨j', by omega, q, r⟩
      · rw [e5, a4]
        constructor
        · rintro ((h | ⟨⟨h, h'⟩, k', p, q, r⟩) | ⟨j', k', p, q, r⟩)
          · exact Or.inl h
          · exact Or.inr ⟨j, k', Nat.le_refl j, by omega, p, h, q, by rw [← hN]; exact r⟩
          · exact Or.inr ⟨j', k', by omega, q, r⟩
        · rintro (h | ⟨j', k', p, q, r, s, t, u⟩)
          · exact Or.inl (Or.inl h)
          · by_cases e : j' = j
            · subst e
              refine Or.inl (Or.inr ⟨⟨s, fun z => ?_⟩, k', r, t, by rw [hN]; exact u⟩)
              rw [← hN] at u
              exact u (dot_0 z)
            · exact Or.inr ⟨j', k', by omega, q, r, s, t, u⟩
    have t0 : fMM_at (nI i) (0 : Int32) τ = some (iI (g i 0)) := at_spec hB hn hi (k := 0) (by omega)
    have t1 : fMM_at (nI i) (1 : Int32) τ = some (iI (g i 1)) := at_spec hB hn hi (k := 1) (by omega)
    have t2 : fMM_at (nI i) (2 : Int32) τ = some (iI (g i 2)) := at_spec hB hn hi (k := 2) (by omega)
    have u0 : fMM_at (nI j) (0 : Int32) τ = some (iI (g j 0)) := at_spec hB hn hj (k := 0) (by omega)
    have u1 : fMM_at (nI j) (1 : Int32) τ = some (iI (g j 1)) := at_spec hB hn hj (k := 1) (by omega)
    have u2 : fMM_at (nI j) (2 : Int32) τ = some (iI (g j 2)) := at_spec hB hn hj (k := 2) (by omega)
    have n1 : g i 1 * g j 2 - g i 2 * g j 1 = N.1 := by rw [hN]; rfl
    have n2 : g i 2 * g j 0 - g i 0 * g j 2 = N.2.1 := by rw [hN]; rfl
    have n3 : g i 0 * g j 1 - g i 1 * g j 0 = N.2.2 := by rw [hN]; rfl
    obtain ⟨N1, hN1⟩ := FU_s
    -- not apart
    have flat : ¬ (F.testBit j = true ∧ ¬ vz N) → ∃ y : Nat, (fMM_rankWith_L154 (nI F) τ (nI j) (iI N.1) (iI N.2.1) (iI N.2.2) (0 : Int32) (fun x40 => fMM_rankWith_L5 (nI F) (nI i) τ f' x40 (nI (j + 1))) FU (nI x) (0 : Int32)) = some (nI y) ∧ 1 ≤ y ∧ y ≤ 3 ∧ (2 ≤ y ↔ 2 ≤ x ∨ ∃ j', j ≤ j' ∧ j' < i ∧ F.testBit j' = true ∧ ¬ vz (crs (vec g i) (vec g j'))) ∧ (3 ≤ y ↔ 3 ≤ x ∨ ∃ j' k', j ≤ j' ∧ j' < i ∧ k' < j' ∧ F.testBit j' = true ∧ F.testBit k' = true ∧ dot (crs (vec g i) (vec g j')) (vec g k') ≠ 0) := by
      intro hno
      have e : fMM_rankWith_L154 (nI F) τ (nI j) (iI N.1) (iI N.2.1) (iI N.2.2) (0 : Int32) (fun x40 => fMM_rankWith_L5 (nI F) (nI i) τ f' x40 (nI (j + 1))) FU (nI x) (0 : Int32) = fMM_rankWith_L5 (nI F) (nI i) τ f' (nI x) (nI (j + 1)) := by
        rw [hN1.1]
        conv => lhs; unfold fMM_rankWith_L154
        by_cases hz : nI j ≤ 0
        · rw [if_pos hz]
        · rw [if_neg hz, if_pos rfl]
      rw [e]
      exact fin x h3 h4 (by simp [hno]) (by simp [hno])
    have apart : (F.testBit j = true ∧ ¬ vz N) → ∃ y : Nat, (if (2 : Int32) ≤ nI x then fMM_rankWith_L154 (nI F) τ (nI j) (iI N.1) (iI N.2.1) (iI N.2.2) (1 : Int32) (fun x40 => fMM_rankWith_L5 (nI F) (nI i) τ f' x40 (nI (j + 1))) FU (nI x) (0 : Int32) else fMM_rankWith_L154 (nI F) τ (nI j) (iI N.1) (iI N.2.1) (iI N.2.2) (1 : Int32) (fun x40 => fMM_rankWith_L5 (nI F) (nI i) τ f' x40 (nI (j + 1))) FU (2 : Int32) (0 : Int32)) = some (nI y) ∧ 1 ≤ y ∧ y ≤ 3 ∧ (2 ≤ y ↔ 2 ≤ x ∨ ∃ j', j ≤ j' ∧ j' < i ∧ F.testBit j' = true ∧ ¬ vz (crs (vec g i) (vec g j'))) ∧ (3 ≤ y ↔ 3 ≤ x ∨ ∃ j' k', j ≤ j' ∧ j' < i ∧ k' < j' ∧ F.testBit j' = true ∧ F.testBit k' = true ∧ dot (crs (vec g i) (vec g j')) (vec g k') ≠ 0) := by
      intro hyes
      by_cases h2x : 2 ≤ x
      · rw [if_pos (show (2 : Int32) ≤ nI x from nI_le (a := 2) h2x (by omega))]
        obtain ⟨y, e1, e2⟩ := third_loop ok hF hj hB hNB j 0 FU x (by omega) (by unfold FU; omega)
        rw [nI_0] at e1
        rw [e1]
        rcases e2 with ⟨rfl, e2⟩ | ⟨rfl, k', -, e2⟩
        · refine fin y h3 h4 (by simp [h2x]) ⟨Or.inl, ?_⟩
          rintro (h | ⟨-, k', a, b, c⟩)
          · exact h
          · exact absurd (e2 k' (by omega) a b) c
        · exact fin 3 (by omega) (by omega) (by simp [h2x]) (by simp; exact Or.inr ⟨hyes, k', e2⟩)
      · rw [if_neg (show ¬ (2 : Int32) ≤ nI x from nI_ge (b := 2) (by omega) (by omega))]
        obtain ⟨y, e1, e2⟩ := third_loop ok hF hj hB hNB j 0 FU 2 (by omega) (by unfold FU; omega)
        rw [nI_0] at e1
        rw [show (2 : Int32) = nI 2 from rfl, e1]
        rcases e2 with ⟨rfl, e2⟩ | ⟨rfl, k', -, e2⟩
        · refine fin 2 (by omega) (by omega) (by simp; exact Or.inr hyes) ⟨fun h => by omega, ?_⟩
          rintro (h | ⟨-, k', a, b, c⟩)
          · omega
          · exact absurd (e2 k' (by omega) a b) c
        · exact fin 3 (by omega) (by omega) (by simp; exact Or.inr hyes) (by simp; exact Or.inr ⟨hyes, k', e2⟩)
    unfold fMM_rankWith_L5
    rw [if_neg (nI_ge (by omega) (by omega)), nI_1]
    simp only [dlt_u]
    rw [db1_t t1, db1_t u2, db1_t t2, db1_t u1, db1_t t2, db1_t u0, db1_t t0, db1_t u2, db1_t t0, db1_t u1, db1_t t1, db1_t u0]
    simp only [iI_mul, iI_sub]
    rw [n1, n2, n3, db1_t (has_spec hF (by omega)), if_pos trivial]
    obtain ⟨y1, y2, y3⟩ := hNB
    cases b : F.testBit j
    · rw [if_pos b0]
      exact flat (fun z => by rw [z.1] at b; cases b)
    · rw [if_neg b1, if_neg (show ¬ (1 : Int32) = 0 by decide)]
      by_cases c1 : N.1 = 0
      · rw [if_pos ((iz (by omega)).mpr c1)]
        by_cases c2 : N.2.1 = 0
        · rw [if_pos ((iz (by omega)).mpr c2)]
          by_cases c3 : N.2.2 = 0
          · rw [if_pos ((iz (by omega)).mpr c3)]
            exact flat (fun z => z.2 ⟨c1, c2, c3⟩)
          · rw [if_neg (fun w => c3 ((iz (by omega)).mp w))]
            exact apart ⟨b, fun z => c3 z.2.2⟩
        · rw [if_neg (fun w => c2 ((iz (by omega)).mp w))]
          exact apart ⟨b, fun z => c2 z.2.1⟩
      · rw [if_neg (fun w => c1 ((iz (by omega)).mp w))]
        exact apart ⟨b, fun z => c1 z.1⟩
theorem rank_loop {n F : Nat} {g : gT} (ok : BkOk n g) (hF : F < 4096) {τ : sT} (hB : BkM τ n g) : ∀ (c i f x : Nat), i + c = n → c < f → x ≤ 3 →
    ∃ y : Nat, fMM_rank_L4 (nI F) τ f (nI x) (nI i) = some (nI y) ∧ y ≤ 3 ∧ (1 ≤ y ↔ 1 ≤ x ∨ ∃ i', i ≤ i' ∧ i' < n ∧ F.testBit i' = true ∧ ¬ vz (vec g i')) ∧ (2 ≤ y ↔ 2 ≤ x ∨ ∃ i' j', i ≤ i' ∧ i' < n ∧ j' < i' ∧ F.testBit i' = true ∧ F.testBit j' = true ∧ ¬ vz (crs (vec g i') (vec g j'))) ∧ (3 ≤ y ↔ 3 ≤ x ∨ ∃ i' j' k', i ≤ i' ∧ i' < n ∧ j' < i' ∧ k' < j' ∧ F.testBit i' = true ∧ F.testBit j' = true ∧ F.testBit k' = true ∧ dot (crs (vec g i') (vec g j')) (vec g k') ≠ 0) := by
  have hn := ok.1
  intro c
  induction c with
  | zero =>
    intro i f x h1 h2 h3
    obtain ⟨f', rfl⟩ : ∃ f', f = f' + 1 := ⟨f - 1, by omega⟩
    refine ⟨x, ?_, h3, ⟨Or.inl, ?_⟩, ⟨Or.inl, ?_⟩, ⟨Or.inl, ?_⟩⟩
    · unfold fMM_rank_L4
      rw [dck_t (by decide), show (0 : Int32).toNatClampNeg = 0 from rfl, hB.1, if_pos (nI_le (by omega) (by omega))]
    · rintro (h | ⟨i', a, b, -⟩)
      · exact h
      · omega
    · rintro (h | ⟨i', j', a, b, -⟩)
      · exact h
      · omega
    · rintro (h | ⟨i', j', k', a, b, -⟩)
      · exact h
      · omega
  | succ c ih =>
    intro i f x h1 h2 h3
    obtain ⟨f', rfl⟩ : ∃ f', f = f' + 1 := ⟨f - 1, by omega⟩
    have hi : i < n := by omega
    have fin : ∀ x' : Nat, x' ≤ 3 → (1 ≤ x' ↔ 1 ≤ x ∨ (F.testBit i = true ∧ ¬ vz (vec g i))) → (2 ≤ x' ↔ 2 ≤ x ∨ ∃ j', j' < i ∧ F.testBit i = true ∧ F.testBit j' = true ∧ ¬ vz (crs (vec g i) (vec g j'))) → (3 ≤ x' ↔ 3 ≤ x ∨ ∃ j' k', j' < i ∧ k' < j' ∧ F.testBit i = true ∧ F.testBit j' = true ∧ F.testBit k' = true ∧ dot (crs (vec g i) (vec g j')) (vec g k') ≠ 0) →
        ∃ y : Nat, fMM_rank_L4 (nI F) τ f' (nI x') (nI (i + 1)) = some (nI y) ∧ y ≤ 3 ∧ (1 ≤ y ↔ 1 ≤ x ∨ ∃ i', i ≤ i' ∧ i' < n ∧ F.testBit i' = true ∧ ¬ vz (vec g i')) ∧ (2 ≤ y ↔ 2 ≤ x ∨ ∃ i' j', i ≤ i' ∧ i' < n ∧ j' < i' ∧ F.testBit i' = true ∧ F.testBit j' = true ∧ ¬ vz (crs (vec g i') (vec g j'))) ∧ (3 ≤ y ↔ 3 ≤ x ∨ ∃ i' j' k', i ≤ i' ∧ i' < n ∧ j' < i' ∧ k' < j' ∧ F.testBit i' = true ∧ F.testBit j' = true ∧ F.testBit k' = true ∧ dot (crs (vec g i') (vec g j')) (vec g k') ≠ 0) := by
      intro x' a1 a2 a3 a4
      obtain ⟨y, e1, e2, e3, e4, e5⟩ := ih (i + 1) f' x' (by omega) (by omega) a1
      refine ⟨y, e1, e2, ?_, ?_, ?_⟩
      · rw [e3, a2]
        constructor
        · rintro ((h | h) | ⟨i', p, q⟩)
          · exact Or.inl h
          · exact Or.inr ⟨i, Nat.le_refl i, hi, h⟩
          · exact Or.inr ⟨i', by omega, q⟩
        · rintro (h | ⟨i', p, q⟩)
          · exact Or.inl (Or.inl h)
          · by_cases e : i' = i
            · subst e; exact Or.inl (Or.inr q.2)
            · exact Or.inr ⟨i', by omega, q⟩
      · rw [e4, a3]
        constructor
        · rintro ((h | ⟨j', h⟩) | ⟨i', j', p, q⟩)
          · exact Or.inl h
          · exact Or.inr ⟨i, j', Nat.le_refl i, hi, h⟩
          · exact Or.inr ⟨i', j', by omega, q⟩
        · rintro (h | ⟨i', j', p, q⟩)
          · exact Or.inl (Or.inl h)
          · by_cases e : i' = i
            · subst e; exact Or.inl (Or.inr ⟨j', q.2⟩)
            · exact Or.inr ⟨i', j', by omega, q⟩
      · rw [e5, a4]
        constructor
        · rintro ((h | ⟨j', k', h⟩) | ⟨i', j', k', p, q⟩)
          · exact Or.inl h
          · exact Or.inr ⟨i, j', k', Nat.le_refl i, hi, h⟩
          · exact Or.inr ⟨i', j', k', by omega, q⟩
        · rintro (h | ⟨i', j', k', p, q⟩)
          · exact Or.inl (Or.inl h)
          · by_cases e : i' = i
            · subst e; exact Or.inl (Or.inr ⟨j', k', q.2⟩)
            · exact Or.inr ⟨i', j', k', by omega, q⟩
    have out : ¬ (F.testBit i = true ∧ ¬ vz (vec g i)) → ∃ y : Nat, fMM_rank_L4 (nI F) τ f' (nI x) (nI (i + 1)) = some (nI y) ∧ y ≤ 3 ∧ (1 ≤ y ↔ 1 ≤ x ∨ ∃ i', i ≤ i' ∧ i' < n ∧ F.testBit i' = true ∧ ¬ vz (vec g i')) ∧ (2 ≤ y ↔ 2 ≤ x ∨ ∃ i' j', i ≤ i' ∧ i' < n ∧ j' < i' ∧ F.testBit i' = true ∧ F.testBit j' = true ∧ ¬ vz (crs (vec g i') (vec g j'))) ∧ (3 ≤ y ↔ 3 ≤ x ∨ ∃ i' j' k', i ≤ i' ∧ i' < n ∧ j' < i' ∧ k' < j' ∧ F.testBit i' = true ∧ F.testBit j' = true ∧ F.testBit k' = true ∧ dot (crs (vec g i') (vec g j')) (vec g k') ≠ 0) := by
      intro hno
      have no2 : ∀ j', F.testBit i = true → ¬ vz (crs (vec g i) (vec g j')) → False := fun j' p q => hno ⟨p, fun z => q (crs_z z).1⟩
      refine fin x h3 (by simp [hno]) ⟨Or.inl, ?_⟩ ⟨Or.inl, ?_⟩
      · rintro (h | ⟨j', a, p, q, r⟩)
        · exact h
        · exact (no2 j' p r).elim
      · rintro (h | ⟨j', k', a, a', p, q, r, s⟩)
        · exact h
        · exact (no2 j' p (fun z => s (dot_0 z))).elim
    have t0 : fMM_at (nI i) (0 : Int32) τ = some (iI (g i 0)) := at_spec hB hn hi (k := 0) (by omega)
    have t1 : fMM_at (nI i) (1 : Int32) τ = some (iI (g i 1)) := at_spec hB hn hi (k := 1) (by omega)
    have t2 : fMM_at (nI i) (2 : Int32) τ = some (iI (g i 2)) := at_spec hB hn hi (k := 2) (by omega)
    have inn : F.testBit i = true → ¬ vz (vec g i) → ∃ y : Nat, (if (1 : Int32) ≤ nI x then db1 (fMM_rankWith (nI F) (nI i) τ) fun r17 => if r17 ≤ nI x then fMM_rank_L4 (nI F) τ f' (nI x) (nI (i + 1)) else fMM_rank_L4 (nI F) τ f' r17 (nI (i + 1)) else db1 (fMM_rankWith (nI F) (nI i) τ) fun r17 => if r17 ≤ (1 : Int32) then fMM_rank_L4 (nI F) τ f' (1 : Int32) (nI (i + 1)) else fMM_rank_L4 (nI F) τ f' r17 (nI (i + 1))) = some (nI y) ∧ y ≤ 3 ∧ (1 ≤ y ↔ 1 ≤ x ∨ ∃ i', i ≤ i' ∧ i' < n ∧ F.testBit i' = true ∧ ¬ vz (vec g i')) ∧ (2 ≤ y ↔ 2 ≤ x ∨ ∃ i' j', i ≤ i' ∧ i' < n ∧ j' < i' ∧ F.testBit i' = true ∧ F.testBit j' = true ∧ ¬ vz (crs (vec g i') (vec g j'))) ∧ (3 ≤ y ↔ 3 ≤ x ∨ ∃ i' j' k', i ≤ i' ∧ i' < n ∧ j' < i' ∧ k' < j' ∧ F.testBit i' = true ∧ F.testBit j' = true ∧ F.testBit k' = true ∧ dot (crs (vec g i') (vec g j')) (vec g k') ≠ 0) := by
      intro hb hz
      obtain ⟨w, e1, e2, e3, e4, e5⟩ := with_loop ok hF hi hB i 0 FU 1 (by omega) (by unfold FU; omega) (by omega) (by omega)
      rw [nI_0] at e1
      have e1' : fMM_rankWith (nI F) (nI i) τ = some (nI w) := by unfold fMM_rankWith; exact e1
      have q2 : 2 ≤ w ↔ ∃ j', j' < i ∧ F.testBit i = true ∧ F.testBit j' = true ∧ ¬ vz (crs (vec g i) (vec g j')) := by
        rw [e4]
        constructor
        · rintro (h | ⟨j', -, a, b, c⟩)
          · omega
          · exact ⟨j', a, hb, b, c⟩
        · rintro ⟨j', a, -, b, c⟩; exact Or.inr ⟨j', by omega, a, b, c⟩
      have q3 : 3 ≤ w ↔ ∃ j' k', j' < i ∧ k' < j' ∧ F.testBit i = true ∧ F.testBit j' = true ∧ F.testBit k' = true ∧ dot (crs (vec g i) (vec g j')) (vec g k') ≠ 0 := by
        rw [e5]
        constructor
        · rintro (h | ⟨j', k', -, a, b, c, d, e⟩)
          · omega
          · exact ⟨j', k', a, b, hb, c, d, e⟩
        · rintro ⟨j', k', a, b, -, c, d, e⟩; exact Or.inr ⟨j', k', by omega, a, b, c, d, e⟩
      have go := fin (max (max x 1) w) (by omega) ⟨fun _ => Or.inr ⟨hb, hz⟩, fun _ => by omega⟩ (by rw [← q2]; omega) (by rw [← q3]; omega)
      rw [db1_t e1', db1_t e1']
      by_cases hx : 1 ≤ x
      · rw [if_pos (show (1 : Int32) ≤ nI x from nI_le (a := 1) hx (by omega))]
        by_cases hw : w ≤ x
        · rw [if_pos (nI_le hw (by omega))]
          rw [show max (max x 1) w = x by omega] at go; exact go
        · rw [if_neg (nI_ge (by omega) (by omega))]
          rw [show max (max x 1) w = w by omega] at go; exact go
      · rw [if_neg (show ¬ (1 : Int32) ≤ nI x from nI_ge (b := 1) (by omega) (by omega))]
        by_cases hw : w ≤ 1
        · rw [if_pos (show nI w ≤ (1 : Int32) from nI_le (b := 1) hw (by omega))]
          rw [show max (max x 1) w = 1 by omega] at go; exact go
        · rw [if_neg (show ¬ nI w ≤ (1 : Int32) from nI_ge (a := 1) (by omega) (by omega))]
          rw [show max (max x 1) w = w by omega] at go; exact go
    obtain ⟨y1, y2, y3⟩ := vec_B ok hi
    have y1' : -5 ≤ g i 0 ∧ g i 0 ≤ 5 := y1
    have y2' : -5 ≤ g i 1 ∧ g i 1 ≤ 5 := y2
    have y3' : -5 ≤ g i 2 ∧ g i 2 ≤ 5 := y3
    unfold fMM_rank_L4
    rw [dck_t (by decide), show (0 : Int32).toNatClampNeg = 0 from rfl, hB.1, if_neg (nI_ge (by omega) (by omega)), nI_1]
    simp only [dlt_u]
    rw [db1_t (has_spec hF (show i ≤ 12 by omega)), if_pos (trivial : True), if_neg (show ¬ (1 : Int32) = 0 by decide), db1_t t0]
    have both : ¬ vz (vec g i) → ∃ y : Nat, (if b01 (F.testBit i) = 0 then fMM_rank_L4 (nI F) τ f' (nI x) (nI (i + 1)) else (if (1 : Int32) ≤ nI x then db1 (fMM_rankWith (nI F) (nI i) τ) fun r17 => if r17 ≤ nI x then fMM_rank_L4 (nI F) τ f' (nI x) (nI (i + 1)) else fMM_rank_L4 (nI F) τ f' r17 (nI (i + 1)) else db1 (fMM_rankWith (nI F) (nI i) τ) fun r17 => if r17 ≤ (1 : Int32) then fMM_rank_L4 (nI F) τ f' (1 : Int32) (nI (i + 1)) else fMM_rank_L4 (nI F) τ f' r17 (nI (i + 1)))) = some (nI y) ∧ y ≤ 3 ∧ (1 ≤ y ↔ 1 ≤ x ∨ ∃ i', i ≤ i' ∧ i' < n ∧ F.testBit i' = true ∧ ¬ vz (vec g i')) ∧ (2 ≤ y ↔ 2 ≤ x ∨ ∃ i' j', i ≤ i' ∧ i' < n ∧ j' < i' ∧ F.testBit i' = true ∧ F.testBit j' = true ∧ ¬ vz (crs (vec g i') (vec g j'))) ∧ (3 ≤ y ↔ 3 ≤ x ∨ ∃ i' j' k', i ≤ i' ∧ i' < n ∧ j' < i' ∧ k' < j' ∧ F.testBit i' = true ∧ F.testBit j' = true ∧ F.testBit k' = true ∧ dot (crs (vec g i') (vec g j')) (vec g k') ≠ 0) := by
      intro hz
      cases b : F.testBit i
      · rw [if_pos b0]; exact out (fun z => by rw [z.1] at b; cases b)
      · rw [if_neg b1]; exact inn b hz
    by_cases c1 : g i 0 = 0
    · rw [if_pos ((iz (by omega)).mpr c1), db1_t t1]
      by_cases c2 : g i 1 = 0
      · rw [if_pos ((iz (by omega)).mpr c2), db1_t t2]
        by_cases c3 : g i 2 = 0
        · rw [if_pos ((iz (by omega)).mpr c3)]
          have : ¬ (F.testBit i = true ∧ ¬ vz (vec g i)) := fun z => z.2 ⟨c1, c2, c3⟩
          have := out this
          cases b : F.testBit i
          · rw [if_pos b0]; exact this
          · rw [if_neg b1]; exact this
        · rw [if_neg (fun w => c3 ((iz (by omega)).mp w)), db1_t (has_spec hF (show i ≤ 12 by omega))]
          exact both (fun z => c3 z.2.2)
      · rw [if_neg (fun w => c2 ((iz (by omega)).mp w)), db1_t (has_spec hF (show i ≤ 12 by omega))]
        exact both (fun z => c2 z.2.1)
    · rw [if_neg (fun w => c1 ((iz (by omega)).mp w)), db1_t (has_spec hF (show i ≤ 12 by omega))]
      exact both (fun z => c1 z.1)
