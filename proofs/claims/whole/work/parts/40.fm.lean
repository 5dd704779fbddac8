/-! rows over the rationals; one variable gone by pairs of rows -/
def relk (k : Nat) (x y : Rat) : Prop := if k = 0 then x < y else if k = 1 then x ≤ y else x = y
theorem relk0 {x y : Rat} : relk 0 x y ↔ x < y := by simp [relk]
theorem relk1 {x y : Rat} : relk 1 x y ↔ x ≤ y := by simp [relk]
theorem relk2 {x y : Rat} : relk 2 x y ↔ x = y := by simp [relk]
theorem k01 {k : Nat} (h : k ≤ 1) : k = 0 ∨ k = 1 := by omega
theorem k012 {k : Nat} (h : k ≤ 2) : k = 0 ∨ k = 1 ∨ k = 2 := by omega
theorem relk_pos {k : Nat} {a t e : Rat} (ha : 0 < a) : relk k (a * t) e ↔ relk k t (e / a) := by
  have ha' : a ≠ 0 := Rat.ne_of_gt ha
  have h1 : a * t < e ↔ t < e / a := (Rat.lt_div_iff' ha).symm
  have h2 : e / a < t ↔ e < a * t := by rw [Rat.div_lt_iff' ha]
  have h3 : a * t ≤ e ↔ t ≤ e / a := by rw [← Rat.not_lt, ← Rat.not_lt, h2]
  unfold relk
  split
  · exact h1
  · split
    · exact h3
    · constructor
      · intro h; rw [← h, Rat.mul_comm, Rat.mul_div_cancel ha']
      · intro h; rw [h, Rat.mul_comm, Rat.div_mul_cancel ha']
theorem relk_neg {k : Nat} {a t e : Rat} (ha : a < 0) : relk k (a * t) e ↔ relk k (e / a) t := by
  have hn : 0 < -a := by grind
  have ha' : a ≠ 0 := Rat.ne_of_lt ha
  have e1 : (-e) / (-a) = e / a := by
    rw [Rat.div_def, Rat.div_def]
    have : (-a)⁻¹ = -(a⁻¹) := by
      apply Rat.inv_eq_of_mul_eq_one
      rw [Rat.neg_mul, Rat.mul_neg, Rat.neg_neg, Rat.mul_inv_cancel a ha']
    rw [this]
    grind
  have h1 : a * t < e ↔ e / a < t := by
    rw [← e1, Rat.div_lt_iff' hn]; constructor <;> intro h <;> grind
  have h2 : t < e / a ↔ e < a * t := by
    rw [← e1, Rat.lt_div_iff' hn]; constructor <;> intro h <;> grind
  have h3 : a * t ≤ e ↔ e / a ≤ t := by rw [← Rat.not_lt, ← Rat.not_lt, h2]
  unfold relk
  split
  · exact h1
  · split
    · exact h3
    · constructor
      · intro h; rw [← h, Rat.mul_comm, Rat.mul_div_cancel ha']
      · intro h; rw [← h, Rat.mul_comm, Rat.div_mul_cancel ha']
/-- of finitely many upper bounds one is the tightest -/
theorem up_best : ∀ (L : List (Rat × Nat)), (∀ q ∈ L, q.2 ≤ 1) → L = [] ∨ ∃ b ∈ L, ∀ t, relk b.2 t b.1 → ∀ q ∈ L, relk q.2 t q.1
  | [], _ => Or.inl rfl
  | a :: L, hk => by
    refine Or.inr ?_
    rcases up_best L (fun q h => hk q (List.mem_cons_of_mem _ h)) with rfl | ⟨b, hb, hbest⟩
    · exact ⟨a, List.mem_cons_self, fun t h q hq => by rw [List.mem_singleton.mp hq]; exact h⟩
    · have ka := k01 (hk a List.mem_cons_self)
      have kb := k01 (hk b (List.mem_cons_of_mem _ hb))
      by_cases h1 : a.1 < b.1 ∨ (a.1 = b.1 ∧ a.2 ≤ b.2)
      · refine ⟨a, List.mem_cons_self, fun t h q hq => ?_⟩
        rcases List.mem_cons.mp hq with rfl | hq
        · exact h
        · refine hbest t ?_ q hq
          rcases ka with ka | ka <;> rcases kb with kb | kb <;> simp only [ka, kb, relk0, relk1] at h h1 ⊢ <;> grind
      · refine ⟨b, List.mem_cons_of_mem _ hb, fun t h q hq => ?_⟩
        rcases List.mem_cons.mp hq with rfl | hq
        · rcases ka with ka | ka <;> rcases kb with kb | kb <;> simp only [ka, kb, relk0, relk1] at h h1 ⊢ <;> grind
        · exact hbest t h q hq
theorem lo_best : ∀ (L : List (Rat × Nat)), (∀ q ∈ L, q.2 ≤ 1) → L = [] ∨ ∃ b ∈ L, ∀ t, relk b.2 b.1 t → ∀ q ∈ L, relk q.2 q.1 t
  | [], _ => Or.inl rfl
  | a :: L, hk => by
    refine Or.inr ?_
    rcases lo_best L (fun q h => hk q (List.mem_cons_of_mem _ h)) with rfl | ⟨b, hb, hbest⟩
    · exact ⟨a, List.mem_cons_self, fun t h q hq => by rw [List.mem_singleton.mp hq]; exact h⟩
    · have ka := k01 (hk a List.mem_cons_self)
      have kb := k01 (hk b (List.mem_cons_of_mem _ hb))
      by_cases h1 : b.1 < a.1 ∨ (a.1 = b.1 ∧ a.2 ≤ b.2)
      · refine ⟨a, List.mem_cons_self, fun t h q hq => ?_⟩
        rcases List.mem_cons.mp hq with rfl | hq
        · exact h
        · refine hbest t ?_ q hq
          rcases ka with ka | ka <;> rcases kb with kb | kb <;> simp only [ka, kb, relk0, relk1] at h h1 ⊢ <;> grind
      · refine ⟨b, List.mem_cons_of_mem _ hb, fun t h q hq => ?_⟩
        rcases List.mem_cons.mp hq with rfl | hq
        · rcases ka with ka | ka <;> rcases kb with kb | kb <;> simp only [ka, kb, relk0, relk1] at h h1 ⊢ <;> grind
        · exact hbest t h q hq
theorem mid_lt {a b : Rat} (h : a < b) : a < (a + b) / 2 ∧ (a + b) / 2 < b := by
  have h2 : (0 : Rat) < 2 := by decide
  constructor
  · rw [Rat.lt_div_iff h2]; grind
  · rw [Rat.div_lt_iff h2]; grind
/-- between lower and upper bounds there is something, if each pair leaves room -/
theorem between_ex (U L : List (Rat × Nat)) (hU : ∀ q ∈ U, q.2 ≤ 1) (hL : ∀ q ∈ L, q.2 ≤ 1) (h : ∀ u ∈ U, ∀ l ∈ L, relk (min u.2 l.2) l.1 u.1) : ∃ t, (∀ u ∈ U, relk u.2 t u.1) ∧ ∀ l ∈ L, relk l.2 l.1 t := by
  rcases up_best U hU with rfl | ⟨u, hu, bu⟩
  · rcases lo_best L hL with rfl | ⟨l, hl, bl⟩
    · exact ⟨0, by simp, by simp⟩
    · refine ⟨l.1 + 1, by simp, bl _ ?_⟩
      rcases k01 (hL l hl) with k | k <;> simp only [k, relk0, relk1] <;> grind
  · rcases lo_best L hL with rfl | ⟨l, hl, bl⟩
    · refine ⟨u.1 - 1, bu _ ?_, by simp⟩
      rcases k01 (hU u hu) with k | k <;> simp only [k, relk0, relk1] <;> grind
    · have hr := h u hu l hl
      by_cases hlt : l.1 < u.1
      · obtain ⟨m1, m2⟩ := mid_lt hlt
        refine ⟨(l.1 + u.1) / 2, bu _ ?_, bl _ ?_⟩
        · rcases k01 (hU u hu) with k | k <;> simp only [k, relk0, relk1]
          · exact m2
          · exact Rat.le_of_lt m2
        · rcases k01 (hL l hl) with k | k <;> simp only [k, relk0, relk1]
          · exact m1
          · exact Rat.le_of_lt m1
      · refine ⟨u.1, bu _ ?_, bl _ ?_⟩ <;> rcases k01 (hU u hu) with k | k <;> rcases k01 (hL l hl) with k' | k' <;> simp [k, k', relk0, relk1] at hr ⊢ <;> grind
