/-! how many rows a set has -/
theorem bc_all : ∀ a : Fin 64, ∀ b : Fin 64, fJI_bitCount (nI (64 * a.1 + b.1)) = some (nI (idxL (64 * a.1 + b.1) 12 0).length) := by decide +kernel
theorem bc_spec {m : Nat} (h : m < 4096) : fJI_bitCount (nI m) = some (nI (idxL m 12 0).length) := by
  have := bc_all ⟨m / 64, by omega⟩ ⟨m % 64, by omega⟩
  dsimp only at this
  rw [show 64 * (m / 64) + m % 64 = m by omega] at this
  exact this
theorem ones_all : ∀ a : Fin 64, ∀ b : Fin 64, fMM_ones_L4 14 (0 : Int32) (nI (64 * a.1 + b.1)) = some (nI (idxL (64 * a.1 + b.1) 12 0).length) := by decide +kernel
theorem ones_more : ∀ (n d : Nat) (x y : Int32) (r : Int32), fMM_ones_L4 n x y = some r → fMM_ones_L4 (n + d) x y = some r := by
  intro n
  induction n with
  | zero => intro d x y r h; unfold fMM_ones_L4 at h; cases h
  | succ n ih =>
    intro d x y r h
    rw [show n + 1 + d = (n + d) + 1 by omega]
    unfold fMM_ones_L4 at h ⊢
    by_cases z : y = 0
    · rw [if_pos z] at h ⊢; exact h
    · rw [if_neg z, dlt_u] at h ⊢
      exact ih d _ _ r h
theorem ones_spec {m : Nat} (h : m < 4096) : fMM_ones (nI m) = some (nI (idxL m 12 0).length) := by
  have := ones_all ⟨m / 64, by omega⟩ ⟨m % 64, by omega⟩
  dsimp only at this
  rw [show 64 * (m / 64) + m % 64 = m by omega] at this
  have h2 := ones_more 14 986 _ _ _ this
  unfold fMM_ones
  rw [show FU = 14 + 986 from rfl]
  exact h2
