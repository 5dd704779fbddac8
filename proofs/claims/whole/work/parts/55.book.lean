/-! sets of rows as bits, and the book of rows on both sides -/
theorem sh31 {i : Nat} (hi : i ≤ 12) : ((nI i &&& 31).toBitVec.smod 32).toNat = i := by
  have : ∀ j : Fin 13, ((nI j.1 &&& 31).toBitVec.smod 32).toNat = j.1 := by decide
  exact this ⟨i, by omega⟩
theorem bit_at {m i : Nat} (hm : m < 4096) (hi : i ≤ 12) : (nI m >>> (nI i &&& 31)) &&& (1 : Int32) = b01 (m.testBit i) := by
  rw [pk_shrN (by omega) _ i (sh31 hi), pk_andN (by have := Nat.div_le_self m (2 ^ i); omega) 1 (by decide), Nat.testBit_eq_decide_div_mod_eq]
  generalize m / 2 ^ i = q
  by_cases h : q % 2 = 1
  · simp [h, b01]; rfl
  · have : q % 2 = 0 := by omega
    simp [this, b01]; rfl
theorem isIn_spec {m i : Nat} (hm : m < 4096) (hi : i ≤ 12) : fRM_isIn (nI m) (nI i) = some (b01 (m.testBit i)) := by
  unfold fRM_isIn
  rw [bit_at hm hi]
  cases m.testBit i <;> rfl
theorem has_spec {m i : Nat} (hm : m < 4096) (hi : i ≤ 12) : fMM_has (nI m) (nI i) = some (b01 (m.testBit i)) := by
  unfold fMM_has
  rw [bit_at hm hi]
  cases m.testBit i <;> rfl
/-- the book: n rows of six numbers -/
def BkOk (n : Nat) (g : Nat → Nat → Int) : Prop := n ≤ 12 ∧ ∀ i, i < n → (∀ k, k < 3 → -5 ≤ g i k ∧ g i k ≤ 5) ∧ (0 ≤ g i 3 ∧ g i 3 ≤ 2) ∧ (-50 ≤ g i 4 ∧ g i 4 ≤ 50) ∧ 0 ≤ g i 5 ∧ g i 5 ≤ 1
def BkC (σ : sT) (n : Nat) (g : Nat → Nat → Int) : Prop := σ.1 1 3 = nI n ∧ ∀ i, i < n → ∀ k, k < 6 → σ.1 2 (i * 6 + k) = iI (g i k)
def BkM (τ : sT) (n : Nat) (g : Nat → Nat → Int) : Prop := τ.1 34 0 = nI n ∧ ∀ i, i < n → ∀ k, k < 6 → τ.1 34 (1 + 6 * i + k) = iI (g i k)
def rowOf (g : Nat → Nat → Int) (i : Nat) : rT := (g i 0, g i 1, g i 2, g i 4, (g i 3).toNat)
theorem BkC.of {C : List Nat} {σ σ1 : sT} {n : Nat} {g : Nat → Nat → Int} (h : BkC σ n g) (ho : offC C σ σ1) (h1 : 1 ∉ C) (h2 : 2 ∉ C) : BkC σ1 n g := by
  refine ⟨by rw [(ho 1 h1).1]; exact h.1, fun i hi k hk => ?_⟩
  rw [(ho 2 h2).1]; exact h.2 i hi k hk
theorem BkM.of {C F : List Nat} {σ σ1 : sT} {n : Nat} {g : Nat → Nat → Int} (h : BkM σ n g) (ho : mOff C F σ σ1) (h1 : 34 ∉ C) : BkM σ1 n g := by
  refine ⟨by rw [(ho.1 34 h1 (by decide)).1]; exact h.1, fun i hi k hk => ?_⟩
  rw [(ho.1 34 h1 (by decide)).1]; exact h.2 i hi k hk
theorem within_spec {a lo hi : Int} (h : inI a) (h1 : inI lo) (h2 : inI hi) : fRM_isWithin (iI a) (iI lo) (iI hi) = some (b01 (decide (lo ≤ a ∧ a ≤ hi))) := by
  unfold fRM_isWithin
  by_cases c1 : a < lo
  · rw [if_pos ((iI_lt h h1).mpr c1), decide_eq_false (by omega)]; rfl
  · rw [if_neg (fun z => c1 ((iI_lt h h1).mp z))]
    by_cases c2 : hi < a
    · rw [if_pos ((iI_lt h2 h).mpr c2), decide_eq_false (by omega)]; rfl
    · rw [if_neg (fun z => c2 ((iI_lt h2 h).mp z)), decide_eq_true (by omega)]; rfl
theorem bhas_spec {σ : sT} {n : Nat} {g : Nat → Nat → Int} (h : BkC σ n g) (hn : n ≤ 12) (i : Nat) (hi : i < 100) : fBk_has (nI i) σ = some (b01 (decide (i < n))) := by
  unfold fBk_has
  rw [if_neg (nI_pos (by omega)), h.1]
  by_cases c : i < n
  · rw [if_neg (nI_ge c (by omega)), decide_eq_true c]; rfl
  · rw [if_pos (nI_le (by omega) (by omega)), decide_eq_false c]; rfl
theorem get_spec {σ : sT} {n : Nat} {g : Nat → Nat → Int} (h : BkC σ n g) (hn : n ≤ 12) {i k : Nat} (hi : i < n) (hk : k < 6) : fBk_get (nI i) (nI k) σ = some (iI (g i k)) := by
  unfold fBk_get
  rw [db1_t (bhas_spec h hn i (by omega)), decide_eq_true hi, if_neg (by decide)]
  have hw : fRM_isWithin (nI k) (0 : Int32) (5 : Int32) = some (b01 true) := by
    have : ∀ j : Fin 6, fRM_isWithin (nI j.1) (0 : Int32) (5 : Int32) = some (b01 true) := by decide
    exact this ⟨k, hk⟩
  rw [db1_t hw, if_neg (by decide), show (6 : Int32) = nI 6 from rfl, pk_mul, na, dck_t (okI_n (by omega) (by omega)), nc (by omega), h.2 i hi k hk]
theorem at_spec {σ : sT} {n : Nat} {g : Nat → Nat → Int} (h : BkM σ n g) (hn : n ≤ 12) {i k : Nat} (hi : i < n) (hk : k < 6) : fMM_at (nI i) (nI k) σ = some (iI (g i k)) := by
  unfold fMM_at
  rw [show (6 : Int32) = nI 6 from rfl, show (1 : Int32) = nI 1 from rfl, pk_mul, na, na, dck_t (okI_n (by omega) (by omega)), nc (by omega), h.2 i hi k hk]
