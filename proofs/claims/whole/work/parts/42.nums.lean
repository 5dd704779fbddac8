/-! machine numbers as integers -/
def jI (x : Int) : Int64 := Int64.ofInt x
def iI (x : Int) : Int32 := Int32.ofInt x
def inJ (x : Int) : Prop := -9223372036854775808 ≤ x ∧ x < 9223372036854775808
def inI (x : Int) : Prop := -2147483648 ≤ x ∧ x < 2147483648
theorem jI_add (a b : Int) : jI a + jI b = jI (a + b) := (Int64.ofInt_add a b).symm
theorem jI_mul (a b : Int) : jI a * jI b = jI (a * b) := (Int64.ofInt_mul a b).symm
theorem jI_sub (a b : Int) : jI a - jI b = jI (a - b) := (Int64.ofInt_sub a b).symm
theorem jI_neg (a : Int) : -jI a = jI (-a) := Int64.neg_ofInt
theorem iI_add (a b : Int) : iI a + iI b = iI (a + b) := (Int32.ofInt_add a b).symm
theorem iI_mul (a b : Int) : iI a * iI b = iI (a * b) := (Int32.ofInt_mul a b).symm
theorem iI_sub (a b : Int) : iI a - iI b = iI (a - b) := (Int32.ofInt_sub a b).symm
theorem iI_neg (a : Int) : -iI a = iI (-a) := Int32.neg_ofInt
theorem jI_to {a : Int} (h : inJ a) : (jI a).toInt = a := Int64.toInt_ofInt_of_le (by have := h.1; omega) (by have := h.2; omega)
theorem iI_to {a : Int} (h : inI a) : (iI a).toInt = a := Int32.toInt_ofInt_of_le (by have := h.1; omega) (by have := h.2; omega)
theorem jI_lt {a b : Int} (ha : inJ a) (hb : inJ b) : jI a < jI b ↔ a < b := by rw [Int64.lt_iff_toInt_lt, jI_to ha, jI_to hb]
theorem jI_le {a b : Int} (ha : inJ a) (hb : inJ b) : jI a ≤ jI b ↔ a ≤ b := by rw [Int64.le_iff_toInt_le, jI_to ha, jI_to hb]
theorem jI_eq {a b : Int} (ha : inJ a) (hb : inJ b) : jI a = jI b ↔ a = b := by rw [← Int64.toInt_inj, jI_to ha, jI_to hb]
theorem iI_lt {a b : Int} (ha : inI a) (hb : inI b) : iI a < iI b ↔ a < b := by rw [Int32.lt_iff_toInt_lt, iI_to ha, iI_to hb]
theorem iI_le {a b : Int} (ha : inI a) (hb : inI b) : iI a ≤ iI b ↔ a ≤ b := by rw [Int32.le_iff_toInt_le, iI_to ha, iI_to hb]
theorem iI_eq {a b : Int} (ha : inI a) (hb : inI b) : iI a = iI b ↔ a = b := by rw [← Int32.toInt_inj, iI_to ha, iI_to hb]
theorem nI_iI (n : Nat) : nI n = iI (n : Int) := Int32.ofInt_eq_ofNat.symm
theorem iI_nI (n : Nat) : iI (n : Int) = nI n := Int32.ofInt_eq_ofNat
theorem iI_l {a : Int} (h : inI a) : (iI a).toInt64 = jI a := by
  apply Int64.toInt_inj.mp
  rw [Int32.toInt_toInt64, iI_to h, jI_to (by unfold inI inJ at *; omega)]
theorem jI_i {a : Int} (h : inJ a) : (jI a).toInt32 = iI a := Int64.toInt32_ofInt
theorem j0 : (0 : Int64) = jI 0 := rfl
theorem j1 : (1 : Int64) = jI 1 := rfl
theorem inJ0 : inJ 0 := by unfold inJ; omega
theorem cmp_lt {a b : Int} (ha : inJ a) (hb : inJ b) : (lg_cmp (jI a) (jI b) < 0) ↔ a < b := by rw [lg_cmp_lt, jI_lt ha hb]
theorem cmp_le {a b : Int} (ha : inJ a) (hb : inJ b) : (lg_cmp (jI a) (jI b) ≤ 0) ↔ a ≤ b := by rw [lg_cmp_le, jI_le ha hb]
theorem cmp_gt {a b : Int} (ha : inJ a) (hb : inJ b) : (0 < lg_cmp (jI a) (jI b)) ↔ b < a := by rw [lg_cmp_gt, jI_lt hb ha]
theorem cmp_ge {a b : Int} (ha : inJ a) (hb : inJ b) : (0 ≤ lg_cmp (jI a) (jI b)) ↔ b ≤ a := by rw [lg_cmp_ge, jI_le hb ha]
theorem cmp_eq {a b : Int} (ha : inJ a) (hb : inJ b) : (lg_cmp (jI a) (jI b) = 0) ↔ a = b := by rw [lg_cmp_eq, jI_eq ha hb]
theorem jI_div {a b : Int} (ha : inJ a) (hb : inJ b) : jI a / jI b = jI (a.tdiv b) := by
  have m1 : Int64.minValue.toInt = -9223372036854775808 := by decide
  have m2 : Int64.maxValue.toInt = 9223372036854775807 := by decide
  exact (Int64.ofInt_tdiv (by rw [m1]; exact ha.1) (by rw [m2]; have := ha.2; omega) (by rw [m1]; exact hb.1) (by rw [m2]; have := hb.2; omega)).symm
theorem cmp_lt0 {a : Int} (ha : inJ a) : (lg_cmp (jI a) (0 : Int64) < 0) ↔ a < 0 := by rw [j0]; exact cmp_lt ha inJ0
theorem cmp_le0 {a : Int} (ha : inJ a) : (lg_cmp (jI a) (0 : Int64) ≤ 0) ↔ a ≤ 0 := by rw [j0]; exact cmp_le ha inJ0
theorem cmp_gt0 {a : Int} (ha : inJ a) : (0 < lg_cmp (jI a) (0 : Int64)) ↔ 0 < a := by rw [j0]; exact cmp_gt ha inJ0
theorem cmp_ge0 {a : Int} (ha : inJ a) : (0 ≤ lg_cmp (jI a) (0 : Int64)) ↔ 0 ≤ a := by rw [j0]; exact cmp_ge ha inJ0
theorem cmp_eq0 {a : Int} (ha : inJ a) : (lg_cmp (jI a) (0 : Int64) = 0) ↔ a = 0 := by rw [j0]; exact cmp_eq ha inJ0
/-! the memory -/
theorem siW_1 (σ : sT) (q k : Nat) (v : Int32) (q' k' : Nat) : (siW σ q k v).1 q' k' = if q' = q then (if k' = k then v else σ.1 q k') else σ.1 q' k' := by
  unfold siW va_up upd; dsimp only; split <;> rfl
theorem siW_2 (σ : sT) (q k : Nat) (v : Int32) : (siW σ q k v).2 = σ.2 := rfl
theorem sjW_1 (σ : sT) (q k : Nat) (v : Int64) : (sjW σ q k v).1 = σ.1 := rfl
theorem sjW_2 (σ : sT) (q k : Nat) (v : Int64) (q' k' : Nat) : (sjW σ q k v).2 q' k' = if q' = q then (if k' = k then v else σ.2 q k') else σ.2 q' k' := by
  unfold sjW va_up vp_updL; dsimp only; split <;> rfl
theorem sjW_s (σ : sT) (q k : Nat) (v : Int64) (k' : Nat) : (sjW σ q k v).2 q k' = if k' = k then v else σ.2 q k' := by rw [sjW_2, if_pos rfl]
theorem siW_s (σ : sT) (q k : Nat) (v : Int32) (k' : Nat) : (siW σ q k v).1 q k' = if k' = k then v else σ.1 q k' := by rw [siW_1, if_pos rfl]
theorem sjW_n {σ : sT} {q k : Nat} {v : Int64} {q' : Nat} (h : q' ≠ q) (k' : Nat) : (sjW σ q k v).2 q' k' = σ.2 q' k' := by rw [sjW_2, if_neg h]
theorem siW_n {σ : sT} {q k : Nat} {v : Int32} {q' : Nat} (h : q' ≠ q) (k' : Nat) : (siW σ q k v).1 q' k' = σ.1 q' k' := by rw [siW_1, if_neg h]
theorem saW_1 (σ : sT) (q : Nat) (f : Nat → Int32) (q' : Nat) : (saW σ q f).1 q' = if q' = q then f else σ.1 q' := rfl
theorem saW_2 (σ : sT) (q : Nat) (f : Nat → Int32) : (saW σ q f).2 = σ.2 := rfl
/-- the same memory but for some cells -/
def offC (C : List Nat) (σ σ1 : sT) : Prop := ∀ q, q ∉ C → σ1.1 q = σ.1 q ∧ σ1.2 q = σ.2 q
theorem offC.refl (C : List Nat) (σ : sT) : offC C σ σ := fun _ _ => ⟨rfl, rfl⟩
theorem offC.trans {C : List Nat} {a b c : sT} (h1 : offC C a b) (h2 : offC C b c) : offC C a c := fun q hq => ⟨(h2 q hq).1.trans (h1 q hq).1, (h2 q hq).2.trans (h1 q hq).2⟩
theorem offC.mono {C E : List Nat} {a b : sT} (h : offC C a b) (hs : ∀ q ∈ C, q ∈ E) : offC E a b := fun q hq => h q (fun z => hq (hs q z))
theorem offC_si {C : List Nat} {σ : sT} {q k : Nat} {v : Int32} (h : q ∈ C) : offC C σ (siW σ q k v) := by
  intro x hx
  have hne : x ≠ q := fun e => hx (e ▸ h)
  exact ⟨by funext j; rw [siW_1, if_neg hne], rfl⟩
theorem offC_sj {C : List Nat} {σ : sT} {q k : Nat} {v : Int64} (h : q ∈ C) : offC C σ (sjW σ q k v) := by
  intro x hx
  have hne : x ≠ q := fun e => hx (e ▸ h)
  exact ⟨rfl, by funext j; rw [sjW_2, if_neg hne]⟩
theorem offC_sa {C : List Nat} {σ : sT} {q : Nat} {f : Nat → Int32} (h : q ∈ C) : offC C σ (saW σ q f) := by
  intro x hx
  have hne : x ≠ q := fun e => hx (e ▸ h)
  exact ⟨by rw [saW_1, if_neg hne], rfl⟩
/-! indices -/
theorem okI_n {n N : Nat} (h : n < N) (hN : n < 2147483648) : okI (nI n) N = true := by
  unfold okI
  have h1 : ¬ nI n < 0 := nI_pos (by omega)
  have h2 : (nI n).toNatClampNeg = n := nI_clamp (by omega)
  simp only [decide_eq_true_eq, h2]
  rintro (h3 | h3)
  · exact h1 h3
  · omega
theorem dck_t {β : Type} {b : Bool} {k : Option β} (h : b = true) : dck b k = k := by unfold dck; rw [if_pos h]
theorem dlt_u {α β : Type} (x : α) (k : α → Option β) : dlt x k = k x := rfl
theorem db1_t {α β : Type} {o : Option α} {k : α → Option β} {a : α} (h : o = some a) : db1 o k = k a := by rw [h]; rfl
theorem db2_t {α γ β : Type} {o : Option (α × γ)} {k : α → γ → Option β} {a : α} {c : γ} (h : o = some (a, c)) : db2 o k = k a c := by rw [h]; rfl
theorem n4 (i : Nat) : nI i * (4 : Int32) = nI (i * 4) := pk_mul i 4
theorem na (i k : Nat) : nI i + nI k = nI (i + k) := nI_add i k
theorem nc {i : Nat} (h : i < 2147483648) : (nI i).toNatClampNeg = i := nI_clamp (by omega)
