/-! reading a number, both sides -/
def dg (T : List Nat) (p : Nat) : Bool := decide (48 ≤ ch T p ∧ ch T p ≤ 57)
def nmL (T : List Nat) : Nat → Nat → Nat → Nat × Nat
  | 0, p, v => (p, v)
  | c + 1, p, v => if dg T p = true then nmL T c (p + 1) (10 * v + (ch T p - 48).toNat) else (p, v)
theorem dg_i {T : List Nat} {p : Nat} (h : dg T p = true) : 48 ≤ ch T p ∧ ch T p ≤ 57 := of_decide_eq_true h
theorem dg_lt {T : List Nat} {p : Nat} (h : dg T p = true) : p < T.length := ch_lt (by have := dg_i h; omega)
theorem nmL_pl {T : List Nat} : ∀ (c p v : Nat), p ≤ T.length → p ≤ (nmL T c p v).1 ∧ (nmL T c p v).1 ≤ T.length ∧ (nmL T c p v).1 ≤ p + c
  | 0, p, v, h => by rw [nmL]; exact ⟨Nat.le_refl _, h, Nat.le_refl _⟩
  | c + 1, p, v, h => by
    rw [nmL]
    by_cases z : dg T p = true
    · rw [if_pos z]
      have := nmL_pl (T := T) c (p + 1) (10 * v + (ch T p - 48).toNat) (dg_lt z)
      omega
    · rw [if_neg z]
      exact ⟨Nat.le_refl _, h, Nat.le_add_right _ _⟩
theorem nmL_v2 (T : List Nat) (p : Nat) : (nmL T 2 p 0).2 < 100 := by
  rw [nmL]
  by_cases z : dg T p = true
  · rw [if_pos z, nmL]
    have h1 := dg_i z
    by_cases y : dg T (p + 1) = true
    · have h2 := dg_i y
      rw [if_pos y, nmL]
      show 10 * (10 * 0 + (ch T p - 48).toNat) + (ch T (p + 1) - 48).toNat < 100
      omega
    · rw [if_neg y]
      show 10 * 0 + (ch T p - 48).toNat < 100
      omega
  · rw [if_neg z]
    show 0 < 100
    omega
theorem ch_inI {T : List Nat} (hT : TxOk T) (p : Nat) : -1 ≤ ch T p ∧ ch T p < 128 := by
  by_cases z : p < T.length
  · obtain ⟨c, hc, hc'⟩ := ch_in z
    have := hT.2 c (List.mem_of_getElem? hc)
    omega
  · rw [ch_out (by omega)]; omega
theorem wi_ch {T : List Nat} (hT : TxOk T) (p : Nat) : wi (iI (ch T p)) 48 57 = dg T p := by
  have := ch_inI hT p
  unfold wi dg
  rw [iI_to (by unfold inI; omega)]
theorem dig_val {T : List Nat} {p v : Nat} (h : dg T p = true) : (10 : Int32) * nI v + iI (ch T p) - (48 : Int32) = nI (10 * v + (ch T p - 48).toNat) := by
  have := dg_i h
  rw [show (10 : Int32) = iI 10 from rfl, show (48 : Int32) = iI 48 from rfl, nI_iI, nI_iI, iI_mul, iI_add, iI_sub]
  congr 1
  omega
