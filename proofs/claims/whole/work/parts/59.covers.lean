/-! is it a set of rows -/
def cov (a : Int32) (n : Nat) : Bool := decide (a.toBitVec.toNat < 2 ^ n)
theorem n0_iff (x : Int32) : x = 0 ↔ x.toBitVec.toNat = 0 := by
  constructor
  · intro h; rw [h]; rfl
  · intro h
    apply Int32.toBitVec_inj.mp
    apply BitVec.eq_of_toNat_eq
    rw [h]; rfl
theorem nI_self (a : Int32) : a = nI a.toBitVec.toNat := by
  apply Int32.toBitVec_inj.mp
  apply BitVec.eq_of_toNat_eq
  rw [pk_tn a.toBitVec.isLt]
theorem cov_n {a : Int32} {n : Nat} (h : cov a n = true) : ∃ m, m < 2 ^ n ∧ a = nI m := ⟨a.toBitVec.toNat, of_decide_eq_true h, nI_self a⟩
theorem covers_spec {n : Nat} (hn : n ≤ 12) {σ : sT} (h : σ.1 1 3 = nI n) (a : Int32) : fBk_covers a σ = some (b01 (cov a n)) := by
  have hs : (((nI n).toUInt32 &&& Int32.toUInt32 31).toBitVec % 32).toNat = n := by
    have : ∀ j : Fin 13, (((nI j.1).toUInt32 &&& Int32.toUInt32 31).toBitVec % 32).toNat = j.1 := by decide
    exact this ⟨n, by omega⟩
  have hp : 0 < 2 ^ n := Nat.two_pow_pos n
  unfold fBk_covers cov
  rw [h]
  by_cases c : a.toBitVec.toNat < 2 ^ n
  · rw [if_pos ((n0_iff _).mpr (by rw [pk_ushr a (nI n) n hs]; exact Nat.div_eq_of_lt c)), decide_eq_true c]; rfl
  · rw [if_neg (fun z => by
      have := (n0_iff _).mp z
      rw [pk_ushr a (nI n) n hs] at this
      rcases Nat.div_eq_zero_iff.mp this with h | h <;> omega), decide_eq_false c]; rfl
theorem in_spec {x lo hi : Int} (h : inJ x) (h1 : inJ lo) (h2 : inJ hi) : fMM_in (jI x) (jI lo) (jI hi) = some (b01 (decide (lo ≤ x ∧ x ≤ hi))) := by
  unfold fMM_in
  by_cases c1 : x < lo
  · rw [if_pos ((cmp_lt h h1).mpr c1), decide_eq_false (by omega)]; rfl
  · rw [if_neg (fun z => c1 ((cmp_lt h h1).mp z))]
    by_cases c2 : hi < x
    · rw [if_pos ((cmp_gt h h2).mpr c2), decide_eq_false (by omega)]; rfl
    · rw [if_neg (fun z => c2 ((cmp_gt h h2).mp z)), decide_eq_true (by omega)]; rfl
theorem iI_self (a : Int32) : a = iI a.toInt := (Int32.ofInt_toInt a).symm
theorem inI_self (a : Int32) : inI a.toInt := by
  have h1 := Int32.le_toInt a
  have h2 := Int32.toInt_lt a
  unfold inI; omega
theorem pow12 {n : Nat} (hn : n ≤ 12) : 2 ^ n ≤ 4096 := show 2 ^ n ≤ 2 ^ 12 from Nat.pow_le_pow_right (by omega) hn
theorem isSet_spec {n : Nat} (hn : n ≤ 12) {σ : sT} (h : σ.1 34 0 = nI n) (a : Int32) : fMM_isSet a σ = some (b01 (cov a n)) := by
  have hp : 0 < 2 ^ n := Nat.two_pow_pos n
  have hq := pow12 hn
  have he : fMM_every σ = some (nI (2 ^ n - 1)) := by
    unfold fMM_every
    rw [dck_t (by decide), show (0 : Int32).toNatClampNeg = 0 from rfl, h, show (1 : Int32) = nI 1 from rfl, pk_shlN _ n (sh31 hn) (by omega), pk_sub (by omega), Nat.one_mul]
  unfold fMM_isSet
  rw [db1_t he]
  have hl : (nI (2 ^ n - 1)).toInt64 = jI ((2 ^ n - 1 : Nat) : Int) := by rw [nI_iI, iI_l (by unfold inI; omega)]
  have ha : a.toInt64 = jI a.toInt := by
    have := iI_l (inI_self a)
    rw [← iI_self] at this; exact this
  have ja := inI_self a
  have hin := in_spec (x := a.toInt) (lo := 0) (hi := ((2 ^ n - 1 : Nat) : Int)) (by unfold inI at ja; unfold inJ; omega) inJ0 (by unfold inJ; omega)
  have hc : decide (0 ≤ a.toInt ∧ a.toInt ≤ ((2 ^ n - 1 : Nat) : Int)) = cov a n := by
    unfold cov
    have ht : a.toInt = a.toBitVec.toInt := rfl
    have hlt := a.toBitVec.isLt
    rw [ht, BitVec.toInt_eq_toNat_cond]
    apply decide_eq_decide.mpr
    split <;> omega
  rw [ha, hl, j0, db1_t hin, hc, dck_t (okZ_b _)]
