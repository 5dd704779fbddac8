/-! sign vectors: slots, and how many rows a set has -/
theorem slot_loop {σ : sT} {L : List Nat} {i : Nat} (hS : SgAt σ L) (hl : L.length ≤ 5) (hL : ∀ y ∈ L, y < 12) (hi : i < 12) (hno : i ∉ L) : ∀ (c p f : Nat), p + c = L.length → c < f → ∀ K : Unit → Option (Int32 × sT), fSg_slotOf_L2 (nI i) σ K f (nI p) = K () := by
  intro c
  induction c with
  | zero =>
    intro p f h1 h2 K
    obtain ⟨f', rfl⟩ : ∃ f', f = f' + 1 := ⟨f - 1, by omega⟩
    unfold fSg_slotOf_L2
    rw [hS.1, if_pos (nI_le (by omega) (by omega))]
  | succ c ih =>
    intro p f h1 h2 K
    obtain ⟨f', rfl⟩ : ∃ f', f = f' + 1 := ⟨f - 1, by omega⟩
    obtain ⟨y, hy⟩ := get_lt (show p < L.length by omega)
    have hm := List.mem_of_getElem? hy
    have hyl := hL y hm
    unfold fSg_slotOf_L2
    rw [hS.1, if_neg (nI_ge (by omega) (by omega)), dck_t (okI_n (by omega) (by omega)), nc (by omega), hS.2 p y hy, if_neg (fun z => by
      have := (nI_eq (by omega) (by omega)).mp z
      exact hno (this ▸ hm)), nI_1]
    exact ih (p + 1) f' (by omega) (by omega) K
theorem slot_new {σ : sT} {L : List Nat} {i : Nat} (hS : SgAt σ L) (hl : L.length < 5) (hL : ∀ y ∈ L, y < 12) (hi : i < 12) (hno : i ∉ L) : ∃ σ1, fSg_slotOf (nI i) σ = some (nI L.length, σ1) ∧ SgAt σ1 (L ++ [i]) ∧ offC [24, 25] σ σ1 := by
  have h := slot_loop hS (by omega) hL hi hno L.length 0 FU (by omega) (by unfold FU; omega)
  rw [nI_0] at h
  refine ⟨siW (siW σ 25 L.length (nI i)) 24 3 (nI (L.length + 1)), ?_, ⟨by rw [siW_s, if_pos rfl, List.length_append, List.length_singleton], Tx_snoc hS.2 (fun j => by rw [siW_n (by decide), siW_s])⟩, (offC_si (by simp)).trans (offC_si (by simp))⟩
  obtain ⟨A, hA⟩ : ∃ A, FU = A := ⟨_, rfl⟩
  rw [hA] at h
  unfold fSg_slotOf
  rw [hA, dlt_u, h, hS.1, if_pos (show nI L.length < (5 : Int32) from nI_lt (b := 5) (by omega) (by omega)), dck_t (okI_n (by omega) (by omega)), nc (by omega), dlt_u, siW_n (by decide), hS.1, nI_1, dlt_u, siW_s, if_pos rfl, nI_pred]
theorem sd33_loop {n C : Nat} {g : gT} (ok : BkOk n g) (hC : C < 2 ^ n) : ∀ (c i f : Nat) (σ : sT) (P : List Nat), i + c = 12 → c < f → SgAt σ P → (∀ y ∈ P, y < i) → P.length + (idxL C c i).length ≤ 5 →
    ∃ σ1, (∀ K : sT → Option (Int32 × sT), fRM_sides_L33 (nI C) K f (nI i) σ = K σ1) ∧ SgAt σ1 (P ++ idxL C c i) ∧ offC [24, 25] σ σ1 := by
  have hC' := lt_4096 ok.1 hC
  intro c
  induction c with
  | zero =>
    intro i f σ P h1 h2 hS hP hl
    obtain ⟨f', rfl⟩ : ∃ f', f = f' + 1 := ⟨f - 1, by omega⟩
    refine ⟨σ, fun K => ?_, by simpa [idxL] using hS, offC.refl _ _⟩
    unfold fRM_sides_L33
    rw [show (12 : Int32) = nI 12 from rfl, if_pos (nI_le (by omega) (by omega))]
  | succ c ih =>
    intro i f σ P h1 h2 hS hP hl
    obtain ⟨f', rfl⟩ : ∃ f', f = f' + 1 := ⟨f - 1, by omega⟩
    rw [idxL] at hl ⊢
    cases b : C.testBit i
    · rw [b, if_neg (by decide), List.nil_append] at hl
      obtain ⟨σ1, e1, e2, e3⟩ := ih (i + 1) f' σ P (by omega) (by omega) hS (fun y hy => by have := hP y hy; omega) hl
      refine ⟨σ1, fun K => ?_, by rw [if_neg (by decide), List.nil_append]; exact e2, e3⟩
      unfold fRM_sides_L33
      rw [show (12 : Int32) = nI 12 from rfl, if_neg (nI_ge (by omega) (by omega)), db1_t (isIn_spec hC' (by omega)), b, if_pos b0, nI_1]
      exact e1 K
    · rw [b, if_pos rfl, List.length_append, List.length_singleton] at hl
      obtain ⟨σ2, f1, f2, f3⟩ := slot_new hS (by omega) (fun y hy => by have := hP y hy; omega) (show i < 12 by omega) (fun z => by have := hP i z; omega)
      obtain ⟨σ1, e1, e2, e3⟩ := ih (i + 1) f' σ2 (P ++ [i]) (by omega) (by omega) f2 (fun y hy => by
        rcases List.mem_append.mp hy with hy | hy
        · have := hP y hy; omega
        · rw [List.mem_singleton.mp hy]; omega) (by rw [List.length_append, List.length_singleton]; omega)
      refine ⟨σ1, fun K => ?_, by rw [if_pos rfl, ← List.append_assoc]; exact e2, f3.trans e3⟩
      unfold fRM_sides_L33
      rw [show (12 : Int32) = nI 12 from rfl, if_neg (nI_ge (by omega) (by omega)), db1_t (isIn_spec hC' (by omega)), b, if_neg b1, db2_t f1, nI_1]
      exact e1 K
theorem tb_m1 : ∀ pl, pl < 32 → (((-1 : Int32).toUInt32 >>> ((nI pl).toUInt32 &&& Int32.toUInt32 31)).toInt32) &&& (1 : Int32) = nI 1 := by
  have : ∀ j : Fin 32, (((-1 : Int32).toUInt32 >>> ((nI j.1).toUInt32 &&& Int32.toUInt32 31)).toInt32) &&& (1 : Int32) = nI 1 := by decide +kernel
  exact fun pl h => this ⟨pl, h⟩
/-! the counts, whichever way they are taken -/
noncomputable def sgN (g : gT) : List Nat → List (Nat × Nat) → Nat
  | [], Q => if dP (satQ g Q) = true then 1 else 0
  | i :: R, Q => sgN g R (Q ++ [(i, 0)]) + sgN g R (Q ++ [(i, 1)]) + sgN g R (Q ++ [(i, 2)])
theorem sgN_un {g : gT} : ∀ (R : List Nat) (Q : List (Nat × Nat)), ¬ satQ g Q → sgN g R Q = 0
  | [], Q, h => by rw [sgN, if_neg (fun z => h (dP_iff.mp z))]
  | i :: R, Q, h => by
    rw [sgN, sgN_un R _ (fun z => h (satQ_pre z)), sgN_un R _ (fun z => h (satQ_pre z)), sgN_un R _ (fun z => h (satQ_pre z))]
theorem cnt_sg {g : gT} : ∀ (R : List Nat) (Q : List (Nat × Nat)) (pl : Nat), satQ g Q → cntC g (fun _ => 1) R Q pl = sgN g R Q
  | [], Q, pl, h => by rw [cntC, sgN, if_pos (dP_iff.mpr h)]
  | i :: R, Q, pl, h => by
    have t : ∀ e, (if dP (satQ g (Q ++ [(i, e)])) = true then cntC g (fun _ => 1) R (Q ++ [(i, e)]) (pl ||| (if truE g i e = true then 2 ^ Q.length else 0)) else 0) = sgN g R (Q ++ [(i, e)]) := by
      intro e
      by_cases z : satQ g (Q ++ [(i, e)])
      · rw [if_pos (dP_iff.mpr z), cnt_sg R _ _ z]
      · rw [if_neg (fun w => z (dP_iff.mp w)), sgN_un R _ z]
    rw [cntC, sgN, t, t, t]
def mQ : List Nat → Nat → List (Nat × Nat)
  | [], _ => []
  | i :: R, k => (i, k % 3) :: mQ R (k / 3)
def sumN (f : Nat → Nat) : Nat → Nat
  | 0 => 0
  | n + 1 => sumN f n + f n
theorem sum3 (f : Nat → Nat) : ∀ n, sumN f (3 * n) = sumN (fun k => f (3 * k) + f (3 * k + 1) + f (3 * k + 2)) n
  | 0 => rfl
  | n + 1 => by
    rw [show 3 * (n + 1) = 3 * n + 1 + 1 + 1 by omega, sumN, sumN, sumN, sum3 f n, sumN]; omega
theorem sum_add (f h : Nat → Nat) : ∀ n, sumN (fun k => f k + h k) n = sumN f n + sumN h n
  | 0 => rfl
  | n + 1 => by rw [sumN, sumN, sumN, sum_add f h n]; omega
theorem sum_sg {g : gT} : ∀ (R : List Nat) (Q : List (Nat × Nat)), sumN (fun k => if dP (satQ g (Q ++ mQ R k)) = true then 1 else 0) (3 ^ R.length) = sgN g R Q
  | [], Q => by
    rw [List.length_nil, Nat.pow_zero, sumN, sumN, Nat.zero_add]
    rw [mQ, List.append_nil, sgN]
  | i :: R, Q => by
    rw [List.length_cons, Nat.pow_succ, Nat.mul_comm, sum3, sgN, ← sum_sg R, ← sum_sg R, ← sum_sg R, sum_add, sum_add]
    have e : ∀ (d k : Nat), d < 3 → Q ++ mQ (i :: R) (3 * k + d) = Q ++ [(i, d)] ++ mQ R k := by
      intro d k hd
      rw [mQ, show (3 * k + d) % 3 = d by omega, show (3 * k + d) / 3 = k by omega, List.append_assoc]; rfl
    have e0 : ∀ k, Q ++ mQ (i :: R) (3 * k) = Q ++ [(i, 0)] ++ mQ R k := fun k => e 0 k (by omega)
    simp only [e0, e 1 _ (show 1 < 3 by omega), e 2 _ (show 2 < 3 by omega)]
