/-! the model's times: members, and some multiple of the multipliers -/
theorem idxL_ext {C n d : Nat} (hC : C < 2 ^ n) : ∀ (c i : Nat), i + c = n → idxL C (c + d) i = idxL C c i
  | 0, i, h => by
    rw [Nat.zero_add]
    have : ∀ (d i : Nat), n ≤ i → idxL C d i = [] := by
      intro d
      induction d with
      | zero => intro i _; rfl
      | succ d ih =>
        intro i hi
        rw [idxL, if_neg (fun z => by have := bit_lt hC z; omega), List.nil_append, ih (i + 1) (by omega)]
    exact this d i (by omega)
  | c + 1, i, h => by
    rw [show c + 1 + d = (c + d) + 1 by omega, idxL, idxL, idxL_ext hC c (i + 1) (by omega)]
def MmAt (τ : sT) (L : List Nat) : Prop := τ.1 33 20 = nI L.length ∧ ∀ p y, L[p]? = some y → τ.1 41 p = nI y
theorem mf7_loop {n C : Nat} {g : gT} (ok : BkOk n g) (hC : C < 2 ^ n) : ∀ (c i f : Nat) (τ : sT) (P : List Nat), i + c = n → c < f → BkM τ n g → MmAt τ P → P.length + (idxL C c i).length ≤ 4 →
    ∃ τ1, (∀ K : sT → Option sT, fMM_findsTimes_L7 (nI C) K f (nI i) τ = K τ1) ∧ MmAt τ1 (P ++ idxL C c i) ∧ mOff [41] [20] τ τ1 := by
  have hC' := lt_4096 ok.1 hC
  have hn := ok.1
  intro c
  induction c with
  | zero =>
    intro i f τ P h1 h2 hB hV hl
    obtain ⟨f', rfl⟩ : ∃ f', f = f' + 1 := ⟨f - 1, by omega⟩
    refine ⟨τ, fun K => ?_, by simpa [idxL] using hV, mOff.refl _ _ _⟩
    unfold fMM_findsTimes_L7
    rw [dck_t (by decide), show (0 : Int32).toNatClampNeg = 0 from rfl, hB.1, if_pos (nI_le (by omega) (by omega))]
  | succ c ih =>
    intro i f τ P h1 h2 hB hV hl
    obtain ⟨f', rfl⟩ : ∃ f', f = f' + 1 := ⟨f - 1, by omega⟩
    rw [idxL] at hl ⊢
    cases b : C.testBit i
    · rw [b, if_neg (by decide), List.nil_append] at hl
      obtain ⟨τ1, e1, e2, e3⟩ := ih (i + 1) f' τ P (by omega) (by omega) hB hV hl
      refine ⟨τ1, fun K => ?_, by rw [if_neg (by decide), List.nil_append]; exact e2, e3⟩
      unfold fMM_findsTimes_L7
      rw [dck_t (by decide), show (0 : Int32).toNatClampNeg = 0 from rfl, hB.1, if_neg (nI_ge (by omega) (by omega)), db1_t (has_spec hC' (by omega)), b, if_pos b0, nI_1]
      exact e1 K
    · rw [b, if_pos rfl, List.length_append, List.length_singleton] at hl
      obtain ⟨τc, hc⟩ : ∃ z, z = siW (siW τ 41 P.length (nI i)) 33 20 (nI (P.length + 1)) := ⟨_, rfl⟩
      have oc : mOff [41] [20] τ τc := by
        rw [hc]; exact (mOff_ci (by simp) (by decide)).trans (mOff_si (by simp))
      have hVc : MmAt τc (P ++ [i]) := by
        refine ⟨by rw [hc, siW_s, if_pos rfl, List.length_append, List.length_singleton], ?_⟩
        intro p y hy
        exact Tx_snoc hV.2 (f1 := τc.1 41) (fun j => by rw [hc, siW_n (by decide), siW_s]) p y hy
      obtain ⟨τ1, e1, e2, e3⟩ := ih (i + 1) f' τc (P ++ [i]) (by omega) (by omega) (hB.of oc (by decide)) hVc (by rw [List.length_append, List.length_singleton]; omega)
      refine ⟨τ1, fun K => ?_, by rw [if_pos rfl, ← List.append_assoc]; exact e2, oc.trans e3⟩
      unfold fMM_findsTimes_L7
      rw [dck_t (by decide), show (0 : Int32).toNatClampNeg = 0 from rfl, hB.1, if_neg (nI_ge (by omega) (by omega)), db1_t (has_spec hC' (by omega)), b, if_neg b1, hV.1, dck_t (okI_n (by omega) (by omega)), nc (by omega), dlt_u, siW_n (by decide), hV.1, nI_1, dlt_u, ← hc, nI_1]
      exact e1 K
section NB
variable {n : Nat} {g : gT} {L : List Nat} {τ : sT}
theorem num_spec (ok : BkOk n g) (hB : BkM τ n g) (hM : MmAt τ L) (hx : ∀ p, xL L p < n) {p k : Nat} (hp : p < L.length) (hp12 : p < 12) (hk : k < 6) : fMM_number (nI p) (nI k) τ = some (jI (g (xL L p) k)) := by
  unfold fMM_number
  have hb : -50 ≤ g (xL L p) k ∧ g (xL L p) k ≤ 50 := by
    obtain ⟨c, kd, d, e⟩ := ok.2 (xL L p) (hx p)
    rcases (show k < 3 ∨ k = 3 ∨ k = 4 ∨ k = 5 by omega) with h | rfl | rfl | rfl
    · have := c k h; omega
    · omega
    · exact d
    · omega
  rw [dck_t (okI_n (by omega) (by omega)), nc (by omega), hM.2 p _ (xL_lt hp), db1_t (at_spec hB ok.1 (hx p) hk), iI_l (by unfold inI; omega)]
theorem MmAt.of {C F : List Nat} {τ1 : sT} (h : MmAt τ L) (ho : mOff C F τ τ1) (h1 : 41 ∉ C) (h2 : 20 ∉ F) : MmAt τ1 L := by
  unfold MmAt at *
  rw [(ho.1 41 h1 (by decide)).1, (ho.2 20 h2).1]; exact h
theorem minor_spec (ok : BkOk n g) (hB : BkM τ n g) (hM : MmAt τ L) (hx : ∀ p, xL L p < n) {a b c : Nat} (ha : a < L.length) (hb : b < L.length) (hc : c < L.length) (hl : L.length ≤ 4) : fMM_minor (nI a) (nI b) (nI c) τ = some (jI (dot (vec g (xL L a)) (crs (vec g (xL L b)) (vec g (xL L c))))) := by
  have N : ∀ p k, p < L.length → k < 6 → fMM_number (nI p) (nI k) τ = some (jI (g (xL L p) k)) := fun p k hp hk => num_spec ok hB hM hx hp (by omega) hk
  unfold fMM_minor
  rw [show (0 : Int32) = nI 0 from rfl, show (1 : Int32) = nI 1 from rfl, show (2 : Int32) = nI 2 from rfl]
  simp only [dlt_u]
  rw [db1_t (N b 1 hb (by omega)), db1_t (N c 2 hc (by omega)), db1_t (N b 2 hb (by omega)), db1_t (N c 1 hc (by omega)), db1_t (N b 2 hb (by omega)), db1_t (N c 0 hc (by omega)), db1_t (N b 0 hb (by omega)), db1_t (N c 2 hc (by omega)), db1_t (N b 0 hb (by omega)), db1_t (N c 1 hc (by omega)), db1_t (N b 1 hb (by omega)), db1_t (N c 0 hc (by omega)), db1_t (N a 0 ha (by omega)), db1_t (N a 1 ha (by omega)), db1_t (N a 2 ha (by omega))]
  simp only [jI_mul, jI_sub, jI_add]
  rfl
end NB
/-! what the core's dependence says of its vectors -/
theorem dep_k {n C s : Nat} {g : gT} {x : Nat → Nat} (ok : BkOk n g) (hC : C < 2 ^ n) (hc : isCore g C) (hm : mbr C s x) : ∃ w : Nat → Rat, (∀ p, p < s → w p ≠ 0) ∧ (∀ p, s ≤ p → w p = 0) ∧ ∀ k, k < 3 → w 0 * (g (x 0) k : Rat) + w 1 * (g (x 1) k : Rat) + w 2 * (g (x 2) k : Rat) + w 3 * (g (x 3) k : Rat) = 0 := by
  obtain ⟨w, w1, w2, w3, w4, w5, w6⟩ := core_one ok hC hc
  refine ⟨fun p => if p < s then w (x p) else 0, fun p hp => ?_, fun p hp => ?_, fun k hk => ?_⟩
  · dsimp only; rw [if_pos hp]; exact w5 _ (hm.2.2.1 p)
  · dsimp only; rw [if_neg (by omega)]
  · rw [← w_sum ok hC hm w1 k]; exact w3 k hk
theorem vz_1 {n C : Nat} {g : gT} {x : Nat → Nat} (ok : BkOk n g) (hC : C < 2 ^ n) (hc : isCore g C) (hm : mbr C 1 x) : ∀ k, k < 3 → g (x 0) k = 0 := by
  obtain ⟨w, w1, w2, w3⟩ := dep_k ok hC hc hm
  intro k hk
  have := w3 k hk
  rw [w2 1 (by omega), w2 2 (by omega), w2 3 (by omega)] at this
  have e : w 0 * (g (x 0) k : Rat) = 0 := by grind
  exact Rat.intCast_inj.mp ((Rat.mul_eq_zero.mp e).resolve_left (w1 0 (by omega)))
theorem crs_2 {n C : Nat} {g : gT} {x : Nat → Nat} (ok : BkOk n g) (hC : C < 2 ^ n) (hc : isCore g C) (hm : mbr C 2 x) : ∀ k c, k < 3 → c < 3 → g (x 1) k * g (x 0) c - g (x 0) k * g (x 1) c = 0 := by
  obtain ⟨w, w1, w2, w3⟩ := dep_k ok hC hc hm
  intro k c hk hcc
  have h1 := w3 k hk
  have h2 := w3 c hcc
  rw [w2 2 (by omega), w2 3 (by omega)] at h1 h2
  have n0 := w1 0 (by omega)
  apply Rat.intCast_inj.mp
  rw [Rat.intCast_sub, Rat.intCast_mul, Rat.intCast_mul]
  generalize (g (x 0) k : Rat) = a at *
  generalize (g (x 1) k : Rat) = b at *
  generalize (g (x 0) c : Rat) = d at *
  generalize (g (x 1) c : Rat) = e at *
  generalize w 0 = p at *
  generalize w 1 = q at *
  have : p * (b * d - a * e) = 0 := by grind
  exact (Rat.mul_eq_zero.mp this).resolve_left n0
theorem det_3 {n C : Nat} {g : gT} {x : Nat → Nat} (ok : BkOk n g) (hC : C < 2 ^ n) (hc : isCore g C) (hm : mbr C 3 x) : dot (crs (vec g (x 0)) (vec g (x 1))) (vec g (x 2)) = 0 := by
  obtain ⟨w, w1, w2, w3⟩ := dep_k ok hC hc hm
  have h0 := w3 0 (by omega)
  have h1 := w3 1 (by omega)
  have h2 := w3 2 (by omega)
  rw [w2 3 (by omega)] at h0 h1 h2
  have n0 := w1 0 (by omega)
  apply Rat.intCast_inj.mp
  unfold dot crs vec
  simp only [Rat.intCast_add, Rat.intCast_sub, Rat.intCast_mul]
  generalize (g (x 0) 0 : Rat) = a0 at *
  generalize (g (x 0) 1 : Rat) = a1 at *
  generalize (g (x 0) 2 : Rat) = a2 at *
  generalize (g (x 1) 0 : Rat) = b0 at *
  generalize (g (x 1) 1 : Rat) = b1 at *
  generalize (g (x 1) 2 : Rat) = b2 at *
  generalize (g (x 2) 0 : Rat) = c0 at *
  generalize (g (x 2) 1 : Rat) = c1 at *
  generalize (g (x 2) 2 : Rat) = c2 at *
  generalize w 0 = p at *
  generalize w 1 = q at *
  generalize w 2 = r at *
  have h0' : p * a0 + q * b0 + r * c0 = 0 := by grind
  have h1' : p * a1 + q * b1 + r * c1 = 0 := by grind
  have h2' : p * a2 + q * b2 + r * c2 = 0 := by grind
  have : p * ((a1 * b2 - a2 * b1) * c0 + (a2 * b0 - a0 * b2) * c1 + (a0 * b1 - a1 * b0) * c2) = (p * a0 + q * b0 + r * c0) * (b1 * c2 - b2 * c1) + (p * a1 + q * b1 + r * c1) * (b2 * c0 - b0 * c2) + (p * a2 + q * b2 + r * c2) * (b0 * c1 - b1 * c0) := by grind
  rw [h0', h1', h2'] at this
  have : p * ((a1 * b2 - a2 * b1) * c0 + (a2 * b0 - a0 * b2) * c1 + (a0 * b1 - a1 * b0) * c2) = 0 := by rw [this]; grind
  exact (Rat.mul_eq_zero.mp this).resolve_left n0
