/-! why a set can't be: sums of its rows; a core's sum is one -/
def S12 (f : Nat → Rat) : Rat := f 0 + f 1 + f 2 + f 3 + f 4 + f 5 + f 6 + f 7 + f 8 + f 9 + f 10 + f 11
theorem c12 {j : Nat} (h : j < 12) : j = 0 ∨ j = 1 ∨ j = 2 ∨ j = 3 ∨ j = 4 ∨ j = 5 ∨ j = 6 ∨ j = 7 ∨ j = 8 ∨ j = 9 ∨ j = 10 ∨ j = 11 := by omega
theorem S12_lin (a b : Rat) (f h k : Nat → Rat) : S12 (fun i => (a * f i + b * h i) * k i) = a * S12 (fun i => f i * k i) + b * S12 (fun i => h i * k i) := by unfold S12; grind
theorem S12_one {j : Nat} (hj : j < 12) (s : Rat) (f : Nat → Rat) : S12 (fun i => (if i = j then s else 0) * f i) = s * f j := by
  rcases c12 hj with rfl | rfl | rfl | rfl | rfl | rfl | rfl | rfl | rfl | rfl | rfl | rfl <;> simp [S12] <;> grind
theorem S12_nn {f : Nat → Rat} (h : ∀ i, i < 12 → 0 ≤ f i) : 0 ≤ S12 f := by
  have h0 := h 0 (by omega)
  have h1 := h 1 (by omega)
  have h2 := h 2 (by omega)
  have h3 := h 3 (by omega)
  have h4 := h 4 (by omega)
  have h5 := h 5 (by omega)
  have h6 := h 6 (by omega)
  have h7 := h 7 (by omega)
  have h8 := h 8 (by omega)
  have h9 := h 9 (by omega)
  have h10 := h 10 (by omega)
  have h11 := h 11 (by omega)
  unfold S12
  grind
theorem S12_ge {f : Nat → Rat} (h : ∀ i, i < 12 → 0 ≤ f i) {j : Nat} (hj : j < 12) : f j ≤ S12 f := by
  have h0 := h 0 (by omega)
  have h1 := h 1 (by omega)
  have h2 := h 2 (by omega)
  have h3 := h 3 (by omega)
  have h4 := h 4 (by omega)
  have h5 := h 5 (by omega)
  have h6 := h 6 (by omega)
  have h7 := h 7 (by omega)
  have h8 := h 8 (by omega)
  have h9 := h 9 (by omega)
  have h10 := h 10 (by omega)
  have h11 := h 11 (by omega)
  unfold S12
  rcases c12 hj with rfl | rfl | rfl | rfl | rfl | rfl | rfl | rfl | rfl | rfl | rfl | rfl <;> grind
def kOf (g : gT) (i : Nat) : Nat := (g i 3).toNat
def sgS (g : gT) (w : Nat → Rat) (k : Nat) : Rat := S12 (fun i => w i * (g i k : Rat))
def dpd (g : gT) (w : Nat → Rat) : Prop := ∀ k, k < 3 → sgS g w k = 0
def supp (m : Nat) (w : Nat → Rat) : Prop := ∀ i, m.testBit i = false → w i = 0
def sgnOk (g : gT) (w : Nat → Rat) : Prop := ∀ i, kOf g i ≠ 2 → 0 ≤ w i
def strW (g : gT) (w : Nat → Rat) : Prop := ∃ i, i < 12 ∧ 0 < w i ∧ kOf g i = 0
def cone (g : gT) (m : Nat) (r : rT) : Prop := ∃ w : Nat → Rat, supp m w ∧ sgnOk g w ∧ (∀ k, k < 3 → (rco r k : Rat) = sgS g w k) ∧ (rd r : Rat) = sgS g w 4 ∧ (rk r = 0 → strW g w)
theorem sgS_lin (g : gT) (a b : Rat) (f h : Nat → Rat) (k : Nat) : sgS g (fun i => a * f i + b * h i) k = a * sgS g f k + b * sgS g h k := S12_lin a b f h _
theorem cone_comb {g : gT} {m : Nat} {r s : rT} {P Q : Int} (hP : 0 < P) (hQ : 0 < Q) (h1 : cone g m r) (h2 : cone g m s) : cone g m (comb P r Q s) := by
  obtain ⟨w, a1, a2, a3, a4, a5⟩ := h1
  obtain ⟨v, c1, c2, c3, c4, c5⟩ := h2
  have pP := cast_pos hP
  have pQ := cast_pos hQ
  have hw : ∀ i, kOf g i ≠ 2 → 0 ≤ (P : Rat) * w i ∧ 0 ≤ (Q : Rat) * v i := fun i hi => ⟨Rat.mul_nonneg (Rat.le_of_lt pP) (a2 i hi), Rat.mul_nonneg (Rat.le_of_lt pQ) (c2 i hi)⟩
  refine ⟨fun i => (P : Rat) * w i + (Q : Rat) * v i, fun i hi => ?_, fun i hi => ?_, fun k hk => ?_, ?_, fun h => ?_⟩
  · dsimp only; rw [a1 i hi, c1 i hi]; grind
  · have := hw i hi
    dsimp only; grind
  · rw [rco_comb, Rat.intCast_add, Rat.intCast_mul, Rat.intCast_mul, a3 k hk, c3 k hk, sgS_lin]
  · rw [rd_comb, a4, c4, sgS_lin]
  · rw [rk_comb] at h
    rcases (show rk r = 0 ∨ rk s = 0 by omega) with h | h
    · obtain ⟨i, i1, i2, i3⟩ := a5 h
      refine ⟨i, i1, ?_, i3⟩
      have := hw i (by omega)
      have := Rat.mul_pos pP i2
      dsimp only; grind
    · obtain ⟨i, i1, i2, i3⟩ := c5 h
      refine ⟨i, i1, ?_, i3⟩
      have := hw i (by omega)
      have := Rat.mul_pos pQ i2
      dsimp only; grind
theorem cone_one {g : gT} {m j : Nat} (hj : j < 12) (hb : m.testBit j = true) {s : Int} {k : Nat} (hs : kOf g j ≠ 2 → 0 < s) (hk : k = 0 → kOf g j = 0 ∧ 0 < s) : cone g m (s * g j 0, s * g j 1, s * g j 2, s * g j 4, k) := by
  refine ⟨fun i => if i = j then (s : Rat) else 0, fun i hi => ?_, fun i hi => ?_, fun c hc => ?_, ?_, fun h => ?_⟩
  · dsimp only; rw [if_neg (fun e => by rw [e, hb] at hi; cases hi)]
  · dsimp only
    by_cases e : i = j
    · rw [if_pos e]; subst e; exact Rat.le_of_lt (cast_pos (hs hi))
    · rw [if_neg e]; exact Rat.le_refl
  · unfold sgS
    rw [S12_one hj, ← Rat.intCast_mul]
    rcases (show c = 0 ∨ c = 1 ∨ c = 2 by omega) with rfl | rfl | rfl <;> rfl
  · unfold sgS
    rw [S12_one hj, ← Rat.intCast_mul]; rfl
  · have := hk h
    exact ⟨j, hj, by dsimp only; rw [if_pos rfl]; exact cast_pos this.2, this.1⟩
theorem cone_base {n m j : Nat} {g : gT} (ok : BkOk n g) (hm : m < 2 ^ n) (hb : m.testBit j = true) : ∀ q ∈ dbl (rowOf g j), cone g m q := by
  intro q hq
  have hj := bit_lt hm hb
  have hn := ok.1
  unfold dbl at hq
  have e1 : ∀ x : Int, (1 : Int) * x = x := Int.one_mul
  have e2 : ∀ x : Int, (-1 : Int) * x = -x := fun x => by omega
  by_cases h2 : rk (rowOf g j) = 2
  · rw [if_pos h2] at hq
    have h2' : kOf g j = 2 := h2
    rcases List.mem_cons.mp hq with rfl | hq
    · have := cone_one (g := g) (m := m) (j := j) (by omega) hb (s := 1) (k := 1) (fun z => by omega) (fun z => by omega)
      simp only [e1] at this; exact this
    · rw [List.mem_singleton.mp hq]
      have := cone_one (g := g) (m := m) (j := j) (by omega) hb (s := -1) (k := 1) (fun z => absurd h2' z) (fun z => by omega)
      simp only [e2] at this; exact this
  · rw [if_neg h2] at hq
    rw [List.mem_singleton.mp hq]
    have := cone_one (g := g) (m := m) (j := j) (by omega) hb (s := 1) (k := (g j 3).toNat) (fun z => by omega) (fun z => ⟨z, by omega⟩)
    simp only [e1] at this; exact this
theorem cone_np {g : gT} {m : Nat} {L : List rT} {k : Nat} (h : ∀ r ∈ L, cone g m r) : ∀ r ∈ Efrom (fNP L k) L 0, cone g m r := by
  intro e he
  rcases np_mem.mp he with ⟨h1, -⟩ | ⟨r, hr, s, hs, h1, h2, rfl⟩
  · exact h e h1
  · exact cone_comb (by omega) h1 (h r hr) (h s hs)
theorem farkas {n m : Nat} {g : gT} (ok : BkOk n g) (hm : m < 2 ^ n) (hu : ¬ satP g m) : ∃ w : Nat → Rat, supp m w ∧ sgnOk g w ∧ dpd g w ∧ (sgS g w 4 < 0 ∨ (sgS g w 4 ≤ 0 ∧ strW g w)) := by
  obtain ⟨L0, h0⟩ : ∃ L, L = (setF g m n 0).flatMap dbl := ⟨_, rfl⟩
  have k0 : ∀ r ∈ L0, rk r ≤ 1 := fun r hr => by rw [h0] at hr; exact (sflat_kind ok hm r hr).1
  have c0 : ∀ r ∈ L0, cone g m r := by
    intro r hr
    rw [h0] at hr
    obtain ⟨q, hq, hr⟩ := List.mem_flatMap.mp hr
    obtain ⟨j, -, -, hj, rfl⟩ := (setF_mem n 0).mp hq
    exact cone_base ok hm hj r hr
  have s0 : ∀ p, (∀ r ∈ L0, hol p r) ↔ setP g m p := fun p => by rw [h0, flat_P, setF_P hm (Nat.le_refl n)]
  obtain ⟨L1, h1⟩ : ∃ L, L = Efrom (fNP L0 2) L0 0 := ⟨_, rfl⟩
  obtain ⟨L2, h2⟩ : ∃ L, L = Efrom (fNP L1 1) L1 0 := ⟨_, rfl⟩
  obtain ⟨L3, h3⟩ : ∃ L, L = Efrom (fNP L2 0) L2 0 := ⟨_, rfl⟩
  have k1 : ∀ r ∈ L1, rk r ≤ 1 := by rw [h1]; exact np_kind k0
  have k2 : ∀ r ∈ L2, rk r ≤ 1 := by rw [h2]; exact np_kind k1
  have k3 : ∀ r ∈ L3, rk r ≤ 1 := by rw [h3]; exact np_kind k2
  have c1 : ∀ r ∈ L1, cone g m r := by rw [h1]; exact cone_np c0
  have c2 : ∀ r ∈ L2, cone g m r := by rw [h2]; exact cone_np c1
  have c3 : ∀ r ∈ L3, cone g m r := by rw [h3]; exact cone_np c2
  have z1 : ∀ r ∈ L1, rco r 2 = 0 := fun r hr => by rw [h1] at hr; exact (np_zero r hr).1
  have z2 : ∀ r ∈ L2, rco r 1 = 0 ∧ rco r 2 = 0 := fun r hr => by rw [h2] at hr; exact ⟨(np_zero r hr).1, (np_zero r hr).2 2 z1⟩
  have z3 : ∀ r ∈ L3, rco r 0 = 0 ∧ rco r 1 = 0 ∧ rco r 2 = 0 := fun r hr => by
    rw [h3] at hr; exact ⟨(np_zero r hr).1, (np_zero r hr).2 1 (fun q hq => (z2 q hq).1), (np_zero r hr).2 2 (fun q hq => (z2 q hq).2)⟩
  have no : ¬ ∀ r ∈ L3, hol (fun _ => 0) r := by
    intro h
    rw [h3, np_sem (by omega) k2] at h
    obtain ⟨t0, h⟩ := h
    rw [h2, np_sem (by omega) k1] at h
    obtain ⟨t1, h⟩ := h
    rw [h1, np_sem (by omega) k0] at h
    obtain ⟨t2, h⟩ := h
    exact hu ⟨_, (s0 _).mp h⟩
  obtain ⟨r, hr, hno⟩ : ∃ r, r ∈ L3 ∧ ¬ hol (fun _ => 0) r := by
    apply Classical.byContradiction
    intro hn
    exact no (fun r hr => Classical.byContradiction (fun z => hn ⟨r, hr, z⟩))
  obtain ⟨w, w1, w2, w3, w4, w5⟩ := c3 r hr
  obtain ⟨y0, y1, y2⟩ := z3 r hr
  refine ⟨w, w1, w2, fun k hk => ?_, ?_⟩
  · rw [← w3 k hk]
    rcases (show k = 0 ∨ k = 1 ∨ k = 2 by omega) with rfl | rfl | rfl
    · rw [y0]; rfl
    · rw [y1]; rfl
    · rw [y2]; rfl
  · have hl : lin r (fun _ => 0) = 0 := by unfold lin; dsimp only; grind
    unfold hol at hno
    rw [hl, w4] at hno
    rcases k01 (k3 r hr) with k | k
    · rw [k, relk0] at hno
      exact Or.inr ⟨by grind, w5 k⟩
    · rw [k, relk1] at hno
      exact Or.inl (by grind)
theorem lin_row (g : gT) (i : Nat) (p : pT) : lin (rowOf g i) p = (g i 0 : Rat) * p 0 + (g i 1 : Rat) * p 1 + (g i 2 : Rat) * p 2 := rfl
theorem sat_nn {n m : Nat} {g : gT} (hn : n ≤ 12) (ok : BkOk n g) (hm : m < 2 ^ n) {w : Nat → Rat} (h1 : supp m w) (h2 : sgnOk g w) (h3 : dpd g w) (hs : satP g m) : 0 ≤ sgS g w 4 ∧ (strW g w → 0 < sgS g w 4) := by
  obtain ⟨p, hp⟩ := hs
  have term : ∀ i, i < 12 → 0 ≤ w i * ((g i 4 : Rat) - lin (rowOf g i) p) ∧ (0 < w i → kOf g i = 0 → 0 < w i * ((g i 4 : Rat) - lin (rowOf g i) p)) := by
    intro i hi
    cases b : m.testBit i
    · rw [h1 i b]
      refine ⟨by rw [Rat.zero_mul]; exact Rat.le_refl, fun z => by grind⟩
    · have hh := hp i b
      have hk : kOf g i ≤ 2 := (kd_n ok (bit_lt hm b)).2
      unfold hol at hh
      have hrk : rk (rowOf g i) = kOf g i := rfl
      have hrd : (rd (rowOf g i) : Rat) = (g i 4 : Rat) := rfl
      rw [hrk, hrd] at hh
      rcases k012 hk with k | k | k
      · rw [k, relk0] at hh
        have hd : 0 < (g i 4 : Rat) - lin (rowOf g i) p := by grind
        exact ⟨Rat.mul_nonneg (h2 i (by omega)) (Rat.le_of_lt hd), fun z _ => Rat.mul_pos z hd⟩
      · rw [k, relk1] at hh
        have hd : 0 ≤ (g i 4 : Rat) - lin (rowOf g i) p := by grind
        exact ⟨Rat.mul_nonneg (h2 i (by omega)) hd, fun _ z => by omega⟩
      · rw [k, relk2] at hh
        have hd : (g i 4 : Rat) - lin (rowOf g i) p = 0 := by grind
        rw [hd, Rat.mul_zero]
        exact ⟨Rat.le_refl, fun _ z => by omega⟩
  have e : S12 (fun i => w i * ((g i 4 : Rat) - lin (rowOf g i) p)) = sgS g w 4 - (sgS g w 0 * p 0 + sgS g w 1 * p 1 + sgS g w 2 * p 2) := by
    unfold sgS S12
    simp only [lin_row]
    grind
  have d0 := h3 0 (by omega)
  have d1 := h3 1 (by omega)
  have d2 := h3 2 (by omega)
  rw [d0, d1, d2] at e
  have e' : S12 (fun i => w i * ((g i 4 : Rat) - lin (rowOf g i) p)) = sgS g w 4 := by rw [e]; grind
  rw [← e']
  refine ⟨S12_nn (fun i hi => (term i hi).1), ?_⟩
  rintro ⟨i, i1, i2, i3⟩
  have a := (term i i1).2 i2 i3
  have b := S12_ge (f := fun i => w i * ((g i 4 : Rat) - lin (rowOf g i) p)) (fun i hi => (term i hi).1) i1
  grind
theorem low_ex (ρ : Nat → Rat) (S : Nat → Prop) : ∀ N, (∃ j, j < N ∧ S j) → ∃ j, j < N ∧ S j ∧ ∀ i, i < N → S i → ρ j ≤ ρ i
  | 0, h => by obtain ⟨j, hj, -⟩ := h; omega
  | N + 1, h => by
    by_cases hN : ∃ j, j < N ∧ S j
    · obtain ⟨j, a, b, c⟩ := low_ex ρ S N hN
      by_cases hS : S N ∧ ρ N < ρ j
      · refine ⟨N, by omega, hS.1, fun i hi hs => ?_⟩
        by_cases e : i = N
        · rw [e]; exact Rat.le_refl
        · have := c i (by omega) hs; have := hS.2; grind
      · refine ⟨j, by omega, b, fun i hi hs => ?_⟩
        by_cases e : i = N
        · subst e
          have : ¬ ρ i < ρ j := fun z => hS ⟨hs, z⟩
          grind
        · exact c i (by omega) hs
    · obtain ⟨j, hj, hs⟩ := h
      have hjN : j = N := by
        apply Decidable.byContradiction
        intro e; exact hN ⟨j, by omega, hs⟩
      subst hjN
      refine ⟨j, by omega, hs, fun i hi hs' => ?_⟩
      by_cases e : i = j
      · rw [e]; exact Rat.le_refl
      · exact absurd ⟨i, by omega, hs'⟩ hN
/-- a core: it can't be, and without any of its rows it can -/
def isCore (g : gT) (C : Nat) : Prop := ¬ satP g C ∧ ∀ i, C.testBit i = true → satP g (clr C i)
theorem supp_clr {C j : Nat} (hC : C < 4096) {w : Nat → Rat} (h : supp C w) (hj : w j = 0) : supp (clr C j) w := by
  intro i hi
  rw [clr_bit hC] at hi
  by_cases e : i = j
  · rw [e]; exact hj
  · apply h i
    cases b : C.testBit i
    · rfl
    · rw [b] at hi; simp [e] at hi
theorem core_one {n C : Nat} {g : gT} (ok : BkOk n g) (hC : C < 2 ^ n) (hc : isCore g C) : ∃ w : Nat → Rat, supp C w ∧ sgnOk g w ∧ dpd g w ∧ (sgS g w 4 < 0 ∨ (sgS g w 4 ≤ 0 ∧ strW g w)) ∧ (∀ i, C.testBit i = true → w i ≠ 0) ∧ ∀ μ : Nat → Rat, supp C μ → dpd g μ → ∃ c : Rat, ∀ i, μ i = c * w i := by
  have hn := ok.1
  have hC' := lt_4096 ok.1 hC
  obtain ⟨w, w1, w2, w3, w4⟩ := farkas ok hC hc.1
  have cert : ∀ (j : Nat) (ν : Nat → Rat), C.testBit j = true → supp C ν → sgnOk g ν → dpd g ν → ν j = 0 → 0 ≤ sgS g ν 4 ∧ (strW g ν → 0 < sgS g ν 4) := by
    intro j ν hj a1 a2 a3 a4
    have hle := clr_le C j
    exact sat_nn hn ok (show clr C j < 2 ^ n by omega) (supp_clr hC' a1 a4) a2 a3 (hc.2 j hj)
  have hnz : ∀ i, C.testBit i = true → w i ≠ 0 := by
    intro i hi z
    obtain ⟨a, b⟩ := cert i w hi w1 w2 w3 z
    rcases w4 with h | ⟨h, h'⟩
    · grind
    · have := b h'; grind
  refine ⟨w, w1, w2, w3, w4, hnz, fun μ m1 m2 => ?_⟩
  by_cases hne : ∃ j, j < 12 ∧ C.testBit j = true
  · obtain ⟨jl, l1, l2, l3⟩ := low_ex (fun i => μ i / w i) (fun i => C.testBit i = true) 12 hne
    obtain ⟨jh, u1, u2, u3⟩ := low_ex (fun i => -(μ i / w i)) (fun i => C.testBit i = true) 12 hne
    obtain ⟨a, ha⟩ : ∃ a, a = μ jl / w jl := ⟨_, rfl⟩
    obtain ⟨b, hb⟩ : ∃ b, b = μ jh / w jh := ⟨_, rfl⟩
    rw [← ha] at l3
    rw [← hb] at u3
    have l12 : ∀ i, C.testBit i = true → i < 12 := fun i hi => by have := bit_lt hC hi; omega
    have mr : ∀ i, C.testBit i = true → μ i = (μ i / w i) * w i := fun i hi => (Rat.div_mul_cancel (hnz i hi)).symm
    have hab : a = b := by
      apply Classical.byContradiction
      intro hne2
      have hlt : a < b := by
        have := l3 jh u1 u2
        rw [← hb] at this
        grind
      -- what is left without the lowest, and without the highest
      have s1 : ∀ i, kOf g i ≠ 2 → 0 ≤ 1 * μ i + (-a) * w i := by
        intro i hk
        cases bi : C.testBit i
        · rw [m1 i bi, w1 i bi]; grind
        · have h1 := l3 i (l12 i bi) bi
          have h2 := w2 i hk
          have h3 := Rat.mul_nonneg (show 0 ≤ μ i / w i - a by grind) h2
          have h4 := mr i bi
          grind
      have s2 : ∀ i, kOf g i ≠ 2 → 0 ≤ b * w i + (-1) * μ i := by
        intro i hk
        cases bi : C.testBit i
        · rw [m1 i bi, w1 i bi]; grind
        · have h1 := u3 i (l12 i bi) bi
          have h2 := w2 i hk
          have h3 := Rat.mul_nonneg (show 0 ≤ b - μ i / w i by grind) h2
          have h4 := mr i bi
          grind
      obtain ⟨p1, p2⟩ := cert jl (fun i => 1 * μ i + (-a) * w i) l2 (fun i hi => by dsimp only; rw [m1 i hi, w1 i hi]; grind) s1 (fun k hk => by rw [sgS_lin, m2 k hk, w3 k hk]; grind) (by
        have := mr jl l2; rw [← ha] at this; grind)
      obtain ⟨q1, q2⟩ := cert jh (fun i => b * w i + (-1) * μ i) u2 (fun i hi => by dsimp only; rw [m1 i hi, w1 i hi]; grind) s2 (fun k hk => by rw [sgS_lin, m2 k hk, w3 k hk]; grind) (by
        have := mr jh u2; rw [← hb] at this; grind)
      rw [sgS_lin] at p1 p2 q1 q2
      have hd : 0 < b - a := by grind
      have hsum : (1 * sgS g μ 4 + -a * sgS g w 4) + (b * sgS g w 4 + -1 * sgS g μ 4) = (b - a) * sgS g w 4 := by grind
      rcases w4 with h | ⟨h, i0, i1, i2, i3⟩
      · have := Rat.mul_neg_iff_of_pos_left (b := sgS g w 4) hd
        have := this.mpr h
        grind
      · have hz : sgS g w 4 = 0 ∨ sgS g w 4 < 0 := by grind
        rcases hz with hz | hz
        · rw [hz] at hsum p1 p2 q1 q2
          have hpos := Rat.mul_pos hd i2
          have hs : (1 * μ i0 + -a * w i0) + (b * w i0 + -1 * μ i0) = (b - a) * w i0 := by grind
          have k0 : kOf g i0 ≠ 2 := by omega
          have t1 := s1 i0 k0
          have t2 := s2 i0 k0
          by_cases hx : 0 < 1 * μ i0 + -a * w i0
          · have := p2 ⟨i0, i1, hx, i3⟩
            grind
          · have hy : 0 < b * w i0 + -1 * μ i0 := by grind
            have := q2 ⟨i0, i1, hy, i3⟩
            grind
        · have := Rat.mul_neg_iff_of_pos_left (b := sgS g w 4) hd
          have := this.mpr hz
          grind
    refine ⟨a, fun i => ?_⟩
    cases bi : C.testBit i
    · rw [m1 i bi, w1 i bi]; grind
    · have h1 := l3 i (l12 i bi) bi
      have h2 := u3 i (l12 i bi) bi
      have h3 : μ i / w i = a := by rw [hab]; rw [hab] at h1; grind
      have := mr i bi
      rw [h3] at this; exact this
  · refine ⟨0, fun i => ?_⟩
    have : C.testBit i = false := by
      apply Bool.eq_false_iff.mpr
      intro z
      exact hne ⟨i, by have := bit_lt hC z; omega, z⟩
    rw [m1 i this]; grind
