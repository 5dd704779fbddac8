/-! cores: at most four rows, apart but for one dependence -/
theorem sat_mono {g : gT} {a b : Nat} (h : ∀ j, a.testBit j = true → b.testBit j = true) (hs : satP g b) : satP g a := by
  obtain ⟨p, hp⟩ := hs
  exact ⟨p, fun j hj => hp j (h j hj)⟩
theorem coF_spec {g : gT} : ∀ (c m : Nat), m < 4096 → ¬ satP g m → ¬ satP g (coF g c m) ∧ coF g c m ≤ m ∧ (∀ j, (coF g c m).testBit j = true → m.testBit j = true) ∧ (∀ i, i < c → (coF g c m).testBit i = true → satP g (clr (coF g c m) i))
  | 0, m, _, hu => ⟨hu, Nat.le_refl m, fun _ h => h, fun i hi => by omega⟩
  | c + 1, m, hm, hu => by
    rw [coF]
    by_cases hb : (m.testBit c && dP (¬ satP g (clr m c))) = true
    · rw [if_pos hb]
      rw [Bool.and_eq_true] at hb
      have hle := clr_le m c
      obtain ⟨a1, a2, a3, a4⟩ := coF_spec c (clr m c) (by omega) (dP_iff.mp hb.2)
      refine ⟨a1, by omega, fun j hj => ?_, fun i hi hj => ?_⟩
      · have := a3 j hj
        rw [clr_bit hm, Bool.and_eq_true] at this
        exact this.1
      · by_cases e : i = c
        · subst e
          have := a3 i hj
          rw [clr_bit hm] at this
          simp at this
        · exact a4 i (by omega) hj
    · rw [if_neg hb]
      obtain ⟨a1, a2, a3, a4⟩ := coF_spec c m hm hu
      refine ⟨a1, a2, a3, fun i hi hj => ?_⟩
      by_cases e : i = c
      · subst e
        have hs : satP g (clr m i) := by
          apply Classical.byContradiction
          intro z
          exact hb (by rw [Bool.and_eq_true]; exact ⟨a3 i hj, dP_iff.mpr z⟩)
        refine sat_mono (fun j h => ?_) hs
        rw [clr_bit (by omega), Bool.and_eq_true] at h
        rw [clr_bit hm, Bool.and_eq_true]
        exact ⟨a3 j h.1, h.2⟩
      · exact a4 i (by omega) hj
theorem coF_core {n m : Nat} {g : gT} (ok : BkOk n g) (hm : m < 2 ^ n) (hu : ¬ satP g m) : isCore g (coF g n m) ∧ coF g n m < 2 ^ n := by
  obtain ⟨a1, a2, a3, a4⟩ := coF_spec n m (lt_4096 ok.1 hm) hu
  exact ⟨⟨a1, fun i hi => a4 i (bit_lt (show coF g n m < 2 ^ n by omega) hi) hi⟩, by omega⟩
def mus (x : Nat) (a : Int) (i : Nat) : Rat := if i = x then (a : Rat) else 0
def mu4 (x1 x2 x3 x4 : Nat) (a1 a2 a3 a4 : Int) (i : Nat) : Rat := 1 * (1 * mus x1 a1 i + 1 * mus x2 a2 i) + 1 * (1 * mus x3 a3 i + 1 * mus x4 a4 i)
theorem sgS_mus {g : gT} {x : Nat} (hx : x < 12) (a : Int) (k : Nat) : sgS g (mus x a) k = ((a * g x k : Int) : Rat) := by
  unfold sgS mus
  rw [S12_one hx, Rat.intCast_mul]
theorem sgS_mu4 {g : gT} {x1 x2 x3 x4 : Nat} (h1 : x1 < 12) (h2 : x2 < 12) (h3 : x3 < 12) (h4 : x4 < 12) (a1 a2 a3 a4 : Int) (k : Nat) : sgS g (mu4 x1 x2 x3 x4 a1 a2 a3 a4) k = ((a1 * g x1 k + a2 * g x2 k + a3 * g x3 k + a4 * g x4 k : Int) : Rat) := by
  have e : sgS g (mu4 x1 x2 x3 x4 a1 a2 a3 a4) k = 1 * sgS g (fun i => 1 * mus x1 a1 i + 1 * mus x2 a2 i) k + 1 * sgS g (fun i => 1 * mus x3 a3 i + 1 * mus x4 a4 i) k := sgS_lin g 1 1 _ _ k
  rw [e, sgS_lin, sgS_lin, sgS_mus h1, sgS_mus h2, sgS_mus h3, sgS_mus h4]
  simp only [Rat.intCast_add]
  grind
theorem mu4_at {x1 x2 x3 x4 : Nat} {a1 a2 a3 a4 : Int} (i : Nat) : mu4 x1 x2 x3 x4 a1 a2 a3 a4 i = ((((if i = x1 then a1 else 0) + (if i = x2 then a2 else 0) + (if i = x3 then a3 else 0) + (if i = x4 then a4 else 0)) : Int) : Rat) := by
  unfold mu4 mus
  simp only [Rat.intCast_add]
  have c : ∀ (p : Prop) [Decidable p] (a : Int), (if p then (a : Rat) else 0) = ((if p then a else 0 : Int) : Rat) := by
    intro p _ a; split <;> rfl
  rw [c, c, c, c]
  grind
theorem no_dep {n C : Nat} {g : gT} (ok : BkOk n g) (hC : C < 2 ^ n) (hc : isCore g C) {y : Nat} (hy : C.testBit y = true) {x1 x2 x3 x4 : Nat} (h1 : C.testBit x1 = true) (h2 : C.testBit x2 = true) (h3 : C.testBit x3 = true) (h4 : C.testBit x4 = true) (n1 : y ≠ x1) (n2 : y ≠ x2) (n3 : y ≠ x3) (n4 : y ≠ x4) {a1 a2 a3 a4 : Int} (hd : ∀ k, k < 3 → a1 * g x1 k + a2 * g x2 k + a3 * g x3 k + a4 * g x4 k = 0) (i : Nat) : (if i = x1 then a1 else 0) + (if i = x2 then a2 else 0) + (if i = x3 then a3 else 0) + (if i = x4 then a4 else 0) = 0 := by
  have hn := ok.1
  have l12 : ∀ i, C.testBit i = true → i < 12 := fun i hi => by have := bit_lt hC hi; omega
  obtain ⟨w, w1, w2, w3, w4, w5, w6⟩ := core_one ok hC hc
  obtain ⟨c, hcm⟩ := w6 (mu4 x1 x2 x3 x4 a1 a2 a3 a4) (fun j hj => by
    rw [mu4_at]
    have ne : ∀ x, C.testBit x = true → j ≠ x := fun x hx e => by rw [e, hx] at hj; cases hj
    rw [if_neg (ne x1 h1), if_neg (ne x2 h2), if_neg (ne x3 h3), if_neg (ne x4 h4)]; rfl) (fun k hk => by
    rw [sgS_mu4 (l12 x1 h1) (l12 x2 h2) (l12 x3 h3) (l12 x4 h4), hd k hk]; rfl)
  have hy0 := hcm y
  rw [mu4_at, if_neg n1, if_neg n2, if_neg n3, if_neg n4] at hy0
  have hc0 : c = 0 := by
    rcases Rat.mul_eq_zero.mp (show c * w y = 0 from hy0.symm) with h | h
    · exact h
    · exact absurd h (w5 y hy)
  have := hcm i
  rw [mu4_at, hc0, Rat.zero_mul] at this
  exact Rat.intCast_inj.mp this
section CA
variable {n C : Nat} {g : gT} {x1 x2 x3 x4 y : Nat}
theorem core_a1 (ok : BkOk n g) (hC : C < 2 ^ n) (hc : isCore g C) (h1 : C.testBit x1 = true) (hy : C.testBit y = true) (n1 : y ≠ x1) : ¬ vz (vec g x1) := by
  rintro ⟨z1, z2, z3⟩
  have := no_dep ok hC hc hy h1 h1 h1 h1 n1 n1 n1 n1 (a1 := 1) (a2 := 0) (a3 := 0) (a4 := 0) (fun k hk => by
    have e : g x1 k = 0 := by
      rcases (show k = 0 ∨ k = 1 ∨ k = 2 by omega) with rfl | rfl | rfl
      · exact z1
      · exact z2
      · exact z3
    rw [e]; omega) x1
  simp at this
theorem core_a2 (ok : BkOk n g) (hC : C < 2 ^ n) (hc : isCore g C) (h1 : C.testBit x1 = true) (h2 : C.testBit x2 = true) (hy : C.testBit y = true) (n1 : y ≠ x1) (n2 : y ≠ x2) (n12 : x1 ≠ x2) : ¬ vz (crs (vec g x1) (vec g x2)) := by
  rintro ⟨z1, z2, z3⟩
  have v1 := core_a1 ok hC hc h1 hy n1
  have q1 : g x1 1 * g x2 2 - g x1 2 * g x2 1 = 0 := z1
  have q2 : g x1 2 * g x2 0 - g x1 0 * g x2 2 = 0 := z2
  have q3 : g x1 0 * g x2 1 - g x1 1 * g x2 0 = 0 := z3
  have z : ∀ c, c < 3 → g x1 c = 0 := by
    intro c hcc
    have := no_dep ok hC hc hy h1 h2 h1 h1 n1 n2 n1 n1 (a1 := g x2 c) (a2 := -(g x1 c)) (a3 := 0) (a4 := 0) (fun k hk => by
      rcases (show c = 0 ∨ c = 1 ∨ c = 2 by omega) with rfl | rfl | rfl <;> rcases (show k = 0 ∨ k = 1 ∨ k = 2 by omega) with rfl | rfl | rfl <;> grind) x2
    rw [if_neg (fun e => n12 e.symm), if_pos rfl] at this
    omega
  exact v1 ⟨z 0 (by omega), z 1 (by omega), z 2 (by omega)⟩
theorem core_a3 (ok : BkOk n g) (hC : C < 2 ^ n) (hc : isCore g C) (h1 : C.testBit x1 = true) (h2 : C.testBit x2 = true) (h3 : C.testBit x3 = true) (hy : C.testBit y = true) (n1 : y ≠ x1) (n2 : y ≠ x2) (n3 : y ≠ x3) (n12 : x1 ≠ x2) (n13 : x1 ≠ x3) (n23 : x2 ≠ x3) : dot (crs (vec g x1) (vec g x2)) (vec g x3) ≠ 0 := by
  intro hz
  have v1 := core_a2 ok hC hc h1 h2 hy n1 n2 n12
  have hz' : (g x1 1 * g x2 2 - g x1 2 * g x2 1) * g x3 0 + (g x1 2 * g x2 0 - g x1 0 * g x2 2) * g x3 1 + (g x1 0 * g x2 1 - g x1 1 * g x2 0) * g x3 2 = 0 := hz
  have z : ∀ c d, (c = 1 ∧ d = 2) ∨ (c = 2 ∧ d = 0) ∨ (c = 0 ∧ d = 1) → g x1 c * g x2 d - g x1 d * g x2 c = 0 := by
    intro c d hcd
    have := no_dep ok hC hc hy h1 h2 h3 h1 n1 n2 n3 n1 (a1 := g x2 c * g x3 d - g x2 d * g x3 c) (a2 := g x3 c * g x1 d - g x3 d * g x1 c) (a3 := g x1 c * g x2 d - g x1 d * g x2 c) (a4 := 0) (fun k hk => by
      rcases hcd with ⟨rfl, rfl⟩ | ⟨rfl, rfl⟩ | ⟨rfl, rfl⟩ <;> rcases (show k = 0 ∨ k = 1 ∨ k = 2 by omega) with rfl | rfl | rfl <;> grind) x3
    rw [if_neg (fun e => n13 e.symm), if_neg (fun e => n23 e.symm), if_pos rfl, if_neg (fun e => n13 e.symm)] at this
    omega
  exact v1 ⟨z 1 2 (Or.inl ⟨rfl, rfl⟩), z 2 0 (Or.inr (Or.inl ⟨rfl, rfl⟩)), z 0 1 (Or.inr (Or.inr ⟨rfl, rfl⟩))⟩
theorem core_a4 (ok : BkOk n g) (hC : C < 2 ^ n) (hc : isCore g C) (h1 : C.testBit x1 = true) (h2 : C.testBit x2 = true) (h3 : C.testBit x3 = true) (h4 : C.testBit x4 = true) (hy : C.testBit y = true) (n1 : y ≠ x1) (n2 : y ≠ x2) (n3 : y ≠ x3) (n4 : y ≠ x4) (n12 : x1 ≠ x2) (n13 : x1 ≠ x3) (n14 : x1 ≠ x4) (n23 : x2 ≠ x3) (n24 : x2 ≠ x4) (n34 : x3 ≠ x4) : False := by
  have v1 := core_a3 ok hC hc h1 h2 h3 hy n1 n2 n3 n12 n13 n23
  have := no_dep ok hC hc hy h1 h2 h3 h4 n1 n2 n3 n4 (a1 := dot (crs (vec g x2) (vec g x3)) (vec g x4)) (a2 := -(dot (crs (vec g x1) (vec g x3)) (vec g x4))) (a3 := dot (crs (vec g x1) (vec g x2)) (vec g x4)) (a4 := -(dot (crs (vec g x1) (vec g x2)) (vec g x3))) (fun k hk => by
    rcases (show k = 0 ∨ k = 1 ∨ k = 2 by omega) with rfl | rfl | rfl <;> unfold dot crs vec <;> grind) x4
  rw [if_neg (fun e => n14 e.symm), if_neg (fun e => n24 e.symm), if_neg (fun e => n34 e.symm), if_pos rfl] at this
  omega
end CA
/-! the members of a core in their order -/
def idxL (C : Nat) : Nat → Nat → List Nat
  | 0, _ => []
  | c + 1, i => (if C.testBit i = true then [i] else []) ++ idxL C c (i + 1)
theorem idxL_mem {C : Nat} {x : Nat} : ∀ (c i : Nat), x ∈ idxL C c i ↔ i ≤ x ∧ x < i + c ∧ C.testBit x = true
  | 0, i => by simp [idxL]; omega
  | c + 1, i => by
    rw [idxL, List.mem_append, idxL_mem c (i + 1)]
    constructor
    · rintro (h | ⟨h1, h2, h3⟩)
      · by_cases b : C.testBit i = true
        · rw [if_pos b] at h; rw [List.mem_singleton.mp h]; exact ⟨by omega, by omega, b⟩
        · rw [if_neg b] at h; simp at h
      · exact ⟨by omega, by omega, h3⟩
    · rintro ⟨h1, h2, h3⟩
      by_cases e : x = i
      · subst e; rw [if_pos h3]; exact Or.inl (List.mem_singleton.mpr rfl)
      · exact Or.inr ⟨by omega, by omega, h3⟩
theorem idxL_sorted {C : Nat} : ∀ (c i : Nat), (idxL C c i).Pairwise (· < ·)
  | 0, i => List.Pairwise.nil
  | c + 1, i => by
    rw [idxL]
    by_cases b : C.testBit i = true
    · rw [if_pos b, List.singleton_append, List.pairwise_cons]
      exact ⟨fun x hx => by have := (idxL_mem c (i + 1)).mp hx; omega, idxL_sorted c (i + 1)⟩
    · rw [if_neg b, List.nil_append]; exact idxL_sorted c (i + 1)
theorem core_len {n C : Nat} {g : gT} (ok : BkOk n g) (hC : C < 2 ^ n) (hc : isCore g C) : (idxL C 12 0).length ≤ 4 := by
  apply Decidable.byContradiction
  intro hn
  have hs := idxL_sorted (C := C) 12 0
  have hm : ∀ x ∈ idxL C 12 0, C.testBit x = true := fun x hx => ((idxL_mem 12 0).mp hx).2.2
  match hL : idxL C 12 0 with
  | [] => rw [hL] at hn; simp at hn
  | [a] => rw [hL] at hn; simp at hn
  | [a, b] => rw [hL] at hn; simp at hn
  | [a, b, c] => rw [hL] at hn; simp at hn
  | [a, b, c, d] => rw [hL] at hn; simp at hn
  | a :: b :: c :: d :: e :: L =>
    rw [hL] at hs hm
    simp only [List.pairwise_cons, List.mem_cons] at hs
    obtain ⟨s1, s2, s3, s4, -⟩ := hs
    have ab := s1 b (by simp)
    have ac := s1 c (by simp)
    have ad := s1 d (by simp)
    have ae := s1 e (by simp)
    have bc := s2 c (by simp)
    have bd := s2 d (by simp)
    have be := s2 e (by simp)
    have cd := s3 d (by simp)
    have ce := s3 e (by simp)
    have de := s4 e (by simp)
    exact core_a4 ok hC hc (hm a (by simp)) (hm b (by simp)) (hm c (by simp)) (hm d (by simp)) (hm e (by simp)) (by omega) (by omega) (by omega) (by omega) (by omega) (by omega) (by omega) (by omega) (by omega) (by omega)
