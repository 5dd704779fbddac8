/-! dimension: ranks on both sides -/
abbrev vT : Type := Int × Int × Int
def crs (u v : vT) : vT := (u.2.1 * v.2.2 - u.2.2 * v.2.1, u.2.2 * v.1 - u.1 * v.2.2, u.1 * v.2.1 - u.2.1 * v.1)
def dot (u v : vT) : Int := u.1 * v.1 + u.2.1 * v.2.1 + u.2.2 * v.2.2
def vz (u : vT) : Prop := u.1 = 0 ∧ u.2.1 = 0 ∧ u.2.2 = 0
def vB (M : Int) (u : vT) : Prop := (-M ≤ u.1 ∧ u.1 ≤ M) ∧ (-M ≤ u.2.1 ∧ u.2.1 ≤ M) ∧ (-M ≤ u.2.2 ∧ u.2.2 ≤ M)
theorem mz {a b : Int} (ha : a ≠ 0) (h : a * b = 0) : b = 0 := (Int.mul_eq_zero.mp h).resolve_left ha
theorem vnz {u : vT} (h : ¬ vz u) : u.1 ≠ 0 ∨ u.2.1 ≠ 0 ∨ u.2.2 ≠ 0 := by unfold vz at h; omega
theorem par_tr {h u v : vT} (hh : ¬ vz h) (h1 : vz (crs h u)) (h2 : vz (crs h v)) : vz (crs u v) := by
  obtain ⟨a, b, c⟩ := h
  obtain ⟨u1, u2, u3⟩ := u
  obtain ⟨v1, v2, v3⟩ := v
  unfold vz crs at *
  dsimp only at *
  obtain ⟨p1, p2, p3⟩ := h1
  obtain ⟨q1, q2, q3⟩ := h2
  rcases (show a ≠ 0 ∨ b ≠ 0 ∨ c ≠ 0 by omega) with z | z | z
  · refine ⟨mz z (mz z ?_), mz z (mz z ?_), mz z (mz z ?_)⟩ <;> grind
  · refine ⟨mz z (mz z ?_), mz z (mz z ?_), mz z (mz z ?_)⟩ <;> grind
  · refine ⟨mz z (mz z ?_), mz z (mz z ?_), mz z (mz z ?_)⟩ <;> grind
theorem plane {N u v w : vT} (hN : ¬ vz N) (h1 : dot N u = 0) (h2 : dot N v = 0) (h3 : dot N w = 0) : dot (crs u v) w = 0 := by
  have e1 : N.1 * dot (crs u v) w = dot N u * (crs v w).1 + dot N v * (crs w u).1 + dot N w * (crs u v).1 := by unfold dot crs; grind
  have e2 : N.2.1 * dot (crs u v) w = dot N u * (crs v w).2.1 + dot N v * (crs w u).2.1 + dot N w * (crs u v).2.1 := by unfold dot crs; grind
  have e3 : N.2.2 * dot (crs u v) w = dot N u * (crs v w).2.2 + dot N v * (crs w u).2.2 + dot N w * (crs u v).2.2 := by unfold dot crs; grind
  rw [h1, h2, h3] at e1 e2 e3
  simp only [Int.zero_mul, Int.add_zero] at e1 e2 e3
  rcases vnz hN with z | z | z
  · exact mz z e1
  · exact mz z e2
  · exact mz z e3
theorem dot_sw (h v u : vT) : dot (crs h v) u = -(dot (crs h u) v) := by unfold dot crs; grind
theorem dot_rot (a b c : vT) : dot (crs a b) c = dot (crs b c) a := by unfold dot crs; grind
theorem dot_0 {u v : vT} (h : vz u) : dot u v = 0 := by unfold dot; rw [h.1, h.2.1, h.2.2]; simp
theorem dot_vv (h v : vT) : dot (crs h v) v = 0 := by unfold dot crs; grind
theorem dot_hh (h v : vT) : dot (crs h v) h = 0 := by unfold dot crs; grind
theorem crs_vv (v : vT) : vz (crs v v) := by unfold vz crs; refine ⟨?_, ?_, ?_⟩ <;> dsimp only <;> grind
theorem crs_z {u v : vT} (h : vz u) : vz (crs u v) ∧ vz (crs v u) := by
  unfold vz crs
  rw [h.1, h.2.1, h.2.2]; simp
theorem crs_sw {u v : vT} (h : vz (crs u v)) : vz (crs v u) := by
  unfold vz crs at *
  dsimp only at *
  obtain ⟨h1, h2, h3⟩ := h
  refine ⟨?_, ?_, ?_⟩ <;> grind
theorem crs_B {u v : vT} (hu : vB 5 u) (hv : vB 5 v) : vB 50 (crs u v) := by
  obtain ⟨a1, a2, a3⟩ := hu
  obtain ⟨c1, c2, c3⟩ := hv
  have m1 := mulB a2 c3
  have m2 := mulB a3 c2
  have m3 := mulB a3 c1
  have m4 := mulB a1 c3
  have m5 := mulB a1 c2
  have m6 := mulB a2 c1
  unfold vB crs
  dsimp only
  omega
theorem dot_B {u v : vT} (hu : vB 50 u) (hv : vB 5 v) : -750 ≤ dot u v ∧ dot u v ≤ 750 := by
  obtain ⟨a1, a2, a3⟩ := hu
  obtain ⟨c1, c2, c3⟩ := hv
  have m1 := mulB a1 c1
  have m2 := mulB a2 c2
  have m3 := mulB a3 c3
  unfold dot
  omega
/-- how many of some vectors are apart -/
def R1 (v : Nat → vT) (S : Nat → Prop) : Prop := ∃ i, S i ∧ ¬ vz (v i)
def R2 (v : Nat → vT) (S : Nat → Prop) : Prop := ∃ i j, S i ∧ S j ∧ ¬ vz (crs (v i) (v j))
def R3 (v : Nat → vT) (S : Nat → Prop) : Prop := ∃ i j k, S i ∧ S j ∧ S k ∧ dot (crs (v i) (v j)) (v k) ≠ 0
def rkN (v : Nat → vT) (S : Nat → Prop) (r : Nat) : Prop := r ≤ 3 ∧ (1 ≤ r ↔ R1 v S) ∧ (2 ≤ r ↔ R2 v S) ∧ (3 ≤ r ↔ R3 v S)
theorem rkN_one {v : Nat → vT} {S : Nat → Prop} {r s : Nat} (h : rkN v S r) (k : rkN v S s) : r = s := by
  obtain ⟨a1, a2, a3, a4⟩ := h
  obtain ⟨c1, c2, c3, c4⟩ := k
  have := a2.trans c2.symm
  have := a3.trans c3.symm
  have := a4.trans c4.symm
  omega
def Hld (σ : sT) (u : vT) : Prop := σ.2 16 0 = jI u.1 ∧ σ.2 16 1 = jI u.2.1 ∧ σ.2 16 2 = jI u.2.2
def RkAt (σ : sT) (v : Nat → vT) (S : Nat → Prop) : Prop :=
  (σ.1 16 3 = nI 0 ∧ ∀ i, S i → vz (v i)) ∨
  (σ.1 16 3 = nI 1 ∧ ∃ h, S h ∧ ¬ vz (v h) ∧ Hld σ (v h) ∧ ∀ i, S i → vz (crs (v h) (v i))) ∨
  (σ.1 16 3 = nI 2 ∧ ∃ a b, S a ∧ S b ∧ ¬ vz (crs (v a) (v b)) ∧ Hld σ (crs (v a) (v b)) ∧ ∀ i, S i → dot (crs (v a) (v b)) (v i) = 0) ∨
  (σ.1 16 3 = nI 3 ∧ ∃ a b c, S a ∧ S b ∧ S c ∧ dot (crs (v a) (v b)) (v c) ≠ 0)
theorem R3_2 {v : Nat → vT} {S : Nat → Prop} (h : R3 v S) : R2 v S := by
  obtain ⟨i, j, k, h1, h2, h3, h4⟩ := h
  exact ⟨i, j, h1, h2, fun z => h4 (dot_0 z)⟩
theorem R2_1 {v : Nat → vT} {S : Nat → Prop} (h : R2 v S) : R1 v S := by
  obtain ⟨i, j, h1, h2, h3⟩ := h
  exact ⟨i, h1, fun z => h3 (crs_z z).1⟩
theorem RkAt.num {σ : sT} {v : Nat → vT} {S : Nat → Prop} (h : RkAt σ v S) : ∃ r, σ.1 16 3 = nI r ∧ rkN v S r := by
  rcases h with ⟨e, h⟩ | ⟨e, x, h1, h2, -, h3⟩ | ⟨e, a, b, h1, h2, h3, -, h4⟩ | ⟨e, h⟩
  · have n1 : ¬ R1 v S := by rintro ⟨i, hi, hz⟩; exact hz (h i hi)
    have n2 : ¬ R2 v S := fun z => n1 (R2_1 z)
    have n3 : ¬ R3 v S := fun z => n2 (R3_2 z)
    exact ⟨0, e, by omega, by simp [n1], by simp [n2], by simp [n3]⟩
  · have p1 : R1 v S := ⟨x, h1, h2⟩
    have n2 : ¬ R2 v S := by rintro ⟨i, j, hi, hj, hz⟩; exact hz (par_tr h2 (h3 i hi) (h3 j hj))
    have n3 : ¬ R3 v S := fun z => n2 (R3_2 z)
    exact ⟨1, e, by omega, by simp [p1], by simp [n2], by simp [n3]⟩
  · have p2 : R2 v S := ⟨a, b, h1, h2, h3⟩
    have n3 : ¬ R3 v S := by rintro ⟨i, j, k, hi, hj, hk, hz⟩; exact hz (plane h3 (h4 i hi) (h4 j hj) (h4 k hk))
    exact ⟨2, e, by omega, by simp [R2_1 p2], by simp [p2], by simp [n3]⟩
  · exact ⟨3, e, by omega, by simp [R2_1 (R3_2 h)], by simp [R3_2 h], by simp [show R3 v S from h]⟩
theorem hold_spec {σ : sT} (u : vT) {r : Nat} (hr : σ.1 16 3 = nI r) : ∃ σ1, fRk_hold (jI u.1) (jI u.2.1) (jI u.2.2) σ = some σ1 ∧ σ1.1 16 3 = nI (r + 1) ∧ Hld σ1 u ∧ offC [16] σ σ1 := by
  refine ⟨siW (sjW (sjW (sjW σ 16 0 (jI u.1)) 16 1 (jI u.2.1)) 16 2 (jI u.2.2)) 16 3 (nI (r + 1)), ?_, ?_, ⟨?_, ?_, ?_⟩, ?_⟩
  · unfold fRk_hold
    simp only [dlt_u, sjW_1]
    rw [hr, nI_1]
  · rw [siW_s, if_pos rfl]
  · rw [siW_2, sjW_s, if_neg (by decide), sjW_s, if_neg (by decide), sjW_s, if_pos rfl]
  · rw [siW_2, sjW_s, if_neg (by decide), sjW_s, if_pos rfl]
  · rw [siW_2, sjW_s, if_pos rfl]
  · exact ((offC_sj (by simp)).trans (offC_sj (by simp))).trans ((offC_sj (by simp)).trans (offC_si (by simp)))
theorem sm {M x : Int} (h : -M ≤ x ∧ x ≤ M) (hM : M ≤ 1000) : inJ x := by unfold inJ; omega
theorem add_spec {σ : sT} {v : Nat → vT} {S : Nat → Prop} (h : RkAt σ v S) (hS : ∀ i, S i → vB 5 (v i)) {i0 : Nat} (h0 : vB 5 (v i0)) :
    ∃ σ1, fRk_add (jI (v i0).1) (jI (v i0).2.1) (jI (v i0).2.2) σ = some σ1 ∧ RkAt σ1 v (fun i => S i ∨ i = i0) ∧ offC [16] σ σ1 := by
  have z1 := sm h0.1 (by omega)
  have z2 := sm h0.2.1 (by omega)
  have z3 := sm h0.2.2 (by omega)
  unfold fRk_add
  simp only [dlt_u]
  rcases h with ⟨e, h⟩ | ⟨e, x, h1, h2, ⟨l1, l2, l3⟩, h3⟩ | ⟨e, a, b, h1, h2, h3, ⟨l1, l2, l3⟩, h4⟩ | ⟨e, a, b, c, h1, h2, h3, h4⟩
  · obtain ⟨σ1, f1, f2, f3, f4⟩ := hold_spec (v i0) e
    rw [e, if_pos (show nI 0 = 0 from rfl), db1_t f1, if_neg (show ¬ nI 0 = (1 : Int32) by decide), if_neg (show ¬ nI 0 = (2 : Int32) by decide)]
    have nz : ¬ vz (v i0) → RkAt σ1 v (fun i => S i ∨ i = i0) := fun hz => Or.inr (Or.inl ⟨f2, i0, Or.inr rfl, hz, f3, fun i hi => by
      rcases hi with hi | rfl
      · exact (crs_z (h i hi)).2
      · exact crs_vv _⟩)
    by_cases c1 : (v i0).1 = 0
    · rw [if_pos ((cmp_eq0 z1).mpr c1)]
      by_cases c2 : (v i0).2.1 = 0
      · rw [if_pos ((cmp_eq0 z2).mpr c2)]
        by_cases c3 : (v i0).2.2 = 0
        · rw [if_pos ((cmp_eq0 z3).mpr c3)]
          refine ⟨σ, rfl, Or.inl ⟨e, fun i hi => ?_⟩, offC.refl _ _⟩
          rcases hi with hi | rfl
          · exact h i hi
          · exact ⟨c1, c2, c3⟩
        · rw [if_neg (fun z => c3 ((cmp_eq0 z3).mp z))]
          exact ⟨σ1, rfl, nz (fun z => c3 z.2.2), f4⟩
      · rw [if_neg (fun z => c2 ((cmp_eq0 z2).mp z))]
        exact ⟨σ1, rfl, nz (fun z => c2 z.2.1), f4⟩
    · rw [if_neg (fun z => c1 ((cmp_eq0 z1).mp z))]
      exact ⟨σ1, rfl, nz (fun z => c1 z.1), f4⟩
  · rw [e, if_neg (show ¬ nI 1 = 0 by decide), if_pos (show nI 1 = (1 : Int32) from rfl), l1, l2, l3]
    simp only [jI_mul, jI_sub]
    obtain ⟨N, hN⟩ : ∃ N, N = crs (v x) (v i0) := ⟨_, rfl⟩
    have hB : vB 50 N := by rw [hN]; exact crs_B (hS x h1) h0
    have n1 : (v x).2.1 * (v i0).2.2 - (v x).2.2 * (v i0).2.1 = N.1 := by rw [hN]; rfl
    have n2 : (v x).2.2 * (v i0).1 - (v x).1 * (v i0).2.2 = N.2.1 := by rw [hN]; rfl
    have n3 : (v x).1 * (v i0).2.1 - (v x).2.1 * (v i0).1 = N.2.2 := by rw [hN]; rfl
    have y1 := sm hB.1 (by omega)
    have y2 := sm hB.2.1 (by omega)
    have y3 := sm hB.2.2 (by omega)
    obtain ⟨σ1, f1, f2, f3, f4⟩ := hold_spec N e
    rw [n1, n2, n3, db1_t f1]
    have nz : ¬ vz N → RkAt σ1 v (fun i => S i ∨ i = i0) := fun hz => Or.inr (Or.inr (Or.inl ⟨f2, x, i0, Or.inl h1, Or.inr rfl, by rw [← hN]; exact hz, by rw [← hN]; exact f3, fun i hi => by
      rcases hi with hi | rfl
      · rw [dot_sw, dot_0 (h3 i hi)]; rfl
      · exact dot_vv _ _⟩))
    by_cases c1 : N.1 = 0
    · rw [if_pos ((cmp_eq0 y1).mpr c1)]
      by_cases c2 : N.2.1 = 0
      · rw [if_pos ((cmp_eq0 y2).mpr c2)]
        by_cases c3 : N.2.2 = 0
        · rw [if_pos ((cmp_eq0 y3).mpr c3)]
          refine ⟨σ, rfl, Or.inr (Or.inl ⟨e, x, Or.inl h1, h2, ⟨l1, l2, l3⟩, fun i hi => ?_⟩), offC.refl _ _⟩
          rcases hi with hi | rfl
          · exact h3 i hi
          · rw [← hN]; exact ⟨c1, c2, c3⟩
        · rw [if_neg (fun z => c3 ((cmp_eq0 y3).mp z))]
          exact ⟨σ1, rfl, nz (fun z => c3 z.2.2), f4⟩
      · rw [if_neg (fun z => c2 ((cmp_eq0 y2).mp z))]
        exact ⟨σ1, rfl, nz (fun z => c2 z.2.1), f4⟩
    · rw [if_neg (fun z => c1 ((cmp_eq0 y1).mp z))]
      exact ⟨σ1, rfl, nz (fun z => c1 z.1), f4⟩
  · rw [e, if_neg (show ¬ nI 2 = 0 by decide), if_neg (show ¬ nI 2 = (1 : Int32) by decide), if_pos (show nI 2 = (2 : Int32) from rfl), l1, l2, l3]
    simp only [jI_mul, jI_add]
    have hd := dot_B (crs_B (hS a h1) (hS b h2)) h0
    have n1 : (crs (v a) (v b)).1 * (v i0).1 + (crs (v a) (v b)).2.1 * (v i0).2.1 + (crs (v a) (v b)).2.2 * (v i0).2.2 = dot (crs (v a) (v b)) (v i0) := rfl
    rw [n1]
    by_cases c : dot (crs (v a) (v b)) (v i0) = 0
    · rw [if_pos ((cmp_eq0 (sm hd (by omega))).mpr c)]
      refine ⟨σ, rfl, Or.inr (Or.inr (Or.inl ⟨e, a, b, Or.inl h1, Or.inl h2, h3, ⟨l1, l2, l3⟩, fun i hi => ?_⟩)), offC.refl _ _⟩
      rcases hi with hi | rfl
      · exact h4 i hi
      · exact c
    · rw [if_neg (fun z => c ((cmp_eq0 (sm hd (by omega))).mp z))]
      refine ⟨siW σ 16 3 (3 : Int32), rfl, Or.inr (Or.inr (Or.inr ⟨by rw [siW_s, if_pos rfl]; rfl, a, b, i0, Or.inl h1, Or.inl h2, Or.inr rfl, c⟩)), offC_si (by simp)⟩
  · rw [e, if_neg (show ¬ nI 3 = 0 by decide), if_neg (show ¬ nI 3 = (1 : Int32) by decide), if_neg (show ¬ nI 3 = (2 : Int32) by decide)]
    exact ⟨σ, rfl, Or.inr (Or.inr (Or.inr ⟨e, a, b, c, Or.inl h1, Or.inl h2, Or.inl h3, h4⟩)), offC.refl _ _⟩
theorem RkAt.of {C : List Nat} {σ σ1 : sT} {v : Nat → vT} {S : Nat → Prop} (h : RkAt σ v S) (ho : offC C σ σ1) (hc : 16 ∉ C) : RkAt σ1 v S := by
  unfold RkAt Hld at *
  rw [(ho 16 hc).1, (ho 16 hc).2]; exact h
/-! the class's side -/
def vec (g : gT) (i : Nat) : vT := (g i 0, g i 1, g i 2)
theorem vec_B {n : Nat} {g : gT} (ok : BkOk n g) {i : Nat} (hi : i < n) : vB 5 (vec g i) := by
  obtain ⟨c, -⟩ := ok.2 i hi
  exact ⟨c 0 (by omega), c 1 (by omega), c 2 (by omega)⟩
def fxd (g : gT) (m i : Nat) : Prop := m.testBit i = true ∧ ((g i 3).toNat = 2 ∨ ((g i 3).toNat = 1 ∧ ¬ ∃ p, setP g m p ∧ hol p (sgR 1 g i 0)))
theorem get_out {σ : sT} {n : Nat} {g : gT} (h : BkC σ n g) (hn : n ≤ 12) {i : Nat} (hi : n ≤ i) (hi2 : i < 100) (k : Int32) : fBk_get (nI i) k σ = some (0 : Int32) := by
  unfold fBk_get
  rw [db1_t (bhas_spec h hn i hi2), decide_eq_false (by omega), if_pos b0]
theorem dim_loop {n m : Nat} {g : gT} (ok : BkOk n g) (hm : m < 2 ^ n) : ∀ (c i f : Nat) (σ : sT), i + c = 12 → c < f → BkC σ n g → RkAt σ (vec g) (fun j => j < i ∧ fxd g m j) →
    ∃ (σ1 : sT) (r : Nat), fSo_dimensionOf_L10 (nI m) f (nI i) σ = some ((3 : Int32) - nI r, σ1) ∧ rkN (vec g) (fun j => j < 12 ∧ fxd g m j) r ∧ offC [6, 7, 8, 9, 10, 11, 12, 13, 14, 15, 16] σ σ1 := by
  have hm' := lt_4096 ok.1 hm
  have hn := ok.1
  intro c
  induction c with
  | zero =>
    intro i f σ h1 h2 hB hR
    obtain ⟨f', rfl⟩ : ∃ f', f = f' + 1 := ⟨f - 1, by omega⟩
    unfold fSo_dimensionOf_L10
    obtain ⟨r, e1, e2⟩ := hR.num
    obtain rfl : i = 12 := by omega
    rw [show (12 : Int32) = nI 12 from rfl, if_pos (nI_le (by omega) (by omega)), e1]
    exact ⟨σ, r, rfl, e2, offC.refl _ _⟩
  | succ c ih =>
    intro i f σ h1 h2 hB hR
    obtain ⟨f', rfl⟩ : ∃ f', f = f' + 1 := ⟨f - 1, by omega⟩
    have skip : ∀ σ0, BkC σ0 n g → RkAt σ0 (vec g) (fun j => j < i ∧ fxd g m j) → ¬ fxd g m i → ∃ (σ1 : sT) (r : Nat), fSo_dimensionOf_L10 (nI m) f' (nI (i + 1)) σ0 = some ((3 : Int32) - nI r, σ1) ∧ rkN (vec g) (fun j => j < 12 ∧ fxd g m j) r ∧ offC [6, 7, 8, 9, 10, 11, 12, 13, 14, 15, 16] σ0 σ1 := by
      intro σ0 hB0 hR0 hf
      refine ih (i + 1) f' σ0 (by omega) (by omega) hB0 ?_
      have : (fun j => j < i + 1 ∧ fxd g m j) = (fun j => j < i ∧ fxd g m j) := by
        funext j
        apply propext
        constructor
        · rintro ⟨a, b⟩
          by_cases e : j = i
          · subst e; exact absurd b hf
          · exact ⟨by omega, b⟩
        · rintro ⟨a, b⟩; exact ⟨by omega, b⟩
      rw [this]; exact hR0
    unfold fSo_dimensionOf_L10
    rw [show (12 : Int32) = nI 12 from rfl, if_neg (nI_ge (by omega) (by omega)), nI_1, show (3 : Int32) = nI 3 from rfl]
    simp only [dlt_u]
    cases b : m.testBit i
    · have hf : ¬ fxd g m i := fun z => by rw [z.1] at b; cases b
      obtain ⟨x, hx⟩ : ∃ x, fBk_get (nI i) (nI 3) σ = some x := by
        by_cases hi : i < n
        · exact ⟨_, get_spec hB hn hi (by omega)⟩
        · exact ⟨_, get_out hB hn (by omega) (by omega) _⟩
      rw [db1_t hx, db1_t (isIn_spec hm' (by omega)), b, if_pos b0]
      exact skip σ hB hR hf
    · have hi := bit_lt hm b
      have hk := kd_n ok hi
      have vb := vec_B ok hi
      rw [db1_t (get_spec hB hn hi (by omega)), db1_t (isIn_spec hm' (by omega)), b, if_neg b1, hk.1]
      have take : ∀ σ0, BkC σ0 n g → RkAt σ0 (vec g) (fun j => j < i ∧ fxd g m j) → fxd g m i → ∃ (σ1 : sT) (r : Nat), (db1 (fBk_get (nI i) (0 : Int32) σ0) fun r14 =>
          db1 (fBk_get (nI i) (1 : Int32) σ0) fun r16 =>
          db1 (fBk_get (nI i) (2 : Int32) σ0) fun r18 =>
          db1 (fRk_add r14.toInt64 r16.toInt64 r18.toInt64 σ0) fun σ20 =>
          fSo_dimensionOf_L10 (nI m) f' (nI (i + 1)) σ20) = some ((3 : Int32) - nI r, σ1) ∧ rkN (vec g) (fun j => j < 12 ∧ fxd g m j) r ∧ offC [6, 7, 8, 9, 10, 11, 12, 13, 14, 15, 16] σ0 σ1 := by
        intro σ0 hB0 hR0 hf
        have t0 : fBk_get (nI i) (0 : Int32) σ0 = some (iI (g i 0)) := get_spec hB0 hn hi (k := 0) (by omega)
        have t1 : fBk_get (nI i) (1 : Int32) σ0 = some (iI (g i 1)) := get_spec hB0 hn hi (k := 1) (by omega)
        have t2 : fBk_get (nI i) (2 : Int32) σ0 = some (iI (g i 2)) := get_spec hB0 hn hi (k := 2) (by omega)
        obtain ⟨v1, v2, v3⟩ := id vb
        have v1' : -5 ≤ g i 0 ∧ g i 0 ≤ 5 := v1
        have v2' : -5 ≤ g i 1 ∧ g i 1 ≤ 5 := v2
        have v3' : -5 ≤ g i 2 ∧ g i 2 ≤ 5 := v3
        rw [db1_t t0, db1_t t1, db1_t t2, iI_l (by unfold inI; omega), iI_l (by unfold inI; omega), iI_l (by unfold inI; omega)]
        obtain ⟨σ1, e1, e2, e3⟩ := add_spec hR0 (fun j hj => vec_B ok (bit_lt hm hj.2.1)) (i0 := i) vb
        have e1' : fRk_add (jI (g i 0)) (jI (g i 1)) (jI (g i 2)) σ0 = some σ1 := e1
        rw [db1_t e1']
        have : (fun j => (j < i ∧ fxd g m j) ∨ j = i) = (fun j => j < i + 1 ∧ fxd g m j) := by
          funext j
          apply propext
          constructor
          · rintro (⟨a, b⟩ | rfl)
            · exact ⟨by omega, b⟩
            · exact ⟨by omega, hf⟩
          · rintro ⟨a, b⟩
            by_cases e : j = i
            · exact Or.inr e
            · exact Or.inl ⟨by omega, b⟩
        rw [this] at e2
        obtain ⟨σ2, r, f1, f2, f3⟩ := ih (i + 1) f' σ1 (by omega) (by omega) (hB0.of e3 (by decide) (by decide)) e2
        exact ⟨σ2, r, f1, f2, (e3.mono (by simp)).trans f3⟩
      rcases k012 hk.2 with k | k | k
      · rw [k, if_neg (by decide), if_neg (by decide)]
        exact skip σ hB hR (fun z => by have := z.2; omega)
      · rw [k, if_neg (by decide), if_pos (by decide)]
        obtain ⟨σ1, b', e1, e2, e3⟩ := meets_spec ok hm hB hi (s := 1) (Or.inl rfl) (k := 0) (by omega)
        have e1' : fSo_meets (nI m) (nI i) (1 : Int32) (0 : Int32) σ = some (b01 b', σ1) := e1
        rw [db2_t e1']
        have hB1 := hB.of e2 (by decide) (by decide)
        have hR1 := hR.of e2 (by decide)
        cases b'
        · rw [if_pos b0]
          obtain ⟨σ2, r, f1, f2, f3⟩ := take σ1 hB1 hR1 ⟨b, Or.inr ⟨k, fun z => by have := e3.mpr z; cases this⟩⟩
          exact ⟨σ2, r, f1, f2, (e2.mono (by simp)).trans f3⟩
        · rw [if_neg b1]
          obtain ⟨σ2, r, f1, f2, f3⟩ := skip σ1 hB1 hR1 (fun z => by
            rcases z.2 with z | z
            · omega
            · exact z.2 (e3.mp rfl))
          exact ⟨σ2, r, f1, f2, (e2.mono (by simp)).trans f3⟩
      · rw [k, if_pos (by decide)]
        exact take σ hB hR ⟨b, Or.inl k⟩
theorem dimOf_spec {n m : Nat} {g : gT} (ok : BkOk n g) (hm : m < 2 ^ n) {σ : sT} (hB : BkC σ n g) :
    ∃ (σ1 : sT) (r : Nat), fSo_dimensionOf (nI m) σ = some ((3 : Int32) - nI r, σ1) ∧ rkN (vec g) (fun j => j < 12 ∧ fxd g m j) r ∧ offC [6, 7, 8, 9, 10, 11, 12, 13, 14, 15, 16] σ σ1 := by
  have ho : offC [16] σ (siW σ 16 3 0) := offC_si (by simp)
  obtain ⟨σ1, r, e1, e2, e3⟩ := dim_loop ok hm 12 0 FU (siW σ 16 3 0) (by omega) (by unfold FU; omega) (hB.of ho (by decide) (by decide)) (Or.inl ⟨by rw [siW_s, if_pos rfl]; rfl, fun i hi => by omega⟩)
  rw [nI_0] at e1
  unfold fSo_dimensionOf
  rw [dlt_u]
  exact ⟨σ1, r, e1, e2, (ho.mono (by simp)).trans e3⟩
