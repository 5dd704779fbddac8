/-! the model's takesSome -/
def tk3 (g : gT) (x : Nat → Nat) (u v i : Nat) : Int := g (x ((i + 1) % 3)) u * g (x ((i + 2) % 3)) v - g (x ((i + 2) % 3)) u * g (x ((i + 1) % 3)) v
theorem tk3_B {n : Nat} {g : gT} {x : Nat → Nat} (ok : BkOk n g) (hx : ∀ p, x p < n) {u v : Nat} (hu : u < 3) (hv : v < 3) (i : Nat) : -50 ≤ tk3 g x u v i ∧ tk3 g x u v i ≤ 50 := by
  have a := (ok.2 _ (hx ((i + 1) % 3))).1 u hu
  have b := (ok.2 _ (hx ((i + 2) % 3))).1 v hv
  have c := (ok.2 _ (hx ((i + 2) % 3))).1 u hu
  have d := (ok.2 _ (hx ((i + 1) % 3))).1 v hv
  have m1 := mulB a b
  have m2 := mulB c d
  unfold tk3
  omega
theorem t3_loop {n : Nat} {g : gT} {L : List Nat} (ok : BkOk n g) (hx : ∀ p, xL L p < n) (hl : L.length = 3) {u v : Nat} (hu : u < 3) (hv : v < 3) : ∀ (c i f : Nat) (τ : sT), i + c = 3 → c < f → BkM τ n g → MmAt τ L → (∀ j, j < i → τ.2 42 j = jI (tk3 g (xL L) u v j)) →
    ∃ τ1, (∀ K : sT → Option (Int32 × sT), fMM_takesThree_L2 (nI u) (nI v) K f (nI i) τ = K τ1) ∧ (∀ j, j < 3 → τ1.2 42 j = jI (tk3 g (xL L) u v j)) ∧ mOff [42] [] τ τ1 := by
  intro c
  induction c with
  | zero =>
    intro i f τ h1 h2 hB hM hT
    obtain ⟨f', rfl⟩ : ∃ f', f = f' + 1 := ⟨f - 1, by omega⟩
    obtain rfl : i = 3 := by omega
    refine ⟨τ, fun K => ?_, hT, mOff.refl _ _ _⟩
    unfold fMM_takesThree_L2
    rw [show (3 : Int32) = nI 3 from rfl, if_pos (nI_le (by omega) (by omega))]
  | succ c ih =>
    intro i f τ h1 h2 hB hM hT
    obtain ⟨f', rfl⟩ : ∃ f', f = f' + 1 := ⟨f - 1, by omega⟩
    have N : ∀ p k, p < 3 → k < 6 → fMM_number (nI p) (nI k) τ = some (jI (g (xL L p) k)) := fun p k hp hk => num_spec ok hB hM hx (by omega) (by omega) hk
    have o1 : mOff [42] [] τ (sjW τ 42 i (jI (tk3 g (xL L) u v i))) := mOff_cj (by simp) (by decide)
    obtain ⟨τ1, e1, e2, e3⟩ := ih (i + 1) f' (sjW τ 42 i (jI (tk3 g (xL L) u v i))) (by omega) (by omega) (hB.of o1 (by decide)) (hM.of o1 (by decide) (by decide)) (fun j hj => by
      rw [sjW_s]
      by_cases e : j = i
      · rw [if_pos e, e]
      · rw [if_neg e]; exact hT j (by omega))
    refine ⟨τ1, fun K => ?_, e2, o1.trans e3⟩
    unfold fMM_takesThree_L2
    rw [show (3 : Int32) = nI 3 from rfl, if_neg (nI_ge (by omega) (by omega)), nI_1, show (2 : Int32) = nI 2 from rfl, na, pk_rem (by omega) (by omega) (by omega), pk_rem (by omega) (by omega) (by omega), dlt_u, dlt_u, db1_t (N _ u (by omega) (by omega)), db1_t (N _ v (by omega) (by omega)), db1_t (N _ u (by omega) (by omega)), db1_t (N _ v (by omega) (by omega)), dck_t (okI_n (by omega) (by omega)), nc (by omega), jI_mul, jI_mul, jI_sub, dlt_u]
    exact e1 K
theorem three_spec {n : Nat} {g : gT} {L : List Nat} (ok : BkOk n g) (hx : ∀ p, xL L p < n) (hl : L.length = 3) {u v : Nat} (hu : u < 3) (hv : v < 3) {τ : sT} (hB : BkM τ n g) (hM : MmAt τ L) :
    ∃ (τ1 : sT) (b : Bool), fMM_takesThree (nI u) (nI v) τ = some (b01 b, τ1) ∧ (∀ j, j < 3 → τ1.2 42 j = jI (tk3 g (xL L) u v j)) ∧ (b = true ↔ ∃ j, j < 3 ∧ tk3 g (xL L) u v j ≠ 0) ∧ mOff [42] [] τ τ1 := by
  obtain ⟨τ1, e1, e2, e3⟩ := t3_loop ok hx hl hu hv 3 0 FU τ (by omega) (by unfold FU; omega) hB hM (fun j hj => by omega)
  rw [nI_0] at e1
  have B := fun j => tk3_B ok hx hu hv j (x := xL L)
  have b0' := B 0
  have b1' := B 1
  have b2' := B 2
  obtain ⟨A, hA⟩ : ∃ A, FU = A := ⟨_, rfl⟩
  rw [hA] at e1
  unfold fMM_takesThree
  rw [hA, dlt_u, e1, dck_t (by decide), dck_t (by decide), dck_t (by decide), show (0 : Int32).toNatClampNeg = 0 from rfl, show (1 : Int32).toNatClampNeg = 1 from rfl, show (2 : Int32).toNatClampNeg = 2 from rfl, e2 0 (by omega), e2 1 (by omega), e2 2 (by omega)]
  by_cases c0 : tk3 g (xL L) u v 0 = 0
  · rw [if_pos ((cmp_eq0 (by unfold inJ; omega)).mpr c0)]
    by_cases c1 : tk3 g (xL L) u v 1 = 0
    · rw [if_pos ((cmp_eq0 (by unfold inJ; omega)).mpr c1)]
      by_cases c2 : tk3 g (xL L) u v 2 = 0
      · rw [if_pos ((cmp_eq0 (by unfold inJ; omega)).mpr c2)]
        refine ⟨τ1, false, rfl, e2, ⟨fun h => (by cases h), ?_⟩, e3⟩
        rintro ⟨j, hj, h⟩
        rcases (show j = 0 ∨ j = 1 ∨ j = 2 by omega) with rfl | rfl | rfl
        · exact absurd c0 h
        · exact absurd c1 h
        · exact absurd c2 h
      · rw [if_neg (fun z => c2 ((cmp_eq0 (by unfold inJ; omega)).mp z))]
        exact ⟨τ1, true, rfl, e2, ⟨fun _ => ⟨2, by omega, c2⟩, fun _ => rfl⟩, e3⟩
    · rw [if_neg (fun z => c1 ((cmp_eq0 (by unfold inJ; omega)).mp z))]
      exact ⟨τ1, true, rfl, e2, ⟨fun _ => ⟨1, by omega, c1⟩, fun _ => rfl⟩, e3⟩
  · rw [if_neg (fun z => c0 ((cmp_eq0 (by unfold inJ; omega)).mp z))]
    exact ⟨τ1, true, rfl, e2, ⟨fun _ => ⟨0, by omega, c0⟩, fun _ => rfl⟩, e3⟩
def T3 (g : gT) (x : Nat → Nat) (u v p : Nat) : Int := if p < 3 then tk3 g x u v p else 0
theorem T3_good {n C : Nat} {g : gT} {x : Nat → Nat} (ok : BkOk n g) (hC : C < 2 ^ n) (hc : isCore g C) (hm : mbr C 3 x) {u v : Nat} (hu : u < 3) (hv : v < 3) (huv : u ≠ v) (hne : ∃ j, j < 3 ∧ tk3 g x u v j ≠ 0) : gW g 3 x (T3 g x u v) := by
  have hd := det_3 ok hC hc hm
  have hd' : (g (x 0) 1 * g (x 1) 2 - g (x 0) 2 * g (x 1) 1) * g (x 2) 0 + (g (x 0) 2 * g (x 1) 0 - g (x 0) 0 * g (x 1) 2) * g (x 2) 1 + (g (x 0) 0 * g (x 1) 1 - g (x 0) 1 * g (x 1) 0) * g (x 2) 2 = 0 := hd
  refine ⟨fun k hk => ?_, fun p hp => by unfold T3; rw [if_neg (by omega)], ?_⟩
  · have t0 : T3 g x u v 0 = g (x 1) u * g (x 2) v - g (x 2) u * g (x 1) v := rfl
    have t1 : T3 g x u v 1 = g (x 2) u * g (x 0) v - g (x 0) u * g (x 2) v := rfl
    have t2 : T3 g x u v 2 = g (x 0) u * g (x 1) v - g (x 1) u * g (x 0) v := rfl
    have t3 : T3 g x u v 3 = 0 := rfl
    rw [t0, t1, t2, t3]
    rcases (show u = 0 ∨ u = 1 ∨ u = 2 by omega) with rfl | rfl | rfl <;> rcases (show v = 0 ∨ v = 1 ∨ v = 2 by omega) with rfl | rfl | rfl <;> first | exact absurd rfl huv | (rcases (show k = 0 ∨ k = 1 ∨ k = 2 by omega) with rfl | rfl | rfl <;> grind)
  · obtain ⟨j, hj, h⟩ := hne
    exact ⟨j, by omega, by unfold T3; rw [if_pos hj]; exact h⟩
theorem some_spec {n C : Nat} {g : gT} {L : List Nat} (ok : BkOk n g) (hC : C < 2 ^ n) (hc : isCore g C) (hm : mbr C L.length (xL L)) {τ : sT} (hB : BkM τ n g) (hM : MmAt τ L) :
    ∃ (τ1 : sT) (T : Nat → Int), fMM_takesSome τ = some τ1 ∧ gW g L.length (xL L) T ∧ (∀ p, -750 ≤ T p ∧ T p ≤ 750) ∧ (∀ p, p < L.length → τ1.2 42 p = jI (T p)) ∧ mOff [42] [] τ τ1 := by
  have hx : ∀ p, xL L p < n := fun p => bit_lt hC (hm.2.2.1 p)
  obtain ⟨m1, m2, m3, m4, m5⟩ := id hm
  have ne : ∀ p q, p < L.length → q < L.length → p ≠ q → xL L p ≠ xL L q := fun p q hp hq h e => h (m4 p q hp hq e)
  have N : ∀ (τ0 : sT), mOff [42] [] τ τ0 → ∀ p k, p < L.length → k < 6 → fMM_number (nI p) (nI k) τ0 = some (jI (g (xL L p) k)) := fun τ0 ho p k hp hk => num_spec ok (hB.of ho (by decide)) (hM.of ho (by decide) (by decide)) hx hp (by omega) hk
  have gb : ∀ p k, k < 3 → -5 ≤ g (xL L p) k ∧ g (xL L p) k ≤ 5 := fun p k hk => (ok.2 _ (hx p)).1 k hk
  unfold fMM_takesSome
  rw [hM.1]
  rcases (show L.length = 1 ∨ L.length = 2 ∨ L.length = 3 ∨ L.length = 4 by omega) with h | h | h | h
  · rw [h] at hm
    rw [h, if_pos (by decide), dck_t (by decide), dlt_u, show (0 : Int32).toNatClampNeg = 0 from rfl]
    refine ⟨_, fun p => if p = 0 then 1 else 0, rfl, ⟨fun k hk => ?_, fun p hp => by dsimp only; rw [if_neg (by omega)], 0, by omega, by dsimp only; decide⟩, fun p => by dsimp only; split <;> omega, fun p hp => ?_, mOff_cj (by simp) (by decide)⟩
    · have := vz_1 ok hC hc hm k hk
      simp [this]
    · obtain rfl : p = 0 := by omega
      rw [sjW_s, if_pos rfl]; rfl
  · rw [h] at hm
    have hv := core_a1 ok hC hc (m3 0) (m3 1) (ne 1 0 (by omega) (by omega) (by omega))
    have c2 := crs_2 ok hC hc hm
    have body : ∀ k, k < 3 → g (xL L 0) k ≠ 0 → ∃ (τ1 : sT) (T : Nat → Int), (db1 (fMM_number (1 : Int32) (nI k) τ) fun r37 =>
        dck (okI (0 : Int32) 12) <|
        dlt (sjW τ 42 (0 : Int32).toNatClampNeg r37) fun σ39 =>
        db1 (fMM_number (0 : Int32) (nI k) σ39) fun r41 =>
        dck (okI (1 : Int32) 12) <|
        dlt (sjW σ39 42 (1 : Int32).toNatClampNeg (-r41)) fun σ43 =>
        some σ43) = some τ1 ∧ gW g 2 (xL L) T ∧ (∀ p, -750 ≤ T p ∧ T p ≤ 750) ∧ (∀ p, p < 2 → τ1.2 42 p = jI (T p)) ∧ mOff [42] [] τ τ1 := by
      intro k hk hne
      have o1 : mOff [42] [] τ (sjW τ 42 0 (jI (g (xL L 1) k))) := mOff_cj (by simp) (by decide)
      have N1 : fMM_number (1 : Int32) (nI k) τ = some (jI (g (xL L 1) k)) := N τ (mOff.refl _ _ _) 1 k (by omega) (by omega)
      have N0 : fMM_number (0 : Int32) (nI k) (sjW τ 42 0 (jI (g (xL L 1) k))) = some (jI (g (xL L 0) k)) := N _ o1 0 k (by omega) (by omega)
      have B0 := gb 0 k hk
      have B1 := gb 1 k hk
      rw [db1_t N1, dck_t (by decide), dlt_u, show (0 : Int32).toNatClampNeg = 0 from rfl, db1_t N0, dck_t (by decide), dlt_u, show (1 : Int32).toNatClampNeg = 1 from rfl, jI_neg]
      refine ⟨_, fun p => if p = 0 then g (xL L 1) k else if p = 1 then -(g (xL L 0) k) else 0, rfl, ⟨fun c hcc => ?_, fun p hp => by dsimp only; rw [if_neg (by omega), if_neg (by omega)], 1, by omega, by dsimp only; rw [if_neg (by omega), if_pos rfl]; omega⟩, fun p => by dsimp only; split <;> (try split) <;> omega, fun p hp => ?_, o1.trans (mOff_cj (by simp) (by decide))⟩
      · have := c2 k c hk hcc
        simp only [if_pos trivial, if_neg (show ¬ (1 : Nat) = 0 by omega), if_neg (show ¬ (2 : Nat) = 0 by omega), if_neg (show ¬ (2 : Nat) = 1 by omega), if_neg (show ¬ (3 : Nat) = 0 by omega), if_neg (show ¬ (3 : Nat) = 1 by omega), Int.neg_mul, Int.zero_mul]
        omega
      · rcases (show p = 0 ∨ p = 1 by omega) with rfl | rfl
        · rw [sjW_s, if_neg (by decide), sjW_s, if_pos rfl]; rfl
        · rw [sjW_s, if_pos rfl]; rfl
    have n00 : fMM_number (0 : Int32) (0 : Int32) τ = some (jI (g (xL L 0) 0)) := N τ (mOff.refl _ _ _) 0 0 (by omega) (by omega)
    have n01 : fMM_number (0 : Int32) (1 : Int32) τ = some (jI (g (xL L 0) 1)) := N τ (mOff.refl _ _ _) 0 1 (by omega) (by omega)
    have B0 := gb 0 0 (by omega)
    have B1 := gb 0 1 (by omega)
    rw [h, if_neg (by decide), if_pos (by decide), db1_t n00]
    simp only [dlt_u]
    by_cases z0 : g (xL L 0) 0 = 0
    · rw [if_pos ((cmp_eq0 (by unfold inJ; omega)).mpr z0), db1_t n01]
      by_cases z1 : g (xL L 0) 1 = 0
      · rw [if_pos ((cmp_eq0 (by unfold inJ; omega)).mpr z1)]
        have z2 : g (xL L 0) 2 ≠ 0 := fun z2 => hv ⟨z0, z1, z2⟩
        have := body 2 (by omega) z2
        simp only [dlt_u] at this
        exact this
      · rw [if_neg (fun z => z1 ((cmp_eq0 (by unfold inJ; omega)).mp z))]
        have := body 1 (by omega) z1
        simp only [dlt_u] at this
        exact this
    · rw [if_neg (fun z => z0 ((cmp_eq0 (by unfold inJ; omega)).mp z))]
      have := body 0 (by omega) z0
      simp only [dlt_u] at this
      exact this
  · rw [h] at hm
    have hv := core_a2 ok hC hc (m3 0) (m3 1) (m3 2) (ne 2 0 (by omega) (by omega) (by omega)) (ne 2 1 (by omega) (by omega) (by omega)) (ne 0 1 (by omega) (by omega) (by omega))
    have good : ∀ (u v : Nat) (τ1 : sT), u < 3 → v < 3 → u ≠ v → (∃ j, j < 3 ∧ tk3 g (xL L) u v j ≠ 0) → (∀ j, j < 3 → τ1.2 42 j = jI (tk3 g (xL L) u v j)) → mOff [42] [] τ τ1 → ∃ (τ2 : sT) (T : Nat → Int), some τ1 = some τ2 ∧ gW g 3 (xL L) T ∧ (∀ p, -750 ≤ T p ∧ T p ≤ 750) ∧ (∀ p, p < 3 → τ2.2 42 p = jI (T p)) ∧ mOff [42] [] τ τ2 := by
      intro u v τ1 hu hv' huv hne hT ho
      refine ⟨τ1, T3 g (xL L) u v, rfl, T3_good ok hC hc hm hu hv' huv hne, fun p => ?_, fun p hp => ?_, ho⟩
      · unfold T3
        split
        · have := tk3_B ok hx hu hv' p; omega
        · omega
      · unfold T3; rw [if_pos hp]; exact hT p hp
    obtain ⟨τa, b, e1, e2, e3, e4⟩ := three_spec ok hx h (u := 0) (v := 1) (by omega) (by omega) hB hM
    have e1' : fMM_takesThree (0 : Int32) (1 : Int32) τ = some (b01 b, τa) := e1
    rw [h, if_neg (by decide), if_neg (by decide), if_pos (by decide), db2_t e1']
    cases b
    · rw [if_pos b0]
      obtain ⟨τb, b', f1, f2, f3, f4⟩ := three_spec ok hx h (u := 1) (v := 2) (by omega) (by omega) (hB.of e4 (by decide)) (hM.of e4 (by decide) (by decide))
      have f1' : fMM_takesThree (1 : Int32) (2 : Int32) τa = some (b01 b', τb) := f1
      rw [db2_t f1']
      cases b'
      · rw [if_pos b0]
        have o2 := e4.trans f4
        obtain ⟨τc, b'', g1, g2, g3, g4⟩ := three_spec ok hx h (u := 0) (v := 2) (by omega) (by omega) (hB.of o2 (by decide)) (hM.of o2 (by decide) (by decide))
        have g1' : fMM_takesThree (0 : Int32) (2 : Int32) τb = some (b01 b'', τc) := g1
        have hne : ∃ j, j < 3 ∧ tk3 g (xL L) 0 2 j ≠ 0 := by
          refine ⟨2, by omega, fun z => ?_⟩
          have y1 : tk3 g (xL L) 0 1 2 = 0 := by
            apply Decidable.byContradiction
            intro w
            have := e3.mpr ⟨2, by omega, w⟩
            cases this
          have y2 : tk3 g (xL L) 1 2 2 = 0 := by
            apply Decidable.byContradiction
            intro w
            have := f3.mpr ⟨2, by omega, w⟩
            cases this
          have q1 : g (xL L 0) 0 * g (xL L 1) 1 - g (xL L 1) 0 * g (xL L 0) 1 = 0 := y1
          have q2 : g (xL L 0) 1 * g (xL L 1) 2 - g (xL L 1) 1 * g (xL L 0) 2 = 0 := y2
          have q3 : g (xL L 0) 0 * g (xL L 1) 2 - g (xL L 1) 0 * g (xL L 0) 2 = 0 := z
          refine hv ⟨?_, ?_, ?_⟩
          · show g (xL L 0) 1 * g (xL L 1) 2 - g (xL L 0) 2 * g (xL L 1) 1 = 0
            grind
          · show g (xL L 0) 2 * g (xL L 1) 0 - g (xL L 0) 0 * g (xL L 1) 2 = 0
            grind
          · show g (xL L 0) 0 * g (xL L 1) 1 - g (xL L 0) 1 * g (xL L 1) 0 = 0
            grind
        rw [db2_t g1']
        have := good 0 2 τc (by omega) (by omega) (by omega) hne g2 (o2.trans g4)
        cases b''
        · rw [if_pos b0]; exact this
        · rw [if_neg b1]; exact this
      · rw [if_neg b1]
        exact good 1 2 τb (by omega) (by omega) (by omega) (f3.mp rfl) f2 (e4.trans f4)
    · rw [if_neg b1]
      exact good 0 1 τa (by omega) (by omega) (by omega) (e3.mp rfl) e2 e4
  · rw [h] at hm
    have hv := core_a3 ok hC hc (m3 0) (m3 1) (m3 2) (m3 3) (ne 3 0 (by omega) (by omega) (by omega)) (ne 3 1 (by omega) (by omega) (by omega)) (ne 3 2 (by omega) (by omega) (by omega)) (ne 0 1 (by omega) (by omega) (by omega)) (ne 0 2 (by omega) (by omega) (by omega)) (ne 1 2 (by omega) (by omega) (by omega))
    obtain ⟨D, hD⟩ : ∃ D : Nat → Nat → Nat → Int, D = fun a b c => dot (vec g (xL L a)) (crs (vec g (xL L b)) (vec g (xL L c))) := ⟨_, rfl⟩
    have M : ∀ (τ0 : sT), mOff [42] [] τ τ0 → ∀ a b c, a < 4 → b < 4 → c < 4 → fMM_minor (nI a) (nI b) (nI c) τ0 = some (jI (D a b c)) := fun τ0 ho a b c ha hb hcc => by
      rw [hD]; exact minor_spec ok (hB.of ho (by decide)) (hM.of ho (by decide) (by decide)) hx (by omega) (by omega) (by omega) (by omega)
    have Db : ∀ a b c, -750 ≤ D a b c ∧ D a b c ≤ 750 := by
      intro a b c
      rw [hD]
      have e : dot (vec g (xL L a)) (crs (vec g (xL L b)) (vec g (xL L c))) = dot (crs (vec g (xL L b)) (vec g (xL L c))) (vec g (xL L a)) := by unfold dot; grind
      dsimp only
      rw [e]
      exact dot_B (crs_B (vec_B ok (hx b)) (vec_B ok (hx c))) (vec_B ok (hx a))
    have d1 := Db 1 2 3
    have d2 := Db 0 2 3
    have d3 := Db 0 1 3
    have d4 := Db 0 1 2
    have w1 : fMM_minor (1 : Int32) (2 : Int32) (3 : Int32) τ = some (jI (D 1 2 3)) := M τ (mOff.refl _ _ _) 1 2 3 (by omega) (by omega) (by omega)
    have o1 : mOff [42] [] τ (sjW τ 42 0 (jI (D 1 2 3))) := mOff_cj (by simp) (by decide)
    have w2 : fMM_minor (0 : Int32) (2 : Int32) (3 : Int32) (sjW τ 42 0 (jI (D 1 2 3))) = some (jI (D 0 2 3)) := M _ o1 0 2 3 (by omega) (by omega) (by omega)
    have o2 : mOff [42] [] τ (sjW (sjW τ 42 0 (jI (D 1 2 3))) 42 1 (jI (-(D 0 2 3)))) := o1.trans (mOff_cj (by simp) (by decide))
    have w3 : fMM_minor (0 : Int32) (1 : Int32) (3 : Int32) (sjW (sjW τ 42 0 (jI (D 1 2 3))) 42 1 (jI (-(D 0 2 3)))) = some (jI (D 0 1 3)) := M _ o2 0 1 3 (by omega) (by omega) (by omega)
    have o3 : mOff [42] [] τ (sjW (sjW (sjW τ 42 0 (jI (D 1 2 3))) 42 1 (jI (-(D 0 2 3)))) 42 2 (jI (D 0 1 3))) := o2.trans (mOff_cj (by simp) (by decide))
    have w4 : fMM_minor (0 : Int32) (1 : Int32) (2 : Int32) (sjW (sjW (sjW τ 42 0 (jI (D 1 2 3))) 42 1 (jI (-(D 0 2 3)))) 42 2 (jI (D 0 1 3))) = some (jI (D 0 1 2)) := M _ o3 0 1 2 (by omega) (by omega) (by omega)
    rw [h, if_neg (by decide), if_neg (by decide), if_neg (by decide), db1_t w1, dck_t (by decide), dlt_u, show (0 : Int32).toNatClampNeg = 0 from rfl, db1_t w2, dck_t (by decide), dlt_u, show (1 : Int32).toNatClampNeg = 1 from rfl, jI_neg, db1_t w3, dck_t (by decide), dlt_u, show (2 : Int32).toNatClampNeg = 2 from rfl, db1_t w4, dck_t (by decide), dlt_u, show (3 : Int32).toNatClampNeg = 3 from rfl, jI_neg]
    refine ⟨_, fun p => if p = 0 then D 1 2 3 else if p = 1 then -(D 0 2 3) else if p = 2 then D 0 1 3 else if p = 3 then -(D 0 1 2) else 0, rfl, ⟨fun k hk => ?_, fun p hp => by dsimp only; rw [if_neg (by omega), if_neg (by omega), if_neg (by omega), if_neg (by omega)], 3, by omega, ?_⟩, fun p => by dsimp only; split <;> (try split) <;> (try split) <;> (try split) <;> omega, fun p hp => ?_, o3.trans (mOff_cj (by simp) (by decide))⟩
    · simp only [if_pos trivial, if_neg (show ¬ (1 : Nat) = 0 by omega), if_neg (show ¬ (2 : Nat) = 0 by omega), if_neg (show ¬ (2 : Nat) = 1 by omega), if_neg (show ¬ (3 : Nat) = 0 by omega), if_neg (show ¬ (3 : Nat) = 1 by omega), if_neg (show ¬ (3 : Nat) = 2 by omega)]
      rw [hD]
      unfold dot crs vec
      rcases (show k = 0 ∨ k = 1 ∨ k = 2 by omega) with rfl | rfl | rfl <;> dsimp only <;> grind
    · simp only [if_pos trivial, if_neg (show ¬ (3 : Nat) = 0 by omega), if_neg (show ¬ (3 : Nat) = 1 by omega), if_neg (show ¬ (3 : Nat) = 2 by omega)]
      have e : D 0 1 2 = dot (crs (vec g (xL L 0)) (vec g (xL L 1))) (vec g (xL L 2)) := by rw [hD]; unfold dot crs; grind
      rw [e]; omega
    · rcases (show p = 0 ∨ p = 1 ∨ p = 2 ∨ p = 3 by omega) with rfl | rfl | rfl | rfl
      · rw [sjW_s, if_neg (by decide), sjW_s, if_neg (by decide), sjW_s, if_neg (by decide), sjW_s, if_pos rfl]; rfl
      · rw [sjW_s, if_neg (by decide), sjW_s, if_neg (by decide), sjW_s, if_pos rfl]; rfl
      · rw [sjW_s, if_neg (by decide), sjW_s, if_pos rfl]; rfl
      · rw [sjW_s, if_pos rfl]; rfl
