/-! the class: find -/
def xL (L : List Nat) (p : Nat) : Nat := L.getD p (L.getD 0 0)
theorem xL_lt {L : List Nat} {p : Nat} (h : p < L.length) : L[p]? = some (xL L p) := by
  unfold xL
  rw [List.getD_eq_getElem?_getD, List.getElem?_eq_getElem h]; rfl
theorem mbr_of {n C : Nat} {g : gT} (ok : BkOk n g) (hC : C < 2 ^ n) (hc : isCore g C) : mbr C (idxL C 12 0).length (xL (idxL C 12 0)) := by
  have hn := ok.1
  have hlen := core_len ok hC hc
  have hs := idxL_sorted (C := C) 12 0
  obtain ⟨L, hL⟩ : ∃ L, L = idxL C 12 0 := ⟨_, rfl⟩
  have hmem : ∀ y, y ∈ L ↔ C.testBit y = true := by
    intro y
    rw [hL, idxL_mem]
    constructor
    · exact fun h => h.2.2
    · intro h; exact ⟨by omega, by have := bit_lt hC h; omega, h⟩
  rw [← hL] at hlen hs ⊢
  have h1 : 1 ≤ L.length := by
    apply Decidable.byContradiction
    intro z
    have : L = [] := List.eq_nil_of_length_eq_zero (by omega)
    refine hc.1 ⟨fun _ => 0, fun j hj => ?_⟩
    have := (hmem j).mpr hj
    simp_all
  have hlt : ∀ p, p < L.length → C.testBit (xL L p) = true := fun p hp => (hmem _).mp (List.mem_of_getElem? (xL_lt hp))
  refine ⟨h1, hlen, fun p => ?_, fun p q hp hq e => ?_, fun i hi => ?_⟩
  · by_cases hp : p < L.length
    · exact hlt p hp
    · have e : xL L p = xL L 0 := by
        unfold xL
        simp only [List.getD_eq_getElem?_getD, List.getElem?_eq_none (show L.length ≤ p by omega), List.getElem?_eq_getElem (show 0 < L.length by omega)]
        rfl
      rw [e]; exact hlt 0 (by omega)
  · have g1 := xL_lt hp
    have g2 := xL_lt hq
    rw [List.getElem?_eq_getElem hp] at g1
    rw [List.getElem?_eq_getElem hq] at g2
    rw [List.pairwise_iff_getElem] at hs
    rcases Nat.lt_trichotomy p q with h | h | h
    · have := hs p q hp hq h
      rw [Option.some.inj g1, Option.some.inj g2] at this; omega
    · exact h
    · have := hs q p hq hp h
      rw [Option.some.inj g1, Option.some.inj g2] at this; omega
  · obtain ⟨p, hp, e⟩ := List.mem_iff_getElem.mp ((hmem i).mpr hi)
    refine ⟨p, hp, ?_⟩
    have := xL_lt hp
    rw [List.getElem?_eq_getElem hp, e] at this
    exact (Option.some.inj this).symm
theorem VAt_vec {g : gT} {σ : sT} {L : List Nat} (h : VAt g σ L) : ∃ V, VecAt σ V ∧ ∀ p, p < L.length → vc V p = vec g (xL L p) := by
  refine ⟨fun j => if j < L.length * 3 then g (xL L (j / 3)) (j % 3) else (σ.1 22 j).toInt, fun j hj => ?_, fun p hp => ?_⟩
  · dsimp only
    by_cases c : j < L.length * 3
    · rw [if_pos c]
      have := (h.2 (j / 3) _ (xL_lt (show j / 3 < L.length by omega))).2 (j % 3) (by omega)
      rw [show j / 3 * 3 + j % 3 = j by omega] at this
      exact this
    · rw [if_neg c]; exact iI_self _
  · unfold vc vec
    dsimp only
    rw [if_pos (show p * 3 < L.length * 3 by omega), if_pos (show p * 3 + 1 < L.length * 3 by omega), if_pos (show p * 3 + 2 < L.length * 3 by omega), show p * 3 / 3 = p by omega, show p * 3 % 3 = 0 by omega, show (p * 3 + 1) / 3 = p by omega, show (p * 3 + 1) % 3 = 1 by omega, show (p * 3 + 2) / 3 = p by omega, show (p * 3 + 2) % 3 = 2 by omega]
theorem solvable {n C s : Nat} {g : gT} {x : Nat → Nat} (ok : BkOk n g) (hC : C < 2 ^ n) (hc : isCore g C) (hm : mbr C s x) : ∃ u, u < 8 ∧ popc u + s = 4 ∧ ∀ V, (∀ p, p < s → vc V p = vec g (x p)) → ∃ p, p < 4 ∧ dtn (uV u 3 0 s V) p ≠ 0 := by
  obtain ⟨m1, m2, m3, m4, m5⟩ := id hm
  have ne : ∀ p q, p < s → q < s → p ≠ q → x p ≠ x q := fun p q hp hq h e => h (m4 p q hp hq e)
  rcases (show s = 1 ∨ s = 2 ∨ s = 3 ∨ s = 4 by omega) with rfl | rfl | rfl | rfl
  · refine ⟨7, by omega, by decide, fun V hV => ⟨0, by omega, ?_⟩⟩
    obtain ⟨e0, e1, e2, e3⟩ := ur_1 V
    have : dtn (uV 7 3 0 1 V) 0 = det3 (vc (uV 7 3 0 1 V) 1) (vc (uV 7 3 0 1 V) 2) (vc (uV 7 3 0 1 V) 3) := rfl
    rw [this, e1, e2, e3]; decide
  · have hv := core_a1 ok hC hc (m3 0) (m3 1) (ne 1 0 (by omega) (by omega) (by omega))
    have d1 : ∀ U, dtn U 1 = -(det3 (vc U 0) (vc U 2) (vc U 3)) := fun _ => rfl
    rcases vnz hv with h | h | h
    · refine ⟨6, by omega, by decide, fun V hV => ⟨1, by omega, ?_⟩⟩
      obtain ⟨e0, e1, e2, e3⟩ := ur_6 V
      rw [d1, e0, e2, e3, hV 0 (by omega)]
      unfold det3; dsimp only; omega
    · refine ⟨5, by omega, by decide, fun V hV => ⟨1, by omega, ?_⟩⟩
      obtain ⟨e0, e1, e2, e3⟩ := ur_5 V
      rw [d1, e0, e2, e3, hV 0 (by omega)]
      unfold det3; dsimp only; omega
    · refine ⟨3, by omega, by decide, fun V hV => ⟨1, by omega, ?_⟩⟩
      obtain ⟨e0, e1, e2, e3⟩ := ur_3 V
      rw [d1, e0, e2, e3, hV 0 (by omega)]
      unfold det3; dsimp only; omega
  · have hv := core_a2 ok hC hc (m3 0) (m3 1) (m3 2) (ne 2 0 (by omega) (by omega) (by omega)) (ne 2 1 (by omega) (by omega) (by omega)) (ne 0 1 (by omega) (by omega) (by omega))
    have d2 : ∀ U, dtn U 2 = det3 (vc U 0) (vc U 1) (vc U 3) := fun _ => rfl
    have dd : ∀ u v w, det3 u v w = dot (crs u v) w := fun u v w => by unfold det3 dot crs; grind
    rcases vnz hv with h | h | h
    · refine ⟨1, by omega, by decide, fun V hV => ⟨2, by omega, ?_⟩⟩
      obtain ⟨e0, e1, e2, e3⟩ := ur_a V
      rw [d2, e0, e1, e3, hV 0 (by omega), hV 1 (by omega), dd]
      unfold dot; dsimp only; omega
    · refine ⟨2, by omega, by decide, fun V hV => ⟨2, by omega, ?_⟩⟩
      obtain ⟨e0, e1, e2, e3⟩ := ur_b V
      rw [d2, e0, e1, e3, hV 0 (by omega), hV 1 (by omega), dd]
      unfold dot; dsimp only; omega
    · refine ⟨4, by omega, by decide, fun V hV => ⟨2, by omega, ?_⟩⟩
      obtain ⟨e0, e1, e2, e3⟩ := ur_c V
      rw [d2, e0, e1, e3, hV 0 (by omega), hV 1 (by omega), dd]
      unfold dot; dsimp only; omega
  · have hv := core_a3 ok hC hc (m3 0) (m3 1) (m3 2) (m3 3) (ne 3 0 (by omega) (by omega) (by omega)) (ne 3 1 (by omega) (by omega) (by omega)) (ne 3 2 (by omega) (by omega) (by omega)) (ne 0 1 (by omega) (by omega) (by omega)) (ne 0 2 (by omega) (by omega) (by omega)) (ne 1 2 (by omega) (by omega) (by omega))
    have d3 : ∀ U, dtn U 3 = -(det3 (vc U 0) (vc U 1) (vc U 2)) := fun _ => rfl
    have dd : ∀ u v w, det3 u v w = dot (crs u v) w := fun u v w => by unfold det3 dot crs; grind
    refine ⟨0, by omega, by decide, fun V hV => ⟨3, by omega, ?_⟩⟩
    obtain ⟨e0, e1, e2, e3⟩ := ur_0 V
    rw [d3, e0, e1, e2, hV 0 (by omega), hV 1 (by omega), hV 2 (by omega), dd]
    omega
theorem fd94_loop {n C : Nat} {g : gT} {L : List Nat} (ok : BkOk n g) (hC : C < 2 ^ n) (hc : isCore g C) (hm : mbr C L.length (xL L)) (hx : ∀ p, xL L p < n) : ∀ (c u f : Nat) (σ : sT), u + c = 8 → c + 1 < f → VAt g σ L → (∃ v, u ≤ v ∧ v < 8 ∧ popc v + L.length = 4 ∧ ∀ V, (∀ p, p < L.length → vc V p = vec g (xL L p)) → ∃ p, p < 4 ∧ dtn (uV v 3 0 L.length V) p ≠ 0) →
    ∃ (σ1 : sT) (F : Nat → Int), (∀ K : sT → Option sT, fWt_find_L94 K f (0 : Int32) (nI u) σ = K σ1) ∧ VAt g σ1 L ∧ FdAt σ1 F ∧ gW g L.length (xL L) F ∧ (∀ p, -750 ≤ F p ∧ F p ≤ 750) ∧ offC [22, 23] σ σ1 := by
  obtain ⟨m1, m2, -⟩ := id hm
  intro c
  induction c with
  | zero =>
    intro u f σ h1 h2 hV hex
    obtain ⟨v, a, b, -⟩ := hex
    omega
  | succ c ih =>
    intro u f σ h1 h2 hV hex
    obtain ⟨f', rfl⟩ : ∃ f', f = f' + 1 := ⟨f - 1, by omega⟩
    have code : ∀ K : sT → Option sT, fWt_find_L94 K (f' + 1) (0 : Int32) (nI u) σ = if popc u + L.length = 4 then (db2 (fWt_isSolvedWith (nI u) σ) fun r22 σ23 => if r22 = 0 then fWt_find_L94 K f' (0 : Int32) (nI (u + 1)) σ23 else fWt_find_L94 K f' (1 : Int32) (nI (u + 1)) σ23) else fWt_find_L94 K f' (0 : Int32) (nI (u + 1)) σ := by
      intro K
      conv => lhs; unfold fWt_find_L94
      rw [show (8 : Int32) = nI 8 from rfl, if_neg (nI_ge (by omega) (by omega)), if_pos rfl, db1_t (bitc_spec (by omega)), hV.1, show (4 : Int32) = nI 4 from rfl, pk_sub m2, nI_1]
      have hp : popc u ≤ 3 := by unfold popc; split <;> split <;> split <;> omega
      by_cases e : popc u + L.length = 4
      · rw [if_pos (by congr 1; omega), if_pos e]
      · rw [if_neg (fun z => e (by have := (nI_eq (by omega) (by omega)).mp z; omega)), if_neg e]
    have rest : ∀ σ0, VAt g σ0 L → (∃ v, u + 1 ≤ v ∧ v < 8 ∧ popc v + L.length = 4 ∧ ∀ V, (∀ p, p < L.length → vc V p = vec g (xL L p)) → ∃ p, p < 4 ∧ dtn (uV v 3 0 L.length V) p ≠ 0) → ∃ (σ1 : sT) (F : Nat → Int), (∀ K : sT → Option sT, fWt_find_L94 K f' (0 : Int32) (nI (u + 1)) σ0 = K σ1) ∧ VAt g σ1 L ∧ FdAt σ1 F ∧ gW g L.length (xL L) F ∧ (∀ p, -750 ≤ F p ∧ F p ≤ 750) ∧ offC [22, 23] σ0 σ1 := fun σ0 h0 he => ih (u + 1) f' σ0 (by omega) (by omega) h0 he
    obtain ⟨v, v1, v2, v3, v4⟩ := hex
    by_cases e : popc u + L.length = 4
    · obtain ⟨V, hVec, hvc⟩ := VAt_vec hV
      obtain ⟨r1, r2⟩ := ur_all m1 (show u < 8 by omega) e V
      have hB : ∀ r, r < 4 → vB 5 (vc (uV u 3 0 L.length V) r) := by
        intro r hr
        by_cases c : r < L.length
        · rw [r1 r c, hvc r c]; exact vec_B ok (hx r)
        · exact isU_B (r2 r (by omega) hr)
      obtain ⟨σ2, b, f1, f2, f3, f4, f5⟩ := solved_spec (show u < 8 by omega) m2 hVec hV.1 hB
      have hV2 : VAt g σ2 L := by
        refine ⟨by rw [(f5 20 (by decide)).1]; exact hV.1, fun p y hy => ?_⟩
        have hp : p < L.length := (List.getElem?_eq_some_iff.mp hy).1
        obtain ⟨w1, w2⟩ := hV.2 p y hy
        refine ⟨by rw [(f5 21 (by decide)).1]; exact w1, fun k hk => ?_⟩
        rw [f2 _ (by omega), ← w2 k hk, hVec _ (by omega)]
        have := r1 p hp
        unfold vc at this
        obtain ⟨q0, q1⟩ := Prod.mk.inj this
        obtain ⟨q1, q2⟩ := Prod.mk.inj q1
        rcases (show k = 0 ∨ k = 1 ∨ k = 2 by omega) with rfl | rfl | rfl
        · rw [Nat.add_zero, q0]
        · rw [q1]
        · rw [q2]
      cases b
      · obtain ⟨σ3, F, p1, p2, p3, p4, p5, p6⟩ := rest σ2 hV2 (by
          refine ⟨v, ?_, v2, v3, v4⟩
          apply Decidable.byContradiction
          intro z
          obtain rfl : v = u := by omega
          have := f4.mpr (v4 V hvc)
          cases this)
        refine ⟨σ3, F, fun K => ?_, p2, p3, p4, p5, f5.trans p6⟩
        rw [code K, if_pos e, db2_t f1, if_pos b0]
        exact p1 K
      · refine ⟨σ2, fun p => if p < 4 then dtn (uV u 3 0 L.length V) p else 0, fun K => ?_, hV2, fun p hp => by rw [f3 p hp]; dsimp only; rw [if_pos hp], dtn_good ok hC hc hm (fun r hr => by rw [r1 r hr, hvc r hr]) (f4.mp rfl), fun p => ?_, f5⟩
        · rw [code K, if_pos e, db2_t f1, if_neg b1]
          obtain ⟨f'', rfl⟩ : ∃ f'', f' = f'' + 1 := ⟨f' - 1, by omega⟩
          unfold fWt_find_L94
          by_cases z : (8 : Int32) ≤ nI (u + 1)
          · rw [if_pos z]
          · rw [if_neg z, if_neg (show ¬ (1 : Int32) = 0 by decide)]
        · dsimp only
          by_cases hp : p < 4
          · rw [if_pos hp]
            have d0 := det3_B (hB 1 (by omega)) (hB 2 (by omega)) (hB 3 (by omega))
            have d1 := det3_B (hB 0 (by omega)) (hB 2 (by omega)) (hB 3 (by omega))
            have d2 := det3_B (hB 0 (by omega)) (hB 1 (by omega)) (hB 3 (by omega))
            have d3 := det3_B (hB 0 (by omega)) (hB 1 (by omega)) (hB 2 (by omega))
            unfold dtn
            split
            · exact d0
            · split
              · omega
              · split
                · exact d2
                · omega
          · rw [if_neg hp]; omega
    · obtain ⟨σ3, F, p1, p2, p3, p4, p5, p6⟩ := rest σ hV (by
        refine ⟨v, ?_, v2, v3, v4⟩
        apply Decidable.byContradiction
        intro z
        obtain rfl : v = u := by omega
        exact e v3)
      refine ⟨σ3, F, fun K => ?_, p2, p3, p4, p5, p6⟩
      rw [code K, if_neg e]
      exact p1 K
