/-! the class: determinants, and the first that is something -/
def vc (V : Nat → Int) (r : Nat) : vT := (V (r * 3), V (r * 3 + 1), V (r * 3 + 2))
def det3 (u v w : vT) : Int := u.1 * (v.2.1 * w.2.2 - v.2.2 * w.2.1) - u.2.1 * (v.1 * w.2.2 - v.2.2 * w.1) + u.2.2 * (v.1 * w.2.1 - v.2.1 * w.1)
def dtn (V : Nat → Int) (n : Nat) : Int := if n = 0 then det3 (vc V 1) (vc V 2) (vc V 3) else if n = 1 then -(det3 (vc V 0) (vc V 2) (vc V 3)) else if n = 2 then det3 (vc V 0) (vc V 1) (vc V 3) else -(det3 (vc V 0) (vc V 1) (vc V 2))
theorem dt_spec {σ : sT} {V : Nat → Int} (hV : VecAt σ V) {a b c : Nat} (ha : a < 4) (hb : b < 4) (hc : c < 4) : fWt_determinant (nI a) (nI b) (nI c) σ = some (iI (det3 (vc V a) (vc V b) (vc V c))) := by
  unfold fWt_determinant
  simp only [dlt_u, n3', show (1 : Int32) = nI 1 from rfl, show (2 : Int32) = nI 2 from rfl, na]
  simp (disch := omega) only [okI_n, dck_tt, nc]
  simp (disch := omega) only [hV _, iI_mul, iI_sub, iI_add]
  rfl
theorem det3_B {u v w : vT} (hu : vB 5 u) (hv : vB 5 v) (hw : vB 5 w) : -750 ≤ det3 u v w ∧ det3 u v w ≤ 750 := by
  have e : det3 u v w = dot (crs v w) u := by unfold det3 dot crs; grind
  rw [e]
  exact dot_B (crs_B hv hw) hu
def FdAt (σ : sT) (F : Nat → Int) : Prop := ∀ p, p < 4 → σ.1 23 p = iI (F p)
theorem is76_loop {V : Nat → Int} (hVB : ∀ r, r < 4 → vB 5 (vc V r)) : ∀ (c q f : Nat) (x : Bool) (σ : sT), q + c = 4 → c < f → VecAt σ V → (∀ p, p < q → σ.1 23 p = iI (dtn V p)) →
    ∃ (σ1 : sT) (b : Bool), fWt_isSolvedWith_L76 f (b01 x) (nI q) σ = some (b01 b, σ1) ∧ FdAt σ1 (dtn V) ∧ (b = true ↔ x = true ∨ ∃ p, q ≤ p ∧ p < 4 ∧ dtn V p ≠ 0) ∧ offC [23] σ σ1 := by
  intro c
  induction c with
  | zero =>
    intro q f x σ h1 h2 hV hF
    obtain ⟨f', rfl⟩ : ∃ f', f = f' + 1 := ⟨f - 1, by omega⟩
    obtain rfl : q = 4 := by omega
    unfold fWt_isSolvedWith_L76
    rw [show (4 : Int32) = nI 4 from rfl, if_pos (nI_le (by omega) (by omega)), dck_t (okZ_b x)]
    refine ⟨σ, x, rfl, hF, ⟨Or.inl, ?_⟩, offC.refl _ _⟩
    rintro (h | ⟨p, a, b, -⟩)
    · exact h
    · omega
  | succ c ih =>
    intro q f x σ h1 h2 hV hF
    obtain ⟨f', rfl⟩ : ∃ f', f = f' + 1 := ⟨f - 1, by omega⟩
    have o1 : offC [23] σ (siW σ 23 q (iI (dtn V q))) := offC_si (by simp)
    have hV1 : VecAt (siW σ 23 q (iI (dtn V q))) V := fun j hj => by rw [(o1 22 (by decide)).1]; exact hV j hj
    have hF1 : ∀ p, p < q + 1 → (siW σ 23 q (iI (dtn V q))).1 23 p = iI (dtn V p) := by
      intro p hp
      rw [siW_s]
      by_cases e : p = q
      · rw [if_pos e, e]
      · rw [if_neg e]; exact hF p (by omega)
    -- the determinant and its sign
    obtain ⟨a, b, d, D, hd, hD, hcode⟩ : ∃ (a b d : Nat) (D : Int), (a < 4 ∧ b < 4 ∧ d < 4) ∧ (D = det3 (vc V a) (vc V b) (vc V d) ∧ dtn V q = if q % 2 = 0 then D else -D) ∧ fWt_isSolvedWith_L76 (f' + 1) (b01 x) (nI q) σ = (db1 (fWt_determinant (nI a) (nI b) (nI d) σ) fun r23 => if b01 x = 0 then (if r23 = 0 then fWt_isSolvedWith_L76 f' (0 : Int32) (nI (q + 1)) (siW σ 23 q (if q % 2 = 0 then r23 else -r23)) else fWt_isSolvedWith_L76 f' (1 : Int32) (nI (q + 1)) (siW σ 23 q (if q % 2 = 0 then r23 else -r23))) else fWt_isSolvedWith_L76 f' (1 : Int32) (nI (q + 1)) (siW σ 23 q (if q % 2 = 0 then r23 else -r23))) := by
      rcases (show q = 0 ∨ q = 1 ∨ q = 2 ∨ q = 3 by omega) with rfl | rfl | rfl | rfl
      · refine ⟨1, 2, 3, _, by omega, ⟨rfl, rfl⟩, ?_⟩
        conv => lhs; unfold fWt_isSolvedWith_L76
        simp only [dlt_u]
        rfl
      · refine ⟨0, 2, 3, _, by omega, ⟨rfl, rfl⟩, ?_⟩
        conv => lhs; unfold fWt_isSolvedWith_L76
        simp only [dlt_u]
        rfl
      · refine ⟨0, 1, 3, _, by omega, ⟨rfl, rfl⟩, ?_⟩
        conv => lhs; unfold fWt_isSolvedWith_L76
        simp only [dlt_u]
        rfl
      · refine ⟨0, 1, 2, _, by omega, ⟨rfl, rfl⟩, ?_⟩
        conv => lhs; unfold fWt_isSolvedWith_L76
        simp only [dlt_u]
        rfl
    have hDb := det3_B (hVB a hd.1) (hVB b hd.2.1) (hVB d hd.2.2)
    rw [← hD.1] at hDb
    have hsg : (if q % 2 = 0 then iI D else -(iI D)) = iI (dtn V q) := by
      rw [hD.2]
      by_cases z : q % 2 = 0
      · rw [if_pos z, if_pos z]
      · rw [if_neg z, if_neg z, iI_neg]
    have hz : D = 0 ↔ dtn V q = 0 := by
      rw [hD.2]; split <;> omega
    rw [hcode, db1_t (dt_spec hV hd.1 hd.2.1 hd.2.2), ← hD.1, hsg]
    cases x
    · rw [if_pos b0]
      by_cases zD : D = 0
      · rw [if_pos ((iz (by omega)).mpr zD)]
        obtain ⟨σ1, b', e1, e2, e3, e4⟩ := ih (q + 1) f' false _ (by omega) (by omega) hV1 hF1
        refine ⟨σ1, b', e1, e2, ?_, o1.trans e4⟩
        rw [e3]
        constructor
        · rintro (h | ⟨p, y1, y2⟩)
          · cases h
          · exact Or.inr ⟨p, by omega, y2⟩
        · rintro (h | ⟨p, y1, y2, y3⟩)
          · cases h
          · by_cases e : p = q
            · subst e; exact absurd (hz.mp zD) y3
            · exact Or.inr ⟨p, by omega, y2, y3⟩
      · rw [if_neg (fun w => zD ((iz (by omega)).mp w))]
        obtain ⟨σ1, b', e1, e2, e3, e4⟩ := ih (q + 1) f' true _ (by omega) (by omega) hV1 hF1
        refine ⟨σ1, b', e1, e2, ?_, o1.trans e4⟩
        rw [e3]
        exact ⟨fun _ => Or.inr ⟨q, Nat.le_refl q, by omega, fun w => zD (hz.mpr w)⟩, fun _ => Or.inl rfl⟩
    · rw [if_neg b1]
      obtain ⟨σ1, b', e1, e2, e3, e4⟩ := ih (q + 1) f' true _ (by omega) (by omega) hV1 hF1
      refine ⟨σ1, b', e1, e2, ?_, o1.trans e4⟩
      rw [e3]
      exact ⟨fun _ => Or.inl rfl, fun _ => Or.inl rfl⟩
theorem solved_spec {u s : Nat} (hu : u < 8) (hs : s ≤ 4) {σ : sT} {V : Nat → Int} (hV : VecAt σ V) (h20 : σ.1 20 4 = nI s) (hVB : ∀ r, r < 4 → vB 5 (vc (uV u 3 0 s V) r)) :
    ∃ (σ1 : sT) (b : Bool), fWt_isSolvedWith (nI u) σ = some (b01 b, σ1) ∧ VecAt σ1 (uV u 3 0 s V) ∧ FdAt σ1 (dtn (uV u 3 0 s V)) ∧ (b = true ↔ ∃ p, p < 4 ∧ dtn (uV u 3 0 s V) p ≠ 0) ∧ offC [22, 23] σ σ1 := by
  obtain ⟨σa, e1, e2, e3⟩ := is7_loop hu 3 0 s FU σ V (by omega) (by unfold FU; omega) hs hV
  obtain ⟨σb, b, f1, f2, f3, f4⟩ := is76_loop hVB 4 0 FU false σa (by omega) (by unfold FU; omega) e2 (fun p hp => by omega)
  rw [nI_0] at e1 f1
  refine ⟨σb, b, ?_, fun j hj => by rw [(f4 22 (by decide)).1]; exact e2 j hj, f2, ?_, (e3.mono (by simp)).trans (f4.mono (by simp))⟩
  · obtain ⟨G, hG⟩ : ∃ G, FU = G := ⟨_, rfl⟩
    rw [hG] at e1 f1
    unfold fWt_isSolvedWith
    rw [hG, dlt_u, h20, dlt_u, e1]
    exact f1
  · rw [f3]
    constructor
    · rintro (h | ⟨p, -, h⟩)
      · cases h
      · exact ⟨p, h⟩
    · rintro ⟨p, h⟩; exact Or.inr ⟨p, by omega, h⟩
