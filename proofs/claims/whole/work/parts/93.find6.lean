/-! the class: find and weightOf -/
def WtAt (σ : sT) (s : Nat) (x : Nat → Nat) (V : Nat → Int) : Prop := σ.1 20 4 = nI s ∧ ∀ p, p < s → σ.1 21 p = nI (x p) ∧ σ.1 23 p = iI (V p)
theorem red_good {n C s : Nat} {g : gT} {x : Nat → Nat} (ok : BkOk n g) (hC : C < 2 ^ n) (hc : isCore g C) (hm : mbr C s x) {F : Nat → Int} (h : gW g s x F) : 0 < gc4 F ∧ F 0 ≠ 0 ∧ gW g s x (fun p => F p / gc4 F) ∧ gc4 (fun p => F p / gc4 F) = 1 := by
  have h0 := (gW_two ok hC hc hm h h).1 0 (by have := hm.1; omega)
  have hG := gc4_pos h0
  have hd := gc4_dv F
  have ex : ∀ p, p < 4 → gc4 F * (F p / gc4 F) = F p := fun p hp => Int.mul_ediv_cancel' (hd p hp)
  refine ⟨hG, h0, ⟨fun k hk => ?_, fun p hp => ?_, 0, by omega, fun z => ?_⟩, ?_⟩
  · have e := h.1 k hk
    have e0 := ex 0 (by omega)
    have e1 := ex 1 (by omega)
    have e2 := ex 2 (by omega)
    have e3 := ex 3 (by omega)
    dsimp only
    generalize gc4 F = G at *
    apply mz (show G ≠ 0 by omega)
    have : G * (F 0 / G * g (x 0) k + F 1 / G * g (x 1) k + F 2 / G * g (x 2) k + F 3 / G * g (x 3) k) = (G * (F 0 / G)) * g (x 0) k + (G * (F 1 / G)) * g (x 1) k + (G * (F 2 / G)) * g (x 2) k + (G * (F 3 / G)) * g (x 3) k := by grind
    rw [this, e0, e1, e2, e3]; exact e
  · dsimp only; rw [h.2.1 p hp]; simp
  · have z : F 0 / gc4 F = 0 := z
    have := ex 0 (by omega)
    rw [z, Int.mul_zero] at this
    exact h0 this.symm
  · have hm2 := gc4_mul (fun p => F p / gc4 F) (gc4 F)
    have he : gc4 (fun p => gc4 F * (F p / gc4 F)) = gc4 F := by
      have e0 := ex 0 (by omega)
      have e1 := ex 1 (by omega)
      have e2 := ex 2 (by omega)
      have e3 := ex 3 (by omega)
      show (Int.gcd (Int.gcd (Int.gcd (Int.gcd 0 (gc4 F * (F 0 / gc4 F))) (gc4 F * (F 1 / gc4 F))) (gc4 F * (F 2 / gc4 F))) (gc4 F * (F 3 / gc4 F)) : Int) = gc4 F
      rw [e0, e1, e2, e3]; rfl
    rw [he] at hm2
    have na : ((gc4 F).natAbs : Int) = gc4 F := by omega
    rw [na] at hm2
    generalize gc4 (fun p => F p / gc4 F) = y at *
    generalize gc4 F = G at *
    have : G * (y - 1) = 0 := by grind
    have := mz (show G ≠ 0 by omega) this
    omega
theorem find_spec {n C : Nat} {g : gT} (ok : BkOk n g) (hC : C < 2 ^ n) (hc : isCore g C) {σ : sT} (hB : BkC σ n g) :
    ∃ (σ1 : sT) (V : Nat → Int), fWt_find (nI C) σ = some σ1 ∧ WtAt σ1 (idxL C 12 0).length (xL (idxL C 12 0)) V ∧ isWt g (idxL C 12 0).length (xL (idxL C 12 0)) V ∧ offC [20, 21, 22, 23] σ σ1 := by
  have hm := mbr_of ok hC hc
  have hlen := core_len ok hC hc
  obtain ⟨L, hL⟩ : ∃ L, L = idxL C 12 0 := ⟨_, rfl⟩
  rw [← hL] at hm hlen ⊢
  have hx : ∀ p, xL L p < n := fun p => bit_lt hC (hm.2.2.1 p)
  have o0 : offC [20, 21, 22, 23] σ (siW σ 20 4 0) := offC_si (by simp)
  obtain ⟨σa, e1, e2, e3⟩ := fd7_loop ok hC 12 0 FU (siW σ 20 4 0) [] (by omega) (by unfold FU; omega) (hB.of o0 (by decide) (by decide)) ⟨by rw [siW_s, if_pos rfl]; rfl, fun p y h => by simp at h⟩ (by rw [← hL]; simpa using hlen)
  rw [← hL, List.nil_append] at e2
  obtain ⟨u, u1, u2, u3⟩ := solvable ok hC hc hm
  obtain ⟨σb, F, f1, f2, f3, f4, f5, f6⟩ := fd94_loop ok hC hc hm hx 8 0 FU σa (by omega) (by unfold FU; omega) e2 ⟨u, by omega, u1, u2, u3⟩
  rw [nI_0] at e1 f1
  obtain ⟨g1, g2, g3, g4⟩ := red_good ok hC hc hm f4
  have m1 := hm.1
  obtain ⟨σc, s1, s2, s3⟩ := shorten_spec m1 hlen f2.1 (fun p hp => f3 p (by omega)) f5 f4.2.1 g2
  have ob : offC [20, 21, 22, 23] σ σb := (o0.trans (e3.mono (by simp))).trans (f6.mono (by simp))
  have oc : offC [20, 21, 22, 23] σ σc := ob.trans (s3.mono (by simp))
  have hFB : ∀ p, -750 ≤ F p / gc4 F ∧ F p / gc4 F ≤ 750 := by
    intro p
    by_cases hp : p < 4
    · exact qB g1 (gc4_dv F p hp) (f5 p)
    · rw [f4.2.1 p (by omega)]; simp
  have h21 : ∀ p, p < L.length → σc.1 21 p = nI (xL L p) ∧ σc.1 23 p = iI (F p / gc4 F) := by
    intro p hp
    refine ⟨?_, s2 p hp⟩
    rw [(s3 21 (by decide)).1]
    exact (f2.2 p _ (xL_lt hp)).1
  obtain ⟨σd, t1, t2, t3⟩ := turn_spec ok m1 hlen hx (hB.of oc (by decide) (by decide)) (W := fun p => F p / gc4 F) hFB g3.2.1 (by rw [(s3 20 (by decide)).1]; exact f2.1) h21
  have od : offC [20, 21, 22, 23] σ σd := oc.trans (t2.mono (by simp))
  have code : fWt_find (nI C) σ = some σd := by
    obtain ⟨A, hA⟩ : ∃ A, FU = A := ⟨_, rfl⟩
    rw [hA] at e1 f1
    unfold fWt_find
    rw [hA, dlt_u, dlt_u, e1, dlt_u, f1, db1_t s1, db1_t t1]
  have h20 : σd.1 20 4 = nI L.length := by rw [(t2 20 (by decide)).1, (s3 20 (by decide)).1]; exact f2.1
  have h21d : ∀ p, p < L.length → σd.1 21 p = nI (xL L p) := fun p hp => by rw [(t2 21 (by decide)).1]; exact (h21 p hp).1
  rcases t3 with ⟨fl, t3⟩ | ⟨fl, t3⟩
  · refine ⟨σd, fun p => -(F p / gc4 F), code, ⟨h20, fun p hp => ⟨h21d p hp, t3 p hp⟩⟩, ⟨_, g3, hFB, Or.inl ⟨fl, fun p hp => ?_⟩⟩, od⟩
    rw [g4, Int.ediv_one]
  · refine ⟨σd, fun p => F p / gc4 F, code, ⟨h20, fun p hp => ⟨h21d p hp, t3 p hp⟩⟩, ⟨_, g3, hFB, Or.inr ⟨fl, fun p hp => ?_⟩⟩, od⟩
    rw [g4, Int.ediv_one]
def isT (s : Nat) (x : Nat → Nat) (V : Nat → Int) (i : Nat) (r : Int) : Prop := (∃ p, p < s ∧ x p = i ∧ r = V p) ∨ ((∀ p, p < s → x p ≠ i) ∧ r = 0)
theorem isT_one {C s : Nat} {x : Nat → Nat} (hm : mbr C s x) {V V' : Nat → Int} (hV : ∀ p, p < s → V p = V' p) {i : Nat} {r r' : Int} (h : isT s x V i r) (h' : isT s x V' i r') : r = r' := by
  rcases h with ⟨p, p1, p2, rfl⟩ | ⟨h, rfl⟩ <;> rcases h' with ⟨q, q1, q2, rfl⟩ | ⟨h', rfl⟩
  · have := hm.2.2.2.1 p q p1 q1 (p2.trans q2.symm)
    subst this; exact hV p p1
  · exact absurd p2 (h' p p1)
  · exact absurd q2 (h q q1)
  · rfl
theorem wof_loop {n s i : Nat} {x : Nat → Nat} {V : Nat → Int} (hs : s ≤ 4) (hi : i < 12) (hx : ∀ p, x p < 12) {σ : sT} (hW : WtAt σ s x V) : ∀ (c p f : Nat), p + c = s → c < f → (∀ q, q < p → x q ≠ i) → ∃ r, fWt_weightOf_L2 (nI i) σ f (nI p) = some (iI r) ∧ isT s x V i r := by
  intro c
  induction c with
  | zero =>
    intro p f h1 h2 hno
    obtain ⟨f', rfl⟩ : ∃ f', f = f' + 1 := ⟨f - 1, by omega⟩
    obtain rfl : p = s := by omega
    unfold fWt_weightOf_L2
    rw [hW.1, if_pos (nI_le (by omega) (by omega))]
    exact ⟨0, rfl, Or.inr ⟨hno, rfl⟩⟩
  | succ c ih =>
    intro p f h1 h2 hno
    obtain ⟨f', rfl⟩ : ∃ f', f = f' + 1 := ⟨f - 1, by omega⟩
    obtain ⟨y1, y2⟩ := hW.2 p (by omega)
    have hxp := hx p
    unfold fWt_weightOf_L2
    rw [hW.1, if_neg (nI_ge (by omega) (by omega)), dck_t (okI_n (by omega) (by omega)), nc (by omega), y1]
    by_cases e : x p = i
    · rw [if_pos (by rw [e]), dck_t (okI_n (by omega) (by omega)), y2]
      exact ⟨V p, rfl, Or.inl ⟨p, by omega, e, rfl⟩⟩
    · rw [if_neg (fun z => e ((nI_eq (by omega) (by omega)).mp z)), nI_1]
      exact ih (p + 1) f' (by omega) (by omega) (fun q hq => by
        by_cases e' : q = p
        · rw [e']; exact e
        · exact hno q (by omega))
theorem wof_spec {n s i : Nat} {x : Nat → Nat} {V : Nat → Int} (hs : s ≤ 4) (hi : i < 12) (hx : ∀ p, x p < 12) {σ : sT} (hW : WtAt σ s x V) : ∃ r, fWt_weightOf (nI i) σ = some (iI r) ∧ isT s x V i r := by
  obtain ⟨r, e1, e2⟩ := wof_loop (n := n) hs hi hx hW s 0 FU (by omega) (by unfold FU; omega) (fun q hq => by omega)
  rw [nI_0] at e1
  unfold fWt_weightOf
  exact ⟨r, e1, e2⟩
