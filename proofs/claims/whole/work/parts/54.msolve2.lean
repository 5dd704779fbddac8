/-! the model's solves, whole -/
theorem MAt.of {C F : List Nat} {σ σ1 : sT} {s : mT} (h : MAt σ s) (ho : mOff C F σ σ1) (hF : ∀ k, 8 ≤ k → k ≤ 14 → k ∉ F) : MAt σ1 s :=
  ⟨(ho.2 8 (hF 8 (by omega) (by omega))).1.trans h.1, h.2.1.of (ho.2 9 (hF 9 (by omega) (by omega))).2 (ho.2 10 (hF 10 (by omega) (by omega))).2 (ho.2 11 (hF 11 (by omega) (by omega))).1, h.2.2.of (ho.2 12 (hF 12 (by omega) (by omega))).2 (ho.2 13 (hF 13 (by omega) (by omega))).2 (ho.2 14 (hF 14 (by omega) (by omega))).1⟩
def mEnd (σ10 : sT) : Option sT :=
    if (lg_cmp (σ10.2 33 10) (0 : Int64)) ≤ 0 then
      some σ10
    else
      if (lg_cmp (σ10.2 33 13) (0 : Int64)) ≤ 0 then
        some σ10
      else
        dlt (((σ10.2 33 12) * (σ10.2 33 10)) - ((σ10.2 33 9) * (σ10.2 33 13))) fun x14 =>
        dlt (fun (x15 : Int32) =>
          dck (okZ x15) <|
          dlt (siW σ10 33 8 x15) fun σ18 =>
          some σ18) fun J16 =>
        dlt (fun (_u : Unit) =>
          J16 (0 : Int32)) fun J19 =>
        if (σ10.1 33 8) = 0 then
          J19 ()
        else
          dlt (fun (_u : Unit) =>
            J16 (1 : Int32)) fun J21 =>
          if 0 < (lg_cmp x14 (0 : Int64)) then
            J21 ()
          else
            if (lg_cmp x14 (0 : Int64)) = 0 then
              if (σ10.1 33 11) = 0 then
                if (σ10.1 33 14) = 0 then
                  J21 ()
                else
                  J19 ()
              else
                J19 ()
            else
              J19 ()
theorem mend_spec {A D : Int} (hA : A < 140737488355328) (hD : D ≤ big) (hAD : 2 * A * D ≤ big) {σ : sT} {s : mT} (h : MAt σ s) (h1 : enB A D s.2.1) (h2 : enB A D s.2.2) :
    ∃ (σ1 : sT) (b : Bool), mEnd σ = some σ1 ∧ MAt σ1 (b, s.2) ∧ mOff [] [8] σ σ1 ∧ (b = true ↔ s.1 = true ∧ ∃ x, ivS s.2 x) := by
  have o1 := enB_ok h1 hA hD
  have o2 := enB_ok h2 hA hD
  rw [iv_ex o1 o2]
  obtain ⟨c, lo, hi⟩ := s
  unfold mEnd
  cases lo with
  | none =>
    have l0 : σ.2 33 10 = jI 0 := h.2.1
    rw [l0, if_pos (by decide)]
    exact ⟨σ, c, rfl, h, mOff.refl _ _ _, by simp⟩
  | some e =>
    obtain ⟨p, q, v⟩ := e
    obtain ⟨l0, l1, l2⟩ := h.2.1
    obtain ⟨b1, b2, b3, b4⟩ := h1
    dsimp only at l0 l1 l2 b1 b2 b3 b4
    have jq : inJ q := by unfold inJ; omega
    rw [l1, if_neg (fun z => by have := (cmp_le0 jq).mp z; omega)]
    cases hi with
    | none =>
      have g0 : σ.2 33 13 = jI 0 := h.2.2
      rw [g0, if_pos (by decide)]
      exact ⟨σ, c, rfl, h, mOff.refl _ _ _, by simp⟩
    | some e' =>
      obtain ⟨p', q', v'⟩ := e'
      obtain ⟨g0, g1, g2⟩ := h.2.2
      obtain ⟨d1, d2, d3, d4⟩ := h2
      dsimp only at g0 g1 g2 d1 d2 d3 d4
      have jq' : inJ q' := by unfold inJ; omega
      have jv := (crossB (a := p') (b := q) (c := p) (d := q') (A := A) (D := D) (by omega) (by omega) (by omega) (by omega) hAD).2
      have h8 : σ.1 33 8 = b01 c := h.1
      rw [g1, if_neg (fun z => by have := (cmp_le0 jq').mp z; omega), l0, g0, l2, g2, h8]
      simp only [dlt_u]
      rw [jI_mul, jI_mul, jI_sub]
      have red : (∀ a b, ((some (p, q, v) : enT), (some (p', q', v') : enT)).1 = some a → ((some (p, q, v) : enT), (some (p', q', v') : enT)).2 = some b → (a.1 * b.2.1 < b.1 * a.2.1 ∨ (a.1 * b.2.1 = b.1 * a.2.1 ∧ a.2.2 = false ∧ b.2.2 = false))) ↔ (p * q' < p' * q ∨ (p * q' = p' * q ∧ v = false ∧ v' = false)) := by
        constructor
        · intro h; exact h _ _ rfl rfl
        · intro h a b ha hb; cases ha; cases hb; exact h
      have fin : ∀ (z : Int32) (b : Bool), z = b01 b → (b = true ↔ c = true ∧ (p * q' < p' * q ∨ (p * q' = p' * q ∧ v = false ∧ v' = false))) → ∃ (σ1 : sT) (b : Bool), (dck (okZ z) <| some (siW σ 33 8 z)) = some σ1 ∧ MAt σ1 (b, some (p, q, v), some (p', q', v')) ∧ mOff [] [8] σ σ1 ∧ (b = true ↔ c = true ∧ ∀ a b, ((some (p, q, v) : enT), (some (p', q', v') : enT)).1 = some a → ((some (p, q, v) : enT), (some (p', q', v') : enT)).2 = some b → (a.1 * b.2.1 < b.1 * a.2.1 ∨ (a.1 * b.2.1 = b.1 * a.2.1 ∧ a.2.2 = false ∧ b.2.2 = false))) := by
        intro z b hz hb
        subst hz
        rw [dck_t (okZ_b b), red]
        refine ⟨_, b, rfl, ⟨?_, h.2.1.of rfl rfl ?_, h.2.2.of rfl rfl ?_⟩, mOff_si (by simp), hb⟩
        · rw [siW_s, if_pos rfl]
        · rw [siW_s, if_neg (by decide)]
        · rw [siW_s, if_neg (by decide)]
      cases c with
      | false => rw [if_pos (by decide)]; exact fin 0 false rfl (by simp)
      | true =>
        rw [if_neg (by decide)]
        by_cases c1 : 0 < p' * q - p * q'
        · rw [if_pos ((cmp_gt0 jv).mpr c1)]
          exact fin 1 true rfl (by simp; omega)
        · rw [if_neg (fun z => c1 ((cmp_gt0 jv).mp z))]
          by_cases c2 : p' * q - p * q' = 0
          · rw [if_pos ((cmp_eq0 jv).mpr c2)]
            cases v
            · rw [if_pos (by decide)]
              cases v'
              · rw [if_pos (by decide)]; exact fin 1 true rfl (by simp; omega)
              · rw [if_neg (by decide)]; exact fin 0 false rfl (by simp; omega)
            · rw [if_neg (by decide)]; exact fin 0 false rfl (by simp; omega)
          · rw [if_neg (fun z => c2 ((cmp_eq0 jv).mp z))]
            exact fin 0 false rfl (by simp; omega)
theorem lin_one {f : rT} {t : Nat} (ht : t < 3) (h1 : rco f ((t + 1) % 3) = 0) (h2 : rco f ((t + 2) % 3) = 0) (p : pT) : lin f p = (rco f t : Rat) * p t := by
  obtain ⟨a, b, c, d, k⟩ := f
  rcases (show t = 0 ∨ t = 1 ∨ t = 2 by omega) with rfl | rfl | rfl
  · have e1 : b = 0 := h1
    have e2 : c = 0 := h2
    subst e1 e2; show (a : Rat) * p 0 + ((0 : Int) : Rat) * p 1 + ((0 : Int) : Rat) * p 2 = (a : Rat) * p 0; grind
  · have e1 : c = 0 := h1
    have e2 : a = 0 := h2
    subst e1 e2; show ((0 : Int) : Rat) * p 0 + (b : Rat) * p 1 + ((0 : Int) : Rat) * p 2 = (b : Rat) * p 1; grind
  · have e1 : a = 0 := h1
    have e2 : b = 0 := h2
    subst e1 e2; show ((0 : Int) : Rat) * p 0 + ((0 : Int) : Rat) * p 1 + (c : Rat) * p 2 = (c : Rat) * p 2; grind
theorem proj2 {L : List rT} (hkind : ∀ r ∈ L, rk r ≤ 1) {t : Nat} (ht : t < 3) (x : Rat) :
    (∀ f ∈ Efrom (fNP (Efrom (fNP L ((t + 2) % 3)) L 0) ((t + 1) % 3)) (Efrom (fNP L ((t + 2) % 3)) L 0) 0, relk (rk f) ((rco f t : Rat) * x) (rd f : Rat)) ↔ ∃ p : pT, p t = x ∧ ∀ r ∈ L, hol p r := by
  have k1 := np_kind (k := (t + 2) % 3) hkind
  have z1 := np_zero (L := L) (k := (t + 2) % 3)
  have s1 := np_sem (k := (t + 2) % 3) (by omega) hkind
  generalize Efrom (fNP L ((t + 2) % 3)) L 0 = E at *
  have z2 := np_zero (L := E) (k := (t + 1) % 3)
  have s2 := np_sem (k := (t + 1) % 3) (by omega) k1
  generalize Efrom (fNP E ((t + 1) % 3)) E 0 = F at *
  have hl : ∀ f ∈ F, ∀ p : pT, hol p f ↔ relk (rk f) ((rco f t : Rat) * p t) (rd f : Rat) := by
    intro f hf p
    unfold hol
    rw [lin_one ht (z2 f hf).1 ((z2 f hf).2 _ (fun r hr => (z1 r hr).1))]
  constructor
  · intro h
    have h2 : ∀ f ∈ F, hol (fun _ => x) f := fun f hf => (hl f hf _).mpr (h f hf)
    obtain ⟨a, ha⟩ := (s2 _).mp h2
    obtain ⟨b, hb⟩ := (s1 _).mp ha
    refine ⟨_, ?_, hb⟩
    unfold updp
    dsimp only
    rw [if_neg (by omega), if_neg (by omega)]
  · rintro ⟨p, hp, h⟩ f hf
    have h1 : ∀ e ∈ E, hol p e := (s1 p).mpr ⟨p ((t + 2) % 3), by rw [updp_self]; exact h⟩
    have h2 : ∀ f ∈ F, hol p f := (s2 p).mpr ⟨p ((t + 1) % 3), by rw [updp_self]; exact h1⟩
    rw [← hp]
    exact (hl f hf p).mp (h2 f hf)
set_option maxHeartbeats 4000000 in
theorem solves_spec {σ : sT} {L : List rT} (hL : LaidAt σ L) (hlen : L.length ≤ 26) (hkind : ∀ r ∈ L, rk r ≤ 1) {A D A1 D1 A2 D2 : Int} (hB : ∀ r ∈ L, rB A D r) (hA : 1 ≤ A) (hD : 0 ≤ D) (hAb : A ≤ big) (hDb : D ≤ big) {t : Nat} (ht : t < 3)
    (g1 : grow L ((t + 2) % 3) A D A1 D1) (g2 : grow L ((t + 1) % 3) A1 D1 A2 D2) (a1b : A1 ≤ big) (d1b : D1 ≤ big) (a2b : A2 < 140737488355328) (d2b : D2 ≤ big) (ad : 2 * A2 * D2 ≤ big) :
    ∃ (σ1 : sT) (b : Bool), fMM_solves (nI t) σ = some σ1 ∧ σ1.1 33 8 = b01 b ∧ mOff [38] [7, 8, 9, 10, 11, 12, 13, 14] σ σ1 ∧ (b = true ↔ ∃ p, ∀ r ∈ L, hol p r) ∧
      (b = true → ∃ e : enT × enT, MLo σ1 e.1 ∧ MHi σ1 e.2 ∧ enB A2 D2 e.1 ∧ enB A2 D2 e.2 ∧ ∀ x, ivS e x ↔ ∃ p : pT, p t = x ∧ ∀ r ∈ L, hol p r) := by
  have hj : ∀ r ∈ L, J4 r ∧ rk r ≤ 1 := fun r hr => ⟨rB_j (hB r hr) hAb hDb, hkind r hr⟩
  have P2 := proj2 hkind ht
  have B1 := np_B hA hD hB g1
  have k1 := np_kind (k := (t + 2) % 3) hkind
  have z1 := np_zero (L := L) (k := (t + 2) % 3)
  have c1 := np_cap (k := (t + 2) % 3) hlen
  have hcap : cap 26 = 169 := by decide
  have hAA : 1 ≤ A1 ∧ 0 ≤ D1 := by
    rcases g1 with ⟨-, h, h'⟩ | ⟨h, h'⟩
    · rw [h, h']; exact ⟨hA, hD⟩
    · rw [h, h']
      have e1 := Int.mul_le_mul_of_nonneg_left hA (show 0 ≤ 2 * A by omega)
      have e2 := Int.mul_nonneg (show 0 ≤ 2 * A by omega) hD
      exact ⟨by omega, e2⟩
  have n1 : (nI t + (1 : Int32)) - (nI t + (1 : Int32)) / (3 : Int32) * (3 : Int32) = nI ((t + 1) % 3) := by
    rcases (show t = 0 ∨ t = 1 ∨ t = 2 by omega) with rfl | rfl | rfl <;> decide
  have n2 : (nI t + (2 : Int32)) - (nI t + (2 : Int32)) / (3 : Int32) * (3 : Int32) = nI ((t + 2) % 3) := by
    rcases (show t = 0 ∨ t = 1 ∨ t = 2 by omega) with rfl | rfl | rfl <;> decide
  unfold fMM_solves
  rw [n1, n2]
  simp only [dlt_u]
  obtain ⟨σ5, e5⟩ : ∃ z, z = siW (siW (sjW (sjW (siW σ 33 8 1) 33 10 0) 33 13 0) 33 11 0) 33 14 0 := ⟨_, rfl⟩
  rw [← e5]
  have o5 : mOff [38] [7, 8, 9, 10, 11, 12, 13, 14] σ σ5 := by
    rw [e5]
    exact ((((mOff_si (by simp)).trans (mOff_sj (by simp))).trans (mOff_sj (by simp))).trans (mOff_si (by simp))).trans (mOff_si (by simp))
  have M5 : MAt σ5 (true, none, none) := by
    rw [e5]
    refine ⟨?_, ?_, ?_⟩
    · rw [siW_s, if_neg (by decide), siW_s, if_neg (by decide), sjW_1, sjW_1, siW_s, if_pos rfl]; rfl
    · show (siW (siW (sjW (sjW (siW σ 33 8 1) 33 10 0) 33 13 0) 33 11 0) 33 14 0).2 33 10 = jI 0
      rw [siW_2, siW_2, sjW_s, if_neg (by decide), sjW_s, if_pos rfl]; rfl
    · show (siW (siW (sjW (sjW (siW σ 33 8 1) 33 10 0) 33 13 0) 33 11 0) 33 14 0).2 33 13 = jI 0
      rw [siW_2, siW_2, sjW_s, if_pos rfl]; rfl
  have L5 := hL.of o5 (by decide) (by decide)
  have o6 : mOff [38] [7] σ5 (siW σ5 33 7 0) := mOff_si (by simp)
  have S6 : StAt (siW σ5 33 7 0) t ((t + 1) % 3) [] := ⟨by rw [siW_s, if_pos rfl]; rfl, fun i r h => by simp at h⟩
  obtain ⟨σ7, w1, w2, w3⟩ := lose_out (t := t) (u := (t + 1) % 3) (k := (t + 2) % 3) ht (by omega) (by omega) hlen hj FU 0 _ [] (by unfold FU; omega) (by omega) (L5.of o6 (by decide) (by decide)) S6 (by rw [List.drop_zero]; simp; omega)
  rw [List.drop_zero, List.nil_append] at w2
  rw [show nI 0 = (0 : Int32) from rfl] at w1
  have hlo : fMM_loses (nI t) (nI ((t + 1) % 3)) (nI ((t + 2) % 3)) σ5 = some σ7 := by
    unfold fMM_loses
    rw [dlt_u]
    exact w1
  rw [db1_t hlo]
  have o7 := (o5.trans (o6.mono (by simp) (by simp))).trans (w3.mono (by simp) (by simp))
  have M7 : MAt σ7 (true, none, none) := M5.of (o6.trans w3) (by intro k a b h; simp at h; omega)
  generalize Efrom (fNP L ((t + 2) % 3)) L 0 = E at *
  have hjE : ∀ r ∈ E, J4 r ∧ rk r ≤ 1 := fun r hr => ⟨rB_j (B1 r hr) a1b d1b, k1 r hr⟩
  have g2' : grow E ((t + 1) % 3) A1 D1 A2 D2 := by
    rcases g2 with ⟨h, h'⟩ | h
    · exact Or.inl ⟨fun r hr => (z1 r hr).2 _ h, h'⟩
    · exact Or.inr h
  have B2 := np_B hAA.1 hAA.2 B1 g2'
  have k2 := np_kind (k := (t + 1) % 3) k1
  obtain ⟨σ10, v1, v2, v3⟩ := solve_out (t := t) (u := (t + 1) % 3) (S := E) (by omega) hjE ad (by unfold big; omega) d2b mEnd FU 0 σ7 (true, none, none) (by unfold FU; omega) (by omega) w2 M7 trivial trivial (by rw [List.drop_zero]; exact B2)
  rw [List.drop_zero] at v2
  obtain ⟨t1, t2, t3⟩ := mt_fold (t := t) a2b d2b (Efrom (fNP E ((t + 1) % 3)) E 0) (true, none, none) trivial trivial (fun r hr => ⟨B2 r hr, k2 r hr⟩)
  obtain ⟨σ1, b, y1, y2, y3, y4⟩ := mend_spec a2b d2b ad v2 t1 t2
  rw [y1, show nI 0 = (0 : Int32) from rfl] at v1
  unfold mEnd at v1
  simp only [dlt_u] at v1
  have ex : ∀ x, ((List.foldl (mtk t) (true, none, none) (Efrom (fNP E ((t + 1) % 3)) E 0)).1 = true ∧ ivS (List.foldl (mtk t) (true, none, none) (Efrom (fNP E ((t + 1) % 3)) E 0)).2 x) ↔ ∃ p : pT, p t = x ∧ ∀ r ∈ L, hol p r := by
    intro x
    rw [t3 x, ← P2 x]
    exact ⟨fun h => h.2, fun h => ⟨⟨rfl, trivial, trivial⟩, h⟩⟩
  refine ⟨σ1, b, v1, y2.1, (o7.trans (v3.mono (by simp) (by simp))).trans (y3.mono (by simp) (by simp)), ?_, fun hb => ⟨_, y2.2.1, y2.2.2, t1, t2, fun x => ?_⟩⟩
  · rw [y4]
    constructor
    · rintro ⟨h, x, hx⟩
      obtain ⟨p, -, hp⟩ := (ex x).mp ⟨h, hx⟩
      exact ⟨p, hp⟩
    · rintro ⟨p, hp⟩
      have := (ex (p t)).mpr ⟨p, rfl, hp⟩
      exact ⟨this.1, p t, this.2⟩
  · have := y4.mp hb
    rw [← ex x]
    exact ⟨fun h => ⟨this.1, h⟩, fun h => h.2⟩
