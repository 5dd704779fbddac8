/-! the model's ends -/
def MLo (σ : sT) (lo : enT) : Prop := match lo with
  | none => σ.2 33 10 = jI 0
  | some e => σ.2 33 9 = jI e.1 ∧ σ.2 33 10 = jI e.2.1 ∧ σ.1 33 11 = b01 e.2.2
def MHi (σ : sT) (hi : enT) : Prop := match hi with
  | none => σ.2 33 13 = jI 0
  | some e => σ.2 33 12 = jI e.1 ∧ σ.2 33 13 = jI e.2.1 ∧ σ.1 33 14 = b01 e.2.2
abbrev mT : Type := Bool × enT × enT
def MAt (σ : sT) (s : mT) : Prop := σ.1 33 8 = b01 s.1 ∧ MLo σ s.2.1 ∧ MHi σ s.2.2
theorem MHi.of {σ σ1 : sT} {hi : enT} (h : MHi σ hi) (e3 : σ1.2 33 12 = σ.2 33 12) (e4 : σ1.2 33 13 = σ.2 33 13) (e5 : σ1.1 33 14 = σ.1 33 14) : MHi σ1 hi := by
  cases hi with
  | none => exact e4.trans h
  | some e => exact ⟨e3.trans h.1, e4.trans h.2.1, e5.trans h.2.2⟩
theorem MLo.of {σ σ1 : sT} {lo : enT} (h : MLo σ lo) (e3 : σ1.2 33 9 = σ.2 33 9) (e4 : σ1.2 33 10 = σ.2 33 10) (e5 : σ1.1 33 11 = σ.1 33 11) : MLo σ1 lo := by
  cases lo with
  | none => exact e4.trans h
  | some e => exact ⟨e3.trans h.1, e4.trans h.2.1, e5.trans h.2.2⟩
def mSt (s : mT) (f d : Int) (k : Nat) : mT := if f = 0 then (s.1 && h0 (0, 0, 0, d, k), s.2) else (s.1, takU s.2 f d k)
theorem mlow {σ : sT} {s : mT} (h : MAt σ s) {a b : Int} {o : Bool} {x5 : Int32} {x9 x12 : Int64} (h5 : x5 = b01 o) (h9 : x9 = jI a) (h12 : x12 = jI b) :
    okZ x5 = true ∧ MAt (sjW (sjW (siW σ 33 11 x5) 33 9 x9) 33 10 x12) (s.1, some (a, b, o), s.2.2) ∧ mOff [] [8, 9, 10, 11, 12, 13, 14] σ (sjW (sjW (siW σ 33 11 x5) 33 9 x9) 33 10 x12) := by
  subst h5 h9 h12
  refine ⟨okZ_b o, ⟨?_, ⟨?_, ?_, ?_⟩, h.2.2.of ?_ ?_ ?_⟩, ((mOff_si (by simp)).trans (mOff_sj (by simp))).trans (mOff_sj (by simp))⟩
  · rw [sjW_1, sjW_1, siW_s, if_neg (by decide)]; exact h.1
  · rw [sjW_s, if_neg (by decide), sjW_s, if_pos rfl]
  · rw [sjW_s, if_pos rfl]
  · rw [sjW_1, sjW_1, siW_s, if_pos rfl]
  · rw [sjW_s, if_neg (by decide), sjW_s, if_neg (by decide)]; rfl
  · rw [sjW_s, if_neg (by decide), sjW_s, if_neg (by decide)]; rfl
  · rw [sjW_1, sjW_1, siW_s, if_neg (by decide)]
theorem mhigh {σ : sT} {s : mT} (h : MAt σ s) {a b : Int} {o : Bool} {x5 : Int32} {x9 x12 : Int64} (h5 : x5 = b01 o) (h9 : x9 = jI a) (h12 : x12 = jI b) :
    okZ x5 = true ∧ MAt (sjW (sjW (siW σ 33 14 x5) 33 12 x9) 33 13 x12) (s.1, s.2.1, some (a, b, o)) ∧ mOff [] [8, 9, 10, 11, 12, 13, 14] σ (sjW (sjW (siW σ 33 14 x5) 33 12 x9) 33 13 x12) := by
  subst h5 h9 h12
  refine ⟨okZ_b o, ⟨?_, h.2.1.of ?_ ?_ ?_, ⟨?_, ?_, ?_⟩⟩, ((mOff_si (by simp)).trans (mOff_sj (by simp))).trans (mOff_sj (by simp))⟩
  · rw [sjW_1, sjW_1, siW_s, if_neg (by decide)]; exact h.1
  · rw [sjW_s, if_neg (by decide), sjW_s, if_neg (by decide)]; rfl
  · rw [sjW_s, if_neg (by decide), sjW_s, if_neg (by decide)]; rfl
  · rw [sjW_1, sjW_1, siW_s, if_neg (by decide)]
  · rw [sjW_s, if_neg (by decide), sjW_s, if_pos rfl]
  · rw [sjW_s, if_pos rfl]
  · rw [sjW_1, sjW_1, siW_s, if_pos rfl]
theorem h00 (d : Int) : h0 (0, 0, 0, d, 0) = decide (0 < d) := rfl
theorem h01 (d : Int) : h0 (0, 0, 0, d, 1) = decide (0 ≤ d) := rfl
theorem crossB {A D a b c d : Int} (h1 : -D ≤ a ∧ a ≤ D) (h2 : -A ≤ b ∧ b ≤ A) (h3 : -D ≤ c ∧ c ≤ D) (h4 : -A ≤ d ∧ d ≤ A) (hAD : 2 * A * D ≤ big) : inJ (a * b + c * d) ∧ inJ (a * b - c * d) := by
  have e1 := mulB h1 h2
  have e2 := mulB h3 h4
  have e3 : 2 * A * D = D * A + D * A := by grind
  unfold big at hAD
  unfold inJ; omega
set_option maxHeartbeats 4000000 in
theorem takes_spec {A D : Int} (hAD : 2 * A * D ≤ big) (hA : A ≤ big) (hD : D ≤ big) {σ : sT} {s : mT} (h : MAt σ s) (h1 : enB A D s.2.1) (h2 : enB A D s.2.2) {f d : Int} {k : Nat} (hf : -A ≤ f ∧ f ≤ A) (hd : -D ≤ d ∧ d ≤ D) (hk : k ≤ 1) {x : Int32} (hx : x = b01 (decide (k = 0))) :
    ∃ σ1, fMM_takes (jI f) (jI d) x σ = some σ1 ∧ MAt σ1 (mSt s f d k) ∧ mOff [] [8, 9, 10, 11, 12, 13, 14] σ σ1 := by
  have jf : inJ f := by unfold big at hA; unfold inJ; omega
  have jd : inJ d := by unfold big at hD; unfold inJ; omega
  have h8 := h.1
  unfold fMM_takes mSt
  by_cases f0 : f = 0
  · rw [if_pos ((cmp_eq0 jf).mpr f0), if_pos f0]
    simp only [dlt_u]
    have fin : ∀ (z : Int32) (b : Bool), z = b01 b → b = (s.1 && h0 (0, 0, 0, d, k)) → ∃ σ1, (dck (okZ z) <| some (siW σ 33 8 z)) = some σ1 ∧ MAt σ1 (s.1 && h0 (0, 0, 0, d, k), s.2) ∧ mOff [] [8, 9, 10, 11, 12, 13, 14] σ σ1 := by
      intro z b hz hb
      subst hz
      rw [dck_t (okZ_b b), ← hb]
      refine ⟨_, rfl, ⟨?_, h.2.1.of rfl rfl ?_, h.2.2.of rfl rfl ?_⟩, mOff_si (by simp)⟩
      · rw [siW_s, if_pos rfl]
      · rw [siW_s, if_neg (by decide)]
      · rw [siW_s, if_neg (by decide)]
    rw [h8]
    cases hs : s.1 with
    | false =>
      rw [hs] at fin
      rw [if_pos (by decide)]
      exact fin 0 false rfl rfl
    | true =>
      rw [hs] at fin
      rw [if_neg (by decide)]
      by_cases c1 : 0 < d
      · rw [if_pos ((cmp_gt0 jd).mpr c1)]
        refine fin 1 true rfl ?_
        rcases (show k = 0 ∨ k = 1 by omega) with rfl | rfl
        · rw [h00, decide_eq_true c1]; rfl
        · rw [h01, decide_eq_true (show 0 ≤ d by omega)]; rfl
      · rw [if_neg (fun z => c1 ((cmp_gt0 jd).mp z))]
        by_cases c2 : d = 0
        · rw [if_pos ((cmp_eq0 jd).mpr c2), hx]
          rcases (show k = 0 ∨ k = 1 by omega) with rfl | rfl
          · rw [if_neg (by decide)]
            exact fin 0 false rfl (by rw [h00, decide_eq_false c1]; rfl)
          · rw [if_pos (by decide)]
            exact fin 1 true rfl (by rw [h01, decide_eq_true (show 0 ≤ d by omega)]; rfl)
        · rw [if_neg (fun z => c2 ((cmp_eq0 jd).mp z))]
          refine fin 0 false rfl ?_
          rcases (show k = 0 ∨ k = 1 by omega) with rfl | rfl
          · rw [h00, decide_eq_false c1]; rfl
          · rw [h01, decide_eq_false (show ¬ 0 ≤ d by omega)]; rfl
  · rw [if_neg (fun z => f0 ((cmp_eq0 jf).mp z)), if_neg f0]
    obtain ⟨c, lo, hi⟩ := s
    obtain ⟨o, ho⟩ : ∃ o, o = decide (k = 0) := ⟨_, rfl⟩
    rw [← ho] at hx
    by_cases fn : f < 0
    · rw [if_pos ((cmp_le0 jf).mpr (by omega))]
      simp only [dlt_u, sjW_1, siW_2]
      have ht : takU (lo, hi) f d k = (lowU lo (-d) (-f) o, hi) := by
        unfold takU iabs
        dsimp only
        rw [if_pos (Or.inr fn), if_neg (by omega), if_neg (by omega), if_neg (by omega), ho]
      dsimp only at ht h1 h2 h8 ⊢
      rw [ht]
      cases lo with
      | none =>
        have l0 : σ.2 33 10 = jI 0 := h.2.1
        obtain ⟨w1, w2, w3⟩ := mlow h (a := -d) (b := -f) (o := o) hx (jI_neg d) (jI_neg f)
        rw [l0, if_pos (by decide), if_neg (by decide), dck_t w1, if_neg (by decide), if_neg (by decide)]
        exact ⟨_, rfl, w2, w3⟩
      | some e =>
        obtain ⟨p, q, v⟩ := e
        obtain ⟨l0, l1, l2⟩ := h.2.1
        obtain ⟨b1, b2, b3, b4⟩ := h1
        dsimp only at l0 l1 l2 b1 b2 b3 b4
        have jq : inJ q := by unfold big at hA; unfold inJ; omega
        have jv := (crossB (a := -d) (b := q) (c := p) (d := f) (A := A) (D := D) (by omega) (by omega) (by omega) hf hAD).1
        rw [l1, if_neg (fun z => by have := (cmp_eq0 jq).mp z; omega), l0, l2, jI_neg, jI_mul, jI_mul, jI_add]
        have ee : p * -f = -(p * f) := Int.mul_neg p f
        unfold lowU
        dsimp only
        by_cases c1 : 0 < -d * q + p * f
        · have hn : ¬ lg_cmp (jI (-d * q + p * f)) (0 : Int64) ≤ 0 := fun z => by have := (cmp_le0 jv).mp z; omega
          obtain ⟨w1, w2, w3⟩ := mlow h (a := -d) (b := -f) (o := o) hx rfl (jI_neg f)
          simp only [if_neg hn]
          rw [dck_t w1, if_pos (show p * -f < -d * q by omega)]
          exact ⟨_, rfl, w2, w3⟩
        · have hn : lg_cmp (jI (-d * q + p * f)) (0 : Int64) ≤ 0 := (cmp_le0 jv).mpr (by omega)
          simp only [if_pos hn]
          by_cases c2 : -d * q + p * f = 0
          · rw [if_pos ((cmp_eq0 jv).mpr c2), if_neg (show ¬ (p * -f < -d * q) by omega), if_pos (show -d * q = p * -f by omega)]
            have fin : ∀ (z : Int32), z = b01 (v || o) → ∃ σ1, (dck (okZ z) <| some (sjW (sjW (siW σ 33 11 z) 33 9 (jI p)) 33 10 ((sjW (siW σ 33 11 z) 33 9 (jI p)).2 33 10))) = some σ1 ∧ MAt σ1 (c, some (p, q, v || o), hi) ∧ mOff [] [8, 9, 10, 11, 12, 13, 14] σ σ1 := by
              intro z hz
              obtain ⟨w1, w2, w3⟩ := mlow h (a := p) (b := q) (o := v || o) hz rfl rfl
              rw [dck_t w1, sjW_s, if_neg (by decide), siW_2, l1]
              exact ⟨_, rfl, w2, w3⟩
            rw [hx]
            cases v
            · rw [if_pos (by decide)]
              cases o
              · rw [if_pos (by decide)]; exact fin 0 rfl
              · rw [if_neg (by decide)]; exact fin 1 rfl
            · rw [if_neg (by decide)]; exact fin 1 (by cases o <;> rfl)
          · rw [if_neg (fun z => c2 ((cmp_eq0 jv).mp z)), if_neg (show ¬ (p * -f < -d * q) by omega), if_neg (show ¬ (-d * q = p * -f) by omega)]
            obtain ⟨w1, w2, w3⟩ := mlow h (a := p) (b := q) (o := v) rfl rfl rfl
            rw [dck_t w1, sjW_s, if_neg (by decide), siW_2, l1]
            exact ⟨_, rfl, w2, w3⟩
    · rw [if_neg (fun z => by have := (cmp_le0 jf).mp z; omega)]
      simp only [dlt_u, sjW_1, siW_2]
      have ht : takU (lo, hi) f d k = (lo, higU hi d f o) := by
        unfold takU iabs
        dsimp only
        rw [if_neg (by omega), if_pos (by omega), if_pos (by omega), if_pos (by omega), ho]
      dsimp only at ht h1 h2 h8 ⊢
      rw [ht]
      cases hi with
      | none =>
        have l0 : σ.2 33 13 = jI 0 := h.2.2
        obtain ⟨w1, w2, w3⟩ := mhigh h (a := d) (b := f) (o := o) hx rfl rfl
        rw [l0, if_pos (by decide), if_neg (by decide), dck_t w1, if_neg (by decide), if_neg (by decide)]
        exact ⟨_, rfl, w2, w3⟩
      | some e =>
        obtain ⟨p, q, v⟩ := e
        obtain ⟨l0, l1, l2⟩ := h.2.2
        obtain ⟨b1, b2, b3, b4⟩ := h2
        dsimp only at l0 l1 l2 b1 b2 b3 b4
        have jq : inJ q := by unfold big at hA; unfold inJ; omega
        have jv := (crossB (a := d) (b := q) (c := p) (d := f) (A := A) (D := D) hd (by omega) (by omega) hf hAD).2
        rw [l1, if_neg (fun z => by have := (cmp_eq0 jq).mp z; omega), l0, l2, jI_mul, jI_mul, jI_sub]
        unfold higU
        dsimp only
        by_cases c1 : d * q - p * f < 0
        · have hn : ¬ (0 : Int32) ≤ lg_cmp (jI (d * q - p * f)) (0 : Int64) := fun z => by have := (cmp_ge0 jv).mp z; omega
          obtain ⟨w1, w2, w3⟩ := mhigh h (a := d) (b := f) (o := o) hx rfl rfl
          simp only [if_neg hn]
          rw [dck_t w1, if_pos (show d * q < p * f by omega)]
          exact ⟨_, rfl, w2, w3⟩
        · have hn : (0 : Int32) ≤ lg_cmp (jI (d * q - p * f)) (0 : Int64) := (cmp_ge0 jv).mpr (by omega)
          simp only [if_pos hn]
          by_cases c2 : d * q - p * f = 0
          · rw [if_pos ((cmp_eq0 jv).mpr c2), if_neg (show ¬ (d * q < p * f) by omega), if_pos (show d * q = p * f by omega)]
            have fin : ∀ (z : Int32), z = b01 (v || o) → ∃ σ1, (dck (okZ z) <| some (sjW (sjW (siW σ 33 14 z) 33 12 (jI p)) 33 13 ((sjW (siW σ 33 14 z) 33 12 (jI p)).2 33 13))) = some σ1 ∧ MAt σ1 (c, lo, some (p, q, v || o)) ∧ mOff [] [8, 9, 10, 11, 12, 13, 14] σ σ1 := by
              intro z hz
              obtain ⟨w1, w2, w3⟩ := mhigh h (a := p) (b := q) (o := v || o) hz rfl rfl
              rw [dck_t w1, sjW_s, if_neg (by decide), siW_2, l1]
              exact ⟨_, rfl, w2, w3⟩
            rw [hx]
            cases v
            · rw [if_pos (by decide)]
              cases o
              · rw [if_pos (by decide)]; exact fin 0 rfl
              · rw [if_neg (by decide)]; exact fin 1 rfl
            · rw [if_neg (by decide)]; exact fin 1 (by cases o <;> rfl)
          · rw [if_neg (fun z => c2 ((cmp_eq0 jv).mp z)), if_neg (show ¬ (d * q < p * f) by omega), if_neg (show ¬ (d * q = p * f) by omega)]
            obtain ⟨w1, w2, w3⟩ := mhigh h (a := p) (b := q) (o := v) rfl rfl rfl
            rw [dck_t w1, sjW_s, if_neg (by decide), siW_2, l1]
            exact ⟨_, rfl, w2, w3⟩
