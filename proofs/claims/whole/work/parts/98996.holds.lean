/-! formulas: the model's truth; counts over sign vectors -/
def vQ (g : gT) (Q : List (Nat × Nat)) (i : Nat) : Bool := Q.any (fun q => decide (q.1 = i) && truE g q.1 q.2)
theorem key_one : ∀ {Q : List (Nat × Nat)}, (Q.map Prod.fst).Nodup → ∀ {a b : Nat × Nat}, a ∈ Q → b ∈ Q → a.1 = b.1 → a = b
  | [], _, a, b, ha, _, _ => by cases ha
  | q :: Q, hn, a, b, ha, hb, e => by
    rw [List.map_cons, List.nodup_cons] at hn
    rcases List.mem_cons.mp ha with ha1 | ha1
    · rcases List.mem_cons.mp hb with hb1 | hb1
      · rw [ha1, hb1]
      · exact absurd (show q.1 ∈ Q.map Prod.fst by rw [← ha1, e]; exact List.mem_map_of_mem (f := Prod.fst) hb1) hn.1
    · rcases List.mem_cons.mp hb with hb1 | hb1
      · exact absurd (show q.1 ∈ Q.map Prod.fst by rw [← hb1, ← e]; exact List.mem_map_of_mem (f := Prod.fst) ha1) hn.1
      · exact key_one hn.2 ha1 hb1 e
theorem vQ_at {g : gT} {Q : List (Nat × Nat)} (hn : (Q.map Prod.fst).Nodup) {q : Nat × Nat} (hq : q ∈ Q) : vQ g Q q.1 = truE g q.1 q.2 := by
  unfold vQ
  rw [Bool.eq_iff_iff, List.any_eq_true]
  constructor
  · rintro ⟨x, hx, h⟩
    rw [Bool.and_eq_true] at h
    have := key_one hn hx hq (of_decide_eq_true h.1)
    rw [← this]; exact h.2
  · intro h
    exact ⟨q, hq, by rw [Bool.and_eq_true]; exact ⟨decide_eq_true rfl, h⟩⟩
theorem mt_loop {τ : sT} {L : List Nat} {i j : Nat} (hS : SdAt τ L) (hl : L.length ≤ 5) (hL : ∀ y ∈ L, y < 12) (hi : i < 12) (hj : L[j]? = some i) (hno : ∀ p : Nat, p < j → L[p]? ≠ some i) : ∀ (c p f : Nat), p + c = j → c < f → ∀ K : Int32 → Option Int32, fMM_isTrue_L2 (nI i) τ K f (nI p) = K (nI j) := by
  have hjl := (List.getElem?_eq_some_iff.mp hj).1
  intro c
  induction c with
  | zero =>
    intro p f h1 h2 K
    obtain ⟨f', rfl⟩ : ∃ f', f = f' + 1 := ⟨f - 1, by omega⟩
    obtain rfl : p = j := by omega
    unfold fMM_isTrue_L2
    rw [dck_t (okI_n (by omega) (by omega)), nc (by omega), hS.2 p i hj, if_pos rfl]
  | succ c ih =>
    intro p f h1 h2 K
    obtain ⟨f', rfl⟩ : ∃ f', f = f' + 1 := ⟨f - 1, by omega⟩
    obtain ⟨y, hy⟩ := get_lt (show p < L.length by omega)
    have hyl := hL y (List.mem_of_getElem? hy)
    unfold fMM_isTrue_L2
    rw [dck_t (okI_n (by omega) (by omega)), nc (by omega), hS.2 p y hy, if_neg (fun z => by
      have := (nI_eq (by omega) (by omega)).mp z
      exact hno p (by omega) (this ▸ hy)), nI_1]
    exact ih (p + 1) f' (by omega) (by omega) K
theorem mtrue {n : Nat} {g : gT} (ok : BkOk n g) {τ : sT} (hB : BkM τ n g) {Q : List (Nat × Nat)} (hS : SdAt τ (Q.map Prod.fst)) (hD : SideAt τ Q) (hn : (Q.map Prod.fst).Nodup) (hl : Q.length ≤ 5) (hk : ∀ q ∈ Q, q.1 < n ∧ q.2 < 3) {i : Nat} (hi : i ∈ Q.map Prod.fst) : fMM_isTrue (nI i) τ = some (b01 (vQ g Q i)) := by
  have hn12 := ok.1
  obtain ⟨j, h1, h2⟩ := first_at hi
  have hq := h1
  rw [List.getElem?_map] at hq
  cases hQ : Q[j]? with
  | none => rw [hQ] at hq; cases hq
  | some q =>
    rw [hQ] at hq
    have hqi : q.1 = i := Option.some.inj hq
    have hmem := List.mem_of_getElem? hQ
    obtain ⟨hq1, hq2⟩ := hk q hmem
    have hjl := (List.getElem?_eq_some_iff.mp hQ).1
    have hL12 : ∀ y ∈ Q.map Prod.fst, y < 12 := by
      intro y hy
      obtain ⟨z, hz, rfl⟩ := List.mem_map.mp hy
      have := (hk z hz).1
      omega
    have e := mt_loop hS (by rw [List.length_map]; exact hl) hL12 (show i < 12 by omega) h1 h2 j 0 FU (by omega) (by unfold FU; omega)
    rw [nI_0] at e
    have hside := hD j q hQ
    have hv : vQ g Q i = truE g q.1 q.2 := by rw [← hqi]; exact vQ_at hn hmem
    rw [hv]
    obtain ⟨k1, k2⟩ := kd_n ok (show i < n by omega)
    have hat : fMM_at (nI i) (3 : Int32) τ = some (iI (g i 3)) := at_spec hB hn12 (by omega) (k := 3) (by omega)
    unfold fMM_isTrue
    obtain ⟨A, hA⟩ : ∃ A, FU = A := ⟨_, rfl⟩
    rw [hA] at e ⊢
    rw [dlt_u, e, db1_t hat, k1]
    simp only [dck_t (okI_n (show j < 5 by omega) (show j < 2147483648 by omega)), nc (show j < 2147483648 by omega), hside]
    unfold truE
    rw [hqi]
    have hkk : kOf g i = (g i 3).toNat := rfl
    rw [hkk]
    generalize (g i 3).toNat = k at *
    generalize q.2 = x at *
    rcases k012 k2 with rfl | rfl | rfl <;> rcases (show x = 0 ∨ x = 1 ∨ x = 2 by omega) with rfl | rfl | rfl <;> rfl
def SkAt (τ : sT) (st : List Bool) : Prop := ∀ (j : Nat) (b : Bool), st.reverse[j]? = some b → τ.1 48 j = b01 b
theorem nar_b (b : Bool) : vp_nar .boolean (b01 b) = b01 b := by cases b <;> decide
theorem SkAt.tail {τ : sT} {a : Bool} {st : List Bool} (h : SkAt τ (a :: st)) : SkAt τ st := by
  intro j b hb
  refine h j b ?_
  rw [List.reverse_cons, List.getElem?_append_left (List.getElem?_eq_some_iff.mp hb).1]
  exact hb
theorem SkAt.top {τ : sT} {a : Bool} {st : List Bool} (h : SkAt τ (a :: st)) : τ.1 48 st.length = b01 a := by
  refine h st.length a ?_
  rw [List.reverse_cons, List.getElem?_append_right (by rw [List.length_reverse]; exact Nat.le_refl _), List.length_reverse, Nat.sub_self]
  rfl
theorem SkAt.put {τ : sT} {st : List Bool} (h : SkAt τ st) (b : Bool) : SkAt (siW τ 48 st.length (b01 b)) (b :: st) := by
  intro j c hc
  rw [List.reverse_cons] at hc
  exact snoc_at (c := b01) (f := τ.1 48) (f1 := (siW τ 48 st.length (b01 b)).1 48) h (fun i => by rw [siW_s, List.length_reverse]) j c hc
theorem m1_n (k : Nat) : nI (k + 1) + (-1 : Int32) = nI k := by
  have := nI_pred k
  rw [← this, Int32.sub_eq_add_neg]
theorem holds_loop {R : List Int} {v : Nat → Bool} {τa : sT} (hl : R.length ≤ 80) (hbd : ∀ x ∈ R, -1000 < x ∧ x < 1000) (hSa : SaAt τa R) (hv : ∀ τ : sT, mOff [48] [] τa τ → ∀ i ∈ numsR R, fMM_isTrue (nI i) τ = some (b01 (v i))) {b : Bool} :
    ∀ (R2 R1 : List Int) (st : List Bool) (f : Nat) (τ : sT), R = R1 ++ R2 → mOff [48] [] τa τ → SkAt τ st → st.length ≤ R1.length → evR v R2 st = some [b] → R2.length < f → ∃ τ1, fMM_holds_L4 f (nI st.length) (nI R1.length) τ = some (b01 b, τ1) ∧ mOff [48] [] τa τ1 := by
  intro R2
  induction R2 with
  | nil =>
    intro R1 st f τ hR ho hK hst hev hf
    obtain ⟨f', rfl⟩ : ∃ f', f = f' + 1 := ⟨f - 1, by omega⟩
    have hlen : R.length = R1.length := by rw [hR, List.append_nil]
    have hS := hSa.of ho (by decide) (by decide)
    rw [evR] at hev
    have hst' := Option.some.inj hev
    subst hst'
    have h0 := hK.top
    refine ⟨τ, ?_, ho⟩
    unfold fMM_holds_L4
    rw [hS.1, if_pos (nI_le (by omega) (by omega)), dck_t (by decide), show (0 : Int32).toNatClampNeg = 0 from rfl]
    have h0' : τ.1 48 0 = b01 b := h0
    rw [h0', dck_t (okZ_b b)]
  | cons x R2 ih =>
    intro R1 st f τ hR ho hK hst hev hf
    rw [List.length_cons] at hf
    obtain ⟨f', rfl⟩ : ∃ f', f = f' + 1 := ⟨f - 1, by omega⟩
    have hlen : R.length = R1.length + (R2.length + 1) := by rw [hR, List.length_append, List.length_cons]
    have hS := hSa.of ho (by decide) (by decide)
    have hx := hbd x (by rw [hR]; simp)
    have hget : τ.1 46 R1.length = iI x := hS.2 R1.length x (by rw [hR, List.getElem?_append_right (Nat.le_refl _), Nat.sub_self]; rfl)
    have hR' : R = (R1 ++ [x]) ++ R2 := by rw [hR, List.append_assoc]; rfl
    have hl1 : (R1 ++ [x]).length = R1.length + 1 := by rw [List.length_append, List.length_singleton]
    have nx : ∀ (st' : List Bool) (τ' : sT), mOff [48] [] τa τ' → SkAt τ' st' → st'.length ≤ R1.length + 1 → evR v R2 st' = some [b] → ∃ τ1, fMM_holds_L4 f' (nI st'.length) (nI R1.length + (1 : Int32)) τ' = some (b01 b, τ1) ∧ mOff [48] [] τa τ1 := by
      intro st' τ' ho' hK' hst' hev'
      have := ih (R1 ++ [x]) st' f' τ' hR' ho' hK' (by rw [hl1]; exact hst') hev' (by omega)
      rw [hl1] at this
      rw [nI_1]; exact this
    have wr : ∀ (k : Nat) (c : Bool), mOff [48] [] τa (siW τ 48 k (b01 c)) := fun k c => ho.trans (mOff_ci (by simp) (by decide))
    unfold fMM_holds_L4
    rw [hS.1, if_neg (nI_ge (by omega) (by omega)), dck_t (okI_n (by omega) (by omega)), nc (by omega), hget, dlt_u]
    by_cases z : x < 0
    · rw [if_pos (show iI x < (0 : Int32) from (iI_lt (b := 0) (by unfold inI; omega) (by unfold inI; omega)).mpr z)]
      cases st with
      | nil =>
        have : stpR v x [] = none := by unfold stpR; rw [if_neg (by omega)]
        rw [evR, this] at hev
        cases hev
      | cons a st1 =>
        rw [List.length_cons] at hst
        by_cases z33 : x = -33
        · have hs : stpR v x (a :: st1) = some ((!a) :: st1) := by unfold stpR; rw [if_neg (by omega)]; dsimp only; rw [if_pos z33]
          rw [evR_c hs] at hev
          obtain ⟨τ1, e1, e2⟩ := nx ((!a) :: st1) (siW τ 48 st1.length (b01 (!a))) (wr _ _) (hK.tail.put _) (by rw [List.length_cons]; omega) hev
          rw [List.length_cons] at e1
          rw [if_pos (show iI x = (-33 : Int32) by rw [z33]; rfl), List.length_cons, nI_pred, dck_t (okI_n (by omega) (by omega)), nc (by omega), hK.top, dlt_u]
          refine ⟨τ1, ?_, e2⟩
          cases a
          · rw [if_pos b0]
            try dsimp only
            rw [dck_t (okI_n (by omega) (by omega)), nc (by omega), show (1 : Int32) = b01 (!false) from rfl, nar_b, dlt_u]
            exact e1
          · rw [if_neg b1]
            try dsimp only
            rw [dck_t (okI_n (by omega) (by omega)), nc (by omega), show (0 : Int32) = b01 (!true) from rfl, nar_b, dlt_u]
            exact e1
        · rw [if_neg (show ¬ iI x = (-33 : Int32) from fun w => z33 ((iI_eq (b := -33) (by unfold inI; omega) (by unfold inI; omega)).mp w))]
          cases st1 with
          | nil =>
            have : stpR v x [a] = none := by unfold stpR; rw [if_neg (by omega)]; dsimp only; rw [if_neg z33]
            rw [evR, this] at hev
            cases hev
          | cons c st2 =>
            rw [List.length_cons] at hst
            have hs : stpR v x (a :: c :: st2) = some ((if x = -38 then c && a else c || a) :: st2) := by unfold stpR; rw [if_neg (by omega)]; dsimp only; rw [if_neg z33]
            rw [evR_c hs] at hev
            have hc := hK.tail.top
            have ha := hK.top
            rw [List.length_cons] at ha
            obtain ⟨τ1, e1, e2⟩ := nx ((if x = -38 then c && a else c || a) :: st2) (siW τ 48 st2.length (b01 (if x = -38 then c && a else c || a))) (wr _ _) (hK.tail.tail.put _) (by rw [List.length_cons]; omega) hev
            rw [List.length_cons] at e1
            refine ⟨τ1, ?_, e2⟩
            have fin : ∀ y : Int32, y = b01 (if x = -38 then c && a else c || a) → (dck (okI (nI st2.length) 160) <| dlt (siW τ 48 (nI st2.length).toNatClampNeg (vp_nar .boolean y)) fun σ16 => fMM_holds_L4 f' (nI (st2.length + 1)) (nI R1.length + (1 : Int32)) σ16) = some (b01 b, τ1) := by
              intro y hy
              rw [dck_t (okI_n (by omega) (by omega)), nc (by omega), hy, nar_b, dlt_u]
              exact e1
            rw [List.length_cons, List.length_cons, dlt_u, m1_n, nI_pred, dck_t (okI_n (by omega) (by omega)), nc (by omega), nc (by omega), hc, dlt_u, dck_t (okI_n (by omega) (by omega)), ha, dlt_u]
            by_cases z38 : x = -38
            · rw [if_pos (show iI x = (-38 : Int32) by rw [z38]; rfl)]
              rw [if_pos z38] at fin
              cases c
              · rw [if_pos b0]; exact fin _ rfl
              · rw [if_neg b1]
                cases a
                · rw [if_pos b0]; exact fin _ rfl
                · rw [if_neg b1]; exact fin _ rfl
            · rw [if_neg (show ¬ iI x = (-38 : Int32) from fun w => z38 ((iI_eq (b := -38) (by unfold inI; omega) (by unfold inI; omega)).mp w))]
              rw [if_neg z38] at fin
              rw [dck_t (okI_n (show st2.length < 160 by omega) (by omega))]
              cases c
              · rw [if_pos b0, dck_t (okI_n (show st2.length + 1 < 160 by omega) (by omega))]
                cases a
                · rw [if_pos b0]; exact fin _ rfl
                · rw [if_neg b1]; exact fin _ rfl
              · rw [if_neg b1]; exact fin _ rfl
    · obtain ⟨i, hi⟩ : ∃ i : Nat, x = (i : Int) := ⟨x.toNat, by omega⟩
      subst hi
      have hnum : numsR ((i : Int) :: R2) = i :: numsR R2 := by
        unfold numsR
        rw [List.filter_cons_of_pos (by simp)]
        rfl
      have hs : stpR v (i : Int) st = some (v i :: st) := by unfold stpR; rw [if_pos (Int.natCast_nonneg i), Int.toNat_natCast]
      rw [evR_c hs] at hev
      obtain ⟨τ1, e1, e2⟩ := nx (v i :: st) (siW τ 48 st.length (b01 (v i))) (wr _ _) (hK.put _) (by rw [List.length_cons]; omega) hev
      rw [List.length_cons] at e1
      refine ⟨τ1, ?_, e2⟩
      rw [if_neg (show ¬ iI (i : Int) < (0 : Int32) from fun w => by have := (iI_lt (b := 0) (by unfold inI; omega) (by unfold inI; omega)).mp w; omega), iI_nI, db1_t (hv τ ho i (by rw [hR, numsR_app, hnum]; simp)), dck_t (okI_n (by omega) (by omega)), nc (by omega), nar_b, dlt_u, nI_1 st.length]
      exact e1
