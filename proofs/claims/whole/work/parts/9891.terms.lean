/-! reading orders: the right side, a term -/
def pC (T : List Nat) (p : Nat) : Nat := if ch T (sk T p) = 45 then sk T (sk T p + 1) else sk T p
def vC (T : List Nat) (p : Nat) : Int := if ch T (sk T p) = 45 then -((nuL T 2 (pC T p) 0).2 : Int) else ((nuL T 2 (pC T p) 0).2 : Int)
theorem pC_le {T : List Nat} {p : Nat} (hp : p ≤ T.length) : p ≤ pC T p ∧ pC T p ≤ T.length := by
  have h1 := sk_ge T p
  have h2 := sk_le hp
  unfold pC
  split
  · have : sk T p < T.length := ch_lt (by omega)
    have h3 := sk_ge T (sk T p + 1)
    have h4 := sk_le (show sk T p + 1 ≤ T.length by omega)
    omega
  · omega
theorem rt_C {T : List Nat} (hT : TxOk T) {σ : sT} {p : Nat} (h : CP T σ p) :
    ∃ σ1, fOR_readRight σ = some (iI (vC T p), σ1) ∧ scO [] σ σ1 ∧ ScAt σ1 T (nuL T 2 (pC T p) 0).1 (if nuOk T (pC T p) = true then (if ((nuL T 2 (pC T p) 0).2 : Int) ≤ 50 then -1 else (pC T p : Int)) else ((nuL T 2 (pC T p) 0).1 : Int)) := by
  have hp := h.1
  obtain ⟨σ1, e1, e2, e3⟩ := cpeek hT h
  have hle := (pC_le hp).2
  unfold fOR_readRight vC
  unfold pC at hle ⊢
  rw [db2_t e1, dlt_u]
  by_cases c45 : ch T (sk T p) = 45
  · rw [if_pos c45] at hle
    have hlt : sk T p < T.length := ch_lt (by omega)
    obtain ⟨σ2, f1, f2, f3⟩ := cpeek hT (cp_at hlt (e2.p (p' := sk T p + 1)))
    obtain ⟨σ3, g1, g2, g3⟩ := rnum_spec hT hle (lim := 50) (by omega) f2
    have g1' : fSc_readNumber (50 : Int32) σ2 = _ := g1
    rw [if_pos (show iI (ch T (sk T p)) = (45 : Int32) by rw [c45]; rfl)]
    simp only [if_pos c45]
    rw [dlt_u, if_neg (show ¬ (1 : Int32) = 0 by decide), db1_t (sstep_spec e2), db2_t f1]
    try dsimp only
    rw [db2_t g1', if_neg (show ¬ (1 : Int32) = 0 by decide), nI_iI, iI_neg]
    exact ⟨σ3, rfl, ((e3.trans (scO_p _ _)).trans f3).trans g3, g2⟩
  · rw [if_neg c45] at hle
    obtain ⟨σ3, g1, g2, g3⟩ := rnum_spec hT hle (lim := 50) (by omega) e2
    have g1' : fSc_readNumber (50 : Int32) σ1 = _ := g1
    rw [if_neg (show ¬ iI (ch T (sk T p)) = (45 : Int32) from chn hT (k := 45) c45 (by omega))]
    simp only [if_neg c45]
    rw [dlt_u, if_pos trivial]
    try dsimp only
    rw [db2_t g1', if_pos trivial, nI_iI]
    exact ⟨σ3, rfl, e3.trans g3, g2⟩
theorem selJ {β : Type} (B : Int32 → Int32 → Option β) (b : Bool) (y : Int32) : (dlt B fun J => if b01 b = 0 then J y (0 : Int32) else J y (1 : Int32)) = B y (b01 b) := by
  cases b <;> rfl
theorem addB (p : Nat) (b : Bool) : nI p + b01 b = nI (if b = true then p + 1 else p) := by
  cases b
  · rw [b0, Int32.add_zero]; rfl
  · exact nI_1 p
theorem rt_M {T : List Nat} (hT : TxOk T) {τ : sT} {p : Nat} (h : MP T τ p) :
    ∃ τ1, fMM_takesBound τ = some (b01 (nuOk T (pC T p) && decide ((nuL T 2 (pC T p) 0).2 ≤ 50)), τ1) ∧ mOff [49] [27, 32] τ τ1 ∧ MsAt τ1 T (if nuOk T (pC T p) = true then (if (nuL T 2 (pC T p) 0).2 ≤ 50 then (nuL T 2 (pC T p) 0).1 else pC T p) else (nuL T 2 (pC T p) 0).1) ∧ (nuOk T (pC T p) = true → ∀ j, τ1.1 49 j = if j = 4 then iI (vC T p) else τ.1 49 j) := by
  have hp := h.1
  obtain ⟨τ1, e1, e2, e3⟩ := mhere hT h
  have hle := (pC_le hp).2
  have hq := sk_le hp
  obtain ⟨b, hb⟩ : ∃ b, b = decide (ch T (sk T p) = 45) := ⟨_, rfl⟩
  have hlt : b = true → sk T p < T.length := fun z => ch_lt (by rw [hb] at z; have := of_decide_eq_true z; omega)
  have hx : (if iI (ch T (sk T p)) = (45 : Int32) then (1 : Int32) else 0) = b01 b := by
    by_cases c45 : ch T (sk T p) = 45
    · rw [hb, decide_eq_true c45, c45, if_pos (show iI 45 = (45 : Int32) from rfl)]; rfl
    · rw [hb, decide_eq_false c45, if_neg (show ¬ iI (ch T (sk T p)) = (45 : Int32) from chn hT (k := 45) c45 (by omega))]; rfl
  have hJ : ∀ B : Int32 → Option (Int32 × sT), (dlt B fun J5 => if iI (ch T (sk T p)) = (45 : Int32) then J5 (1 : Int32) else J5 (0 : Int32)) = B (b01 b) := by
    intro B
    rw [← hx, dlt_u]
    split <;> rfl
  obtain ⟨p1, hp1⟩ : ∃ p1, p1 = (if b = true then sk T p + 1 else sk T p) := ⟨_, rfl⟩
  have hp1l : p1 ≤ T.length := by
    rw [hp1]
    split
    · rename_i z
      have := hlt z
      omega
    · omega
  have hpc : pC T p = sk T p1 := by
    unfold pC
    by_cases c45 : ch T (sk T p) = 45
    · rw [if_pos c45, hp1, hb, decide_eq_true c45, if_pos rfl]
    · rw [if_neg c45, hp1, hb, decide_eq_false c45, if_neg (by decide), sk_sk]
  obtain ⟨τa, ha⟩ : ∃ t, t = siW τ1 33 27 (nI p1) := ⟨_, rfl⟩
  have oa : mOff [49] [27, 32] τ1 τa := by rw [ha]; exact mOff_si (by simp)
  have hA : MsAt τa T p1 := by rw [ha]; exact e2.p
  obtain ⟨τ2, f1, f2, f3⟩ := mhere hT (mp_at hp1l hA)
  rw [← hpc] at f1 f2
  obtain ⟨τ3, g1, g2, g3, g4⟩ := tnum_spec hT hle f2
  have hv := nuL_v2 T (pC T p)
  have o3 : mOff [49] [27, 32] τ τ3 := (((e3.mono (by simp) (by simp)).trans oa).trans (f3.mono (by simp) (by simp))).trans (g4.mono (by simp) (by simp))
  have h49 : τ3.1 49 = τ.1 49 := by
    rw [(g4.1 49 (by decide) (by decide)).1, (f3.1 49 (by decide) (by decide)).1, ha]
    funext j
    rw [siW_n (by decide), (e3.1 49 (by decide) (by decide)).1]
  have hvC : vC T p = if b = true then -((nuL T 2 (pC T p) 0).2 : Int) else ((nuL T 2 (pC T p) 0).2 : Int) := by
    unfold vC
    by_cases c45 : ch T (sk T p) = 45
    · rw [if_pos c45, hb, decide_eq_true c45, if_pos rfl]
    · rw [if_neg c45, hb, decide_eq_false c45, if_neg (by decide)]
  rw [hvC]
  unfold fMM_takesBound
  rw [db2_t e1, hJ]
  try dsimp only
  rw [selJ, e2.2]
  try dsimp only
  rw [addB, ← hp1, dlt_u, ← ha, db2_t f1, dlt_u, f2.2, db2_t g1]
  generalize nuL T 2 (pC T p) 0 = r at *
  obtain ⟨r, v⟩ := r
  dsimp only at *
  cases hk : nuOk T (pC T p)
  · rw [if_pos b0, Bool.false_and]
    refine ⟨τ3, rfl, o3, ?_, fun z => by cases z⟩
    rw [if_neg (by decide)]
    exact g2
  · rw [if_neg b1, dlt_u, g3, Bool.true_and, if_pos rfl]
    have fin : ∀ (y : Nat), ∃ τ4, (dlt (siW τ3 33 27 (nI y)) fun σ20 =>
          dlt (fun (x21 : Int32) (x22 : Int32) =>
            dck (okI x21 5) <|
            dlt (siW σ20 49 x21.toNatClampNeg x22) fun σ25 =>
            if (50 : Int32) < (σ25.1 33 32) then
              some ((0 : Int32), σ25)
            else
              some ((1 : Int32), σ25)) fun J23 =>
          if b01 b = 0 then
            J23 (4 : Int32) (σ20.1 33 32)
          else
            J23 (4 : Int32) (-(σ20.1 33 32))) = some (b01 (decide (v ≤ 50)), τ4) ∧ mOff [49] [27, 32] τ τ4 ∧ MsAt τ4 T y ∧ ∀ j, τ4.1 49 j = if j = 4 then iI (if b = true then -(v : Int) else (v : Int)) else τ.1 49 j := by
      intro y
      have h32 : (siW τ3 33 27 (nI y)).1 33 32 = nI v := by rw [siW_s, if_neg (by decide)]; exact g3
      obtain ⟨τ4, h4⟩ : ∃ t, t = siW (siW τ3 33 27 (nI y)) 49 4 (iI (if b = true then -(v : Int) else (v : Int))) := ⟨_, rfl⟩
      have o4 : mOff [49] [27, 32] τ3 τ4 := by rw [h4]; exact (mOff_si (by simp)).trans (mOff_ci (by simp) (by decide))
      have h32' : τ4.1 33 32 = nI v := by rw [h4, siW_n (by decide)]; exact h32
      refine ⟨τ4, ?_, o3.trans o4, ⟨g2.1.ms o4 (by decide) (by decide), ?_⟩, fun j => ?_⟩
      · have last : (if (50 : Int32) < (τ4.1 33 32) then some ((0 : Int32), τ4) else some ((1 : Int32), τ4)) = some (b01 (decide (v ≤ 50)), τ4) := by
          rw [h32']
          by_cases u : v ≤ 50
          · rw [if_neg (show ¬ (50 : Int32) < nI v from nI_nlt (a := 50) u (by omega)), decide_eq_true u]; rfl
          · rw [if_pos (show (50 : Int32) < nI v from nI_lt (a := 50) (by omega) (by omega)), decide_eq_false u]; rfl
        rw [dlt_u, h32, dlt_u]
        cases b
        · rw [if_pos b0]
          try dsimp only
          rw [if_neg (by decide)] at h4
          rw [dck_t (by decide), dlt_u, show (4 : Int32).toNatClampNeg = 4 from rfl, nI_iI v, ← h4]
          exact last
        · rw [if_neg b1]
          try dsimp only
          rw [if_pos rfl] at h4
          rw [dck_t (by decide), dlt_u, show (4 : Int32).toNatClampNeg = 4 from rfl, nI_iI v, iI_neg, ← h4]
          exact last
      · rw [h4, siW_n (by decide), siW_s, if_pos rfl]
      · rw [h4, siW_s, siW_n (by decide), h49]
    by_cases u : v ≤ 50
    · rw [if_pos (show nI v ≤ (50 : Int32) from nI_le (b := 50) u (by omega)), if_pos u, g2.2]
      try dsimp only
      obtain ⟨τ4, k1, k2, k3, k4⟩ := fin r
      exact ⟨τ4, k1, k2, k3, fun _ => k4⟩
    · rw [if_neg (show ¬ nI v ≤ (50 : Int32) from nI_ge (a := 50) (by omega) (by omega)), if_neg u]
      try dsimp only
      obtain ⟨τ4, k1, k2, k3, k4⟩ := fin (pC T p)
      exact ⟨τ4, k1, k2, k3, fun _ => k4⟩
def RtF (T : List Nat) (p q : Nat) : Prop :=
  (∀ σ, CP T σ p → ∃ x σ1, fOR_readRight σ = some (x, σ1) ∧ scO [] σ σ1 ∧ CF T σ1 q) ∧ (∀ τ, MP T τ p → ∃ τ1, fMM_takesBound τ = some (0, τ1) ∧ mOff [49] [27, 32] τ τ1 ∧ MF T τ1 q)
def RtS (T : List Nat) (p q : Nat) (d : Int) : Prop :=
  (∀ σ, CP T σ p → ∃ σ1, fOR_readRight σ = some (iI d, σ1) ∧ scO [] σ σ1 ∧ CP T σ1 q) ∧ (∀ τ, MP T τ p → ∃ τ1, fMM_takesBound τ = some (1, τ1) ∧ mOff [49] [27, 32] τ τ1 ∧ MP T τ1 q ∧ ∀ j, τ1.1 49 j = if j = 4 then iI d else τ.1 49 j)
theorem right_x {T : List Nat} (hT : TxOk T) {p : Nat} (hp : p ≤ T.length) : (∃ q, RtF T p q) ∨ ∃ q d, (-50 ≤ d ∧ d ≤ 50) ∧ p ≤ q ∧ q ≤ T.length ∧ RtS T p q d := by
  obtain ⟨a1, a2⟩ := pC_le hp
  obtain ⟨b1', b2', b3'⟩ := nuL_pl (T := T) 2 (pC T p) 0 a2
  cases hk : nuOk T (pC T p)
  · refine Or.inl ⟨(nuL T 2 (pC T p) 0).1, fun σ h => ?_, fun τ h => ?_⟩
    · obtain ⟨σ1, e1, e2, e3⟩ := rt_C hT h
      rw [hk, if_neg (by decide)] at e3
      exact ⟨_, σ1, e1, e2, b2', _, b2', e3⟩
    · obtain ⟨τ1, e1, e2, e3, e4⟩ := rt_M hT h
      rw [hk, if_neg (by decide)] at e3
      rw [hk] at e1
      exact ⟨τ1, e1, e2, b2', e3⟩
  · by_cases u : (nuL T 2 (pC T p) 0).2 ≤ 50
    · refine Or.inr ⟨(nuL T 2 (pC T p) 0).1, vC T p, ?_, by omega, b2', fun σ h => ?_, fun τ h => ?_⟩
      · unfold vC; split <;> omega
      · obtain ⟨σ1, e1, e2, e3⟩ := rt_C hT h
        rw [hk, if_pos rfl, if_pos (by omega)] at e3
        exact ⟨σ1, e1, e2, cp_at b2' e3⟩
      · obtain ⟨τ1, e1, e2, e3, e4⟩ := rt_M hT h
        rw [hk, if_pos rfl, if_pos u] at e3
        rw [hk, decide_eq_true u] at e1
        exact ⟨τ1, e1, e2, mp_at b2' e3, e4 hk⟩
    · refine Or.inl ⟨pC T p, fun σ h => ?_, fun τ h => ?_⟩
      · obtain ⟨σ1, e1, e2, e3⟩ := rt_C hT h
        rw [hk, if_pos rfl, if_neg (by omega)] at e3
        exact ⟨_, σ1, e1, e2, a2, _, b2', e3⟩
      · obtain ⟨τ1, e1, e2, e3, e4⟩ := rt_M hT h
        rw [hk, if_pos rfl, if_neg u] at e3
        rw [hk, decide_eq_false u] at e1
        exact ⟨τ1, e1, e2, a2, e3⟩
