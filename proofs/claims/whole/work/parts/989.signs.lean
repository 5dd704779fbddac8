/-! reading orders: places up to blanks; sign, digit, kind, right side -/
theorem sk_id {T : List Nat} {p : Nat} (h : ch T p ≠ 32) : sk T p = p := by
  unfold sk
  cases T.length - p with
  | zero => rfl
  | succ f => rw [skp, if_neg h]
theorem sk_sk (T : List Nat) (p : Nat) : sk T (sk T p) = sk T p := sk_id sk_not
/-- the class at a place, up to blanks; with a fault; the model likewise -/
def CP (T : List Nat) (σ : sT) (p : Nat) : Prop := p ≤ T.length ∧ ∃ r, r ≤ T.length ∧ sk T r = sk T p ∧ ScAt σ T r (-1)
def CF (T : List Nat) (σ : sT) (q : Nat) : Prop := q ≤ T.length ∧ ∃ r, r ≤ T.length ∧ ScAt σ T r (q : Int)
def MP (T : List Nat) (τ : sT) (p : Nat) : Prop := p ≤ T.length ∧ ∃ r, r ≤ T.length ∧ sk T r = sk T p ∧ MsAt τ T r
def MF (T : List Nat) (τ : sT) (q : Nat) : Prop := q ≤ T.length ∧ MsAt τ T q
theorem cp_at {T : List Nat} {σ : sT} {p : Nat} (hp : p ≤ T.length) (h : ScAt σ T p (-1)) : CP T σ p := ⟨hp, p, hp, rfl, h⟩
theorem mp_at {T : List Nat} {τ : sT} {p : Nat} (hp : p ≤ T.length) (h : MsAt τ T p) : MP T τ p := ⟨hp, p, hp, rfl, h⟩
theorem cp_sk {T : List Nat} {σ : sT} {p : Nat} (hp : p ≤ T.length) (h : ScAt σ T (sk T p) (-1)) : CP T σ p := ⟨hp, sk T p, sk_le hp, sk_sk T p, h⟩
theorem mp_sk {T : List Nat} {τ : sT} {p : Nat} (hp : p ≤ T.length) (h : MsAt τ T (sk T p)) : MP T τ p := ⟨hp, sk T p, sk_le hp, sk_sk T p, h⟩
theorem cpeek {T : List Nat} (hT : TxOk T) {σ : sT} {p : Nat} (h : CP T σ p) : ∃ σ1, fSc_peek σ = some (iI (ch T (sk T p)), σ1) ∧ ScAt σ1 T (sk T p) (-1) ∧ scO [] σ σ1 := by
  obtain ⟨hp, r, hr, e, hS⟩ := h
  obtain ⟨σ1, e1, e2, e3⟩ := speek_spec hT hS hr
  rw [e] at e1 e2
  exact ⟨σ1, e1, e2, e3⟩
theorem cpeek_k {T : List Nat} (hT : TxOk T) {σ : sT} {p : Nat} (h : CP T σ p) {k : Int} (hk : ch T (sk T p) = k) : ∃ σ1, fSc_peek σ = some (iI k, σ1) ∧ ScAt σ1 T (sk T p) (-1) ∧ scO [] σ σ1 := by
  have := cpeek hT h
  rw [hk] at this; exact this
theorem mhere {T : List Nat} (hT : TxOk T) {τ : sT} {p : Nat} (h : MP T τ p) : ∃ τ1, fMM_here τ = some (iI (ch T (sk T p)), τ1) ∧ MsAt τ1 T (sk T p) ∧ mOff [] [27] τ τ1 := by
  obtain ⟨hp, r, hr, e, hS⟩ := h
  obtain ⟨τ1, e1, e2, e3⟩ := mhere_spec hT hS hr
  rw [e] at e1 e2
  exact ⟨τ1, e1, e2, e3⟩
theorem mhere_k {T : List Nat} (hT : TxOk T) {τ : sT} {p : Nat} (h : MP T τ p) {k : Int} (hk : ch T (sk T p) = k) : ∃ τ1, fMM_here τ = some (iI k, τ1) ∧ MsAt τ1 T (sk T p) ∧ mOff [] [27] τ τ1 := by
  have := mhere hT h
  rw [hk] at this; exact this
theorem ScAt.w {T : List Nat} {σ : sT} {p : Nat} {q : Int} (h : ScAt σ T p q) {c k : Nat} {v : Int32} (h1 : 26 ≠ c) (h2 : 27 ≠ c) : ScAt (siW σ c k v) T p q := by
  refine ⟨⟨?_, fun j y hy => ?_⟩, ?_, ?_⟩
  · rw [siW_n h1]; exact h.1.1
  · rw [siW_n h2]; exact h.1.2 j y hy
  · rw [siW_n h1]; exact h.2.1
  · rw [siW_n h1]; exact h.2.2
theorem CP.w {T : List Nat} {σ : sT} {p : Nat} (h : CP T σ p) {c k : Nat} {v : Int32} (h1 : 26 ≠ c) (h2 : 27 ≠ c) : CP T (siW σ c k v) p := by
  obtain ⟨hp, r, hr, e, hS⟩ := h
  exact ⟨hp, r, hr, e, hS.w h1 h2⟩
theorem CF.w {T : List Nat} {σ : sT} {p : Nat} (h : CF T σ p) {c k : Nat} {v : Int32} (h1 : 26 ≠ c) (h2 : 27 ≠ c) : CF T (siW σ c k v) p := by
  obtain ⟨hp, r, hr, hS⟩ := h
  exact ⟨hp, r, hr, hS.w h1 h2⟩
theorem CP.no {T : List Nat} {σ : sT} {p : Nat} (h : CP T σ p) : fSc_hasFailed σ = some (0 : Int32) := by
  obtain ⟨hp, r, hr, e, hS⟩ := h
  exact hasF0 hS.2.2
theorem CF.yes {T : List Nat} (hT : TxOk T) {σ : sT} {p : Nat} (h : CF T σ p) : fSc_hasFailed σ = some (1 : Int32) := by
  obtain ⟨hp, r, hr, hS⟩ := h
  have := hT.1
  exact hasF1 hS.2.2 (by omega)
theorem scO_c {C : List Nat} {σ : sT} {c k : Nat} {v : Int32} (h : c ∈ C) (h1 : c ≠ 26) : scO C σ (siW σ c k v) :=
  ⟨fun q hq _ => ⟨by funext j; exact siW_n (show q ≠ c from fun e => hq (e ▸ h)) j, rfl⟩, fun k _ _ => by rw [siW_n (Ne.symm h1)]⟩
/-- a fault at the place where the scanner stands -/
theorem cfail {T : List Nat} {σ : sT} {q : Nat} (hq : q ≤ T.length) (h : ScAt σ T q (-1)) : fSc_failAt (σ.1 26 2) σ = some (siW σ 26 3 (iI (q : Int))) ∧ CF T (siW σ 26 3 (iI (q : Int))) q := by
  refine ⟨?_, hq, q, hq, h.q⟩
  rw [fail0 h.2.2, h.2.1, nI_iI]
theorem MsAt.w {T : List Nat} {τ : sT} {p : Nat} (h : MsAt τ T p) {c k : Nat} {v : Int32} (h1 : 33 ≠ c) (h2 : 45 ≠ c) : MsAt (siW τ c k v) T p := by
  refine ⟨⟨?_, fun j y hy => ?_⟩, ?_⟩
  · rw [siW_n h1]; exact h.1.1
  · rw [siW_n h2]; exact h.1.2 j y hy
  · rw [siW_n h1]; exact h.2
/-! sign and digit of a term -/
def sgd (T : List Nat) (a : Bool) (p : Nat) : Bool := decide (ch T (sk T p) = 45) || (decide (ch T (sk T p) = 43) && !a)
def pA (T : List Nat) (a : Bool) (p : Nat) : Nat := if sgd T a p = true then sk T p + 1 else sk T p
def vAx (T : List Nat) (p : Nat) : Int := if ch T (sk T p) = 45 then -1 else 1
def tld (T : List Nat) (p : Nat) : Bool := decide (49 ≤ ch T (sk T p) ∧ ch T (sk T p) ≤ 53)
def pB (T : List Nat) (p : Nat) : Nat := if tld T p = true then sk T p + 1 else sk T p
def vBx (T : List Nat) (p : Nat) : Int := if tld T p = true then ch T (sk T p) - 48 else 1
theorem vAx_i (T : List Nat) (p : Nat) : vAx T p = -1 ∨ vAx T p = 1 := by unfold vAx; split <;> omega
theorem vBx_i (T : List Nat) (p : Nat) : 1 ≤ vBx T p ∧ vBx T p ≤ 5 := by
  unfold vBx tld
  split
  · rename_i h
    have := of_decide_eq_true h
    omega
  · omega
theorem pA_le {T : List Nat} {a : Bool} {p : Nat} (hp : p ≤ T.length) : p ≤ pA T a p ∧ pA T a p ≤ T.length := by
  have h1 := sk_ge T p
  have h2 := sk_le hp
  unfold pA sgd
  split
  · rename_i h
    have : sk T p < T.length := ch_lt (by
      intro z
      rw [z] at h
      simp at h)
    omega
  · omega
theorem pB_le {T : List Nat} {p : Nat} (hp : p ≤ T.length) : p ≤ pB T p ∧ pB T p ≤ T.length := by
  have h1 := sk_ge T p
  have h2 := sk_le hp
  unfold pB tld
  split
  · rename_i h
    have h := of_decide_eq_true h
    have : sk T p < T.length := ch_lt (by omega)
    omega
  · omega
theorem rsign {T : List Nat} (hT : TxOk T) (a : Bool) {σ : sT} {p : Nat} (h : CP T σ p) :
    ∃ σ1, fOR_readSign (b01 a) σ = some (if (sgd T a p || a) = true then iI (vAx T p) else 0, σ1) ∧ CP T σ1 (pA T a p) ∧ scO [] σ σ1 := by
  have hp := h.1
  have hle := (pA_le (a := a) hp).2
  obtain ⟨σ1, e1, e2, e3⟩ := cpeek hT h
  unfold fOR_readSign
  rw [db2_t e1]
  unfold pA at hle ⊢
  by_cases c45 : ch T (sk T p) = 45
  · have hs : sgd T a p = true := by unfold sgd; rw [decide_eq_true c45]; rfl
    have hv : vAx T p = -1 := by unfold vAx; rw [if_pos c45]
    rw [hs, if_pos rfl] at hle
    rw [c45, if_pos (show iI 45 = (45 : Int32) from rfl), db1_t (sstep_spec e2), hs, hv, Bool.true_or, if_pos rfl, if_pos rfl]
    exact ⟨_, rfl, cp_at hle e2.p, e3.trans (scO_p _ _)⟩
  · have hv : vAx T p = 1 := by unfold vAx; rw [if_neg c45]
    rw [if_neg (show ¬ iI (ch T (sk T p)) = (45 : Int32) from chn hT (k := 45) c45 (by omega)), dlt_u, hv]
    have rest : sgd T a p = false → ∃ σ2, (if b01 a = 0 then some ((0 : Int32), σ1) else some ((1 : Int32), σ1)) = some (if (sgd T a p || a) = true then iI 1 else 0, σ2) ∧ CP T σ2 (if sgd T a p = true then sk T p + 1 else sk T p) ∧ scO [] σ σ2 := by
      intro hs
      refine ⟨σ1, ?_, ?_, e3⟩
      · rw [hs]
        cases a
        · rw [if_pos b0, if_neg (by decide)]
        · rw [if_neg b1, if_pos (by decide)]; rfl
      · rw [hs, if_neg (by decide)]
        exact cp_at (sk_le hp) e2
    by_cases c43 : ch T (sk T p) = 43
    · rw [c43, if_pos (show iI 43 = (43 : Int32) from rfl)]
      cases a
      · have hs : sgd T false p = true := by unfold sgd; rw [decide_eq_true c43]; simp
        rw [hs, if_pos rfl] at hle
        rw [if_pos b0, db1_t (sstep_spec e2), hs, Bool.true_or, if_pos rfl, if_pos rfl]
        exact ⟨_, rfl, cp_at hle e2.p, e3.trans (scO_p _ _)⟩
      · have hs : sgd T true p = false := by unfold sgd; rw [decide_eq_false c45]; simp
        rw [if_neg b1]
        exact rest hs
    · have hs : sgd T a p = false := by unfold sgd; rw [decide_eq_false c45, decide_eq_false c43]; rfl
      rw [if_neg (show ¬ iI (ch T (sk T p)) = (43 : Int32) from chn hT (k := 43) c43 (by omega))]
      exact rest hs
theorem rdigit {T : List Nat} (hT : TxOk T) {σ : sT} {p : Nat} (h : CP T σ p) :
    ∃ σ1, fOR_readDigit σ = some (iI (vBx T p), σ1) ∧ CP T σ1 (pB T p) ∧ scO [] σ σ1 := by
  have hp := h.1
  have hle := (pB_le hp).2
  obtain ⟨σ1, e1, e2, e3⟩ := cpeek hT h
  have hw : fRM_isWithin (iI (ch T (sk T p))) (49 : Int32) (53 : Int32) = some (b01 (tld T p)) := by
    have : tld T p = wi (iI (ch T (sk T p))) 49 53 := by rw [wi_ch hT]; rfl
    rw [this]
    exact wiC _ 49 53 rfl rfl (by decide) (by decide)
  unfold fOR_readDigit
  rw [db2_t e1, db1_t hw]
  unfold pB at hle ⊢
  unfold vBx
  cases ht : tld T p
  · rw [if_pos b0, if_neg (by decide), if_neg (by decide)]
    exact ⟨_, rfl, cp_at (sk_le hp) e2, e3⟩
  · rw [ht, if_pos rfl] at hle
    rw [if_neg b1, if_pos rfl, if_pos rfl, db1_t (sstep_spec e2), show (48 : Int32) = iI 48 from rfl, iI_sub]
    exact ⟨_, rfl, cp_at hle e2.p, e3.trans (scO_p _ _)⟩
/-! the kind -/
def KdF (T : List Nat) (p q : Nat) : Prop :=
  (∀ σ, CP T σ p → ∃ x σ1, fOR_readKind σ = some (x, σ1) ∧ scO [] σ σ1 ∧ CF T σ1 q) ∧ (∀ τ, MP T τ p → ∃ τ1, fMM_takesKind τ = some (0, τ1) ∧ mOff [49] [27] τ τ1 ∧ MF T τ1 q)
def KdS (T : List Nat) (p q k : Nat) : Prop :=
  (∀ σ, CP T σ p → ∃ σ1, fOR_readKind σ = some (nI k, σ1) ∧ scO [] σ σ1 ∧ CP T σ1 q) ∧ (∀ τ, MP T τ p → ∃ τ1, fMM_takesKind τ = some (1, τ1) ∧ mOff [49] [27] τ τ1 ∧ MP T τ1 q ∧ ∀ j, τ1.1 49 j = if j = 3 then nI k else τ.1 49 j)
theorem kind_f {T : List Nat} (hT : TxOk T) {p : Nat} (hp : p ≤ T.length) (c60 : ch T (sk T p) ≠ 60) (c61 : ch T (sk T p) ≠ 61) : KdF T p (sk T p) := by
  have hq := sk_le hp
  refine ⟨fun σ h => ?_, fun τ h => ?_⟩
  · obtain ⟨σ1, e1, e2, e3⟩ := cpeek hT h
    obtain ⟨f1, f2⟩ := cfail hq e2
    unfold fOR_readKind
    rw [db2_t e1, dlt_u, if_neg (show ¬ iI (ch T (sk T p)) = (60 : Int32) from chn hT (k := 60) c60 (by omega)), if_neg (show ¬ iI (ch T (sk T p)) = (61 : Int32) from chn hT (k := 61) c61 (by omega)), db1_t f1]
    exact ⟨_, _, rfl, e3.trans (scO_q _ _), f2⟩
  · obtain ⟨τ1, e1, e2, e3⟩ := mhere hT h
    unfold fMM_takesKind
    rw [db2_t e1, dlt_u, if_neg (show ¬ iI (ch T (sk T p)) = (60 : Int32) from chn hT (k := 60) c60 (by omega)), if_neg (show ¬ iI (ch T (sk T p)) = (61 : Int32) from chn hT (k := 61) c61 (by omega))]
    exact ⟨_, rfl, e3.mono (by simp) (by simp), hq, e2⟩
/-- the end of the model's kind -/
theorem kind_m {T : List Nat} {q k : Nat} (hq : q ≤ T.length) {τ τ1 : sT} (o : mOff [49] [27] τ τ1) (h : TxM τ1 T) (x : Int32) (hx : x = nI q) : mOff [49] [27] τ (siW (siW τ1 33 27 x) 49 3 (nI k)) ∧ MP T (siW (siW τ1 33 27 x) 49 3 (nI k)) q ∧ (τ1.1 49 = τ.1 49 → ∀ j, (siW (siW τ1 33 27 x) 49 3 (nI k)).1 49 j = if j = 3 then nI k else τ.1 49 j) := by
  have o2 : mOff [49] [27] τ1 (siW (siW τ1 33 27 x) 49 3 (nI k)) := (mOff_si (by simp)).trans (mOff_ci (by simp) (by decide))
  refine ⟨o.trans o2, mp_at hq ⟨h.ms o2 (by decide) (by decide), ?_⟩, fun e j => ?_⟩
  · rw [siW_n (by decide), siW_s, if_pos rfl, hx]
  · rw [siW_s, ← e, siW_n (by decide)]
theorem kind_x {T : List Nat} (hT : TxOk T) {p : Nat} (hp : p ≤ T.length) : KdF T p (sk T p) ∨ ∃ q k, k ≤ 2 ∧ p < q ∧ q ≤ T.length ∧ KdS T p q k := by
  have hl := hT.1
  have hq := sk_le hp
  have hg := sk_ge T p
  by_cases c60 : ch T (sk T p) = 60
  · have hlt : sk T p < T.length := ch_lt (by omega)
    refine Or.inr ?_
    by_cases d61 : ch T (sk T p + 1) = 61
    · have hlt2 : sk T p + 1 < T.length := ch_lt (by omega)
      refine ⟨sk T p + 1 + 1, 1, by omega, by omega, by omega, fun σ h => ?_, fun τ h => ?_⟩
      · obtain ⟨σ1, e1, e2, e3⟩ := cpeek_k hT h c60
        have e4 := shere_spec hT (e2.p (p' := sk T p + 1)) hlt
        rw [d61] at e4
        unfold fOR_readKind
        rw [db2_t e1, dlt_u, if_pos (show iI 60 = (60 : Int32) from rfl), db1_t (sstep_spec e2), if_neg (show ¬ iI 60 = (61 : Int32) by decide), db1_t e4, if_pos (show iI 61 = (61 : Int32) from rfl), db1_t (sstep_spec e2.p)]
        exact ⟨_, rfl, (e3.trans (scO_p _ _)).trans (scO_p _ _), cp_at hlt2 e2.p.p⟩
      · obtain ⟨τ1, e1, e2, e3⟩ := mhere_k hT h c60
        obtain ⟨y, hy, hy'⟩ := ch_in hlt2
        have hy61 : nI y = (61 : Int32) := by rw [show y = 61 by omega]; rfl
        obtain ⟨τa, ha⟩ : ∃ t, t = siW τ1 33 27 (nI (sk T p + 1)) := ⟨_, rfl⟩
        have oa : mOff [49] [27] τ1 τa := by rw [ha]; exact mOff_si (by simp)
        have hA : MsAt τa T (sk T p + 1) := by rw [ha]; exact e2.p
        obtain ⟨k1, k2, k3⟩ := kind_m (k := 1) hlt2 ((e3.mono (by simp) (by simp)).trans oa) hA.1 (nI (sk T p + 1) + (1 : Int32)) (by rw [nI_1])
        unfold fMM_takesKind
        rw [db2_t e1, dlt_u, if_pos (show iI 60 = (60 : Int32) from rfl), e2.2, nI_1, dlt_u, ← ha, dlt_u, dlt_u, if_pos (show iI 60 = (60 : Int32) from rfl), hA.1.1, hA.2, if_neg (nI_ge (by omega) (by omega)), dck_t (okI_n (by omega) (by omega)), nc (by omega), hA.1.2 _ y hy, if_pos hy61]
        dsimp only
        rw [dlt_u, if_neg (show ¬ (1 : Int32) = 0 by decide)]
        dsimp only
        rw [dlt_u, dlt_u, if_neg (show ¬ iI 60 = (61 : Int32) by decide), if_neg (show ¬ (1 : Int32) = 0 by decide)]
        dsimp only
        rw [dck_t (by decide), dlt_u]
        exact ⟨_, rfl, k1, k2, k3 (by rw [ha]; funext j; rw [siW_n (by decide), (e3.1 49 (by decide) (by decide)).1])⟩
    · refine ⟨sk T p + 1, 0, by omega, by omega, by omega, fun σ h => ?_, fun τ h => ?_⟩
      · obtain ⟨σ1, e1, e2, e3⟩ := cpeek_k hT h c60
        have e4 := shere_spec hT (e2.p (p' := sk T p + 1)) hlt
        unfold fOR_readKind
        rw [db2_t e1, dlt_u, if_pos (show iI 60 = (60 : Int32) from rfl), db1_t (sstep_spec e2), if_neg (show ¬ iI 60 = (61 : Int32) by decide), db1_t e4, if_neg (show ¬ iI (ch T (sk T p + 1)) = (61 : Int32) from chn hT (k := 61) d61 (by omega))]
        exact ⟨_, rfl, e3.trans (scO_p _ _), cp_at hlt e2.p⟩
      · obtain ⟨τ1, e1, e2, e3⟩ := mhere_k hT h c60
        obtain ⟨τa, ha⟩ : ∃ t, t = siW τ1 33 27 (nI (sk T p + 1)) := ⟨_, rfl⟩
        have oa : mOff [49] [27] τ1 τa := by rw [ha]; exact mOff_si (by simp)
        have hA : MsAt τa T (sk T p + 1) := by rw [ha]; exact e2.p
        obtain ⟨k1, k2, k3⟩ := kind_m (k := 0) hlt ((e3.mono (by simp) (by simp)).trans oa) hA.1 (nI (sk T p + 1) + (0 : Int32)) (by rw [Int32.add_zero])
        have k3' := k3 (by rw [ha]; funext j; rw [siW_n (by decide), (e3.1 49 (by decide) (by decide)).1])
        unfold fMM_takesKind
        rw [db2_t e1, dlt_u, if_pos (show iI 60 = (60 : Int32) from rfl), e2.2, nI_1, dlt_u, ← ha, dlt_u, dlt_u, if_pos (show iI 60 = (60 : Int32) from rfl), hA.1.1, hA.2]
        by_cases u : sk T p + 1 < T.length
        · obtain ⟨y, hy, hy'⟩ := ch_in u
          have hyl := hT.2 y (List.mem_of_getElem? hy)
          have hy61 : ¬ nI y = (61 : Int32) := fun w => by
            have := (nI_eq (b := 61) (by omega) (by omega)).mp w
            omega
          rw [if_neg (nI_ge (by omega) (by omega)), dck_t (okI_n (by omega) (by omega)), nc (by omega), hA.1.2 _ y hy, if_neg hy61]
          dsimp only
          rw [dlt_u, if_pos rfl]
          dsimp only
          rw [dlt_u, dlt_u, if_neg (show ¬ iI 60 = (61 : Int32) by decide), if_pos rfl]
          dsimp only
          rw [dck_t (by decide), dlt_u]
          exact ⟨_, rfl, k1, k2, k3'⟩
        · rw [if_pos (nI_le (by omega) (by omega))]
          dsimp only
          rw [dlt_u, if_pos rfl]
          dsimp only
          rw [dlt_u, dlt_u, if_neg (show ¬ iI 60 = (61 : Int32) by decide), if_pos rfl]
          dsimp only
          rw [dck_t (by decide), dlt_u]
          exact ⟨_, rfl, k1, k2, k3'⟩
  · by_cases c61 : ch T (sk T p) = 61
    · have hlt : sk T p < T.length := ch_lt (by omega)
      refine Or.inr ⟨sk T p + 1, 2, by omega, by omega, by omega, fun σ h => ?_, fun τ h => ?_⟩
      · obtain ⟨σ1, e1, e2, e3⟩ := cpeek_k hT h c61
        unfold fOR_readKind
        rw [db2_t e1, dlt_u, if_neg (show ¬ iI 61 = (60 : Int32) by decide), if_pos (show iI 61 = (61 : Int32) from rfl), db1_t (sstep_spec e2), if_pos (show iI 61 = (61 : Int32) from rfl)]
        exact ⟨_, rfl, e3.trans (scO_p _ _), cp_at hlt e2.p⟩
      · obtain ⟨τ1, e1, e2, e3⟩ := mhere_k hT h c61
        obtain ⟨τa, ha⟩ : ∃ t, t = siW τ1 33 27 (nI (sk T p + 1)) := ⟨_, rfl⟩
        have oa : mOff [49] [27] τ1 τa := by rw [ha]; exact mOff_si (by simp)
        have hA : MsAt τa T (sk T p + 1) := by rw [ha]; exact e2.p
        obtain ⟨k1, k2, k3⟩ := kind_m (k := 2) hlt ((e3.mono (by simp) (by simp)).trans oa) hA.1 (nI (sk T p + 1) + (0 : Int32)) (by rw [Int32.add_zero])
        have k3' := k3 (by rw [ha]; funext j; rw [siW_n (by decide), (e3.1 49 (by decide) (by decide)).1])
        unfold fMM_takesKind
        rw [db2_t e1, dlt_u, if_neg (show ¬ iI 61 = (60 : Int32) by decide), if_pos (show iI 61 = (61 : Int32) from rfl), e2.2, nI_1, dlt_u, ← ha, dlt_u, dlt_u, if_neg (show ¬ iI 61 = (60 : Int32) by decide)]
        dsimp only
        rw [dlt_u, if_pos rfl]
        dsimp only
        rw [dlt_u, dlt_u, if_pos (show iI 61 = (61 : Int32) from rfl), hA.2]
        dsimp only
        rw [dck_t (by decide), dlt_u]
        exact ⟨_, rfl, k1, k2, k3'⟩
    · exact Or.inl (kind_f hT hp c60 c61)
