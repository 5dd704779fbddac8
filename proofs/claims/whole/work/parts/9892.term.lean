/-! reading orders: terms -/
theorem sgJ {T : List Nat} (hT : TxOk T) (a : Bool) (p : Nat) (B : Int32 → Option (Int32 × sT)) : (dlt B fun J5 => dlt (fun (_u : Unit) => J5 (1 : Int32)) fun J43 => if iI (ch T (sk T p)) = (45 : Int32) then J43 () else dlt (fun (_u : Unit) => J5 (0 : Int32)) fun J45 => if iI (ch T (sk T p)) = (43 : Int32) then (if b01 a = 0 then J43 () else J45 ()) else J45 ()) = B (b01 (sgd T a p)) := by
  simp only [dlt_u]
  unfold sgd
  by_cases c45 : ch T (sk T p) = 45
  · rw [if_pos (show iI (ch T (sk T p)) = (45 : Int32) by rw [c45]; rfl), decide_eq_true c45]; rfl
  · rw [if_neg (show ¬ iI (ch T (sk T p)) = (45 : Int32) from chn hT (k := 45) c45 (by omega)), decide_eq_false c45, Bool.false_or]
    by_cases c43 : ch T (sk T p) = 43
    · rw [if_pos (show iI (ch T (sk T p)) = (43 : Int32) by rw [c43]; rfl), decide_eq_true c43, Bool.true_and]
      cases a
      · rw [if_pos b0]; rfl
      · rw [if_neg b1]; rfl
    · rw [if_neg (show ¬ iI (ch T (sk T p)) = (43 : Int32) from chn hT (k := 43) c43 (by omega)), decide_eq_false c43]; rfl
def qL (T : List Nat) (a : Bool) (p : Nat) : Nat := sk T (pB T (pA T a p))
def lL (T : List Nat) (a : Bool) (p : Nat) : Int := ch T (qL T a p) - 120
theorem qL_le {T : List Nat} {a : Bool} {p : Nat} (hp : p ≤ T.length) : p ≤ qL T a p ∧ qL T a p ≤ T.length := by
  obtain ⟨a1, a2⟩ := pA_le (a := a) hp
  obtain ⟨c1, c2⟩ := pB_le a2
  have d1 := sk_ge T (pB T (pA T a p))
  have d2 := sk_le c2
  unfold qL
  omega
theorem lL_i {T : List Nat} (hT : TxOk T) (a : Bool) (p : Nat) : inI (lL T a p) := by
  have := ch_inI hT (qL T a p)
  unfold lL inI
  omega
theorem lL_e (T : List Nat) (a : Bool) (p : Nat) : iI (ch T (qL T a p)) - (120 : Int32) = iI (lL T a p) := by
  rw [show (120 : Int32) = iI 120 from rfl, iI_sub]; rfl
theorem lL_w {T : List Nat} (hT : TxOk T) (a : Bool) (p : Nat) : wi (iI (lL T a p)) 0 2 = decide (0 ≤ lL T a p ∧ lL T a p ≤ 2) := by
  unfold wi; rw [iI_to (lL_i hT a p)]
theorem mterm_stop {T : List Nat} (hT : TxOk T) {τ : sT} {p : Nat} (h : MP T τ p) (hs : sgd T false p = false) : ∃ τ1, fMM_takesTerm (0 : Int32) τ = some (0, τ1) ∧ mOff [49] [27] τ τ1 ∧ MF T τ1 (sk T p) := by
  obtain ⟨τ1, e1, e2, e3⟩ := mhere hT h
  refine ⟨τ1, ?_, e3.mono (by simp) (by simp), sk_le h.1, e2⟩
  show fMM_takesTerm (b01 false) τ = _
  unfold fMM_takesTerm
  rw [db2_t e1, sgJ hT, hs]
  try dsimp only
  rw [dlt_u, if_pos b0, if_pos b0]
theorem mterm_pre {T : List Nat} (hT : TxOk T) (a : Bool) {τ : sT} {p : Nat} (h : MP T τ p) (hs : (sgd T a p || a) = true) :
    ∃ τ2, MsAt τ2 T (qL T a p) ∧ mOff [] [27] τ τ2 ∧ fMM_takesTerm (b01 a) τ = (db1 (fMM_in (iI (lL T a p)).toInt64 (0 : Int64) (2 : Int64)) fun r25 =>
          if r25 = 0 then
            some ((0 : Int32), τ2)
          else
            dck (okI (iI (lL T a p)) 5) <|
            if (τ2.1 49 (iI (lL T a p)).toNatClampNeg) = 0 then
              dlt (siW τ2 33 27 ((τ2.1 33 27) + (1 : Int32))) fun σ29 =>
              dlt (fun (x30 : Int32) =>
                dlt (fun (x32 : Int32) (x33 : Int32) =>
                  dck (okI x32 5) <|
                  dlt (siW σ29 49 x32.toNatClampNeg x33) fun σ36 =>
                  some ((1 : Int32), σ36)) fun J34 =>
                if iI (ch T (sk T p)) = (45 : Int32) then
                  J34 (iI (lL T a p)) (-x30)
                else
                  J34 (iI (lL T a p)) x30) fun J31 =>
              if b01 (tld T (pA T a p)) = 0 then
                J31 (1 : Int32)
              else
                J31 (iI (ch T (sk T (pA T a p))) - (48 : Int32))
            else
              some ((0 : Int32), τ2)) := by
  have hp := h.1
  obtain ⟨a1, a2⟩ := pA_le (a := a) hp
  obtain ⟨c1, c2⟩ := pB_le a2
  obtain ⟨τ1, e1, e2, e3⟩ := mhere hT h
  obtain ⟨τa, ha⟩ : ∃ t, t = siW τ1 33 27 (nI (pA T a p)) := ⟨_, rfl⟩
  have hA : MsAt τa T (pA T a p) := by rw [ha]; exact e2.p
  have oa : mOff [] [27] τ1 τa := by rw [ha]; exact mOff_si (by simp)
  obtain ⟨τb, f1, f2, f3⟩ := mhere hT (mp_at a2 hA)
  obtain ⟨τc, hc⟩ : ∃ t, t = siW τb 33 27 (nI (pB T (pA T a p))) := ⟨_, rfl⟩
  have hC : MsAt τc T (pB T (pA T a p)) := by rw [hc]; exact f2.p
  have oc : mOff [] [27] τb τc := by rw [hc]; exact mOff_si (by simp)
  obtain ⟨τd, g1, g2, g3⟩ := mhere hT (mp_at c2 hC)
  have hw : fMM_in (iI (ch T (sk T (pA T a p)))).toInt64 (49 : Int64) (53 : Int64) = some (b01 (tld T (pA T a p))) := by
    have : tld T (pA T a p) = wi (iI (ch T (sk T (pA T a p)))) 49 53 := by rw [wi_ch hT]; rfl
    rw [this]
    exact wiM _ 49 53 rfl rfl (by decide) (by decide)
  refine ⟨τd, g2, (((e3.trans oa).trans f3).trans oc).trans g3, ?_⟩
  have hA' : nI (sk T p) + b01 (sgd T a p) = nI (pA T a p) := by rw [addB]; rfl
  have hB' : nI (sk T (pA T a p)) + b01 (tld T (pA T a p)) = nI (pB T (pA T a p)) := by rw [addB]; rfl
  have step : ∀ X : Option (Int32 × sT), (if b01 (sgd T a p) = 0 then (if b01 a = 0 then some ((0 : Int32), τ1) else X) else X) = X := by
    intro X
    cases hs1 : sgd T a p
    · rw [hs1, Bool.false_or] at hs
      rw [if_pos b0, hs, if_neg b1]
    · rw [if_neg b1]
  unfold fMM_takesTerm
  rw [db2_t e1, sgJ hT]
  try dsimp only
  rw [dlt_u]
  try dsimp only
  rw [step, selJ, e2.2]
  try dsimp only
  rw [hA', dlt_u, ← ha, db2_t f1, db1_t hw, selJ, f2.2]
  try dsimp only
  rw [hB', dlt_u, ← hc, db2_t g1, show sk T (pB T (pA T a p)) = qL T a p from rfl, lL_e, dlt_u]
theorem mterm_bad {T : List Nat} (hT : TxOk T) (a : Bool) {τ : sT} {p : Nat} (h : MP T τ p) (hs : (sgd T a p || a) = true) {cs : Nat → Int} (hc : ∀ l, l < 3 → -5 ≤ cs l ∧ cs l ≤ 5) (hG : ∀ l, l < 3 → τ.1 49 l = iI (cs l))
    (hb : ∀ k : Nat, k < 3 → lL T a p = (k : Int) → cs k ≠ 0) : ∃ τ1, fMM_takesTerm (b01 a) τ = some (0, τ1) ∧ mOff [49] [27] τ τ1 ∧ MF T τ1 (qL T a p) := by
  obtain ⟨τ2, e1, e2, e3⟩ := mterm_pre hT a h hs
  have hw : fMM_in (iI (lL T a p)).toInt64 (0 : Int64) (2 : Int64) = some (b01 (wi (iI (lL T a p)) 0 2)) := wiM _ 0 2 rfl rfl (by decide) (by decide)
  refine ⟨τ2, ?_, e2.mono (by simp) (by simp), (qL_le h.1).2, e1⟩
  rw [e3, db1_t hw, lL_w hT]
  by_cases z : 0 ≤ lL T a p ∧ lL T a p ≤ 2
  · obtain ⟨k, hk⟩ : ∃ k : Nat, lL T a p = (k : Int) := ⟨(lL T a p).toNat, by omega⟩
    have hk3 : k < 3 := by omega
    have h0 := hb k hk3 hk
    have hck := hc k hk3
    rw [decide_eq_true z, if_neg b1, hk, iI_nI, dck_t (okI_n (by omega) (by omega)), nc (by omega), (e2.1 49 (by decide) (by decide)).1, hG k hk3, if_neg (show ¬ iI (cs k) = (0 : Int32) from fun w => h0 ((iI_eq (b := 0) (by unfold inI; omega) (by unfold inI; omega)).mp w))]
  · rw [decide_eq_false z, if_pos b0]
theorem mterm_good {T : List Nat} (hT : TxOk T) (a : Bool) {τ : sT} {p : Nat} (h : MP T τ p) (hs : (sgd T a p || a) = true) {cs : Nat → Int} (hG : ∀ l, l < 3 → τ.1 49 l = iI (cs l))
    {k : Nat} (hk3 : k < 3) (hk : lL T a p = (k : Int)) (h0 : cs k = 0) : ∃ τ1, fMM_takesTerm (b01 a) τ = some (1, τ1) ∧ mOff [49] [27] τ τ1 ∧ MP T τ1 (qL T a p + 1) ∧ ∀ j, τ1.1 49 j = if j = k then iI (vAx T p * vBx T (pA T a p)) else τ.1 49 j := by
  obtain ⟨τ2, e1, e2, e3⟩ := mterm_pre hT a h hs
  have hw : fMM_in (iI (lL T a p)).toInt64 (0 : Int64) (2 : Int64) = some (b01 (wi (iI (lL T a p)) 0 2)) := wiM _ 0 2 rfl rfl (by decide) (by decide)
  have hlt : qL T a p < T.length := ch_lt (by unfold lL at hk; omega)
  obtain ⟨τ3, h3⟩ : ∃ t, t = siW (siW τ2 33 27 (nI (qL T a p + 1))) 49 k (iI (vAx T p * vBx T (pA T a p))) := ⟨_, rfl⟩
  have o3 : mOff [49] [27] τ2 τ3 := by rw [h3]; exact (mOff_si (by simp)).trans (mOff_ci (by simp) (by decide))
  refine ⟨τ3, ?_, (e2.mono (by simp) (by simp)).trans o3, mp_at hlt ⟨e1.1.ms o3 (by decide) (by decide), by rw [h3, siW_n (by decide), siW_s, if_pos rfl]⟩, fun j => ?_⟩
  · rw [e3, db1_t hw, lL_w hT, decide_eq_true (show 0 ≤ lL T a p ∧ lL T a p ≤ 2 by omega), if_neg b1, hk, iI_nI, dck_t (okI_n (by omega) (by omega)), nc (by omega), (e2.1 49 (by decide) (by decide)).1, hG k hk3, if_pos (show iI (cs k) = (0 : Int32) by rw [h0]; rfl), e1.2, nI_1, dlt_u]
    have hvb : ∀ B : Int32 → Option (Int32 × sT), (dlt B fun J31 => if b01 (tld T (pA T a p)) = 0 then J31 (1 : Int32) else J31 (iI (ch T (sk T (pA T a p))) - (48 : Int32))) = B (iI (vBx T (pA T a p))) := by
      intro B
      rw [dlt_u]
      unfold vBx
      cases tld T (pA T a p)
      · rw [if_pos b0, if_neg (by decide)]; rfl
      · rw [if_neg b1, if_pos rfl, show (48 : Int32) = iI 48 from rfl, iI_sub]
    rw [hvb]
    try dsimp only
    rw [dlt_u]
    unfold vAx at h3
    by_cases c45 : ch T (sk T p) = 45
    · rw [if_pos c45] at h3
      rw [if_pos (show iI (ch T (sk T p)) = (45 : Int32) by rw [c45]; rfl)]
      try dsimp only
      rw [dck_t (okI_n (by omega) (by omega)), nc (by omega), dlt_u, iI_neg, h3, show (-1 : Int) * vBx T (pA T a p) = -vBx T (pA T a p) by omega]
    · rw [if_neg c45] at h3
      rw [if_neg (show ¬ iI (ch T (sk T p)) = (45 : Int32) from chn hT (k := 45) c45 (by omega))]
      try dsimp only
      rw [dck_t (okI_n (by omega) (by omega)), nc (by omega), dlt_u, h3, Int.one_mul]
  · rw [h3, siW_s, siW_n (by decide), (e2.1 49 (by decide) (by decide)).1]
/-! the class's term -/
theorem cterm_stop {T : List Nat} (hT : TxOk T) {σ : sT} {p : Nat} (h : CP T σ p) (hs : sgd T false p = false) {x0 x1 : Int32} {K : sT → Option sT} {f m : Nat} (hm : 0 < m ∧ m ≤ 3) :
    ∃ σ1, fOR_readTerms_L4 x0 K (f + 1) x1 (nI m) σ = some σ1 ∧ CP T σ1 p ∧ scO [] σ σ1 := by
  obtain ⟨σ1, e1, e2, e3⟩ := rsign hT false h
  rw [hs, if_neg (by decide)] at e1
  have e1' : fOR_readSign (0 : Int32) σ = some ((0 : Int32), σ1) := e1
  refine ⟨σ1, ?_, ?_, e3⟩
  · unfold fOR_readTerms_L4
    rw [if_neg (show ¬ (4 : Int32) ≤ nI m from nI_ge (b := 4) (by omega) (by omega)), dlt_u, if_neg (nI_ne0 (by omega) (by omega))]
    try dsimp only
    rw [db2_t e1', if_pos rfl]
  · unfold pA at e2
    rw [hs, if_neg (by decide)] at e2
    obtain ⟨-, r, hr, e, hS⟩ := e2
    exact ⟨h.1, r, hr, e.trans (sk_sk T p), hS⟩
theorem vAx_0 (T : List Nat) (p : Nat) : ¬ iI (vAx T p) = (0 : Int32) := by
  rcases vAx_i T p with h | h <;> rw [h] <;> decide
theorem cterm_pre {T : List Nat} (hT : TxOk T) (a : Bool) {σ : sT} {p : Nat} (h : CP T σ p) (hs : (sgd T a p || a) = true) {x0 x1 : Int32} {K : sT → Option sT} {f m : Nat} (hm : m ≤ 3) (ham : a = decide (m = 0)) :
    ∃ σ2, ScAt σ2 T (qL T a p) (-1) ∧ scO [] σ σ2 ∧ fOR_readTerms_L4 x0 K (f + 1) x1 (nI m) σ = (db1 (fRM_isWithin (iI (lL T a p)) (0 : Int32) (2 : Int32)) fun r24 =>
          if r24 = 0 then
            K σ2
          else
            db1 (fRM_isIn x1 (iI (lL T a p))) fun r27 =>
            if r27 = 0 then
              db1 (fSc_step σ2) fun σ30 =>
              dlt (x1 ||| ((1 : Int32) <<< (iI (lL T a p) &&& 31))) fun x31 =>
              dck (okI (x0 + iI (lL T a p)) 78) <|
              dlt (siW σ30 30 (x0 + iI (lL T a p)).toNatClampNeg (iI (vAx T p) * iI (vBx T (pA T a p)))) fun σ33 =>
              fOR_readTerms_L4 x0 K f x31 (nI m + (1 : Int32)) σ33
            else
              K σ2) := by
  obtain ⟨σ1, e1, e2, e3⟩ := rsign hT a h
  rw [hs, if_pos rfl] at e1
  obtain ⟨σa, f1, f2, f3⟩ := rdigit hT e2
  obtain ⟨σb, g1, g2, g3⟩ := cpeek hT f2
  refine ⟨σb, g2, (e3.trans f3).trans g3, ?_⟩
  have hj : ∀ B : Int32 → Option sT, (dlt B fun J11 => if nI m = 0 then J11 (1 : Int32) else J11 (0 : Int32)) = B (b01 a) := by
    intro B
    rw [dlt_u]
    by_cases z : m = 0
    · rw [ham, decide_eq_true z, if_pos (by rw [z]; rfl)]; rfl
    · rw [ham, decide_eq_false z, if_neg (nI_ne0 (by omega) (by omega))]; rfl
  conv => lhs; unfold fOR_readTerms_L4
  rw [if_neg (show ¬ (4 : Int32) ≤ nI m from nI_ge (b := 4) (by omega) (by omega)), hj]
  try dsimp only
  rw [db2_t e1, if_neg (vAx_0 T p), db2_t f1, db2_t g1, show sk T (pB T (pA T a p)) = qL T a p from rfl, lL_e, dlt_u]
theorem cterm_bad {T : List Nat} (hT : TxOk T) (a : Bool) {σ : sT} {p : Nat} (h : CP T σ p) (hs : (sgd T a p || a) = true) {x0 : Int32} {K : sT → Option sT} {f m u : Nat} (hm : m ≤ 3) (ham : a = decide (m = 0)) (hu : u < 8)
    (hb : ∀ k : Nat, k < 3 → lL T a p = (k : Int) → u.testBit k = true) : ∃ σ1, fOR_readTerms_L4 x0 K (f + 1) (nI u) (nI m) σ = K σ1 ∧ ScAt σ1 T (qL T a p) (-1) ∧ scO [] σ σ1 := by
  obtain ⟨σ2, e1, e2, e3⟩ := cterm_pre hT a h hs (x0 := x0) (x1 := nI u) (K := K) (f := f) hm ham
  have hw : fRM_isWithin (iI (lL T a p)) (0 : Int32) (2 : Int32) = some (b01 (wi (iI (lL T a p)) 0 2)) := wiC _ 0 2 rfl rfl (by decide) (by decide)
  refine ⟨σ2, ?_, e1, e2⟩
  rw [e3, db1_t hw, lL_w hT]
  by_cases z : 0 ≤ lL T a p ∧ lL T a p ≤ 2
  · obtain ⟨k, hk⟩ : ∃ k : Nat, lL T a p = (k : Int) := ⟨(lL T a p).toNat, by omega⟩
    rw [decide_eq_true z, if_neg b1, hk, iI_nI, db1_t (isIn_spec (by omega) (by omega)), hb k (by omega) hk, if_neg b1]
  · rw [decide_eq_false z, if_pos b0]
theorem cterm_good {T : List Nat} (hT : TxOk T) (a : Bool) {σ : sT} {p : Nat} (h : CP T σ p) (hs : (sgd T a p || a) = true) {s : Nat} (hs12 : s ≤ 12) {K : sT → Option sT} {f m u : Nat} (hm : m ≤ 3) (ham : a = decide (m = 0)) (hu : u < 8)
    {k : Nat} (hk3 : k < 3) (hk : lL T a p = (k : Int)) (h0 : u.testBit k = false) : ∃ σ1, fOR_readTerms_L4 (nI (6 * s)) K (f + 1) (nI u) (nI m) σ = fOR_readTerms_L4 (nI (6 * s)) K f (nI (u ||| 2 ^ k)) (nI (m + 1)) σ1 ∧ CP T σ1 (qL T a p + 1) ∧ scO [30] σ σ1 ∧ ∀ j, σ1.1 30 j = if j = 6 * s + k then iI (vAx T p * vBx T (pA T a p)) else σ.1 30 j := by
  obtain ⟨σ2, e1, e2, e3⟩ := cterm_pre hT a h hs (x0 := nI (6 * s)) (x1 := nI u) (K := K) (f := f) hm ham
  have hw : fRM_isWithin (iI (lL T a p)) (0 : Int32) (2 : Int32) = some (b01 (wi (iI (lL T a p)) 0 2)) := wiC _ 0 2 rfl rfl (by decide) (by decide)
  have hlt : qL T a p < T.length := ch_lt (by unfold lL at hk; omega)
  have hpow : 2 ^ k < 4096 := Nat.lt_of_lt_of_le (Nat.pow_lt_pow_right (by omega) hk3) (by decide)
  refine ⟨siW (siW σ2 26 2 (nI (qL T a p + 1))) 30 (6 * s + k) (iI (vAx T p * vBx T (pA T a p))), ?_, cp_at hlt (e1.p.w (by decide) (by decide)), (e2.mono (by simp)).trans ((scO_p _ _).trans (scO_c (by simp) (by decide))), fun j => ?_⟩
  · rw [e3, db1_t hw, lL_w hT, decide_eq_true (show 0 ≤ lL T a p ∧ lL T a p ≤ 2 by omega), if_neg b1, hk, iI_nI, db1_t (isIn_spec (by omega) (by omega)), h0, if_pos b0, db1_t (sstep_spec e1), shl_n (by omega), nI_or' (by omega) hpow, dlt_u, na, dck_t (okI_n (by omega) (by omega)), nc (by omega), iI_mul, dlt_u, nI_1]
  · rw [siW_s, siW_n (by decide), (e2.1 30 (by simp) (by decide)).1]
