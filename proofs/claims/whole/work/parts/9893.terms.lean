/-! reading orders: all terms -/
def c01 (x : Int) : Nat := if x = 0 then 0 else 1
def cnt3 (cs : Nat → Int) : Nat := c01 (cs 0) + c01 (cs 1) + c01 (cs 2)
def ubs (u : Nat) (cs : Nat → Int) : Prop := u < 8 ∧ ∀ l, l < 3 → u.testBit l = decide (cs l ≠ 0)
def upC (cs : Nat → Int) (k : Nat) (w : Int) : Nat → Int := fun j => if j = k then w else cs j
def csB (cs : Nat → Int) : Prop := ∀ l, l < 3 → -5 ≤ cs l ∧ cs l ≤ 5
def cs0 : Nat → Int := fun _ => 0
def kFl : sT → Option sT := fun σ4 => db1 (fSc_failAt (σ4.1 26 2) σ4) fun σ7 => some σ7
def CSt (σ : sT) (s : Nat) (cs : Nat → Int) : Prop := ∀ l, l < 3 → σ.1 30 (6 * s + l) = iI (cs l)
def GSt (τ : sT) (cs : Nat → Int) : Prop := ∀ l, l < 3 → τ.1 49 l = iI (cs l)
def fr6 (s : Nat) (σ σ1 : sT) : Prop := ∀ j, (j < 6 * s ∨ 6 * s + 6 ≤ j) → σ1.1 30 j = σ.1 30 j
theorem fr6.trans {s : Nat} {a b c : sT} (h : fr6 s a b) (k : fr6 s b c) : fr6 s a c := fun j hj => (k j hj).trans (h j hj)
theorem fr6_o {s : Nat} {C : List Nat} {a b : sT} (h : scO C a b) (hc : 30 ∉ C) : fr6 s a b := fun j _ => by rw [(h.1 30 hc (by decide)).1]
theorem fr6_w {s k : Nat} {a : sT} {v : Int32} (hk : k < 6) : fr6 s a (siW a 30 (6 * s + k) v) := fun j hj => by rw [siW_s, if_neg (by omega)]
theorem cnt3_up {cs : Nat → Int} {k : Nat} {w : Int} (hk : k < 3) (h0 : cs k = 0) (hw : w ≠ 0) : cnt3 (upC cs k w) = cnt3 cs + 1 := by
  unfold cnt3 upC c01
  rcases (show k = 0 ∨ k = 1 ∨ k = 2 by omega) with rfl | rfl | rfl <;> simp [h0, hw] <;> omega
theorem cnt3_2 {cs : Nat → Int} {k : Nat} (hk : k < 3) (h0 : cs k = 0) : cnt3 cs ≤ 2 := by
  unfold cnt3 c01
  rcases (show k = 0 ∨ k = 1 ∨ k = 2 by omega) with rfl | rfl | rfl <;> rw [if_pos h0] <;> split <;> split <;> omega
theorem cnt3_3 (cs : Nat → Int) : cnt3 cs ≤ 3 := by
  unfold cnt3 c01
  split <;> split <;> split <;> omega
theorem ubs_up {u k : Nat} {cs : Nat → Int} {w : Int} (h : ubs u cs) (hk : k < 3) (hw : w ≠ 0) : ubs (u ||| 2 ^ k) (upC cs k w) := by
  refine ⟨Nat.or_lt_two_pow (n := 3) h.1 (Nat.pow_lt_pow_right (by omega) hk), fun l hl => ?_⟩
  rw [Nat.testBit_or, Nat.testBit_two_pow, h.2 l hl]
  unfold upC
  by_cases z : l = k
  · rw [if_pos z, decide_eq_true (show k = l by omega), decide_eq_true hw, Bool.or_true]
  · rw [if_neg z, decide_eq_false (show ¬ k = l by omega), Bool.or_false]
theorem csB_up {cs : Nat → Int} {k : Nat} {w : Int} (h : csB cs) (hw : -5 ≤ w ∧ w ≤ 5) : csB (upC cs k w) := by
  intro l hl
  unfold upC
  split
  · exact hw
  · exact h l hl
theorem wv {T : List Nat} {p q : Nat} : vAx T p * vBx T q ≠ 0 ∧ -5 ≤ vAx T p * vBx T q ∧ vAx T p * vBx T q ≤ 5 := by
  have h2 := vBx_i T q
  rcases vAx_i T p with h | h <;> rw [h] <;> omega
theorem kFl_s {T : List Nat} {σ : sT} {q : Nat} (hq : q ≤ T.length) (h : ScAt σ T q (-1)) : ∃ σ1, kFl σ = some σ1 ∧ CF T σ1 q ∧ scO [] σ σ1 := by
  obtain ⟨f1, f2⟩ := cfail hq h
  exact ⟨_, by unfold kFl; rw [db1_t f1], f2, scO_q _ _⟩
def TmF (T : List Nat) (p q : Nat) (cs : Nat → Int) : Prop :=
  (∀ (σ : sT) (s u f : Nat), s ≤ 12 → CP T σ p → CSt σ s cs → ubs u cs → 8 ≤ f + cnt3 cs → ∃ σ1, fOR_readTerms_L4 (nI (6 * s)) kFl f (nI u) (nI (cnt3 cs)) σ = some σ1 ∧ CF T σ1 q ∧ scO [30] σ σ1 ∧ fr6 s σ σ1) ∧
  (∀ (τ : sT) (f : Nat), MP T τ p → GSt τ cs → 8 ≤ f + cnt3 cs → ∃ τ1, fMM_takesTerms_L27 f 1 τ = some (0, τ1) ∧ MF T τ1 q ∧ mOff [49] [27] τ τ1)
def TmN (T : List Nat) (p q : Nat) (cs : Nat → Int) : Prop :=
  (∀ (σ : sT) (s u f : Nat), s ≤ 12 → CP T σ p → CSt σ s cs → ubs u cs → 8 ≤ f + cnt3 cs → ∃ σ1, fOR_readTerms_L4 (nI (6 * s)) kFl f (nI u) (nI (cnt3 cs)) σ = some σ1 ∧ CP T σ1 q ∧ scO [30] σ σ1 ∧ fr6 s σ σ1) ∧
  (∀ (τ : sT) (f : Nat), MP T τ p → GSt τ cs → 8 ≤ f + cnt3 cs → ∃ τ1, fMM_takesTerms_L27 f 1 τ = some (0, τ1) ∧ MF T τ1 (sk T q) ∧ mOff [49] [27] τ τ1)
def TmS (T : List Nat) (p q : Nat) (cs cs' : Nat → Int) : Prop :=
  (∀ (σ : sT) (s u f : Nat), s ≤ 12 → CP T σ p → CSt σ s cs → ubs u cs → 8 ≤ f + cnt3 cs → ∃ σ1, fOR_readTerms_L4 (nI (6 * s)) kFl f (nI u) (nI (cnt3 cs)) σ = some σ1 ∧ CP T σ1 q ∧ CSt σ1 s cs' ∧ scO [30] σ σ1 ∧ fr6 s σ σ1) ∧
  (∀ (τ : sT) (f : Nat), MP T τ p → GSt τ cs → 8 ≤ f + cnt3 cs → ∃ τ1, fMM_takesTerms_L27 f 1 τ = some (1, τ1) ∧ MP T τ1 q ∧ GSt τ1 cs' ∧ mOff [49] [27] τ τ1)
theorem CSt_o {C : List Nat} {σ σ1 : sT} {s : Nat} {cs : Nat → Int} (h : CSt σ s cs) (o : scO C σ σ1) (hc : 30 ∉ C) : CSt σ1 s cs := fun l hl => by rw [(o.1 30 hc (by decide)).1]; exact h l hl
theorem CSt_up {σ σ1 : sT} {s k : Nat} {cs : Nat → Int} {w : Int} (h : CSt σ s cs) (e : ∀ j, σ1.1 30 j = if j = 6 * s + k then iI w else σ.1 30 j) : CSt σ1 s (upC cs k w) := by
  intro l hl
  rw [e]
  unfold upC
  by_cases z : l = k
  · rw [if_pos (by omega), if_pos z]
  · rw [if_neg (by omega), if_neg z]; exact h l hl
theorem GSt_up {τ τ1 : sT} {k : Nat} {cs : Nat → Int} {w : Int} (h : GSt τ cs) (e : ∀ j, τ1.1 49 j = if j = k then iI w else τ.1 49 j) : GSt τ1 (upC cs k w) := by
  intro l hl
  rw [e]
  unfold upC
  by_cases z : l = k
  · rw [if_pos z, if_pos z]
  · rw [if_neg z, if_neg z]; exact h l hl
/-- one turn of the model's loop over terms that goes on -/
theorem mloop_go {T : List Nat} (hT : TxOk T) {τ : sT} {p f : Nat} (h : MP T τ p) (c60 : ch T (sk T p) ≠ 60) (c61 : ch T (sk T p) ≠ 61) : ∃ τ1, MP T τ1 p ∧ mOff [] [27] τ τ1 ∧ fMM_takesTerms_L27 (f + 1) 1 τ = db2 (fMM_takesTerm (0 : Int32) τ1) fun r24 σ25 => fMM_takesTerms_L27 f r24 σ25 := by
  obtain ⟨τ1, e1, e2, e3⟩ := mhere hT h
  have h1 : MP T τ1 p := mp_sk h.1 e2
  obtain ⟨τ2, f1, f2, f3⟩ := mhere hT h1
  refine ⟨τ2, mp_sk h.1 f2, e3.trans f3, ?_⟩
  conv => lhs; unfold fMM_takesTerms_L27
  rw [if_neg (show ¬ (1 : Int32) = 0 by decide), db2_t e1, if_neg (show ¬ iI (ch T (sk T p)) = (60 : Int32) from chn hT (k := 60) c60 (by omega)), db2_t f1, if_neg (show ¬ iI (ch T (sk T p)) = (61 : Int32) from chn hT (k := 61) c61 (by omega))]
theorem mloop_0 {τ : sT} {f : Nat} : fMM_takesTerms_L27 (f + 1) 0 τ = some (0, τ) := by
  unfold fMM_takesTerms_L27
  rw [if_pos rfl, dck_t (by decide)]
theorem mloop_k {T : List Nat} (hT : TxOk T) {τ : sT} {p f : Nat} (h : MP T τ p) (c6 : ch T (sk T p) = 60 ∨ ch T (sk T p) = 61) : ∃ τ1, MP T τ1 p ∧ mOff [] [27] τ τ1 ∧ fMM_takesTerms_L27 (f + 1) 1 τ = some (1, τ1) := by
  obtain ⟨τ1, e1, e2, e3⟩ := mhere hT h
  have h1 : MP T τ1 p := mp_sk h.1 e2
  obtain ⟨τ2, f1, f2, f3⟩ := mhere hT h1
  unfold fMM_takesTerms_L27
  rw [if_neg (show ¬ (1 : Int32) = 0 by decide), db2_t e1]
  rcases c6 with c | c
  · rw [c, if_pos (show iI 60 = (60 : Int32) from rfl), dck_t (by decide)]
    exact ⟨τ1, h1, e3, rfl⟩
  · rw [c, if_neg (show ¬ iI 61 = (60 : Int32) by decide), db2_t f1, c, if_pos (show iI 61 = (61 : Int32) from rfl), dck_t (by decide)]
    exact ⟨τ2, mp_sk h.1 f2, e3.trans f3, rfl⟩
theorem terms_x {T : List Nat} (hT : TxOk T) : ∀ (c p : Nat) (cs : Nat → Int), 3 - cnt3 cs < c → 1 ≤ cnt3 cs → csB cs → p ≤ T.length →
    (∃ q, TmF T p q cs) ∨ (∃ q, q ≤ T.length ∧ ch T (sk T q) ≠ 60 ∧ ch T (sk T q) ≠ 61 ∧ TmN T p q cs) ∨ (∃ q cs', p ≤ q ∧ q ≤ T.length ∧ csB cs' ∧ TmS T p q cs cs') := by
  intro c
  induction c with
  | zero => intro p cs h; omega
  | succ c ih =>
    intro p cs hc h1 hb hp
    have h3 := cnt3_3 cs
    have ham : false = decide (cnt3 cs = 0) := (decide_eq_false (by omega)).symm
    cases hs : sgd T false p
    · by_cases c6 : ch T (sk T p) = 60 ∨ ch T (sk T p) = 61
      · refine Or.inr (Or.inr ⟨p, cs, Nat.le_refl _, hp, hb, fun σ s u f hs12 h hC hu hf => ?_, fun τ f h hG hf => ?_⟩)
        · obtain ⟨f', rfl⟩ : ∃ f', f = f' + 1 := ⟨f - 1, by omega⟩
          obtain ⟨σ1, e1, e2, e3⟩ := cterm_stop hT h hs (x0 := nI (6 * s)) (x1 := nI u) (K := kFl) (f := f') (m := cnt3 cs) (by omega)
          exact ⟨σ1, e1, e2, CSt_o hC e3 (by decide), e3.mono (by simp), fr6_o e3 (by decide)⟩
        · obtain ⟨f', rfl⟩ : ∃ f', f = f' + 1 := ⟨f - 1, by omega⟩
          obtain ⟨τ1, e1, e2, e3⟩ := mloop_k hT (f := f') h c6
          exact ⟨τ1, e3, e1, fun l hl => by rw [(e2.1 49 (by decide) (by decide)).1]; exact hG l hl, e2.mono (by simp) (by simp)⟩
      · refine Or.inr (Or.inl ⟨p, hp, fun z => c6 (Or.inl z), fun z => c6 (Or.inr z), fun σ s u f hs12 h hC hu hf => ?_, fun τ f h hG hf => ?_⟩)
        · obtain ⟨f', rfl⟩ : ∃ f', f = f' + 1 := ⟨f - 1, by omega⟩
          obtain ⟨σ1, e1, e2, e3⟩ := cterm_stop hT h hs (x0 := nI (6 * s)) (x1 := nI u) (K := kFl) (f := f') (m := cnt3 cs) (by omega)
          exact ⟨σ1, e1, e2, e3.mono (by simp), fr6_o e3 (by decide)⟩
        · obtain ⟨f', rfl⟩ : ∃ f', f = f' + 1 + 1 := ⟨f - 2, by omega⟩
          obtain ⟨τ1, e1, e2, e3⟩ := mloop_go hT (f := f' + 1) h (fun z => c6 (Or.inl z)) (fun z => c6 (Or.inr z))
          obtain ⟨τ2, g1, g2, g3⟩ := mterm_stop hT e1 hs
          rw [e3, db2_t g1, mloop_0]
          exact ⟨τ2, rfl, g3, (e2.mono (by simp) (by simp)).trans g2⟩
    · have c60 : ch T (sk T p) ≠ 60 := by
        intro z
        unfold sgd at hs
        rw [z] at hs
        simp at hs
      have c61 : ch T (sk T p) ≠ 61 := by
        intro z
        unfold sgd at hs
        rw [z] at hs
        simp at hs
      have hsa : (sgd T false p || false) = true := by rw [hs]; rfl
      by_cases good : ∃ k : Nat, k < 3 ∧ lL T false p = (k : Int) ∧ cs k = 0
      · obtain ⟨k, hk3, hk, h0⟩ := good
        obtain ⟨w, hw⟩ : ∃ w, w = vAx T p * vBx T (pA T false p) := ⟨_, rfl⟩
        have hwv := wv (T := T) (p := p) (q := pA T false p)
        rw [← hw] at hwv
        have hlt : qL T false p < T.length := ch_lt (by unfold lL at hk; omega)
        have hge := (qL_le (a := false) hp).1
        have hcn := cnt3_up hk3 h0 hwv.1
        have hc2 := cnt3_2 hk3 h0
        have stC : ∀ (σ : sT) (s u f : Nat), s ≤ 12 → CP T σ p → CSt σ s cs → ubs u cs → 8 ≤ f + cnt3 cs → ∃ σ1 f', fOR_readTerms_L4 (nI (6 * s)) kFl f (nI u) (nI (cnt3 cs)) σ = fOR_readTerms_L4 (nI (6 * s)) kFl f' (nI (u ||| 2 ^ k)) (nI (cnt3 (upC cs k w))) σ1 ∧ CP T σ1 (qL T false p + 1) ∧ CSt σ1 s (upC cs k w) ∧ ubs (u ||| 2 ^ k) (upC cs k w) ∧ 8 ≤ f' + cnt3 (upC cs k w) ∧ scO [30] σ σ1 ∧ fr6 s σ σ1 := by
          intro σ s u f hs12 h hC hu hf
          obtain ⟨f', rfl⟩ : ∃ f', f = f' + 1 := ⟨f - 1, by omega⟩
          obtain ⟨σ1, e1, e2, e3, e4⟩ := cterm_good hT false h hsa hs12 (K := kFl) (f := f') h3 ham hu.1 hk3 hk (by rw [hu.2 k hk3, h0]; rfl)
          rw [← hw] at e4
          refine ⟨σ1, f', by rw [hcn]; exact e1, e2, CSt_up hC e4, ubs_up hu hk3 hwv.1, by omega, e3, fun j hj => ?_⟩
          rw [e4, if_neg (by omega)]
        have stM : ∀ (τ : sT) (f : Nat), MP T τ p → GSt τ cs → 8 ≤ f + cnt3 cs → ∃ τ1 f', fMM_takesTerms_L27 f 1 τ = fMM_takesTerms_L27 f' 1 τ1 ∧ MP T τ1 (qL T false p + 1) ∧ GSt τ1 (upC cs k w) ∧ 8 ≤ f' + cnt3 (upC cs k w) ∧ mOff [49] [27] τ τ1 := by
          intro τ f h hG hf
          obtain ⟨f', rfl⟩ : ∃ f', f = f' + 1 := ⟨f - 1, by omega⟩
          obtain ⟨τ1, e1, e2, e3⟩ := mloop_go hT (f := f') h c60 c61
          have hG1 : GSt τ1 cs := fun l hl => by rw [(e2.1 49 (by decide) (by decide)).1]; exact hG l hl
          obtain ⟨τ2, g1, g2, g3, g4⟩ := mterm_good hT false e1 hsa hG1 hk3 hk h0
          have g1' : fMM_takesTerm (0 : Int32) τ1 = some (1, τ2) := g1
          rw [← hw] at g4
          exact ⟨τ2, f', by rw [e3, db2_t g1'], g3, GSt_up hG1 g4, by omega, (e2.mono (by simp) (by simp)).trans g2⟩
        rcases ih (qL T false p + 1) (upC cs k w) (by omega) (by omega) (csB_up hb hwv.2) hlt with ⟨q, oC, oM⟩ | ⟨q, hq, q60, q61, oC, oM⟩ | ⟨q, cs', hq1, hq2, hb', oC, oM⟩
        · refine Or.inl ⟨q, fun σ s u f hs12 h hC hu hf => ?_, fun τ f h hG hf => ?_⟩
          · obtain ⟨σ1, f', e0, e1, e2, e3, e4, e5, e6⟩ := stC σ s u f hs12 h hC hu hf
            obtain ⟨σ2, g1, g2, g3, g4⟩ := oC σ1 s _ f' hs12 e1 e2 e3 e4
            exact ⟨σ2, by rw [e0]; exact g1, g2, e5.trans g3, e6.trans g4⟩
          · obtain ⟨τ1, f', e0, e1, e2, e3, e4⟩ := stM τ f h hG hf
            obtain ⟨τ2, g1, g2, g3⟩ := oM τ1 f' e1 e2 e3
            exact ⟨τ2, by rw [e0]; exact g1, g2, e4.trans g3⟩
        · refine Or.inr (Or.inl ⟨q, hq, q60, q61, fun σ s u f hs12 h hC hu hf => ?_, fun τ f h hG hf => ?_⟩)
          · obtain ⟨σ1, f', e0, e1, e2, e3, e4, e5, e6⟩ := stC σ s u f hs12 h hC hu hf
            obtain ⟨σ2, g1, g2, g3, g4⟩ := oC σ1 s _ f' hs12 e1 e2 e3 e4
            exact ⟨σ2, by rw [e0]; exact g1, g2, e5.trans g3, e6.trans g4⟩
          · obtain ⟨τ1, f', e0, e1, e2, e3, e4⟩ := stM τ f h hG hf
            obtain ⟨τ2, g1, g2, g3⟩ := oM τ1 f' e1 e2 e3
            exact ⟨τ2, by rw [e0]; exact g1, g2, e4.trans g3⟩
        · refine Or.inr (Or.inr ⟨q, cs', by omega, hq2, hb', fun σ s u f hs12 h hC hu hf => ?_, fun τ f h hG hf => ?_⟩)
          · obtain ⟨σ1, f', e0, e1, e2, e3, e4, e5, e6⟩ := stC σ s u f hs12 h hC hu hf
            obtain ⟨σ2, g1, g2, g2', g3, g4⟩ := oC σ1 s _ f' hs12 e1 e2 e3 e4
            exact ⟨σ2, by rw [e0]; exact g1, g2, g2', e5.trans g3, e6.trans g4⟩
          · obtain ⟨τ1, f', e0, e1, e2, e3, e4⟩ := stM τ f h hG hf
            obtain ⟨τ2, g1, g2, g2', g3⟩ := oM τ1 f' e1 e2 e3
            exact ⟨τ2, by rw [e0]; exact g1, g2, g2', e4.trans g3⟩
      · have bad : ∀ k : Nat, k < 3 → lL T false p = (k : Int) → cs k ≠ 0 := fun k hk3 hk h0 => good ⟨k, hk3, hk, h0⟩
        refine Or.inl ⟨qL T false p, fun σ s u f hs12 h hC hu hf => ?_, fun τ f h hG hf => ?_⟩
        · obtain ⟨f', rfl⟩ : ∃ f', f = f' + 1 := ⟨f - 1, by omega⟩
          obtain ⟨σ1, e1, e2, e3⟩ := cterm_bad hT false h hsa (x0 := nI (6 * s)) (K := kFl) (f := f') h3 ham hu.1 (fun k hk3 hk => by rw [hu.2 k hk3]; exact decide_eq_true (bad k hk3 hk))
          obtain ⟨σ2, g1, g2, g3⟩ := kFl_s (qL_le hp).2 e2
          exact ⟨σ2, by rw [e1]; exact g1, g2, (e3.trans g3).mono (by simp), fr6_o (e3.trans g3) (by decide)⟩
        · obtain ⟨f', rfl⟩ : ∃ f', f = f' + 1 + 1 := ⟨f - 2, by omega⟩
          obtain ⟨τ1, e1, e2, e3⟩ := mloop_go hT (f := f' + 1) h c60 c61
          obtain ⟨τ2, g1, g2, g3⟩ := mterm_bad hT false e1 hsa hb (fun l hl => by rw [(e2.1 49 (by decide) (by decide)).1]; exact hG l hl) bad
          have g1' : fMM_takesTerm (0 : Int32) τ1 = some (0, τ2) := g1
          rw [e3, db2_t g1', mloop_0]
          exact ⟨τ2, rfl, g3, (e2.mono (by simp) (by simp)).trans g2⟩
