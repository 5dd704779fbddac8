/-! formulas: the model's waiting signs -/
def SaAt (τ : sT) (S : List Int) : Prop := τ.1 33 29 = nI S.length ∧ ∀ j x, S[j]? = some x → τ.1 46 j = iI x
def WaAt (τ : sT) (W : List Nat) : Prop := τ.1 33 31 = nI W.length ∧ ∀ j x, W[j]? = some x → τ.1 47 j = nI x
theorem SaAt.of {C F : List Nat} {τ τ1 : sT} {S : List Int} (h : SaAt τ S) (o : mOff C F τ τ1) (h1 : 46 ∉ C) (h2 : 29 ∉ F) : SaAt τ1 S := by
  unfold SaAt at *
  rw [(o.1 46 h1 (by decide)).1, (o.2 29 h2).1]; exact h
theorem WaAt.of {C F : List Nat} {τ τ1 : sT} {W : List Nat} (h : WaAt τ W) (o : mOff C F τ τ1) (h1 : 47 ∉ C) (h2 : 31 ∉ F) : WaAt τ1 W := by
  unfold WaAt at *
  rw [(o.1 47 h1 (by decide)).1, (o.2 31 h2).1]; exact h
theorem snoc_at {α : Type} {f f1 : Nat → Int32} {c : α → Int32} {S : List α} (h : ∀ (j : Nat) (x : α), S[j]? = some x → f j = c x) {y : α} (h1 : ∀ j, f1 j = if j = S.length then c y else f j) : ∀ (j : Nat) (x : α), (S ++ [y])[j]? = some x → f1 j = c x := by
  intro j x hx
  rw [h1]
  by_cases hj : j < S.length
  · rw [if_neg (by omega)]
    rw [List.getElem?_append_left hj] at hx
    exact h j x hx
  · rw [List.getElem?_append_right (by omega)] at hx
    have hz : j - S.length < 1 := (List.getElem?_eq_some_iff.mp hx).1
    have hj0 : j = S.length := by omega
    subst hj0
    rw [Nat.sub_self] at hx
    cases hx
    rw [if_pos rfl]
theorem msays {τ : sT} {S : List Int} (h : SaAt τ S) (hl : S.length < 160) (x : Int) : ∃ τ1, fMM_says (iI x) τ = some τ1 ∧ SaAt τ1 (S ++ [x]) ∧ mOff [46] [29] τ τ1 := by
  refine ⟨siW (siW τ 46 S.length (iI x)) 33 29 (nI (S.length + 1)), ?_, ⟨?_, ?_⟩, (mOff_ci (by simp) (by decide)).trans (mOff_si (by simp))⟩
  · unfold fMM_says
    rw [h.1, dck_t (okI_n (by omega) (by omega)), nc (by omega), dlt_u, siW_n (by decide), h.1, nI_1, dlt_u]
  · rw [siW_s, if_pos rfl, List.length_append, List.length_singleton]
  · exact snoc_at (c := iI) h.2 (fun j => by rw [siW_n (by decide), siW_s])
theorem msaysW {τ : sT} {S : List Int} {W : List Nat} {x : Nat} (h : SaAt τ S) (hl : S.length < 160) (hW : WaAt τ (W ++ [x])) (hw : W.length < 160) : ∃ τ1, fMM_saysWaiting τ = some τ1 ∧ SaAt τ1 (S ++ [-(x : Int)]) ∧ WaAt τ1 W ∧ mOff [46] [29, 31] τ τ1 := by
  obtain ⟨τa, ha⟩ : ∃ t, t = siW τ 33 31 (nI W.length) := ⟨_, rfl⟩
  have oa : mOff [] [31] τ τa := by rw [ha]; exact mOff_si (by simp)
  have h31 := hW.1
  rw [List.length_append, List.length_singleton] at h31
  have hx : τa.1 47 W.length = nI x := by
    rw [(oa.1 47 (by decide) (by decide)).1]
    exact hW.2 W.length x (by rw [List.getElem?_append_right (Nat.le_refl _), Nat.sub_self]; rfl)
  have hWa : WaAt τa W := by
    refine ⟨by rw [ha, siW_s, if_pos rfl], fun j y hy => ?_⟩
    rw [(oa.1 47 (by decide) (by decide)).1]
    exact hW.2 j y (by rw [List.getElem?_append_left (List.getElem?_eq_some_iff.mp hy).1]; exact hy)
  obtain ⟨τ1, e1, e2, e3⟩ := msays (h.of oa (by decide) (by decide)) hl (-(x : Int))
  refine ⟨τ1, ?_, e2, hWa.of e3 (by decide) (by decide), (oa.mono (by simp) (by simp)).trans (e3.mono (by simp) (by simp))⟩
  unfold fMM_saysWaiting
  rw [h31, nI_pred, dlt_u, ← ha, hWa.1, dck_t (okI_n (by omega) (by omega)), nc (by omega), hx, nI_iI, iI_neg, db1_t e1]
theorem mwaits {τ : sT} {W : List Nat} (h : WaAt τ W) (hl : W.length < 160) (x : Nat) : ∃ τ1, fMM_waitsFor (nI x) τ = some τ1 ∧ WaAt τ1 (W ++ [x]) ∧ mOff [47] [31] τ τ1 := by
  refine ⟨siW (siW τ 47 W.length (nI x)) 33 31 (nI (W.length + 1)), ?_, ⟨?_, ?_⟩, (mOff_ci (by simp) (by decide)).trans (mOff_si (by simp))⟩
  · unfold fMM_waitsFor
    rw [h.1, dck_t (okI_n (by omega) (by omega)), nc (by omega), dlt_u, siW_n (by decide), h.1, nI_1, dlt_u]
  · rw [siW_s, if_pos rfl, List.length_append, List.length_singleton]
  · exact snoc_at (c := nI) h.2 (fun j => by rw [siW_n (by decide), siW_s])
def wB (W : List Nat) : Prop := W.length < 160 ∧ ∀ x ∈ W, x < 1000
theorem misW {τ : sT} {W : List Nat} (h : WaAt τ W) (hl : wB W) {y : Nat} (hy : y < 1000) : fMM_isWaiting (nI y) τ = some (b01 (decide (W.getLast? = some y))) := by
  unfold fMM_isWaiting
  rw [h.1]
  rcases List.eq_nil_or_concat W with z | ⟨V, x, z⟩
  · subst z
    rw [if_pos (by decide)]; rfl
  · have hlen : W.length = V.length + 1 := by rw [z]; simp
    have hlt := hl.1
    have hx : x < 1000 := hl.2 x (by rw [z]; simp)
    have hx' : τ.1 47 V.length = nI x := h.2 V.length x (by rw [z, List.concat_eq_append, List.getElem?_append_right (Nat.le_refl _), Nat.sub_self]; rfl)
    rw [hlen, if_neg (show ¬ nI (V.length + 1) ≤ (0 : Int32) from nI_ge (a := 0) (by omega) (by omega)), nI_pred, dck_t (okI_n (by omega) (by omega)), nc (by omega), hx']
    have hg : W.getLast? = some x := by rw [z, List.concat_eq_append]; simp
    rw [hg]
    by_cases e : x = y
    · rw [if_pos (by rw [e]), decide_eq_true (by rw [e])]; rfl
    · rw [if_neg (fun w => e ((nI_eq (by omega) (by omega)).mp w)), decide_eq_false (fun w => e (Option.some.inj w))]; rfl
theorem wB_app {W Z : List Nat} (h : wB (W ++ Z)) : wB W := ⟨by have := h.1; rw [List.length_append] at this; omega, fun x hx => h.2 x (List.mem_append_left _ hx)⟩
theorem last_snoc (W : List Nat) (x : Nat) : (W ++ [x]).getLast? = some x := by simp
/-- the nots are said -/
theorem nots_loop : ∀ (m f : Nat) (τ : sT) (S : List Int) (W : List Nat), m < f → SaAt τ S → WaAt τ (W ++ List.replicate m 33) → W.getLast? ≠ some 33 → wB (W ++ List.replicate m 33) → S.length + m < 160 →
    ∃ τ1, fMM_saysNots_L0 f τ = some τ1 ∧ SaAt τ1 (S ++ List.replicate m (-33)) ∧ WaAt τ1 W ∧ mOff [46] [29, 31] τ τ1 := by
  intro m
  induction m with
  | zero =>
    intro f τ S W hf hS hW hg hb hl
    obtain ⟨f', rfl⟩ : ∃ f', f = f' + 1 := ⟨f - 1, by omega⟩
    rw [List.replicate_zero, List.append_nil] at hW hb
    refine ⟨τ, ?_, by rw [List.replicate_zero, List.append_nil]; exact hS, hW, mOff.refl _ _ _⟩
    unfold fMM_saysNots_L0
    rw [show (33 : Int32) = nI 33 from rfl, db1_t (misW hW hb (by omega)), decide_eq_false hg, if_pos b0]
  | succ m ih =>
    intro f τ S W hf hS hW hg hb hl
    obtain ⟨f', rfl⟩ : ∃ f', f = f' + 1 := ⟨f - 1, by omega⟩
    have hr : W ++ List.replicate (m + 1) 33 = (W ++ List.replicate m 33) ++ [33] := by rw [List.replicate_succ', List.append_assoc]
    rw [hr] at hW hb
    have hb' := wB_app hb
    obtain ⟨τ1, e1, e2, e3, e4⟩ := msaysW hS (by omega) hW hb'.1
    obtain ⟨τ2, f1, f2, f3, f4⟩ := ih f' τ1 (S ++ [-((33 : Nat) : Int)]) W (by omega) e2 e3 hg hb' (by rw [List.length_append, List.length_singleton]; omega)
    refine ⟨τ2, ?_, ?_, f3, e4.trans f4⟩
    · unfold fMM_saysNots_L0
      rw [show (33 : Int32) = nI 33 from rfl, db1_t (misW hW hb (by omega)), decide_eq_true (last_snoc _ _), if_neg b1, db1_t e1]
      exact f1
    · rw [List.append_assoc] at f2
      rw [List.replicate_succ]
      exact f2
theorem mnots {m : Nat} {τ : sT} {S : List Int} {W : List Nat} (hS : SaAt τ S) (hW : WaAt τ (W ++ List.replicate m 33)) (hg : W.getLast? ≠ some 33) (hb : wB (W ++ List.replicate m 33)) (hl : S.length + m < 160) :
    ∃ τ1, fMM_saysNots τ = some τ1 ∧ SaAt τ1 (S ++ List.replicate m (-33)) ∧ WaAt τ1 W ∧ mOff [46] [29, 31] τ τ1 := by
  unfold fMM_saysNots
  exact nots_loop m FU τ S W (by unfold FU; omega) hS hW hg hb hl
def ngs (Z : List Nat) : List Int := Z.map (fun (z : Nat) => -(z : Int))
theorem rev_c (W Z : List Nat) (z : Nat) : W ++ (z :: Z).reverse = (W ++ Z.reverse) ++ [z] := by rw [List.reverse_cons, List.append_assoc]
/-- signs above a parenthesis are said -/
theorem pop_par : ∀ (Z : List Nat) (f : Nat) (τ : sT) (S : List Int) (W : List Nat), Z.length < f → SaAt τ S → WaAt τ (W ++ Z.reverse) → W.getLast? = some 40 → (∀ z ∈ Z, z ≠ 40) → wB (W ++ Z.reverse) → S.length + Z.length < 160 →
    ∃ τ1, (∀ K : sT → Option (Int32 × sT), fMM_takesSign_L13 K f τ = K τ1) ∧ SaAt τ1 (S ++ ngs Z) ∧ WaAt τ1 W ∧ mOff [46] [29, 31] τ τ1 := by
  intro Z
  induction Z with
  | nil =>
    intro f τ S W hf hS hW hg hz hb hl
    obtain ⟨f', rfl⟩ : ∃ f', f = f' + 1 := ⟨f - 1, by omega⟩
    rw [List.reverse_nil, List.append_nil] at hW hb
    refine ⟨τ, fun K => ?_, by rw [show ngs [] = [] from rfl, List.append_nil]; exact hS, hW, mOff.refl _ _ _⟩
    unfold fMM_takesSign_L13
    rw [show (40 : Int32) = nI 40 from rfl, db1_t (misW hW hb (by omega)), decide_eq_true hg, if_neg b1]
  | cons z Z ih =>
    intro f τ S W hf hS hW hg hz hb hl
    rw [List.length_cons] at hf hl
    obtain ⟨f', rfl⟩ : ∃ f', f = f' + 1 := ⟨f - 1, by omega⟩
    rw [rev_c] at hW hb
    have hb' := wB_app hb
    obtain ⟨τ1, e1, e2, e3, e4⟩ := msaysW hS (by omega) hW hb'.1
    obtain ⟨τ2, f1, f2, f3, f4⟩ := ih f' τ1 (S ++ [-(z : Int)]) W (by omega) e2 e3 hg (fun y hy => hz y (List.mem_cons_of_mem _ hy)) hb' (by rw [List.length_append, List.length_singleton]; omega)
    refine ⟨τ2, fun K => ?_, by rw [List.append_assoc] at f2; exact f2, f3, e4.trans f4⟩
    unfold fMM_takesSign_L13
    rw [show (40 : Int32) = nI 40 from rfl, db1_t (misW hW hb (by omega)), last_snoc, decide_eq_false (fun w => hz z List.mem_cons_self (Option.some.inj w)), if_pos b0, db1_t e1]
    exact f1 K
/-- at the end all signs are said -/
theorem pop_all : ∀ (Z : List Nat) (f : Nat) (τ : sT) (S : List Int), Z.length < f → SaAt τ S → WaAt τ Z.reverse → wB Z.reverse → S.length + Z.length < 160 →
    ∃ τ1, fMM_readsFormula_L77 (1 : Int32) f τ = some ((1 : Int32), τ1) ∧ SaAt τ1 (S ++ ngs Z) ∧ mOff [46] [29, 31] τ τ1 := by
  intro Z
  induction Z with
  | nil =>
    intro f τ S hf hS hW hb hl
    obtain ⟨f', rfl⟩ : ∃ f', f = f' + 1 := ⟨f - 1, by omega⟩
    refine ⟨τ, ?_, by rw [show ngs [] = [] from rfl, List.append_nil]; exact hS, mOff.refl _ _ _⟩
    unfold fMM_readsFormula_L77
    rw [if_neg (show ¬ (1 : Int32) = 0 by decide), hW.1, if_pos (by decide), dck_t (by decide)]
  | cons z Z ih =>
    intro f τ S hf hS hW hb hl
    rw [List.length_cons] at hf hl
    obtain ⟨f', rfl⟩ : ∃ f', f = f' + 1 := ⟨f - 1, by omega⟩
    have hlen := hb.1
    rw [List.length_reverse, List.length_cons] at hlen
    have hW1 := hW.1
    rw [List.length_reverse, List.length_cons] at hW1
    rw [List.reverse_cons] at hW hb
    have hb' := wB_app hb
    obtain ⟨τ1, e1, e2, e3, e4⟩ := msaysW hS (by omega) hW hb'.1
    obtain ⟨τ2, f1, f2, f3⟩ := ih f' τ1 (S ++ [-(z : Int)]) (by omega) e2 e3 hb' (by rw [List.length_append, List.length_singleton]; omega)
    refine ⟨τ2, ?_, by rw [List.append_assoc] at f2; exact f2, e4.trans f3⟩
    unfold fMM_readsFormula_L77
    rw [if_neg (show ¬ (1 : Int32) = 0 by decide), hW1, if_neg (show ¬ nI (Z.length + 1) ≤ (0 : Int32) from nI_ge (a := 0) (by omega) (by omega)), db1_t e1]
    exact f1
/-- which signs may wait behind an item of a level: 0 a sum, 1 a product, 2 a factor -/
def al (t z : Nat) : Prop := (t ≤ 1 ∧ z = 38) ∨ (t = 0 ∧ z = 124)
def sgn (t : Nat) : Nat := if t = 0 then 124 else 38
def Wk (t : Nat) (W : List Nat) : Prop := W.getLast? ≠ some 33 ∧ ∀ z, al t z → W.getLast? ≠ some z
theorem pop_sgn {t : Nat} (ht : t ≤ 1) : ∀ (Z : List Nat) (f : Nat) (τ : sT) (S : List Int) (W : List Nat), Z.length < f → SaAt τ S → WaAt τ (W ++ Z.reverse) → (∀ z, al t z → W.getLast? ≠ some z) → (∀ z ∈ Z, al t z) → wB (W ++ Z.reverse) → S.length + Z.length < 160 →
    ∃ τ1, (∀ K : sT → Option (Int32 × sT), fMM_takesSign_L79 (nI (sgn t)) K f τ = K τ1) ∧ SaAt τ1 (S ++ ngs Z) ∧ WaAt τ1 W ∧ mOff [46] [29, 31] τ τ1 := by
  intro Z
  induction Z with
  | nil =>
    intro f τ S W hf hS hW hg hz hb hl
    obtain ⟨f', rfl⟩ : ∃ f', f = f' + 1 := ⟨f - 1, by omega⟩
    rw [List.reverse_nil, List.append_nil] at hW hb
    refine ⟨τ, fun K => ?_, by rw [show ngs [] = [] from rfl, List.append_nil]; exact hS, hW, mOff.refl _ _ _⟩
    unfold fMM_takesSign_L79
    rw [show (38 : Int32) = nI 38 from rfl, db1_t (misW hW hb (by omega)), decide_eq_false (hg 38 (Or.inl ⟨ht, rfl⟩)), dlt_u, if_pos b0]
    rcases (show t = 0 ∨ t = 1 by omega) with rfl | rfl
    · rw [if_pos (show nI (sgn 0) = (124 : Int32) from rfl), show (124 : Int32) = nI 124 from rfl, db1_t (misW hW hb (by omega)), decide_eq_false (hg 124 (Or.inr ⟨rfl, rfl⟩)), if_pos b0]
    · rw [if_neg (show ¬ nI (sgn 1) = (124 : Int32) by decide)]
  | cons z Z ih =>
    intro f τ S W hf hS hW hg hz hb hl
    rw [List.length_cons] at hf hl
    obtain ⟨f', rfl⟩ : ∃ f', f = f' + 1 := ⟨f - 1, by omega⟩
    rw [rev_c] at hW hb
    have hb' := wB_app hb
    obtain ⟨τ1, e1, e2, e3, e4⟩ := msaysW hS (by omega) hW hb'.1
    obtain ⟨τ2, f1, f2, f3, f4⟩ := ih f' τ1 (S ++ [-(z : Int)]) W (by omega) e2 e3 hg (fun y hy => hz y (List.mem_cons_of_mem _ hy)) hb' (by rw [List.length_append, List.length_singleton]; omega)
    refine ⟨τ2, fun K => ?_, by rw [List.append_assoc] at f2; exact f2, f3, e4.trans f4⟩
    unfold fMM_takesSign_L79
    rw [show (38 : Int32) = nI 38 from rfl, db1_t (misW hW hb (by omega)), last_snoc, dlt_u]
    rcases hz z List.mem_cons_self with ⟨h1, h2⟩ | ⟨h1, h2⟩
    · rw [decide_eq_true (by rw [h2]), if_neg b1, db1_t e1]
      exact f1 K
    · subst h1
      rw [decide_eq_false (fun w => by have := Option.some.inj w; omega), if_pos b0, if_pos (show nI (sgn 0) = (124 : Int32) from rfl), show (124 : Int32) = nI 124 from rfl, db1_t (misW hW hb (by omega)), last_snoc, decide_eq_true (by rw [h2]), if_neg b1, db1_t e1]
      exact f1 K
