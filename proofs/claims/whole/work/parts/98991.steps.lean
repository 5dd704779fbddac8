/-! formulas: the model's steps: numbers, signs, closing -/
theorem lt_wi {n v : Nat} (hn : n ≤ 12) (hv : v < 100) : wi (nI v) 0 ((n : Int) - 1) = decide (v < n) := by
  unfold wi
  rw [nI_toInt (by omega)]
  by_cases z : v < n
  · rw [decide_eq_true z, decide_eq_true (by omega)]
  · rw [decide_eq_false z, decide_eq_false (by omega)]
theorem mrow {T : List Nat} (hT : TxOk T) {n : Nat} (hn : n ≤ 12) {τ : sT} {p : Nat} (hp : p ≤ T.length) (h : MsAt τ T p) (h34 : τ.1 34 0 = nI n) :
    ∃ τ1, fMM_takesRow τ = some (b01 (nuOk T p && decide ((nuL T 2 p 0).2 < n)), τ1) ∧ MsAt τ1 T (if nuOk T p = true then (if (nuL T 2 p 0).2 < n then (nuL T 2 p 0).1 else p) else (nuL T 2 p 0).1) ∧ τ1.1 33 32 = nI (nuL T 2 p 0).2 ∧ mOff [] [27, 32] τ τ1 := by
  obtain ⟨τ1, e1, e2, e3, e4⟩ := tnum_spec hT hp h
  have hv := nuL_v2 T p
  have h34' : τ1.1 34 0 = nI n := by rw [(e4.1 34 (by simp) (by decide)).1]; exact h34
  unfold fMM_takesRow
  rw [dlt_u, h.2, db2_t e1]
  generalize nuL T 2 p 0 = r at *
  obtain ⟨r, v⟩ := r
  dsimp only at *
  cases hk : nuOk T p
  · rw [if_pos b0, if_neg (by decide), Bool.false_and]
    exact ⟨τ1, rfl, e2, e3, e4⟩
  · have hr := isRow_wi h34' hn (nI v)
    rw [lt_wi hn hv] at hr
    rw [if_neg b1, e3, db1_t hr, dlt_u, Bool.true_and, if_pos rfl]
    have fin : ∀ y : Nat, ∃ τ2, (dlt (siW τ1 33 27 (nI y)) fun σ10 => db1 (fMM_isRow (σ10.1 33 32) σ10) fun r12 => dck (okZ r12) <| some (r12, σ10)) = some (b01 (decide (v < n)), τ2) ∧ MsAt τ2 T y ∧ τ2.1 33 32 = nI v ∧ mOff [] [27, 32] τ τ2 := by
      intro y
      have h32 : (siW τ1 33 27 (nI y)).1 33 32 = nI v := by rw [siW_s, if_neg (by decide)]; exact e3
      have hr2 := isRow_wi (σ := siW τ1 33 27 (nI y)) (by rw [siW_n (by decide)]; exact h34') hn (nI v)
      rw [lt_wi hn hv] at hr2
      rw [dlt_u, h32, db1_t hr2, dck_t (okZ_b _)]
      exact ⟨_, rfl, e2.p, h32, e4.trans (mOff_si (by simp))⟩
    by_cases z : v < n
    · rw [decide_eq_true z, if_neg b1, if_pos z, e2.2]
      have := fin r
      rw [decide_eq_true z] at this
      exact this
    · rw [decide_eq_false z, if_pos b0, if_neg z]
      have := fin p
      rw [decide_eq_false z] at this
      exact this
theorem no_num {T : List Nat} (hT : TxOk T) {n : Nat} (hn : n ≤ 12) {τ : sT} {p : Nat} {S : List Int} {W : List Nat} {d : Nat} (h : FM T n τ p S W d true) (hg : dg T (sk T p) = true) (hb : (nuOk T (sk T p) && decide ((nuL T 2 (sk T p) 0).2 < n)) = false) :
    No T τ (if nuOk T (sk T p) = true then sk T p else (nuL T 2 (sk T p) 0).1) := by
  have hc := dg_i hg
  obtain ⟨τ2, e1, e2, e3, e4⟩ := it_go hT h (by omega)
  have hq := sk_le h.1.1
  obtain ⟨τ3, f1, f2, f3, f4⟩ := mrow hT hn hq e1 e2.2.2.2.2
  have hle := (nuL_pl (T := T) 2 (sk T p) 0 hq).2.1
  rw [hb] at f1
  refine ⟨τ3, ⟨?_, ?_⟩, (MO_of e3 (by simp) (by simp)).trans (MO_of f4 (by simp) (by simp)), fun K f => ?_⟩
  · split
    · exact hq
    · exact hle
  · by_cases z : nuOk T (sk T p) = true
    · rw [z, Bool.true_and] at hb
      rw [if_pos z, if_neg (of_decide_eq_false hb)] at f2
      rw [if_pos z]; exact f2
    · rw [if_neg z] at f2 ⊢; exact f2
  · have hb2 : tpB (iI (ch T (sk T p))) τ2 = some (0, τ3) := by
      unfold tpB
      rw [e2.2.2.2.1, if_neg b1, db1_t (inM9 hT _), hg, if_neg b1, db2_t f1, if_pos b0, dck_t (okZ_b _)]
      rfl
    rw [e4, db2_t hb2, if_pos rfl, it_0]
theorem go_num {T : List Nat} (hT : TxOk T) {n : Nat} (hn : n ≤ 12) {τ : sT} {p m : Nat} {S : List Int} {W : List Nat} {d : Nat} (h : FM T n τ p S (W ++ List.replicate m 33) d true) (hg : dg T (sk T p) = true) (hb : (nuOk T (sk T p) && decide ((nuL T 2 (sk T p) 0).2 < n)) = true) (hW : W.getLast? ≠ some 33) (hl : S.length + (W.length + m) < 150) :
    Go T n τ (nuL T 2 (sk T p) 0).1 (S ++ [((nuL T 2 (sk T p) 0).2 : Int)] ++ List.replicate m (-33)) W d false := by
  have hc := dg_i hg
  obtain ⟨τ2, e1, e2, e3, e4⟩ := it_go hT h (by omega)
  have hq := sk_le h.1.1
  obtain ⟨τ3, f1, f2, f3, f4⟩ := mrow hT hn hq e1 e2.2.2.2.2
  have hle := (nuL_pl (T := T) 2 (sk T p) 0 hq).2.1
  rw [hb] at f1
  rw [Bool.and_eq_true] at hb
  rw [if_pos hb.1, if_pos (of_decide_eq_true hb.2)] at f2
  have hX3 := e2.of f4 (by decide) (by decide) (by decide) (by decide)
  obtain ⟨τ4, g1, g2, g3⟩ := msays hX3.1 (by omega) ((nuL T 2 (sk T p) 0).2 : Int)
  have hW4 := hX3.2.1.of g3 (by decide) (by decide)
  have hwb : wB (W ++ List.replicate m 33) := ⟨by rw [List.length_append, List.length_replicate]; omega, h.2.2⟩
  obtain ⟨τ5, k1, k2, k3, k4⟩ := mnots g2 hW4 hW hwb (by rw [List.length_append, List.length_singleton]; omega)
  obtain ⟨τ6, h6⟩ : ∃ t, t = siW τ5 33 34 (0 : Int32) := ⟨_, rfl⟩
  have o6 : mOff [] [34] τ5 τ6 := by rw [h6]; exact mOff_si (by simp)
  have oo : mOff [46] [29, 31, 34] τ3 τ6 := ((g3.mono (by simp) (by simp)).trans (k4.mono (by simp) (by simp))).trans (o6.mono (by simp) (by simp))
  refine ⟨τ6, ⟨mp_at hle ⟨f2.1.ms oo (by decide) (by decide), ?_⟩, ⟨k2.of o6 (by decide) (by decide), k3.of o6 (by decide) (by decide), ?_, ?_, ?_⟩, fun x hx => h.2.2 x (List.mem_append_left _ hx)⟩, ((MO_of e3 (by simp) (by simp)).trans (MO_of f4 (by simp) (by simp))).trans (MO_of oo (by simp) (by simp)), fun K f => ?_⟩
  · rw [(oo.2 27 (by decide)).1]; exact f2.2
  · rw [(oo.2 33 (by decide)).1]; exact hX3.2.2.1
  · rw [h6, siW_s, if_pos rfl]; rfl
  · rw [(oo.1 34 (by decide) (by decide)).1]; exact hX3.2.2.2.2
  · have hb2 : tpB (iI (ch T (sk T p))) τ2 = some (1, τ6) := by
      unfold tpB
      rw [e2.2.2.2.1, if_neg b1, db1_t (inM9 hT _), hg, if_neg b1, db2_t f1, if_neg b1, f3, nI_iI, db1_t g1, db1_t k1, dlt_u, dck_t (okZ_b _), h6]
      rfl
    rw [e4, db2_t hb2, if_neg (show ¬ (1 : Int32) = 0 by decide)]
theorem tp_sgn {τ : sT} {r2 : Int32} (h : τ.1 33 34 = b01 false) {b : Bool} {τ1 : sT} (e : fMM_takesSign r2 τ = some (b01 b, τ1)) : tpB r2 τ = some (b01 b, τ1) := by
  unfold tpB
  rw [h, if_pos b0, db2_t e, dck_t (okZ_b _)]
theorem go_sgn {T : List Nat} (hT : TxOk T) {n t : Nat} (ht : t ≤ 1) {τ : sT} {p : Nat} {S : List Int} {W Z : List Nat} {d : Nat} (h : FM T n τ p S (W ++ Z.reverse) d false) (hc : ch T (sk T p) = (sgn t : Int)) (hW : ∀ z, al t z → W.getLast? ≠ some z) (hZ : ∀ z ∈ Z, al t z) (hl : S.length + (W.length + Z.length) < 150) :
    Go T n τ (sk T p + 1) (S ++ ngs Z) (W ++ [sgn t]) d true := by
  have hs : sgn t = 124 ∨ sgn t = 38 := by unfold sgn; split <;> omega
  obtain ⟨τ2, e1, e2, e3, e4⟩ := it_go hT h (by omega)
  have hlt : sk T p < T.length := ch_lt (by omega)
  have hwb : wB (W ++ Z.reverse) := ⟨by rw [List.length_append, List.length_reverse]; omega, h.2.2⟩
  obtain ⟨τ3, f1, f2, f3, f4⟩ := pop_sgn ht Z FU τ2 S W (by unfold FU; omega) e2.1 e2.2.1 hW hZ hwb (by omega)
  obtain ⟨τ4, g1, g2, g3⟩ := mwaits f3 (by omega) (sgn t)
  obtain ⟨τ5, h5⟩ : ∃ t, t = siW (siW τ4 33 34 (1 : Int32)) 33 27 (nI (sk T p + 1)) := ⟨_, rfl⟩
  have o5 : mOff [] [27, 34] τ4 τ5 := by rw [h5]; exact (mOff_si (by simp)).trans (mOff_si (by simp))
  have o4 : mOff [46, 47] [29, 31] τ2 τ4 := (f4.mono (by simp) (by simp)).trans (g3.mono (by simp) (by simp))
  have oo : mOff [46, 47] [27, 29, 31, 34] τ2 τ5 := (o4.mono (by simp) (by simp)).trans (o5.mono (by simp) (by simp))
  refine ⟨τ5, ⟨mp_at hlt ⟨e1.1.ms oo (by decide) (by decide), by rw [h5, siW_s, if_pos rfl]⟩, ⟨(f2.of g3 (by decide) (by decide)).of o5 (by decide) (by decide), g2.of o5 (by decide) (by decide), ?_, ?_, ?_⟩, ?_⟩, (MO_of e3 (by simp) (by simp)).trans (MO_of oo (by simp) (by simp)), fun K f => ?_⟩
  · rw [(oo.2 33 (by decide)).1]; exact e2.2.2.1
  · rw [h5, siW_s, if_neg (by decide), siW_s, if_pos rfl]; rfl
  · rw [(oo.1 34 (by decide) (by decide)).1]; exact e2.2.2.2.2
  · intro y hy
    rcases List.mem_append.mp hy with hy | hy
    · exact h.2.2 y (List.mem_append_left _ hy)
    · rw [List.mem_singleton.mp hy]; omega
  · have h27 : (siW τ4 33 34 (1 : Int32)).1 33 27 = nI (sk T p) := by rw [siW_s, if_neg (by decide), (o4.2 27 (by decide)).1]; exact e1.2
    have hb : fMM_takesSign (nI (sgn t)) τ2 = some (b01 true, τ5) := by
      obtain ⟨A, hA⟩ : ∃ A, FU = A := ⟨_, rfl⟩
      rw [hA] at f1
      have body : (dlt (fun (σ4 : sT) =>
        db1 (fMM_waitsFor (nI (sgn t)) σ4) fun σ7 =>
        dlt (siW σ7 33 34 (1 : Int32)) fun σ8 =>
        dlt (siW σ8 33 27 ((σ8.1 33 27) + (1 : Int32))) fun σ9 =>
        some ((1 : Int32), σ9)) fun K5 =>
      fMM_takesSign_L79 (nI (sgn t)) K5 A τ2) = some (b01 true, τ5) := by
        rw [dlt_u, f1, db1_t g1, dlt_u, h27, nI_1, dlt_u, h5]; rfl
      unfold fMM_takesSign
      rw [hA, dlt_u]
      have n41 : ¬ nI (sgn t) = (41 : Int32) := by rcases hs with z | z <;> rw [z] <;> decide
      rw [if_neg n41]
      try dsimp only
      rw [dlt_u]
      rcases hs with z | z
      · rw [if_neg (show ¬ nI (sgn t) = (38 : Int32) by rw [z]; decide), if_pos (show nI (sgn t) = (124 : Int32) by rw [z]; rfl)]
        exact body
      · rw [if_pos (show nI (sgn t) = (38 : Int32) by rw [z]; rfl)]
        exact body
    rw [e4, hc, iI_nI, db2_t (tp_sgn e2.2.2.2.1 hb), if_neg b1]
theorem no_sgn {T : List Nat} (hT : TxOk T) {n : Nat} {τ : sT} {p : Nat} {S : List Int} {W : List Nat} {d : Nat} (h : FM T n τ p S W d false) (hd : d < 1000) (c38 : ch T (sk T p) ≠ 38) (c124 : ch T (sk T p) ≠ 124) (c41 : ch T (sk T p) = 41 → d = 0) (ce : ch T (sk T p) = -1 → 0 < d) : No T τ (sk T p) := by
  by_cases c : ch T (sk T p) = -1
  · exact it_end hT h c hd (Or.inr (ce c))
  · obtain ⟨τ2, e1, e2, e3, e4⟩ := it_go hT h c
    refine ⟨τ2, ⟨sk_le h.1.1, e1⟩, MO_of e3 (by simp) (by simp), fun K f => ?_⟩
    have hb : fMM_takesSign (iI (ch T (sk T p))) τ2 = some (b01 false, τ2) := by
      have n38 : ¬ iI (ch T (sk T p)) = (38 : Int32) := chn hT (k := 38) c38 (by omega)
      have n124 : ¬ iI (ch T (sk T p)) = (124 : Int32) := chn hT (k := 124) c124 (by omega)
      unfold fMM_takesSign
      rw [dlt_u, dlt_u]
      by_cases z : ch T (sk T p) = 41
      · rw [if_pos (show iI (ch T (sk T p)) = (41 : Int32) by rw [z]; rfl), e2.2.2.1, if_pos (show nI d ≤ (0 : Int32) by rw [c41 z]; decide)]
        try dsimp only
        rw [if_neg n38, if_neg n124]; rfl
      · rw [if_neg (show ¬ iI (ch T (sk T p)) = (41 : Int32) from chn hT (k := 41) z (by omega))]
        try dsimp only
        rw [if_neg n38, if_neg n124]; rfl
    rw [e4, db2_t (tp_sgn e2.2.2.2.1 hb), if_pos b0, it_0]
theorem go_close {T : List Nat} (hT : TxOk T) {n : Nat} {τ : sT} {p m : Nat} {S : List Int} {W Z : List Nat} {d : Nat} (h : FM T n τ p S (W ++ List.replicate m 33 ++ [40] ++ Z.reverse) (d + 1) false) (hd : d < 1000) (hc : ch T (sk T p) = 41) (hW : W.getLast? ≠ some 33) (hZ : ∀ z ∈ Z, z ≠ 40) (hl : S.length + (W.length + m + 1 + Z.length) < 150) :
    Go T n τ (sk T p + 1) (S ++ ngs Z ++ List.replicate m (-33)) W d false := by
  obtain ⟨τ2, e1, e2, e3, e4⟩ := it_go hT h (by omega)
  have hlt : sk T p < T.length := ch_lt (by omega)
  have hwb : wB (W ++ List.replicate m 33 ++ [40] ++ Z.reverse) := ⟨by simp only [List.length_append, List.length_reverse, List.length_replicate, List.length_singleton]; omega, h.2.2⟩
  obtain ⟨τ3, f1, f2, f3, f4⟩ := pop_par Z FU τ2 S (W ++ List.replicate m 33 ++ [40]) (by unfold FU; omega) e2.1 e2.2.1 (last_snoc _ _) hZ hwb (by omega)
  obtain ⟨τ4, h4⟩ : ∃ t, t = siW (siW τ3 33 31 (nI (W ++ List.replicate m 33).length)) 33 33 (nI d) := ⟨_, rfl⟩
  have o4 : mOff [] [31, 33] τ3 τ4 := by rw [h4]; exact (mOff_si (by simp)).trans (mOff_si (by simp))
  have hW4 : WaAt τ4 (W ++ List.replicate m 33) := by
    refine ⟨by rw [h4, siW_s, if_neg (by decide), siW_s, if_pos rfl], fun j x hx => ?_⟩
    rw [(o4.1 47 (by decide) (by decide)).1]
    exact f3.2 j x (by rw [List.getElem?_append_left (List.getElem?_eq_some_iff.mp hx).1]; exact hx)
  have hS4 := f2.of o4 (by decide) (by decide)
  obtain ⟨τ5, k1, k2, k3, k4⟩ := mnots hS4 hW4 hW (wB_app (wB_app hwb)) (by rw [List.length_append]; unfold ngs; rw [List.length_map]; omega)
  obtain ⟨τ6, h6⟩ : ∃ t, t = siW τ5 33 27 (nI (sk T p + 1)) := ⟨_, rfl⟩
  have o6 : mOff [] [27] τ5 τ6 := by rw [h6]; exact mOff_si (by simp)
  have o5 : mOff [46] [29, 31, 33] τ2 τ5 := ((f4.mono (by simp) (by simp)).trans (o4.mono (by simp) (by simp))).trans (k4.mono (by simp) (by simp))
  have oo : mOff [46] [27, 29, 31, 33] τ2 τ6 := (o5.mono (by simp) (by simp)).trans (o6.mono (by simp) (by simp))
  refine ⟨τ6, ⟨mp_at hlt ⟨e1.1.ms oo (by decide) (by decide), by rw [h6, siW_s, if_pos rfl]⟩, ⟨k2.of o6 (by decide) (by decide), k3.of o6 (by decide) (by decide), ?_, ?_, ?_⟩, fun x hx => h.2.2 x (by simp [hx])⟩, (MO_of e3 (by simp) (by simp)).trans (MO_of oo (by simp) (by simp)), fun K f => ?_⟩
  · rw [(o6.2 33 (by decide)).1, (k4.2 33 (by decide)).1, h4, siW_s, if_pos rfl]
  · rw [(oo.2 34 (by decide)).1]; exact e2.2.2.2.1
  · rw [(oo.1 34 (by decide) (by decide)).1]; exact e2.2.2.2.2
  · have h31 : τ3.1 33 31 = nI ((W ++ List.replicate m 33).length + 1) := by
      rw [f3.1, List.length_append, List.length_singleton]
    have h33 : (siW τ3 33 31 (nI (W ++ List.replicate m 33).length)).1 33 33 = nI (d + 1) := by
      rw [siW_s, if_neg (by decide), (f4.2 33 (by decide)).1]; exact e2.2.2.1
    have h27 : τ5.1 33 27 = nI (sk T p) := by rw [(o5.2 27 (by decide)).1]; exact e1.2
    have hb : fMM_takesSign (41 : Int32) τ2 = some (b01 true, τ6) := by
      obtain ⟨A, hA⟩ : ∃ A, FU = A := ⟨_, rfl⟩
      rw [hA] at f1
      unfold fMM_takesSign
      rw [hA, dlt_u, if_pos rfl, e2.2.2.1, if_neg (show ¬ nI (d + 1) ≤ (0 : Int32) from nI_ge (a := 0) (by omega) (by omega)), dlt_u, f1, h31, nI_pred, dlt_u, h33, nI_pred, dlt_u, ← h4, db1_t k1, h27, nI_1, dlt_u, h6]
      rfl
    rw [e4, hc, show iI 41 = (41 : Int32) from rfl, db2_t (tp_sgn e2.2.2.2.1 hb), if_neg b1]
