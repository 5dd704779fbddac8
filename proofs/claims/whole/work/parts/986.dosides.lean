/-! sides: both sides -/
theorem mQ_fst : ∀ (L : List Nat) (k : Nat), (mQ L k).map Prod.fst = L
  | [], _ => rfl
  | i :: R, k => by rw [mQ, List.map_cons, mQ_fst R]
theorem mQ_len (L : List Nat) (k : Nat) : (mQ L k).length = L.length := by
  have := congrArg List.length (mQ_fst L k)
  rwa [List.length_map] at this
theorem mQ_mem {L : List Nat} {k : Nat} {q : Nat × Nat} (h : q ∈ mQ L k) : q.1 ∈ L := by
  have := List.mem_map_of_mem (f := Prod.fst) h
  rwa [mQ_fst] at this
theorem lR_sat (g : gT) (Q : List (Nat × Nat)) : (∃ p, ∀ r ∈ lR g Q, hol p r) ↔ satQ g Q := by
  unfold satQ
  refine exists_congr fun p => ?_
  unfold lR
  constructor
  · intro h q hq
    exact (dbl_hol _ p).mp (fun r hr => h r (List.mem_flatMap.mpr ⟨_, List.mem_map.mpr ⟨q, hq, rfl⟩, hr⟩))
  · intro h r hr
    obtain ⟨s, hs, hr⟩ := List.mem_flatMap.mp hr
    obtain ⟨q, hq, rfl⟩ := List.mem_map.mp hs
    exact (dbl_hol _ p).mpr (h q hq) r hr
theorem lR_B {n : Nat} {g : gT} (ok : BkOk n g) {Q : List (Nat × Nat)} (hQ : ∀ q ∈ Q, q.1 < n) : ∀ r ∈ lR g Q, rk r ≤ 1 ∧ rB 5 50 r := by
  intro r hr
  unfold lR at hr
  obtain ⟨s, hs, hr⟩ := List.mem_flatMap.mp hr
  obtain ⟨q, hq, rfl⟩ := List.mem_map.mp hs
  have hB := srw_B ok (hQ q hq) q.2
  exact ⟨dbl_kind hB.2.2.2.2 r hr, dbl_B hB r hr⟩
theorem canSides_spec {n : Nat} {g : gT} (ok : BkOk n g) {L : List Nat} (hL : ∀ i ∈ L, i < n) (hs : L.length ≤ 5) {k : Nat} (hk : k < 1000) {τ : sT} (hB : BkM τ n g) (hS : SdAt τ L) :
    ∃ (τ1 : sT) (b : Bool), fMM_canSides (nI k) τ = some (b01 b, τ1) ∧ SideAt τ1 (mQ L k) ∧ mOff [37, 38, 44] [5, 7, 8, 9, 10, 11, 12, 13, 14] τ τ1 ∧ (b = true ↔ satQ g (mQ L k)) := by
  obtain ⟨τa, ha⟩ : ∃ z, z = siW τ 33 5 (0 : Int32) := ⟨_, rfl⟩
  have oa : mOff [37, 44] [5] τ τa := by rw [ha]; exact mOff_si (by simp)
  have hA : LaidAt τa (lR g []) := by
    refine ⟨by rw [ha, siW_s, if_pos rfl]; rfl, fun i r h => ?_⟩
    have h' : ([] : List rT)[i]? = some r := h
    simp at h'
  obtain ⟨τb, e1, e2, e3, e4⟩ := cs9_loop ok hL hs L [] k FU τa rfl (by unfold FU; omega) hk (hB.of oa (by decide)) (hS.of oa (by decide) (by decide)) hA (fun p q h => by simp at h)
  rw [List.nil_append] at e2 e3
  have hBk := lR_B ok (Q := mQ L k) (fun q hq => hL _ (mQ_mem hq))
  obtain ⟨τ1, b, f1, f2, f3⟩ := canLaid_spec e2 (by have := lR_len g (mQ L k); rw [mQ_len] at this; omega) (fun r hr => (hBk r hr).1) (fun r hr => (hBk r hr).2)
  refine ⟨τ1, b, ?_, ?_, ((oa.trans e4).mono (by simp) (by simp)).trans (f2.mono (by simp) (by simp)), f3.trans (lR_sat g _)⟩
  · have e1' := e1 (fun (σ5 : sT) => db2 (fMM_canLaid σ5) fun r8 σ9 => dck (okZ r8) <| some (r8, σ9))
    rw [List.length_nil, nI_0] at e1'
    obtain ⟨A, hA'⟩ : ∃ A, FU = A := ⟨_, rfl⟩
    unfold fMM_canSides
    rw [hA'] at e1' ⊢
    rw [dlt_u, ← ha, dlt_u, e1', db2_t f1, dck_t (okZ_b b)]
  · intro p q hq
    rw [(f2.1 44 (by decide) (by decide)).1]; exact e3 p q hq
theorem sd32_loop {n : Nat} {g : gT} (ok : BkOk n g) {L : List Nat} (hL : ∀ i ∈ L, i < n) (hs : L.length ≤ 5) : ∀ (c k f x : Nat) (τ : sT), k + c = 3 ^ L.length → c < f → BkM τ n g → SdAt τ L → x = sumN (fun k => if dP (satQ g (mQ L k)) = true then 1 else 0) k →
    ∃ τ1, fMM_sides_L32 f (nI x) (nI k) τ = some (nI (sumN (fun k => if dP (satQ g (mQ L k)) = true then 1 else 0) (3 ^ L.length)), τ1) ∧ mOff [37, 38, 44] [5, 7, 8, 9, 10, 11, 12, 13, 14] τ τ1 := by
  have h243 : 3 ^ L.length ≤ 243 := show 3 ^ L.length ≤ 3 ^ 5 from Nat.pow_le_pow_right (by omega) hs
  intro c
  induction c with
  | zero =>
    intro k f x τ h1 h2 hB hS hx
    obtain ⟨f', rfl⟩ : ∃ f', f = f' + 1 := ⟨f - 1, by omega⟩
    refine ⟨τ, ?_, mOff.refl _ _ _⟩
    unfold fMM_sides_L32
    rw [db1_t (many_spec hS.1 hs), if_pos (nI_le (by omega) (by omega)), hx, show k = 3 ^ L.length by omega]
  | succ c ih =>
    intro k f x τ h1 h2 hB hS hx
    obtain ⟨f', rfl⟩ : ∃ f', f = f' + 1 := ⟨f - 1, by omega⟩
    obtain ⟨τa, b, e1, e2, e3, e4⟩ := canSides_spec ok hL hs (show k < 1000 by omega) hB hS
    obtain ⟨y, hy⟩ : ∃ y, y = (if dP (satQ g (mQ L k)) = true then 1 else 0) := ⟨_, rfl⟩
    obtain ⟨τ1, f1, f2⟩ := ih (k + 1) f' (x + y) τa (by omega) (by omega) (hB.of e3 (by decide)) (hS.of e3 (by decide) (by decide)) (by rw [sumN, ← hx, hy])
    refine ⟨τ1, ?_, e3.trans f2⟩
    unfold fMM_sides_L32
    rw [db1_t (many_spec hS.1 hs), if_neg (nI_ge (by omega) (by omega)), db2_t e1]
    cases b
    · rw [if_pos b0, dlt_u, Int32.add_zero, nI_1]
      rw [if_neg (fun z => by have := e4.mpr (dP_iff.mp z); cases this)] at hy
      rw [hy] at f1
      exact f1
    · rw [if_neg b1, dlt_u, nI_1, nI_1]
      rw [if_pos (dP_iff.mpr (e4.mp rfl))] at hy
      rw [hy] at f1
      exact f1
theorem satQ_nil (g : gT) : satQ g [] := ⟨fun _ => 0, fun q h => by cases h⟩
theorem begin_spec (σ : sT) (g : gT) : ∃ σ1, fSo_begin σ = some σ1 ∧ RowsAt σ1 6 7 8 (stQ g []) ∧ offC [6, 7, 8] σ σ1 := by
  refine ⟨siW (siW σ 6 2 0) 6 3 0, rfl, ?_, (offC_si (by simp)).trans (offC_si (by simp))⟩
  refine ⟨?_, ?_, fun i r h => ?_⟩
  · rw [siW_s, if_neg (by decide), siW_s, if_pos rfl]; rfl
  · rw [siW_s, if_pos rfl]; rfl
  · have h' : ([] : List rT)[i]? = some r := h
    simp at h'
theorem do_sides : op_sides Inv := by
  intro σ τ hI x1
  obtain ⟨n, g, U, T, h⟩ := id hI
  obtain ⟨ok, hC, hM, -⟩ := id h
  have hn := ok.1
  obtain ⟨σr, τr, r1, r2, r3⟩ := ref_B hI
  cases hc : cov x1 n
  · refine ⟨-1000002, σr, τr, ?_, ?_, r3⟩
    · unfold fRM_sides
      rw [db1_t (covers_spec ok.1 hC.1 x1), hc, dlt_u, if_pos b0, db2_t r1]
    · unfold fMM_sides
      rw [db1_t (isSet_spec ok.1 hM.1 x1), hc, dlt_u, if_pos b0, db2_t r2]
  obtain ⟨C, hm, rfl⟩ := cov_n hc
  have hC' := lt_4096 hn hm
  obtain ⟨L, hL⟩ : ∃ L, L = idxL C 12 0 := ⟨_, rfl⟩
  have hL' : idxL C n 0 = L := by
    have := idxL_ext (d := 12 - n) hm n 0 (by omega)
    rw [show n + (12 - n) = 12 by omega] at this
    rw [hL, this]
  have hLm : ∀ i ∈ L, i < n := by
    intro i hi
    rw [← hL'] at hi
    have := (idxL_mem n 0).mp hi
    omega
  have hb := bc_spec hC'
  have ho := ones_spec hC'
  rw [← hL] at hb ho
  have hl12 : L.length ≤ 12 := by
    have : ∀ (c i : Nat), (idxL C c i).length ≤ c := by
      intro c
      induction c with
      | zero => intro i; rw [idxL]; exact Nat.le_refl 0
      | succ c ih =>
        intro i
        have := ih (i + 1)
        rw [idxL, List.length_append]
        split
        · rw [List.length_singleton]; omega
        · rw [List.length_nil]; omega
    rw [hL]; exact this 12 0
  by_cases hs : L.length ≤ 5
  · -- the class
    obtain ⟨σa, ha⟩ : ∃ z, z = siW σ 24 3 (0 : Int32) := ⟨_, rfl⟩
    have oa : offC [24, 25] σ σa := by rw [ha]; exact offC_si (by simp)
    have hSa : SgAt σa [] := ⟨by rw [ha, siW_s, if_pos rfl]; rfl, fun p y h => by simp at h⟩
    obtain ⟨σb, e1, e2, e3⟩ := sd33_loop ok hm 12 0 FU σa [] (by omega) (by unfold FU; omega) hSa (fun y h => by cases h) (by rw [← hL, List.length_nil]; omega)
    rw [List.nil_append, ← hL] at e2
    obtain ⟨σc, c1, c2, c3⟩ := begin_spec σb g
    have oc : offC [24, 25, 6, 7, 8] σ σc := ((oa.trans e3).mono (by simp)).trans (c3.mono (by simp))
    obtain ⟨σ1, k1, k2, k3⟩ := count_spec ok hLm hs (tb := fun _ => 1) tb_m1 L [] 0 RDSG 0 σc rfl (by unfold RDSG; omega) (hC.of oc (by decide) (by decide)) (e2.of c3 (by decide) (by decide)) c2 (satQ_nil g) (by simp)
    rw [cnt_sg L [] 0 (satQ_nil g), List.length_nil, nI_0] at k1
    -- the model
    obtain ⟨τa, hta⟩ : ∃ z, z = siW τ 33 23 (0 : Int32) := ⟨_, rfl⟩
    have pa : mOff [43] [23] τ τa := by rw [hta]; exact mOff_si (by simp)
    have hDa : SdAt τa [] := ⟨by rw [hta, siW_s, if_pos rfl]; rfl, fun p y h => by simp at h⟩
    obtain ⟨τb, f1, f2, f3⟩ := ls7_loop ok hm n 0 FU τa [] (by omega) (by unfold FU; omega) (hM.of pa (by decide)) hDa (by rw [hL', List.length_nil]; omega)
    rw [List.nil_append, hL'] at f2
    rw [nI_0] at f1
    have f1' : fMM_laysSides (nI C) τ = some τb := by
      unfold fMM_laysSides
      rw [dlt_u, ← hta]; exact f1
    have pb := pa.trans f3
    have h243 : 3 ^ L.length ≤ 243 := show 3 ^ L.length ≤ 3 ^ 5 from Nat.pow_le_pow_right (by omega) hs
    obtain ⟨τ1, q1, q2⟩ := sd32_loop ok hLm hs (3 ^ L.length) 0 FU 0 τb (by omega) (by unfold FU; omega) (hM.of pb (by decide)) f2 rfl
    have sg := sum_sg (g := g) L []
    simp only [List.nil_append] at sg
    rw [sg, nI_0] at q1
    have h5 : nI L.length ≤ (5 : Int32) := nI_le (b := 5) hs (by omega)
    refine ⟨nI (sgN g L []), σ1, τ1, ?_, ?_, hI.same (sameC.off (oc.mono (by simp) |>.trans (k3.mono (by simp)) : offC [24, 25, 6, 7, 8, 9, 10, 11, 12, 13, 14, 15] σ σ1) (by decide)) (sameM.off ((pb.mono (by simp) (by simp)).trans (q2.mono (by simp) (by simp)) : mOff [43, 37, 38, 44] [23, 5, 7, 8, 9, 10, 11, 12, 13, 14] τ τ1) (by decide) (by decide))⟩
    · have e1' := e1 (fun (σ15 : sT) => db1 (fSo_begin σ15) fun σ18 => db2 (fSg_rec RDSG 0 (0 : Int32) (0 : Int32) (-1 : Int32) σ18) fun r20 σ21 => some (r20, σ21))
      rw [nI_0] at e1'
      have hf : fSg_forget σ = some σa := by rw [ha]; rfl
      unfold fRM_sides
      rw [db1_t (covers_spec ok.1 hC.1 _), hc, dlt_u, if_neg b1, db1_t hb, if_pos h5, db1_t hf, dlt_u]
      obtain ⟨A, hA⟩ : ∃ A, FU = A := ⟨_, rfl⟩
      obtain ⟨D, hD⟩ : ∃ D, RDSG = D := ⟨_, rfl⟩
      rw [hA, hD] at e1' ⊢
      rw [hD] at k1
      rw [e1', db1_t c1, db2_t k1]
    · unfold fMM_sides
      rw [db1_t (isSet_spec ok.1 hM.1 _), hc, dlt_u, if_neg b1, db1_t ho, if_pos h5, db1_t f1']
      exact q1
  · have h5 : ¬ nI L.length ≤ (5 : Int32) := nI_ge (a := 5) (by omega) (by omega)
    refine ⟨-1000002, σr, τr, ?_, ?_, r3⟩
    · unfold fRM_sides
      rw [db1_t (covers_spec ok.1 hC.1 _), hc, dlt_u, if_neg b1, db1_t hb, if_neg h5, db2_t r1]
    · unfold fMM_sides
      rw [db1_t (isSet_spec ok.1 hM.1 _), hc, dlt_u, if_neg b1, db1_t ho, if_neg h5, db2_t r2]
