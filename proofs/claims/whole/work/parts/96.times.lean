/-! the model's findsTimes; times -/
def TkAt (τ : sT) (s : Nat) (V : Nat → Int) : Prop := ∀ p, p < s → τ.2 42 p = jI (V p)
theorem f66_loop {n : Nat} {g : gT} {L : List Nat} (ok : BkOk n g) (hx : ∀ p, xL L p < n) (hl : L.length ≤ 4) {τ : sT} (hB : BkM τ n g) (hM : MmAt τ L) {T : Nat → Int} (hT : TkAt τ L.length T) (hTB : ∀ p, -750 ≤ T p ∧ T p ≤ 750) : ∀ (c p f : Nat), p + c = L.length → c < f → ∀ K : Int64 → Int64 → Int64 → Option sT, fMM_findsTimes_L66 τ K f (jI (gcP T p)) (jI (smP g (xL L) T p)) (jI (dr4 g L.length (xL L) T p)) (nI p) = K (jI (gcP T L.length)) (jI (smP g (xL L) T L.length)) (jI (dr4 g L.length (xL L) T L.length)) := by
  intro c
  induction c with
  | zero =>
    intro p f h1 h2 K
    obtain ⟨f', rfl⟩ : ∃ f', f = f' + 1 := ⟨f - 1, by omega⟩
    obtain rfl : p = L.length := by omega
    unfold fMM_findsTimes_L66
    rw [hM.1, if_pos (nI_le (by omega) (by omega))]
  | succ c ih =>
    intro p f h1 h2 K
    obtain ⟨f', rfl⟩ : ∃ f', f = f' + 1 := ⟨f - 1, by omega⟩
    have hk := kd_n ok (hx p)
    have b1 := hTB p
    have b2 := gcP_nn T p
    have b3 := gcP_le hTB p
    have t3 : fMM_at (nI (xL L p)) (3 : Int32) τ = some (iI (g (xL L p) 3)) := at_spec hB ok.1 (hx p) (k := 3) (by omega)
    have n4 : fMM_number (nI p) (4 : Int32) τ = some (jI (g (xL L p) 4)) := num_spec ok hB hM hx (p := p) (k := 4) (by omega) (by omega) (by omega)
    have go := ih (p + 1) f' (by omega) (by omega) K
    rw [gcP, dr4, smP] at go
    unfold fMM_findsTimes_L66
    rw [hM.1, if_neg (nI_ge (by omega) (by omega)), dck_t (okI_n (by omega) (by omega)), nc (by omega), hT p (by omega), db1_t (divisor_spec (by omega) (by omega)), dck_t (okI_n (by omega) (by omega)), db1_t n4, jI_mul, jI_add, dlt_u, dck_t (okI_n (by omega) (by omega)), hM.2 p _ (xL_lt (by omega)), db1_t t3, hk.1, nI_1]
    by_cases e : (g (xL L p) 3).toNat = 2
    · rw [if_pos (by rw [e]; rfl)]
      rw [if_neg (fun z => z.2 e)] at go
      exact go
    · rw [if_neg (fun z => e ((nI_eq2 hk.2).mp z)), dck_t (okI_n (by omega) (by omega)), dlt_u]
      rw [if_pos ⟨by omega, e⟩] at go
      exact go
theorem f174_loop {L : List Nat} (hl : L.length ≤ 4) {T : Nat → Int} {G : Int} (hG : 1 ≤ G ∧ G ≤ 750) (hd : ∀ p, p < 4 → G ∣ T p) (hTB : ∀ p, -750 ≤ T p ∧ T p ≤ 750) (b : Bool) : ∀ (c p f : Nat) (τ : sT), p + c = L.length → c < f → MmAt τ L → (∀ q, q < L.length → τ.2 42 q = jI (if q < p then (if b = true then -(T q / G) else T q / G) else T q)) →
    ∃ τ1, fMM_findsTimes_L174 (jI G) (b01 b) f (nI p) τ = some τ1 ∧ (∀ q, q < L.length → τ1.2 42 q = jI (if b = true then -(T q / G) else T q / G)) ∧ mOff [42] [] τ τ1 := by
  intro c
  induction c with
  | zero =>
    intro p f τ h1 h2 hM hF
    obtain ⟨f', rfl⟩ : ∃ f', f = f' + 1 := ⟨f - 1, by omega⟩
    obtain rfl : p = L.length := by omega
    unfold fMM_findsTimes_L174
    rw [hM.1, if_pos (nI_le (by omega) (by omega))]
    exact ⟨τ, rfl, fun q hq => by rw [hF q hq, if_pos hq], mOff.refl _ _ _⟩
  | succ c ih =>
    intro p f τ h1 h2 hM hF
    obtain ⟨f', rfl⟩ : ∃ f', f = f' + 1 := ⟨f - 1, by omega⟩
    have b1 := hTB p
    have hdp := hd p (by omega)
    obtain ⟨R, hR⟩ : ∃ R : Int, R = if b = true then -(T p / G) else T p / G := ⟨_, rfl⟩
    have o1 : mOff [42] [] τ (sjW τ 42 p (jI R)) := mOff_cj (by simp) (by decide)
    obtain ⟨τ1, e1, e2, e3⟩ := ih (p + 1) f' (sjW τ 42 p (jI R)) (by omega) (by omega) (hM.of o1 (by decide) (by decide)) (fun q hq => by
      rw [sjW_s]
      by_cases e : q = p
      · rw [if_pos e, if_pos (show q < p + 1 by omega), e, hR]
      · rw [if_neg e, hF q hq]
        by_cases l : q < p
        · rw [if_pos l, if_pos (show q < p + 1 by omega)]
        · rw [if_neg l, if_neg (show ¬ q < p + 1 by omega)])
    refine ⟨τ1, ?_, e2, o1.trans e3⟩
    unfold fMM_findsTimes_L174
    rw [hM.1, if_neg (nI_ge (by omega) (by omega))]
    simp only [dlt_u]
    simp only [dck_t (okI_n (show p < 12 by omega) (show p < 2147483648 by omega)), nc (show p < 2147483648 by omega), dck_t (okE_j (show 0 < G by omega) (show G < 9223372036854775808 by omega))]
    rw [hF p (by omega), if_neg (show ¬ p < p by omega), jI_neg, jI_div (by unfold inJ; omega) (by unfold inJ; omega), jI_div (by unfold inJ; omega) (by unfold inJ; omega), Int.tdiv_eq_ediv_of_dvd hdp, Int.tdiv_eq_ediv_of_dvd (Int.dvd_neg.mpr hdp), Int.neg_ediv_of_dvd hdp, nI_1]
    cases b
    · rw [if_pos b0]
      rw [if_neg (by decide)] at hR
      rw [hR] at e1; exact e1
    · rw [if_neg (show ¬ b01 true = 0 by decide)]
      rw [if_pos rfl] at hR
      rw [hR] at e1; exact e1
theorem mfind_spec {n C : Nat} {g : gT} (ok : BkOk n g) (hC : C < 2 ^ n) (hc : isCore g C) {τ : sT} (hB : BkM τ n g) :
    ∃ (τ1 : sT) (V : Nat → Int), fMM_findsTimes (nI C) τ = some τ1 ∧ MmAt τ1 (idxL C 12 0) ∧ TkAt τ1 (idxL C 12 0).length V ∧ isWt g (idxL C 12 0).length (xL (idxL C 12 0)) V ∧ mOff [41, 42] [20] τ τ1 := by
  have hn := ok.1
  have hm := mbr_of ok hC hc
  have hlen := core_len ok hC hc
  obtain ⟨L, hL⟩ : ∃ L, L = idxL C 12 0 := ⟨_, rfl⟩
  have hL' : idxL C n 0 = L := by
    have := idxL_ext (d := 12 - n) hC n 0 (by omega)
    rw [show n + (12 - n) = 12 by omega] at this
    rw [hL, this]
  rw [← hL] at hm hlen ⊢
  have hx : ∀ p, xL L p < n := fun p => bit_lt hC (hm.2.2.1 p)
  have o0 : mOff [41, 42] [20] τ (siW τ 33 20 0) := mOff_si (by simp)
  obtain ⟨τa, e1, e2, e3⟩ := mf7_loop ok hC n 0 FU (siW τ 33 20 0) [] (by omega) (by unfold FU; omega) (hB.of o0 (by decide)) ⟨by rw [siW_s, if_pos rfl]; rfl, fun p y h => by simp at h⟩ (by rw [hL']; simpa using hlen)
  rw [hL', List.nil_append] at e2
  have oa : mOff [41, 42] [20] τ τa := o0.trans (e3.mono (by simp) (by simp))
  obtain ⟨τb, T, f1, f2, f3, f4, f5⟩ := some_spec ok hC hc hm (hB.of oa (by decide)) e2
  have ob : mOff [41, 42] [20] τ τb := oa.trans (f5.mono (by simp) (by simp))
  have hMb := e2.of f5 (by decide) (by decide)
  have hBb := hB.of ob (by decide)
  have h66 := f66_loop ok hx hlen hBb hMb f4 f3 L.length 0 FU (by omega) (by unfold FU; omega)
  have h0 := (gW_two ok hC hc hm f2 f2).1 0 (by have := hm.1; omega)
  have hG := gc4_pos h0
  have e4 := gcP_gc4 hlen f2.2.1
  have hG2 := gcP_le f3 L.length
  rw [e4] at hG2 h66
  have hd : dr4 g L.length (xL L) T L.length = dr4 g L.length (xL L) T 4 := by
    have := dr4_s (g := g) (s := L.length) (x := xL L) (W := T) (4 - L.length)
    rw [show L.length + (4 - L.length) = 4 by omega] at this; exact this.symm
  have hs : smP g (xL L) T L.length = sm4 g (xL L) T := by
    have := smP_s (g := g) (x := xL L) f2.2.1 (4 - L.length)
    rw [show L.length + (4 - L.length) = 4 by omega, smP_4] at this; exact this.symm
  rw [hd, hs] at h66
  have db := dr4_B (g := g) (s := L.length) (x := xL L) f3 4
  have sb := smP_B (s := L.length) ok hx f3 4 (by omega)
  rw [smP_4] at sb
  have fin : ∀ b : Bool, (b = true ↔ flp g L.length (xL L) T) → ∃ (τ1 : sT) (V : Nat → Int), fMM_findsTimes_L174 (jI (gc4 T)) (b01 b) FU (0 : Int32) τb = some τ1 ∧ MmAt τ1 L ∧ TkAt τ1 L.length V ∧ isWt g L.length (xL L) V ∧ mOff [41, 42] [20] τ τ1 := by
    intro b hb
    obtain ⟨τ1, y1, y2, y3⟩ := f174_loop hlen ⟨by omega, hG2⟩ (gc4_dv T) f3 b L.length 0 FU τb (by omega) (by unfold FU; omega) hMb (fun q hq => by rw [if_neg (by omega)]; exact f4 q hq)
    rw [nI_0] at y1
    refine ⟨τ1, fun q => if b = true then -(T q / gc4 T) else T q / gc4 T, y1, hMb.of y3 (by decide) (by decide), y2, ⟨T, f2, f3, ?_⟩, ob.trans (y3.mono (by simp) (by simp))⟩
    cases b
    · exact Or.inr ⟨fun z => (by have := hb.mpr z; cases this), fun p hp => rfl⟩
    · exact Or.inl ⟨hb.mp rfl, fun p hp => rfl⟩
  rw [nI_0] at e1 h66
  obtain ⟨A, hA⟩ : ∃ A, FU = A := ⟨_, rfl⟩
  rw [hA] at e1 h66 fin
  have h66' : ∀ K : Int64 → Int64 → Int64 → Option sT, fMM_findsTimes_L66 τb K A (0 : Int64) (0 : Int64) (0 : Int64) (0 : Int32) = K (jI (gc4 T)) (jI (sm4 g (xL L) T)) (jI (dr4 g L.length (xL L) T 4)) := h66
  unfold fMM_findsTimes
  rw [hA, dlt_u, dlt_u, e1, db1_t f1, dlt_u, h66']
  simp only [dlt_u]
  unfold flp at fin
  by_cases c1 : dr4 g L.length (xL L) T 4 < 0
  · rw [if_pos ((cmp_lt0 (by unfold inJ; omega)).mpr c1)]
    exact fin true ⟨fun _ => Or.inl c1, fun _ => rfl⟩
  · rw [if_neg (fun z => c1 ((cmp_lt0 (by unfold inJ; omega)).mp z))]
    by_cases c2 : dr4 g L.length (xL L) T 4 = 0
    · rw [if_pos ((cmp_eq0 (by unfold inJ; omega)).mpr c2)]
      by_cases c3 : sm4 g (xL L) T ≤ 0
      · rw [if_pos ((cmp_le0 (by unfold inJ; omega)).mpr c3)]
        exact fin false ⟨fun h => (by cases h), fun h => by omega⟩
      · rw [if_neg (fun z => c3 ((cmp_le0 (by unfold inJ; omega)).mp z))]
        exact fin true ⟨fun _ => Or.inr ⟨c2, by omega⟩, fun _ => rfl⟩
    · rw [if_neg (fun z => c2 ((cmp_eq0 (by unfold inJ; omega)).mp z))]
      exact fin false ⟨fun h => (by cases h), fun h => by omega⟩
theorem tof_loop {n C i : Nat} {L : List Nat} {V : Nat → Int} (hl : L.length ≤ 4) (hi : i < 12) (hx : ∀ p, xL L p < 12) (hm : mbr C L.length (xL L)) {τ : sT} (hM : MmAt τ L) (hT : TkAt τ L.length V) (hVB : ∀ p, p < L.length → -750 ≤ V p ∧ V p ≤ 750) : ∀ (c p f : Nat) (r : Int), p + c = L.length → c < f → isT p (xL L) V i r → ∃ r', fMM_timesOf_L10 (nI i) τ f (iI r) (nI p) = some (iI r', τ) ∧ isT L.length (xL L) V i r' := by
  intro c
  induction c with
  | zero =>
    intro p f r h1 h2 hr
    obtain ⟨f', rfl⟩ : ∃ f', f = f' + 1 := ⟨f - 1, by omega⟩
    obtain rfl : p = L.length := by omega
    unfold fMM_timesOf_L10
    rw [hM.1, if_pos (nI_le (by omega) (by omega))]
    exact ⟨r, rfl, hr⟩
  | succ c ih =>
    intro p f r h1 h2 hr
    obtain ⟨f', rfl⟩ : ∃ f', f = f' + 1 := ⟨f - 1, by omega⟩
    have hxp := hx p
    have vb := hVB p (by omega)
    unfold fMM_timesOf_L10
    rw [hM.1, if_neg (nI_ge (by omega) (by omega)), dck_t (okI_n (by omega) (by omega)), nc (by omega), hM.2 p _ (xL_lt (by omega)), nI_1]
    by_cases e : xL L p = i
    · rw [if_pos (by rw [e]), dck_t (okI_n (by omega) (by omega)), hT p (by omega), jI_i (by unfold inJ; omega), dlt_u]
      exact ih (p + 1) f' (V p) (by omega) (by omega) (Or.inl ⟨p, by omega, e, rfl⟩)
    · rw [if_neg (fun z => e ((nI_eq (by omega) (by omega)).mp z))]
      refine ih (p + 1) f' r (by omega) (by omega) ?_
      rcases hr with ⟨q, q1, q2, q3⟩ | ⟨h, h'⟩
      · exact Or.inl ⟨q, by omega, q2, q3⟩
      · refine Or.inr ⟨fun q hq => ?_, h'⟩
        by_cases e' : q = p
        · rw [e']; exact e
        · exact h q (by omega)
theorem tof_spec {n C i : Nat} {g : gT} (ok : BkOk n g) (hC : C < 2 ^ n) (hc : isCore g C) (hi : i < 12) {τ : sT} (hB : BkM τ n g) :
    ∃ (τ1 : sT) (V : Nat → Int) (r : Int), fMM_timesOf (nI C) (nI i) τ = some (iI r, τ1) ∧ isWt g (idxL C 12 0).length (xL (idxL C 12 0)) V ∧ isT (idxL C 12 0).length (xL (idxL C 12 0)) V i r ∧ mOff [41, 42] [20] τ τ1 := by
  have hn := ok.1
  have hm := mbr_of ok hC hc
  have hlen := core_len ok hC hc
  obtain ⟨τ1, V, e1, e2, e3, e4, e5⟩ := mfind_spec ok hC hc hB
  obtain ⟨r, f1, f2⟩ := tof_loop (n := n) hlen hi (fun p => by have := bit_lt hC (hm.2.2.1 p); omega) hm e2 e3 (isWt_B hlen e4) (idxL C 12 0).length 0 FU 0 (by omega) (by unfold FU; omega) (Or.inr ⟨fun p hp => by omega, rfl⟩)
  rw [nI_0] at f1
  unfold fMM_timesOf
  rw [db1_t e1]
  exact ⟨τ1, V, r, f1, e4, f2, e5⟩
theorem do_times : op_times Inv := by
  intro σ τ hI x1 x2
  obtain ⟨n, g, U, T, h⟩ := id hI
  obtain ⟨ok, hC, hM, -⟩ := id h
  have hn := ok.1
  obtain ⟨σ1, τ1, e1, e2, e3⟩ := ref_B hI
  unfold fRM_times fMM_times
  simp only [dlt_u]
  rw [db1_t (covers_spec ok.1 hC.1 x1), db1_t (isSet_spec ok.1 hM.1 x1), db2_t e1, db2_t e2]
  cases hc : cov x1 n
  · rw [if_pos b0, if_pos b0]
    exact ⟨_, _, _, rfl, rfl, e3⟩
  rw [if_neg b1, if_neg b1, db1_t (bhas_wi hC.1 ok.1 x2), db1_t (isRow_wi hM.1 ok.1 x2)]
  cases h2 : wi x2 0 ((n : Int) - 1)
  · rw [if_pos b0, if_pos b0]
    exact ⟨_, _, _, rfl, rfl, e3⟩
  rw [if_neg b1, if_neg b1]
  obtain ⟨m, hm, rfl⟩ := cov_n hc
  obtain ⟨i, hi, rfl⟩ := wi_n h2
  obtain ⟨σ2, b, f1, f2, f3⟩ := sat_spec ok hm hC
  obtain ⟨τ2, b', p1, p2, p3⟩ := canSet_spec ok hm hM
  have hb : b = b' := Bool.eq_iff_iff.mpr (f3.trans p3.symm)
  subst hb
  have hI1 := hI.same (sameC.off f2 (by decide)) (sameM.off p2 (by decide) (by decide))
  rw [db2_t f1, db2_t p1]
  cases b
  · rw [if_pos b0, if_pos b0]
    have hu : ¬ satP g m := fun z => by have := f3.mpr z; cases this
    obtain ⟨hcore, hlt⟩ := coF_core ok hm hu
    obtain ⟨σ3, g1, g2⟩ := coreOf_spec ok hm (hC.of f2 (by decide) (by decide))
    obtain ⟨τ3, q1, q2⟩ := mcoreOf_spec ok hm (hM.of p2 (by decide))
    have hC3 := (hC.of f2 (by decide) (by decide)).of g2 (by decide) (by decide)
    have hM3 := (hM.of p2 (by decide)).of q2 (by decide)
    have hI2 := hI1.same (sameC.off g2 (by decide)) (sameM.off q2 (by decide) (by decide))
    have hmb := mbr_of ok hlt hcore
    have hlen := core_len ok hlt hcore
    obtain ⟨σ4, V, s1, s2, s3, s4⟩ := find_spec ok hlt hcore hC3
    obtain ⟨r, t1, t2⟩ := wof_spec (n := n) hlen (show i < 12 by omega) (fun p => by have := bit_lt hlt (hmb.2.2.1 p); omega) s2
    obtain ⟨τ4, V', r', u1, u2, u3, u4⟩ := tof_spec ok hlt hcore (show i < 12 by omega) hM3
    have hr := isT_one hmb (isWt_one ok hlt hcore hmb s3 u2) t2 u3
    subst hr
    rw [db2_t g1, db2_t q1, db1_t s1, db1_t t1, db2_t u1]
    exact ⟨_, _, _, rfl, rfl, hI2.same (sameC.off s4 (by decide)) (sameM.off u4 (by decide) (by decide))⟩
  · rw [if_neg b1, if_neg b1]
    obtain ⟨σ4, τ4, g1, g2, g3⟩ := ref_N hI1
    rw [db2_t g1, db2_t g2]
    exact ⟨_, _, _, rfl, rfl, g3⟩
