/-! the class: shorten, turn, find, weightOf -/
def gcP (W : Nat → Int) : Nat → Int
  | 0 => 0
  | p + 1 => (Int.gcd (gcP W p) (W p) : Nat)
theorem gcP_4 (W : Nat → Int) : gcP W 4 = gc4 W := rfl
theorem gcP_nn (W : Nat → Int) : ∀ p, 0 ≤ gcP W p
  | 0 => Int.le_refl 0
  | p + 1 => by rw [gcP]; omega
theorem gcP_s {W : Nat → Int} {s : Nat} (h : ∀ p, s ≤ p → W p = 0) : ∀ d, gcP W (s + d) = gcP W s
  | 0 => rfl
  | d + 1 => by
    rw [show s + (d + 1) = (s + d) + 1 by omega, gcP, h (s + d) (by omega), Int.gcd_zero, gcP_s h d]
    have := gcP_nn W s
    omega
theorem gcP_gc4 {W : Nat → Int} {s : Nat} (hs : s ≤ 4) (h : ∀ p, s ≤ p → W p = 0) : gcP W s = gc4 W := by
  have := gcP_s h (4 - s)
  rw [show s + (4 - s) = 4 by omega] at this
  rw [← this, gcP_4]
theorem gcP_le {W : Nat → Int} (hB : ∀ p, -750 ≤ W p ∧ W p ≤ 750) : ∀ p, gcP W p ≤ 750
  | 0 => by rw [gcP]; omega
  | p + 1 => by
    rw [gcP]
    by_cases z : W p = 0
    · rw [z, Int.gcd_zero]
      have := gcP_nn W p
      have := gcP_le hB p
      omega
    · have := Int.gcd_le_natAbs_right (gcP W p) z
      have := hB p
      omega
theorem sh4_loop {s : Nat} (hs : s ≤ 4) {σ : sT} {W : Nat → Int} (h20 : σ.1 20 4 = nI s) (hF : ∀ p, p < s → σ.1 23 p = iI (W p)) (hB : ∀ p, -750 ≤ W p ∧ W p ≤ 750) : ∀ (c p f : Nat), p + c = s → c < f → ∀ K : Int64 → Option sT, fWt_shorten_L4 σ K f (jI (gcP W p)) (nI p) = K (jI (gcP W s)) := by
  intro c
  induction c with
  | zero =>
    intro p f h1 h2 K
    obtain ⟨f', rfl⟩ : ∃ f', f = f' + 1 := ⟨f - 1, by omega⟩
    obtain rfl : p = s := by omega
    unfold fWt_shorten_L4
    rw [h20, if_pos (nI_le (by omega) (by omega))]
  | succ c ih =>
    intro p f h1 h2 K
    obtain ⟨f', rfl⟩ : ∃ f', f = f' + 1 := ⟨f - 1, by omega⟩
    have b1 := hB p
    have b2 := gcP_nn W p
    have b3 := gcP_le hB p
    unfold fWt_shorten_L4
    rw [h20, if_neg (nI_ge (by omega) (by omega)), dck_t (okI_n (by omega) (by omega)), nc (by omega), hF p (by omega), iI_l (by unfold inI; omega), db1_t (gcd_spec (by omega) (by omega)), nI_1]
    exact ih (p + 1) f' (by omega) (by omega) K
theorem sh32_loop {s : Nat} (hs : s ≤ 4) {W : Nat → Int} {G : Int} (hG : 1 ≤ G ∧ G ≤ 750) (hd : ∀ p, p < 4 → G ∣ W p) (hB : ∀ p, -750 ≤ W p ∧ W p ≤ 750) : ∀ (c p f : Nat) (σ : sT), p + c = s → c < f → σ.1 20 4 = nI s → (∀ q, q < s → σ.1 23 q = iI (if q < p then W q / G else W q)) →
    ∃ σ1, fWt_shorten_L32 (jI G) f (nI p) σ = some σ1 ∧ (∀ q, q < s → σ1.1 23 q = iI (W q / G)) ∧ offC [23] σ σ1 := by
  intro c
  induction c with
  | zero =>
    intro p f σ h1 h2 h20 hF
    obtain ⟨f', rfl⟩ : ∃ f', f = f' + 1 := ⟨f - 1, by omega⟩
    obtain rfl : p = s := by omega
    unfold fWt_shorten_L32
    rw [h20, if_pos (nI_le (by omega) (by omega))]
    exact ⟨σ, rfl, fun q hq => by rw [hF q hq, if_pos hq], offC.refl _ _⟩
  | succ c ih =>
    intro p f σ h1 h2 h20 hF
    obtain ⟨f', rfl⟩ : ∃ f', f = f' + 1 := ⟨f - 1, by omega⟩
    unfold fWt_shorten_L32
    rw [h20, if_neg (nI_ge (by omega) (by omega))]
    by_cases hg : G ≤ 1
    · rw [if_pos (show lg_cmp (jI G) (1 : Int64) ≤ 0 from (cmp_le (b := 1) (by unfold inJ; omega) (by unfold inJ; omega)).mpr hg)]
      obtain rfl : G = 1 := by omega
      refine ⟨σ, rfl, fun q hq => ?_, offC.refl _ _⟩
      rw [hF q hq, Int.ediv_one]; simp
    · have b1 := hB p
      obtain ⟨y, hy⟩ := hd p (by omega)
      have ey : W p / G = y := by rw [hy]; exact Int.mul_ediv_cancel_left y (by omega)
      have et : (W p).tdiv G = W p / G := Int.tdiv_eq_ediv_of_dvd ⟨y, hy⟩
      have yb : -750 ≤ W p / G ∧ W p / G ≤ 750 := by
        rw [ey]
        constructor
        · by_cases hy0 : 0 ≤ y
          · omega
          · have := Int.mul_le_mul_of_nonneg_right hG.1 (show 0 ≤ -y by omega)
            have e2 : G * -y = -(G * y) := Int.mul_neg G y
            omega
        · by_cases hy0 : 0 ≤ y
          · have := Int.mul_le_mul_of_nonneg_right hG.1 hy0
            omega
          · omega
      rw [if_neg (show ¬ lg_cmp (jI G) (1 : Int64) ≤ 0 from fun z => hg ((cmp_le (b := 1) (by unfold inJ; omega) (by unfold inJ; omega)).mp z)), dck_t (okI_n (by omega) (by omega)), dck_t (okE_j (by omega) (by omega)), dck_t (okI_n (by omega) (by omega)), nc (by omega), hF p (by omega), if_neg (by omega), iI_l (by unfold inI; omega), jI_div (by unfold inJ; omega) (by unfold inJ; omega), et, jI_i (by unfold inJ; omega), dlt_u, nI_1]
      have o1 : offC [23] σ (siW σ 23 p (iI (W p / G))) := offC_si (by simp)
      obtain ⟨σ1, e1, e2, e3⟩ := ih (p + 1) f' (siW σ 23 p (iI (W p / G))) (by omega) (by omega) (by rw [(o1 20 (by decide)).1]; exact h20) (fun q hq => by
        rw [siW_s]
        by_cases e : q = p
        · rw [if_pos e, if_pos (by omega), e]
        · rw [if_neg e, hF q hq]
          by_cases l : q < p
          · rw [if_pos l, if_pos (by omega)]
          · rw [if_neg l, if_neg (by omega)])
      exact ⟨σ1, e1, e2, o1.trans e3⟩
theorem shorten_spec {s : Nat} (hs1 : 1 ≤ s) (hs : s ≤ 4) {σ : sT} {W : Nat → Int} (h20 : σ.1 20 4 = nI s) (hF : ∀ p, p < s → σ.1 23 p = iI (W p)) (hB : ∀ p, -750 ≤ W p ∧ W p ≤ 750) (hz : ∀ p, s ≤ p → W p = 0) (h0 : W 0 ≠ 0) :
    ∃ σ1, fWt_shorten σ = some σ1 ∧ (∀ q, q < s → σ1.1 23 q = iI (W q / gc4 W)) ∧ offC [23] σ σ1 := by
  have hG := gc4_pos h0
  have hG2 := gcP_le hB s
  have e := gcP_gc4 hs hz
  rw [e] at hG2
  have h4 := sh4_loop hs h20 hF hB s 0 FU (by omega) (by unfold FU; omega)
  obtain ⟨σ1, e1, e2, e3⟩ := sh32_loop hs ⟨by omega, hG2⟩ (gc4_dv W) hB s 0 FU σ (by omega) (by unfold FU; omega) h20 (fun q hq => by rw [if_neg (by omega)]; exact hF q hq)
  rw [nI_0] at h4 e1
  rw [e] at h4
  refine ⟨σ1, ?_, e2, e3⟩
  obtain ⟨A, hA⟩ : ∃ A, FU = A := ⟨_, rfl⟩
  rw [hA] at h4 e1
  unfold fWt_shorten
  rw [hA, dlt_u, show (0 : Int64) = jI (gcP W 0) from rfl, h4]
  exact e1
def smP (g : gT) (x : Nat → Nat) (W : Nat → Int) : Nat → Int
  | 0 => 0
  | p + 1 => smP g x W p + W p * g (x p) 4
theorem smP_B {n s : Nat} {g : gT} {x : Nat → Nat} (ok : BkOk n g) (hx : ∀ p, x p < n) {W : Nat → Int} (hB : ∀ p, -750 ≤ W p ∧ W p ≤ 750) : ∀ p : Nat, p ≤ 4 → -(37500 * (p : Int)) ≤ smP g x W p ∧ smP g x W p ≤ 37500 * (p : Int)
  | 0, _ => by rw [smP]; omega
  | p + 1, hp => by
    have := smP_B (s := s) ok hx hB p (by omega)
    have m := mulB (hB p) (ok.2 (x p) (hx p)).2.2.1
    rw [smP]
    omega
theorem dr4_B {g : gT} {s : Nat} {x : Nat → Nat} {W : Nat → Int} (hB : ∀ p, -750 ≤ W p ∧ W p ≤ 750) : ∀ p, -750 ≤ dr4 g s x W p ∧ dr4 g s x W p ≤ 750
  | 0 => by rw [dr4]; omega
  | p + 1 => by
    rw [dr4]; split
    · exact hB p
    · exact dr4_B hB p
theorem tn6_loop {n s : Nat} {g : gT} {x : Nat → Nat} (ok : BkOk n g) (hs : s ≤ 4) (hx : ∀ p, x p < n) {σ : sT} (hBk : BkC σ n g) {W : Nat → Int} (h20 : σ.1 20 4 = nI s) (hF : ∀ p, p < s → σ.1 21 p = nI (x p) ∧ σ.1 23 p = iI (W p)) : ∀ (c p f : Nat), p + c = s → c < f → ∀ K : Int32 → Int32 → Option sT, fWt_turn_L6 σ K f (iI (dr4 g s x W p)) (iI (smP g x W p)) (nI p) = K (iI (dr4 g s x W s)) (iI (smP g x W s)) := by
  intro c
  induction c with
  | zero =>
    intro p f h1 h2 K
    obtain ⟨f', rfl⟩ : ∃ f', f = f' + 1 := ⟨f - 1, by omega⟩
    obtain rfl : p = s := by omega
    unfold fWt_turn_L6
    rw [h20, if_pos (nI_le (by omega) (by omega))]
  | succ c ih =>
    intro p f h1 h2 K
    obtain ⟨f', rfl⟩ : ∃ f', f = f' + 1 := ⟨f - 1, by omega⟩
    obtain ⟨y1, y2⟩ := hF p (by omega)
    have hk := kd_n ok (hx p)
    have t3 : fBk_get (nI (x p)) (3 : Int32) σ = some (iI (g (x p) 3)) := get_spec hBk ok.1 (hx p) (k := 3) (by omega)
    have t4 : fBk_get (nI (x p)) (4 : Int32) σ = some (iI (g (x p) 4)) := get_spec hBk ok.1 (hx p) (k := 4) (by omega)
    have go := ih (p + 1) f' (by omega) (by omega) K
    rw [dr4, smP] at go
    unfold fWt_turn_L6
    rw [h20, if_neg (nI_ge (by omega) (by omega)), dck_t (okI_n (by omega) (by omega)), nc (by omega), y1, db1_t t3, hk.1, nI_1]
    simp only [dlt_u]
    simp only [dck_t (okI_n (show p < 4 by omega) (show p < 2147483648 by omega)), db1_t t4, y2, iI_mul, iI_add]
    by_cases e : (g (x p) 3).toNat = 2
    · rw [if_pos (by rw [e]; rfl)]
      rw [if_neg (fun z => z.2 e)] at go
      exact go
    · rw [if_neg (fun z => e ((nI_eq2 hk.2).mp z))]
      rw [if_pos ⟨by omega, e⟩] at go
      exact go
theorem tn90_loop {s : Nat} (hs : s ≤ 4) {W : Nat → Int} : ∀ (c p f : Nat) (σ : sT), p + c = s → c < f → σ.1 20 4 = nI s → (∀ q, q < s → σ.1 23 q = iI (if q < p then -(W q) else W q)) →
    ∃ σ1, fWt_turn_L90 (1 : Int32) f (nI p) σ = some σ1 ∧ (∀ q, q < s → σ1.1 23 q = iI (-(W q))) ∧ offC [23] σ σ1 := by
  intro c
  induction c with
  | zero =>
    intro p f σ h1 h2 h20 hF
    obtain ⟨f', rfl⟩ : ∃ f', f = f' + 1 := ⟨f - 1, by omega⟩
    obtain rfl : p = s := by omega
    unfold fWt_turn_L90
    rw [h20, if_pos (nI_le (by omega) (by omega))]
    exact ⟨σ, rfl, fun q hq => by rw [hF q hq, if_pos hq], offC.refl _ _⟩
  | succ c ih =>
    intro p f σ h1 h2 h20 hF
    obtain ⟨f', rfl⟩ : ∃ f', f = f' + 1 := ⟨f - 1, by omega⟩
    unfold fWt_turn_L90
    rw [h20, if_neg (nI_ge (by omega) (by omega)), if_neg (show ¬ (1 : Int32) = 0 by decide), dck_t (okI_n (by omega) (by omega)), dck_t (okI_n (by omega) (by omega)), nc (by omega), hF p (by omega), if_neg (by omega), iI_neg, dlt_u, nI_1]
    have o1 : offC [23] σ (siW σ 23 p (iI (-(W p)))) := offC_si (by simp)
    obtain ⟨σ1, e1, e2, e3⟩ := ih (p + 1) f' (siW σ 23 p (iI (-(W p)))) (by omega) (by omega) (by rw [(o1 20 (by decide)).1]; exact h20) (fun q hq => by
      rw [siW_s]
      by_cases e : q = p
      · rw [if_pos e, if_pos (by omega), e]
      · rw [if_neg e, hF q hq]
        by_cases l : q < p
        · rw [if_pos l, if_pos (by omega)]
        · rw [if_neg l, if_neg (by omega)])
    exact ⟨σ1, e1, e2, o1.trans e3⟩
theorem tn90_0 {s : Nat} {σ : sT} {f : Nat} (hf : 0 < f) (h20 : σ.1 20 4 = nI s) : fWt_turn_L90 (0 : Int32) f (nI 0) σ = some σ := by
  obtain ⟨f', rfl⟩ : ∃ f', f = f' + 1 := ⟨f - 1, by omega⟩
  unfold fWt_turn_L90
  by_cases z : σ.1 20 4 ≤ nI 0
  · rw [if_pos z]
  · rw [if_neg z, if_pos rfl]
theorem dr4_s {g : gT} {s : Nat} {x : Nat → Nat} {W : Nat → Int} : ∀ d, dr4 g s x W (s + d) = dr4 g s x W s
  | 0 => rfl
  | d + 1 => by rw [show s + (d + 1) = (s + d) + 1 by omega, dr4, if_neg (by omega), dr4_s d]
theorem smP_s {g : gT} {s : Nat} {x : Nat → Nat} {W : Nat → Int} (h : ∀ p, s ≤ p → W p = 0) : ∀ d, smP g x W (s + d) = smP g x W s
  | 0 => rfl
  | d + 1 => by rw [show s + (d + 1) = (s + d) + 1 by omega, smP, h (s + d) (by omega), smP_s h d]; omega
theorem smP_4 (g : gT) (x : Nat → Nat) (W : Nat → Int) : smP g x W 4 = sm4 g x W := by
  unfold sm4
  rw [smP, smP, smP, smP, smP]; omega
theorem turn_spec {n s : Nat} {g : gT} {x : Nat → Nat} (ok : BkOk n g) (hs1 : 1 ≤ s) (hs : s ≤ 4) (hx : ∀ p, x p < n) {σ : sT} (hBk : BkC σ n g) {W : Nat → Int} (hB : ∀ p, -750 ≤ W p ∧ W p ≤ 750) (hz : ∀ p, s ≤ p → W p = 0) (h20 : σ.1 20 4 = nI s) (hF : ∀ p, p < s → σ.1 21 p = nI (x p) ∧ σ.1 23 p = iI (W p)) :
    ∃ σ1, fWt_turn σ = some σ1 ∧ offC [23] σ σ1 ∧ ((flp g s x W ∧ ∀ q, q < s → σ1.1 23 q = iI (-(W q))) ∨ (¬ flp g s x W ∧ ∀ q, q < s → σ1.1 23 q = iI (W q))) := by
  have h6 := tn6_loop ok hs hx hBk h20 hF s 0 FU (by omega) (by unfold FU; omega)
  rw [nI_0] at h6
  obtain ⟨σ1, e1, e2, e3⟩ := tn90_loop hs (W := W) s 0 FU σ (by omega) (by unfold FU; omega) h20 (fun q hq => by rw [if_neg (by omega)]; exact (hF q hq).2)
  have e0 := tn90_0 (s := s) (σ := σ) (f := FU) (by unfold FU; omega) h20
  rw [nI_0] at e1 e0
  have hd : dr4 g s x W s = dr4 g s x W 4 := by
    have := dr4_s (g := g) (s := s) (x := x) (W := W) (4 - s)
    rw [show s + (4 - s) = 4 by omega] at this; exact this.symm
  have hm : smP g x W s = sm4 g x W := by
    have := smP_s (g := g) (x := x) hz (4 - s)
    rw [show s + (4 - s) = 4 by omega, smP_4] at this; exact this.symm
  have db := dr4_B (g := g) (s := s) (x := x) hB 4
  have sb := smP_B (s := s) ok hx hB 4 (by omega)
  rw [smP_4] at sb
  obtain ⟨A, hA⟩ : ∃ A, FU = A := ⟨_, rfl⟩
  rw [hA] at h6 e1 e0
  unfold fWt_turn
  rw [hA, dlt_u, show (0 : Int32) = iI (dr4 g s x W 0) from rfl]
  have h6' := h6
  rw [hd, hm] at h6'
  have e00 : iI (dr4 g s x W 0) = (0 : Int32) := rfl
  have e01 : iI (smP g x W 0) = (0 : Int32) := rfl
  rw [e00, e01] at h6'
  rw [e00, h6']
  simp only [dlt_u]
  unfold flp
  have l0 : (iI (dr4 g s x W 4) < 0) ↔ dr4 g s x W 4 < 0 := iI_lt (b := 0) (by unfold inI; omega) (by unfold inI; omega)
  have l1 : (iI (dr4 g s x W 4) = 0) ↔ dr4 g s x W 4 = 0 := iI_eq (b := 0) (by unfold inI; omega) (by unfold inI; omega)
  have l2 : (iI (sm4 g x W) ≤ 0) ↔ sm4 g x W ≤ 0 := iI_le (b := 0) (by unfold inI; omega) (by unfold inI; omega)
  have same : ∃ σ1, some σ = some σ1 ∧ offC [23] σ σ1 ∧ ∀ q, q < s → σ1.1 23 q = iI (W q) := ⟨σ, rfl, offC.refl _ _, fun q hq => (hF q hq).2⟩
  by_cases c1 : dr4 g s x W 4 < 0
  · rw [if_pos (l0.mpr c1), e1]
    exact ⟨σ1, rfl, e3, Or.inl ⟨Or.inl c1, e2⟩⟩
  · rw [if_neg (fun z => c1 (l0.mp z))]
    by_cases c2 : dr4 g s x W 4 = 0
    · rw [if_pos (l1.mpr c2)]
      by_cases c3 : sm4 g x W ≤ 0
      · rw [if_pos (l2.mpr c3), e0]
        exact ⟨σ, rfl, offC.refl _ _, Or.inr ⟨by omega, fun q hq => (hF q hq).2⟩⟩
      · rw [if_neg (fun z => c3 (l2.mp z)), e1]
        exact ⟨σ1, rfl, e3, Or.inl ⟨Or.inr ⟨c2, by omega⟩, e2⟩⟩
    · rw [if_neg (fun z => c2 (l1.mp z)), e0]
      exact ⟨σ, rfl, offC.refl _ _, Or.inr ⟨by omega, fun q hq => (hF q hq).2⟩⟩
/-- the multipliers in lowest terms and turned -/
def isWt (g : gT) (s : Nat) (x : Nat → Nat) (V : Nat → Int) : Prop := ∃ W : Nat → Int, gW g s x W ∧ (∀ p, -750 ≤ W p ∧ W p ≤ 750) ∧ ((flp g s x W ∧ ∀ p, p < s → V p = -(W p / gc4 W)) ∨ (¬ flp g s x W ∧ ∀ p, p < s → V p = W p / gc4 W))
theorem isWt_one {n C s : Nat} {g : gT} {x : Nat → Nat} (ok : BkOk n g) (hC : C < 2 ^ n) (hc : isCore g C) (hm : mbr C s x) {V V' : Nat → Int} (h : isWt g s x V) (h' : isWt g s x V') : ∀ p, p < s → V p = V' p := by
  obtain ⟨W, w1, -, w2⟩ := h
  obtain ⟨U, u1, -, u2⟩ := h'
  intro p hp
  obtain ⟨a1, a2, a3, a4⟩ := nrm_one ok hC hc hm w1 u1 p hp
  rcases w2 with ⟨f1, w2⟩ | ⟨f1, w2⟩ <;> rcases u2 with ⟨f2, u2⟩ | ⟨f2, u2⟩
  · rw [w2 p hp, u2 p hp, a1 f1 f2]
  · rw [w2 p hp, u2 p hp, a3 f1 f2]; omega
  · rw [w2 p hp, u2 p hp, a4 f1 f2]
  · rw [w2 p hp, u2 p hp, a2 f1 f2]
theorem qB {a G : Int} (hG : 0 < G) (hd : G ∣ a) (h : -750 ≤ a ∧ a ≤ 750) : -750 ≤ a / G ∧ a / G ≤ 750 := by
  obtain ⟨y, hy⟩ := hd
  have ey : a / G = y := by rw [hy]; exact Int.mul_ediv_cancel_left y (by omega)
  rw [ey]
  constructor
  · by_cases hy0 : 0 ≤ y
    · omega
    · have := Int.mul_le_mul_of_nonneg_right (show 1 ≤ G by omega) (show 0 ≤ -y by omega)
      have e2 : G * -y = -(G * y) := Int.mul_neg G y
      omega
  · by_cases hy0 : 0 ≤ y
    · have := Int.mul_le_mul_of_nonneg_right (show 1 ≤ G by omega) hy0
      omega
    · omega
theorem isWt_B {g : gT} {s : Nat} {x : Nat → Nat} {V : Nat → Int} (hs : s ≤ 4) (h : isWt g s x V) : ∀ p, p < s → -750 ≤ V p ∧ V p ≤ 750 := by
  obtain ⟨W, ⟨-, -, p0, p1, p2⟩, wb, w2⟩ := h
  intro p hp
  have hG : 0 < gc4 W := by
    have hd := gc4_dv W p0 p1
    have hn : 0 ≤ gc4 W := by unfold gc4; omega
    apply Decidable.byContradiction
    intro z
    have z0 : gc4 W = 0 := by omega
    rw [z0] at hd
    exact p2 (Int.zero_dvd.mp hd)
  have := qB hG (gc4_dv W p (by omega)) (wb p)
  rcases w2 with ⟨-, w2⟩ | ⟨-, w2⟩
  · rw [w2 p hp]; omega
  · rw [w2 p hp]; exact this
