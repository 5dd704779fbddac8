/-! between -/
theorem every_C {σ : sT} {n : Nat} (hn : n ≤ 12) (h : σ.1 1 3 = nI n) : fBk_every σ = some (nI (2 ^ n - 1)) := by
  have hp : 0 < 2 ^ n := Nat.two_pow_pos n
  have hq := pow12 hn
  unfold fBk_every
  rw [h, show (1 : Int32) = nI 1 from rfl, pk_shlN _ n (sh31 hn) (by omega), pk_sub (by omega), Nat.one_mul]
theorem every_M {τ : sT} {n : Nat} (hn : n ≤ 12) (h : τ.1 34 0 = nI n) : fMM_every τ = some (nI (2 ^ n - 1)) := by
  have hp : 0 < 2 ^ n := Nat.two_pow_pos n
  have hq := pow12 hn
  unfold fMM_every
  rw [dck_t (by decide), show (0 : Int32).toNatClampNeg = 0 from rfl, h, show (1 : Int32) = nI 1 from rfl, pk_shlN _ n (sh31 hn) (by omega), pk_sub (by omega), Nat.one_mul]
theorem every_lt (n : Nat) : 2 ^ n - 1 < 2 ^ n := by have := Nat.two_pow_pos n; omega
def iSm (g : gT) (x : Nat → Nat) (V : Nat → Int) (k : Nat) : Nat → Int
  | 0 => 0
  | p + 1 => if g (x p) 5 = 0 then iSm g x V k p + (if k = 3 then 0 else V p * g (x p) k) else iSm g x V k p
def kMn (g : gT) (x : Nat → Nat) : Nat → Nat
  | 0 => 2
  | p + 1 => if g (x p) 5 = 0 then min (kMn g x p) (g (x p) 3).toNat else kMn g x p
theorem kMn_le (g : gT) (x : Nat → Nat) : ∀ p, kMn g x p ≤ 2
  | 0 => Nat.le_refl 2
  | p + 1 => by
    have := kMn_le g x p
    rw [kMn]; split <;> omega
theorem iSm_congr {g : gT} {x : Nat → Nat} {V V' : Nat → Int} {k : Nat} : ∀ s, (∀ p, p < s → V p = V' p) → iSm g x V k s = iSm g x V' k s
  | 0, _ => rfl
  | s + 1, h => by rw [iSm, iSm, iSm_congr s (fun p hp => h p (by omega)), h s (by omega)]
section BT
variable {n : Nat} {g : gT}
theorem pty {i : Nat} (ok : BkOk n g) (hi : i < n) : (iI (g i 5) = 0) ↔ g i 5 = 0 := by
  have := (ok.2 i hi).2.2.2
  exact iz (by omega)
theorem isum_loop {s k : Nat} {x : Nat → Nat} {V : Nat → Int} (ok : BkOk n g) (hs : s ≤ 4) (hk : k < 6) (hk3 : k ≠ 3) (hx : ∀ p, x p < n) {σ : sT} (hB : BkC σ n g) (hW : WtAt σ s x V) : ∀ (c p f : Nat), p + c = s → c < f → fWt_interpolantSum_L4 (nI k) σ f (iI (iSm g x V k p)) (nI p) = some (iI (iSm g x V k s)) := by
  intro c
  induction c with
  | zero =>
    intro p f h1 h2
    obtain ⟨f', rfl⟩ : ∃ f', f = f' + 1 := ⟨f - 1, by omega⟩
    obtain rfl : p = s := by omega
    unfold fWt_interpolantSum_L4
    rw [hW.1, if_pos (nI_le (by omega) (by omega))]
  | succ c ih =>
    intro p f h1 h2
    obtain ⟨f', rfl⟩ : ∃ f', f = f' + 1 := ⟨f - 1, by omega⟩
    obtain ⟨y1, y2⟩ := hW.2 p (by omega)
    have t5 : fBk_get (nI (x p)) (5 : Int32) σ = some (iI (g (x p) 5)) := get_spec hB ok.1 (hx p) (k := 5) (by omega)
    have go := ih (p + 1) f' (by omega) (by omega)
    rw [iSm] at go
    unfold fWt_interpolantSum_L4
    rw [hW.1, if_neg (nI_ge (by omega) (by omega)), dck_t (okI_n (by omega) (by omega)), nc (by omega), y1, db1_t t5, nI_1]
    by_cases e : g (x p) 5 = 0
    · rw [if_pos ((pty ok (hx p)).mpr e), dck_t (okI_n (by omega) (by omega)), dck_t (okI_n (by omega) (by omega)), db1_t (get_spec hB ok.1 (hx p) hk), y2, iI_mul, iI_add, dlt_u]
      rw [if_pos e, if_neg hk3] at go
      exact go
    · rw [if_neg (fun z => e ((pty ok (hx p)).mp z))]
      rw [if_neg e] at go
      exact go
theorem ikind_loop {s : Nat} {x : Nat → Nat} {V : Nat → Int} (ok : BkOk n g) (hs : s ≤ 4) (hx : ∀ p, x p < n) {σ : sT} (hB : BkC σ n g) (hW : WtAt σ s x V) : ∀ (c p f : Nat), p + c = s → c < f → fWt_interpolantKind_L4 σ f (nI (kMn g x p)) (nI p) = some (nI (kMn g x s)) := by
  intro c
  induction c with
  | zero =>
    intro p f h1 h2
    obtain ⟨f', rfl⟩ : ∃ f', f = f' + 1 := ⟨f - 1, by omega⟩
    obtain rfl : p = s := by omega
    unfold fWt_interpolantKind_L4
    rw [hW.1, if_pos (nI_le (by omega) (by omega))]
  | succ c ih =>
    intro p f h1 h2
    obtain ⟨f', rfl⟩ : ∃ f', f = f' + 1 := ⟨f - 1, by omega⟩
    obtain ⟨y1, y2⟩ := hW.2 p (by omega)
    have hkd := kd_n ok (hx p)
    have hle := kMn_le g x p
    have t5 : fBk_get (nI (x p)) (5 : Int32) σ = some (iI (g (x p) 5)) := get_spec hB ok.1 (hx p) (k := 5) (by omega)
    have t3 : fBk_get (nI (x p)) (3 : Int32) σ = some (iI (g (x p) 3)) := get_spec hB ok.1 (hx p) (k := 3) (by omega)
    have go := ih (p + 1) f' (by omega) (by omega)
    rw [kMn] at go
    unfold fWt_interpolantKind_L4
    rw [hW.1, if_neg (nI_ge (by omega) (by omega)), dck_t (okI_n (by omega) (by omega)), nc (by omega), y1, db1_t t5, nI_1]
    by_cases e : g (x p) 5 = 0
    · rw [if_pos ((pty ok (hx p)).mpr e), dck_t (okI_n (by omega) (by omega)), db1_t t3, hkd.1, min_nI hle hkd.2, dlt_u]
      rw [if_pos e] at go
      exact go
    · rw [if_neg (fun z => e ((pty ok (hx p)).mp z))]
      rw [if_neg e] at go
      exact go
theorem b23_loop {k : Nat} {L : List Nat} {V : Nat → Int} (ok : BkOk n g) (hl : L.length ≤ 4) (hk : k < 5) (hx : ∀ p, xL L p < n) {τ : sT} (hB : BkM τ n g) (hM : MmAt τ L) (hT : TkAt τ L.length V) : ∀ (c p f : Nat), p + c = L.length → c < f → ∀ K : Int64 → Int32 → Int32 → Option (Int32 × sT), fMM_betweenOf_L23 (nI k) τ K f (jI (iSm g (xL L) V k p)) (b01 (decide (kMn g (xL L) p = 0))) (b01 (decide (kMn g (xL L) p = 2))) (nI p) = K (jI (iSm g (xL L) V k L.length)) (b01 (decide (kMn g (xL L) L.length = 0))) (b01 (decide (kMn g (xL L) L.length = 2))) := by
  intro c
  induction c with
  | zero =>
    intro p f h1 h2 K
    obtain ⟨f', rfl⟩ : ∃ f', f = f' + 1 := ⟨f - 1, by omega⟩
    obtain rfl : p = L.length := by omega
    unfold fMM_betweenOf_L23
    rw [hM.1, if_pos (nI_le (by omega) (by omega))]
  | succ c ih =>
    intro p f h1 h2 K
    obtain ⟨f', rfl⟩ : ∃ f', f = f' + 1 := ⟨f - 1, by omega⟩
    have hkd := kd_n ok (hx p)
    have hle := kMn_le g (xL L) p
    have t5 : fMM_at (nI (xL L p)) (5 : Int32) τ = some (iI (g (xL L p) 5)) := at_spec hB ok.1 (hx p) (k := 5) (by omega)
    have t3 : fMM_at (nI (xL L p)) (3 : Int32) τ = some (iI (g (xL L p) 3)) := at_spec hB ok.1 (hx p) (k := 3) (by omega)
    have go := ih (p + 1) f' (by omega) (by omega) K
    rw [iSm, kMn] at go
    unfold fMM_betweenOf_L23
    rw [hM.1, if_neg (nI_ge (by omega) (by omega)), dck_t (okI_n (by omega) (by omega)), nc (by omega), hM.2 p _ (xL_lt (by omega)), db1_t t5, nI_1]
    by_cases e : g (xL L p) 5 = 0
    · rw [if_pos ((pty ok (hx p)).mpr e)]
      rw [if_pos e, if_pos e] at go
      simp only [dlt_u]
      simp only [dck_t (okI_n (show p < 12 by omega) (show p < 2147483648 by omega)), db1_t t3, hkd.1]
      have tail : ∀ y : Int64, (if b01 (decide (kMn g (xL L) p = 0)) = 0 then (if nI (g (xL L p) 3).toNat = 0 then (if b01 (decide (kMn g (xL L) p = 2)) = 0 then fMM_betweenOf_L23 (nI k) τ K f' y (1 : Int32) (0 : Int32) (nI (p + 1)) else (if nI (g (xL L p) 3).toNat = (2 : Int32) then fMM_betweenOf_L23 (nI k) τ K f' y (1 : Int32) (1 : Int32) (nI (p + 1)) else fMM_betweenOf_L23 (nI k) τ K f' y (1 : Int32) (0 : Int32) (nI (p + 1)))) else (if b01 (decide (kMn g (xL L) p = 2)) = 0 then fMM_betweenOf_L23 (nI k) τ K f' y (0 : Int32) (0 : Int32) (nI (p + 1)) else (if nI (g (xL L p) 3).toNat = (2 : Int32) then fMM_betweenOf_L23 (nI k) τ K f' y (0 : Int32) (1 : Int32) (nI (p + 1)) else fMM_betweenOf_L23 (nI k) τ K f' y (0 : Int32) (0 : Int32) (nI (p + 1))))) else (if b01 (decide (kMn g (xL L) p = 2)) = 0 then fMM_betweenOf_L23 (nI k) τ K f' y (1 : Int32) (0 : Int32) (nI (p + 1)) else (if nI (g (xL L p) 3).toNat = (2 : Int32) then fMM_betweenOf_L23 (nI k) τ K f' y (1 : Int32) (1 : Int32) (nI (p + 1)) else fMM_betweenOf_L23 (nI k) τ K f' y (1 : Int32) (0 : Int32) (nI (p + 1))))) = fMM_betweenOf_L23 (nI k) τ K f' y (b01 (decide (min (kMn g (xL L) p) (g (xL L p) 3).toNat = 0))) (b01 (decide (min (kMn g (xL L) p) (g (xL L p) 3).toNat = 2))) (nI (p + 1)) := by
        intro y
        have h2' := hkd.2
        generalize kMn g (xL L) p = a at *
        generalize (g (xL L p) 3).toNat = b at *
        rcases k012 hle with rfl | rfl | rfl <;> rcases k012 h2' with rfl | rfl | rfl <;> rfl
      by_cases k3 : k = 3
      · rw [if_pos (by rw [k3]; rfl), show (0 : Int64) = jI 0 from rfl, jI_add, tail]
        rw [if_pos k3] at go
        exact go
      · have nk : fMM_number (nI p) (nI k) τ = some (jI (g (xL L p) k)) := num_spec ok hB hM hx (by omega) (by omega) (by omega)
        rw [if_neg (fun z => k3 ((nI_eq (by omega) (by omega)).mp (z.trans (show (3 : Int32) = nI 3 from rfl)))), db1_t nk, hT p (by omega), jI_mul, jI_add, tail]
        rw [if_neg k3] at go
        exact go
    · rw [if_neg (fun z => e ((pty ok (hx p)).mp z))]
      rw [if_neg e, if_neg e] at go
      exact go
end BT
theorem do_between : op_between Inv := by
  intro σ τ hI x1
  obtain ⟨n, g, U, T, h⟩ := id hI
  obtain ⟨ok, hC, hM, -⟩ := id h
  have hn := ok.1
  have w1 : fRM_isWithin x1 (0 : Int32) (4 : Int32) = some (b01 (wi x1 0 4)) := wiC x1 0 4 rfl rfl (by decide) (by decide)
  have w2 : fMM_in x1.toInt64 (0 : Int64) (4 : Int64) = some (b01 (wi x1 0 4)) := wiM x1 0 4 rfl rfl (by decide) (by decide)
  unfold fRM_between fMM_between
  rw [db1_t w1, db1_t w2]
  cases hw : wi x1 0 4
  · rw [if_pos b0, if_pos b0]
    obtain ⟨σ1, τ1, e1, e2, e3⟩ := ref_B hI
    rw [db2_t e1, db2_t e2]
    exact ⟨_, _, _, rfl, rfl, e3⟩
  rw [if_neg b1, if_neg b1]
  obtain ⟨k, hk, rfl⟩ := wi_n hw
  have hm := every_lt n
  obtain ⟨σ2, b, f1, f2, f3⟩ := sat_spec ok hm hC
  obtain ⟨τ2, b', p1, p2, p3⟩ := canSet_spec ok hm hM
  have hb : b = b' := Bool.eq_iff_iff.mpr (f3.trans p3.symm)
  subst hb
  have hI1 := hI.same (sameC.off f2 (by decide)) (sameM.off p2 (by decide) (by decide))
  have hC2 := hC.of f2 (by decide) (by decide)
  have hM2 := hM.of p2 (by decide)
  rw [db1_t (every_C hn hC.1), db1_t (every_M hn hM.1), db2_t f1, db2_t p1]
  cases b
  · rw [if_pos b0, if_pos b0]
    have hu : ¬ satP g (2 ^ n - 1) := fun z => by have := f3.mpr z; cases this
    obtain ⟨hcore, hlt⟩ := coF_core ok hm hu
    obtain ⟨σ3, g1, g2⟩ := coreOf_spec ok hm hC2
    obtain ⟨τ3, q1, q2⟩ := mcoreOf_spec ok hm hM2
    have hC3 := hC2.of g2 (by decide) (by decide)
    have hM3 := hM2.of q2 (by decide)
    have hI2 := hI1.same (sameC.off g2 (by decide)) (sameM.off q2 (by decide) (by decide))
    have hmb := mbr_of ok hlt hcore
    have hlen := core_len ok hlt hcore
    obtain ⟨σ4, V, s1, s2, s3, s4⟩ := find_spec ok hlt hcore hC3
    obtain ⟨τ4, V', t1, t2, t3, t4, t5⟩ := mfind_spec ok hlt hcore hM3
    have hV := isWt_one ok hlt hcore hmb s3 t4
    obtain ⟨L, hL⟩ : ∃ L, L = idxL (coF g n (2 ^ n - 1)) 12 0 := ⟨_, rfl⟩
    rw [← hL] at hmb hlen s2 s3 t2 t3 t4 hV
    have hx : ∀ p, xL L p < n := fun p => bit_lt hlt (hmb.2.2.1 p)
    have hC4 := hC3.of s4 (by decide) (by decide)
    have hM4 := hM3.of t5 (by decide)
    have hI3 := hI2.same (sameC.off s4 (by decide)) (sameM.off t5 (by decide) (by decide))
    have h23 := b23_loop ok hlen (show k < 5 by omega) hx hM4 t2 t3 L.length 0 FU (by omega) (by unfold FU; omega)
    rw [nI_0] at h23
    have vb := isWt_B hlen t4
    have ib : ∀ s, s ≤ L.length → -(37500 * (s : Int)) ≤ iSm g (xL L) V' k s ∧ iSm g (xL L) V' k s ≤ 37500 * (s : Int) := by
      intro s
      induction s with
      | zero => intro _; rw [iSm]; omega
      | succ s ih =>
        intro hs
        have h1 := ih (by omega)
        have gbk : -50 ≤ g (xL L s) k ∧ g (xL L s) k ≤ 50 := by
          obtain ⟨c, kd, d, -⟩ := ok.2 (xL L s) (hx s)
          rcases (show k < 3 ∨ k = 3 ∨ k = 4 by omega) with hh | rfl | rfl
          · have := c k hh; omega
          · omega
          · exact d
        have m := mulB (vb s (by omega)) gbk
        rw [iSm]
        split
        · split <;> omega
        · omega
    have hib := ib L.length (Nat.le_refl _)
    have mcode : fMM_betweenOf (nI k) τ2 = some ((if k = 3 then nI (kMn g (xL L) L.length) else iI (iSm g (xL L) V' k L.length)), τ4) := by
      obtain ⟨A, hA⟩ : ∃ A, FU = A := ⟨_, rfl⟩
      rw [hA] at h23
      have h23' : ∀ K : Int64 → Int32 → Int32 → Option (Int32 × sT), fMM_betweenOf_L23 (nI k) τ4 K A (0 : Int64) (0 : Int32) (1 : Int32) (0 : Int32) = K (jI (iSm g (xL L) V' k L.length)) (b01 (decide (kMn g (xL L) L.length = 0))) (b01 (decide (kMn g (xL L) L.length = 2))) := h23
      unfold fMM_betweenOf
      rw [hA, db1_t (every_M hn hM2.1), db2_t q1, db1_t t1, dlt_u, h23']
      by_cases k3 : k = 3
      · rw [if_pos (by rw [k3]; rfl), if_pos k3]
        rcases k012 (kMn_le g (xL L) L.length) with z | z | z <;> rw [z] <;> rfl
      · rw [if_neg (fun z => k3 ((nI_eq (by omega) (by omega)).mp (z.trans (show (3 : Int32) = nI 3 from rfl)))), if_neg k3, jI_i (by unfold inJ; omega)]
    rw [db1_t (every_C hn hC2.1), db2_t g1, db1_t s1, db2_t mcode]
    by_cases k3 : k = 3
    · have hik := ikind_loop ok hlen hx hC4 s2 L.length 0 FU (by omega) (by unfold FU; omega)
      rw [nI_0] at hik
      have hik' : fWt_interpolantKind σ4 = some (nI (kMn g (xL L) L.length)) := by unfold fWt_interpolantKind; exact hik
      rw [if_pos (by rw [k3]; rfl), db1_t hik', if_pos k3]
      exact ⟨_, _, _, rfl, rfl, hI3⟩
    · have his := isum_loop ok hlen (show k < 6 by omega) k3 hx hC4 s2 L.length 0 FU (by omega) (by unfold FU; omega)
      rw [nI_0] at his
      have his' : fWt_interpolantSum (nI k) σ4 = some (iI (iSm g (xL L) V k L.length)) := by unfold fWt_interpolantSum; exact his
      rw [if_neg (fun z => k3 ((nI_eq (by omega) (by omega)).mp (z.trans (show (3 : Int32) = nI 3 from rfl)))), db1_t his', if_neg k3, iSm_congr L.length hV]
      exact ⟨_, _, _, rfl, rfl, hI3⟩
  · rw [if_neg b1, if_neg b1]
    obtain ⟨σ4, τ4, g1, g2, g3⟩ := ref_N hI1
    rw [db2_t g1, db2_t g2]
    exact ⟨_, _, _, rfl, rfl, g3⟩
