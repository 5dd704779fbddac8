/-! shown: a row as a text -/
def WrC (σ : sT) (W : List Nat) : Prop := σ.1 31 2 = nI W.length ∧ ∀ (j c : Nat), W[j]? = some c → σ.1 32 j = nI c
def WrM (τ : sT) (W : List Nat) : Prop := τ.1 33 38 = nI W.length ∧ ∀ (j c : Nat), W[j]? = some c → τ.1 50 j = nI c
theorem wput_spec {σ : sT} {W : List Nat} (h : WrC σ W) (hl : W.length < 14) {c : Nat} (hc : c < 128) : ∃ σ1, fWr_put (nI c) σ = some σ1 ∧ WrC σ1 (W ++ [c]) ∧ offC [31, 32] σ σ1 := by
  refine ⟨siW (siW σ 32 W.length (nI c)) 31 2 (nI (W.length + 1)), ?_, ⟨?_, Tx_snoc h.2 (fun j => ?_)⟩, (offC_si (by simp)).trans (offC_si (by simp))⟩
  · unfold fWr_put
    rw [h.1, if_neg (show ¬ (14 : Int32) ≤ nI W.length from nI_ge (b := 14) (by omega) (by omega)), dck_t (okI_n (by omega) (by omega)), nc (by omega), byte_n hc, dlt_u, dlt_u, siW_n (by decide), h.1, nI_1]
  · rw [siW_s, if_pos rfl, List.length_append, List.length_singleton]
  · rw [siW_n (by decide), siW_s]
theorem mput_spec {τ : sT} {W : List Nat} (h : WrM τ W) (hl : W.length < 20) (c : Nat) : ∃ τ1, fMM_writes (nI c) τ = some τ1 ∧ WrM τ1 (W ++ [c]) ∧ mOff [50] [38] τ τ1 := by
  refine ⟨siW (siW τ 50 W.length (nI c)) 33 38 (nI (W.length + 1)), ?_, ⟨?_, Tx_snoc h.2 (fun j => ?_)⟩, (mOff_ci (by simp) (by decide)).trans (mOff_si (by simp))⟩
  · unfold fMM_writes
    rw [h.1, dck_t (okI_n (by omega) (by omega)), nc (by omega), dlt_u, dlt_u, siW_n (by decide), h.1, nI_1]
  · rw [siW_s, if_pos rfl, List.length_append, List.length_singleton]
  · rw [siW_n (by decide), siW_s]
theorem iabs32 {v : Int} (h : -100 ≤ v ∧ v ≤ 100) : (if 0 ≤ iI v then iI v else 0 - iI v) = nI v.natAbs := by
  by_cases c : 0 ≤ v
  · rw [if_pos (show (0 : Int32) ≤ iI v from (iI_le (a := 0) (by unfold inI; omega) (by unfold inI; omega)).mpr c), nI_iI]; congr 1; omega
  · rw [if_neg (show ¬ (0 : Int32) ≤ iI v from fun z => c ((iI_le (a := 0) (by unfold inI; omega) (by unfold inI; omega)).mp z)), nI_iI, show (0 : Int32) = iI 0 from rfl, iI_sub]; congr 1; omega
theorem nn32 {v : Int} (h : -100 ≤ v ∧ v ≤ 100) : (0 ≤ iI v) ↔ 0 ≤ v := iI_le (a := 0) (by unfold inI; omega) (by unfold inI; omega)
def sgnL (W : List Nat) (v : Int) : List Nat := if v < 0 then W ++ [45] else if W.length = 0 then W else W ++ [43]
def digL (W : List Nat) (v : Int) : List Nat := if v.natAbs ≤ 1 then W else W ++ [48 + v.natAbs]
def termL (W : List Nat) (v : Int) (l : Nat) : List Nat := if v = 0 then W else digL (sgnL W v) v ++ [l]
theorem sgnL_len (W : List Nat) (v : Int) : (sgnL W v).length ≤ W.length + 1 := by unfold sgnL; split <;> (try split) <;> simp
theorem digL_len (W : List Nat) (v : Int) : (digL W v).length ≤ W.length + 1 := by unfold digL; split <;> simp
theorem termL_len (W : List Nat) (v : Int) (l : Nat) : (termL W v l).length ≤ W.length + 3 := by
  have h1 := sgnL_len W v
  have h2 := digL_len (sgnL W v) v
  unfold termL
  split
  · omega
  · rw [List.length_append, List.length_singleton]; omega
theorem term_spec {σ : sT} {W : List Nat} (h : WrC σ W) (hl : W.length + 3 ≤ 14) {v : Int} (hv : -5 ≤ v ∧ v ≤ 5) {l : Nat} (hl2 : l < 128) : ∃ σ1, fWr_writeTerm (iI v) (nI l) σ = some σ1 ∧ WrC σ1 (termL W v l) ∧ offC [31, 32] σ σ1 := by
  unfold fWr_writeTerm termL
  by_cases v0 : v = 0
  · rw [if_pos (by rw [v0]; rfl), if_pos v0]; exact ⟨σ, rfl, h, offC.refl _ _⟩
  · rw [if_neg (fun z => v0 ((iz (by omega)).mp z)), if_neg v0]
    simp only [dlt_u]
    rw [iabs32 (by omega), show (48 : Int32) = nI 48 from rfl, na]
    have h1 := sgnL_len W v
    have h2 := digL_len (sgnL W v) v
    have fin : ∀ σ2, WrC σ2 (sgnL W v) → ∃ σ1, (if nI v.natAbs ≤ (1 : Int32) then db1 (fWr_put (nI l) σ2) fun σ7 => some σ7 else db1 (fWr_put (nI (48 + v.natAbs)) σ2) fun σ10 => db1 (fWr_put (nI l) σ10) fun σ7 => some σ7) = some σ1 ∧ WrC σ1 (digL (sgnL W v) v ++ [l]) ∧ offC [31, 32] σ2 σ1 := by
      intro σ2 hW
      unfold digL
      by_cases c : v.natAbs ≤ 1
      · rw [if_pos (show nI v.natAbs ≤ (1 : Int32) from nI_le (b := 1) c (by omega)), if_pos c]
        obtain ⟨σ3, e1, e2, e3⟩ := wput_spec hW (by omega) hl2
        rw [db1_t e1]; exact ⟨σ3, rfl, e2, e3⟩
      · rw [if_neg (show ¬ nI v.natAbs ≤ (1 : Int32) from nI_ge (a := 1) (by omega) (by omega)), if_neg c]
        obtain ⟨σ3, e1, e2, e3⟩ := wput_spec hW (by omega) (c := 48 + v.natAbs) (by omega)
        obtain ⟨σ4, f1, f2, f3⟩ := wput_spec e2 (by rw [List.length_append, List.length_singleton]; omega) hl2
        rw [db1_t e1, db1_t f1]; exact ⟨σ4, rfl, f2, e3.trans f3⟩
    by_cases c : 0 ≤ v
    · rw [if_pos ((nn32 (by omega)).mpr c), h.1]
      by_cases w0 : W.length = 0
      · rw [if_pos (by rw [w0]; decide)]
        exact fin σ (by unfold sgnL; rw [if_neg (by omega), if_pos w0]; exact h)
      · rw [if_neg (nI_nle (by omega) (by omega))]
        obtain ⟨σ3, e1, e2, e3⟩ := wput_spec h (by omega) (c := 43) (by omega)
        have e1' : fWr_put (43 : Int32) σ = some σ3 := e1
        rw [db1_t e1']
        obtain ⟨σ4, f1, f2, f3⟩ := fin σ3 (by unfold sgnL; rw [if_neg (by omega), if_neg w0]; exact e2)
        exact ⟨σ4, f1, f2, e3.trans f3⟩
    · rw [if_neg (fun z => c ((nn32 (by omega)).mp z))]
      obtain ⟨σ3, e1, e2, e3⟩ := wput_spec h (by omega) (c := 45) (by omega)
      have e1' : fWr_put (45 : Int32) σ = some σ3 := e1
      rw [db1_t e1']
      obtain ⟨σ4, f1, f2, f3⟩ := fin σ3 (by unfold sgnL; rw [if_pos (by omega)]; exact e2)
      exact ⟨σ4, f1, f2, e3.trans f3⟩
def termsL (g : gT) (i : Nat) : Nat → Nat → List Nat → List Nat
  | 0, _, W => W
  | c + 1, k, W => termsL g i c (k + 1) (termL W (g i k) (120 + k))
theorem terms_loop {n i : Nat} {g : gT} (ok : BkOk n g) (hi : i < n) : ∀ (c k f : Nat) (σ : sT) (W : List Nat), k + c = 3 → c < f → BkC σ n g → WrC σ W → W.length ≤ 3 * k →
    ∃ σ1, (∀ K : sT → Option sT, fWr_write_L7 (nI i) K f (nI k) σ = K σ1) ∧ WrC σ1 (termsL g i c k W) ∧ (termsL g i c k W).length ≤ 9 ∧ offC [31, 32] σ σ1 := by
  intro c
  induction c with
  | zero =>
    intro k f σ W h1 h2 hB hW hl
    obtain ⟨f', rfl⟩ : ∃ f', f = f' + 1 := ⟨f - 1, by omega⟩
    refine ⟨σ, fun K => ?_, hW, by rw [termsL]; omega, offC.refl _ _⟩
    unfold fWr_write_L7
    rw [show (3 : Int32) = nI 3 from rfl, if_pos (nI_le (by omega) (by omega))]
  | succ c ih =>
    intro k f σ W h1 h2 hB hW hl
    obtain ⟨f', rfl⟩ : ∃ f', f = f' + 1 := ⟨f - 1, by omega⟩
    obtain ⟨c3, -⟩ := ok.2 i hi
    obtain ⟨σ2, e1, e2, e3⟩ := term_spec hW (by omega) (c3 k (by omega)) (l := 120 + k) (by omega)
    have hl3 := termL_len W (g i k) (120 + k)
    obtain ⟨σ3, f1, f2, f3, f4⟩ := ih (k + 1) f' σ2 _ (by omega) (by omega) (hB.of e3 (by decide) (by decide)) e2 (by omega)
    refine ⟨σ3, fun K => ?_, f2, f3, e3.trans f4⟩
    unfold fWr_write_L7
    rw [show (3 : Int32) = nI 3 from rfl, if_neg (nI_ge (by omega) (by omega)), db1_t (get_spec hB ok.1 hi (by omega)), show (120 : Int32) = nI 120 from rfl, na, db1_t e1, nI_1]
    exact f1 K
def kndL (W : List Nat) (k : Nat) : List Nat := if k = 0 then W ++ [60] else if k = 1 then W ++ [60] ++ [61] else W ++ [61]
theorem kind_spec {σ : sT} {W : List Nat} (h : WrC σ W) (hl : W.length + 2 ≤ 14) {k : Nat} (hk : k ≤ 2) : ∃ σ1, fWr_writeKind (nI k) σ = some σ1 ∧ WrC σ1 (kndL W k) ∧ offC [31, 32] σ σ1 := by
  unfold fWr_writeKind kndL
  simp only [dlt_u]
  rcases k012 hk with rfl | rfl | rfl
  · obtain ⟨σ3, e1, e2, e3⟩ := wput_spec h (by omega) (c := 60) (by omega)
    have e1' : fWr_put (60 : Int32) σ = some σ3 := e1
    rw [if_neg (by decide), db1_t e1', if_pos (by decide), if_pos rfl]
    exact ⟨σ3, rfl, e2, e3⟩
  · obtain ⟨σ3, e1, e2, e3⟩ := wput_spec h (by omega) (c := 60) (by omega)
    have e1' : fWr_put (60 : Int32) σ = some σ3 := e1
    obtain ⟨σ4, f1, f2, f3⟩ := wput_spec e2 (by rw [List.length_append, List.length_singleton]; omega) (c := 61) (by omega)
    have f1' : fWr_put (61 : Int32) σ3 = some σ4 := f1
    rw [if_neg (by decide), db1_t e1', if_neg (by decide), db1_t f1', if_neg (by decide), if_pos rfl]
    exact ⟨σ4, rfl, f2, e3.trans f3⟩
  · obtain ⟨σ3, e1, e2, e3⟩ := wput_spec h (by omega) (c := 61) (by omega)
    have e1' : fWr_put (61 : Int32) σ = some σ3 := e1
    rw [if_pos (by decide), if_neg (by decide), db1_t e1', if_neg (by decide), if_neg (by decide)]
    exact ⟨σ3, rfl, e2, e3⟩
theorem kndL_len (W : List Nat) (k : Nat) : (kndL W k).length ≤ W.length + 2 := by unfold kndL; split <;> (try split) <;> simp
def numL (W : List Nat) (a : Nat) : List Nat := (if a < 10 then W else W ++ [48 + a / 10]) ++ [48 + a % 10]
def rgtL (W : List Nat) (d : Int) : List Nat := numL (if 0 ≤ d then W else W ++ [45]) d.natAbs
theorem right_spec {σ : sT} {W : List Nat} (h : WrC σ W) (hl : W.length + 3 ≤ 14) {d : Int} (hd : -50 ≤ d ∧ d ≤ 50) : ∃ σ1, fWr_writeRight (iI d) σ = some σ1 ∧ WrC σ1 (rgtL W d) ∧ offC [31, 32] σ σ1 := by
  unfold fWr_writeRight rgtL numL
  simp only [dlt_u]
  rw [iabs32 (by omega), show (10 : Int32) = nI 10 from rfl, pk_rem (by omega) (by omega) (by omega), pk_div (by omega) (by omega) (by omega), show (48 : Int32) = nI 48 from rfl, na, na]
  have fin : ∀ σ2 W2, WrC σ2 W2 → W2.length + 2 ≤ 14 → ∃ σ1, (if nI d.natAbs < nI 10 then db1 (fWr_put (nI (48 + d.natAbs % 10)) σ2) fun σ7 => some σ7 else db1 (fWr_put (nI (48 + d.natAbs / 10)) σ2) fun σ10 => db1 (fWr_put (nI (48 + d.natAbs % 10)) σ10) fun σ7 => some σ7) = some σ1 ∧ WrC σ1 ((if d.natAbs < 10 then W2 else W2 ++ [48 + d.natAbs / 10]) ++ [48 + d.natAbs % 10]) ∧ offC [31, 32] σ2 σ1 := by
    intro σ2 W2 hW h2
    by_cases c : d.natAbs < 10
    · rw [if_pos (nI_lt c (by omega)), if_pos c]
      obtain ⟨σ3, e1, e2, e3⟩ := wput_spec hW (by omega) (c := 48 + d.natAbs % 10) (by omega)
      rw [db1_t e1]; exact ⟨σ3, rfl, e2, e3⟩
    · rw [if_neg (nI_nlt (by omega) (by omega)), if_neg c]
      obtain ⟨σ3, e1, e2, e3⟩ := wput_spec hW (by omega) (c := 48 + d.natAbs / 10) (by omega)
      obtain ⟨σ4, f1, f2, f3⟩ := wput_spec e2 (by rw [List.length_append, List.length_singleton]; omega) (c := 48 + d.natAbs % 10) (by omega)
      rw [db1_t e1, db1_t f1]; exact ⟨σ4, rfl, f2, e3.trans f3⟩
  by_cases c : 0 ≤ d
  · rw [if_pos ((nn32 (by omega)).mpr c), if_pos c]
    exact fin σ W h (by omega)
  · rw [if_neg (fun z => c ((nn32 (by omega)).mp z)), if_neg c]
    obtain ⟨σ3, e1, e2, e3⟩ := wput_spec h (by omega) (c := 45) (by omega)
    have e1' : fWr_put (45 : Int32) σ = some σ3 := e1
    rw [db1_t e1']
    obtain ⟨σ4, f1, f2, f3⟩ := fin σ3 _ e2 (by rw [List.length_append, List.length_singleton]; omega)
    exact ⟨σ4, f1, f2, e3.trans f3⟩
theorem rgtL_len (W : List Nat) (d : Int) : (rgtL W d).length ≤ W.length + 3 := by unfold rgtL numL; split <;> split <;> simp
def zerL (W : List Nat) : List Nat := if W.length = 0 then W ++ [48] else W
def rowL (g : gT) (i : Nat) : List Nat := rgtL (kndL (zerL (termsL g i 3 0 [])) (g i 3).toNat) (g i 4)
theorem zerL_len (W : List Nat) (h : W.length ≤ 9) : (zerL W).length ≤ 9 := by
  unfold zerL; split
  · rw [List.length_append, List.length_singleton]; omega
  · exact h
theorem write_spec {n i : Nat} {g : gT} (ok : BkOk n g) (hi : i < n) {σ : sT} (hB : BkC σ n g) : ∃ σ1, fWr_write (nI i) σ = some σ1 ∧ WrC σ1 (rowL g i) ∧ (rowL g i).length ≤ 14 ∧ offC [31, 32] σ σ1 := by
  obtain ⟨-, kd, rd, -⟩ := ok.2 i hi
  have hk := kd_n ok hi
  have o1 : offC [31, 32] σ (siW σ 31 2 0) := offC_si (by simp)
  obtain ⟨σ2, e1, e2, e3, e4⟩ := terms_loop ok hi 3 0 FU (siW σ 31 2 0) [] (by omega) (by unfold FU; omega) (hB.of o1 (by decide) (by decide)) ⟨by rw [siW_s, if_pos rfl]; rfl, fun j c h => by simp at h⟩ (by simp)
  rw [nI_0] at e1
  have hB2 := (hB.of o1 (by decide) (by decide)).of e4 (by decide) (by decide)
  have fin : ∀ σ6, BkC σ6 n g → WrC σ6 (zerL (termsL g i 3 0 [])) → ∃ σ1, (db1 (fBk_get (nI i) (3 : Int32) σ6) fun r9 =>
      db1 (fWr_writeKind r9 σ6) fun σ11 =>
      db1 (fBk_get (nI i) (4 : Int32) σ11) fun r13 =>
      db1 (fWr_writeRight r13 σ11) fun σ15 =>
      some σ15) = some σ1 ∧ WrC σ1 (rowL g i) ∧ offC [31, 32] σ6 σ1 := by
    intro σ6 hB6 hW6
    have hz := zerL_len _ e3
    obtain ⟨σ7, f1, f2, f3⟩ := kind_spec hW6 (by omega) hk.2
    have hkl := kndL_len (zerL (termsL g i 3 0 [])) (g i 3).toNat
    obtain ⟨σ8, p1, p2, p3⟩ := right_spec f2 (by omega) rd
    have t3 : fBk_get (nI i) (3 : Int32) σ6 = some (iI (g i 3)) := get_spec hB6 ok.1 hi (k := 3) (by omega)
    have t4 : fBk_get (nI i) (4 : Int32) σ7 = some (iI (g i 4)) := get_spec (hB6.of f3 (by decide) (by decide)) ok.1 hi (k := 4) (by omega)
    rw [db1_t t3, hk.1, db1_t f1, db1_t t4, db1_t p1]
    exact ⟨σ8, rfl, p2, f3.trans p3⟩
  have hlen : (rowL g i).length ≤ 14 := by
    have hz := zerL_len _ e3
    have hkl := kndL_len (zerL (termsL g i 3 0 [])) (g i 3).toNat
    have hr := rgtL_len (kndL (zerL (termsL g i 3 0 [])) (g i 3).toNat) (g i 4)
    unfold rowL; omega
  unfold fWr_write
  simp only [dlt_u]
  rw [e1, e2.1]
  by_cases z : (termsL g i 3 0 []).length = 0
  · rw [if_pos (by rw [z]; rfl)]
    obtain ⟨σ3, f1, f2, f3⟩ := wput_spec e2 (by omega) (c := 48) (by omega)
    have f1' : fWr_put (48 : Int32) σ2 = some σ3 := f1
    rw [db1_t f1']
    obtain ⟨σ4, p1, p2, p3⟩ := fin σ3 (hB2.of f3 (by decide) (by decide)) (by unfold zerL; rw [if_pos z]; exact f2)
    exact ⟨σ4, p1, p2, hlen, (o1.trans e4).trans (f3.trans p3)⟩
  · rw [if_neg (nI_ne0 (by omega) (by omega))]
    obtain ⟨σ4, p1, p2, p3⟩ := fin σ2 hB2 (by unfold zerL; rw [if_neg z]; exact e2)
    exact ⟨σ4, p1, p2, hlen, (o1.trans e4).trans p3⟩
/-! the model's side -/
theorem mnum_spec {τ : sT} {W : List Nat} (h : WrM τ W) (hl : W.length + 2 ≤ 20) {a : Nat} (ha : a ≤ 99) : ∃ τ1, fMM_writesNumber (nI a) τ = some τ1 ∧ WrM τ1 (numL W a) ∧ mOff [50] [38] τ τ1 := by
  unfold fMM_writesNumber numL
  simp only [dlt_u]
  rw [show (10 : Int32) = nI 10 from rfl, pk_rem (by omega) (by omega) (by omega), pk_div (by omega) (by omega) (by omega), show (48 : Int32) = nI 48 from rfl, na, na]
  by_cases c : a < 10
  · rw [if_pos (show nI a ≤ (9 : Int32) from nI_le (b := 9) (by omega) (by omega)), if_pos c]
    obtain ⟨τ3, e1, e2, e3⟩ := mput_spec h (by omega) (48 + a % 10)
    rw [db1_t e1]; exact ⟨τ3, rfl, e2, e3⟩
  · rw [if_neg (show ¬ nI a ≤ (9 : Int32) from nI_ge (a := 9) (by omega) (by omega)), if_neg c]
    obtain ⟨τ3, e1, e2, e3⟩ := mput_spec h (by omega) (48 + a / 10)
    obtain ⟨τ4, f1, f2, f3⟩ := mput_spec e2 (by rw [List.length_append, List.length_singleton]; omega) (48 + a % 10)
    rw [db1_t e1, db1_t f1]; exact ⟨τ4, rfl, f2, e3.trans f3⟩
theorem neg_nat {v : Int} (h : -100 ≤ v ∧ v ≤ 100) (hn : v < 0) : -(iI v) = nI v.natAbs := by
  rw [iI_neg, nI_iI]; congr 1; omega
theorem pos_nat {v : Int} (hn : 0 ≤ v) : iI v = nI v.natAbs := by
  rw [nI_iI]; congr 1; omega
theorem mterms_loop {n i : Nat} {g : gT} (ok : BkOk n g) (hi : i < n) : ∀ (c k f : Nat) (τ : sT) (W : List Nat), k + c = 3 → c < f → BkM τ n g → WrM τ W → W.length ≤ 3 * k →
    ∃ τ1, (∀ K : sT → Option sT, fMM_writesRow_L7 (nI i) K f (nI k) τ = K τ1) ∧ WrM τ1 (termsL g i c k W) ∧ mOff [50] [38] τ τ1 := by
  have hn := ok.1
  intro c
  induction c with
  | zero =>
    intro k f τ W h1 h2 hB hW hl
    obtain ⟨f', rfl⟩ : ∃ f', f = f' + 1 := ⟨f - 1, by omega⟩
    refine ⟨τ, fun K => ?_, hW, mOff.refl _ _ _⟩
    unfold fMM_writesRow_L7
    rw [show (3 : Int32) = nI 3 from rfl, if_pos (nI_le (by omega) (by omega))]
  | succ c ih =>
    intro k f τ W h1 h2 hB hW hl
    obtain ⟨f', rfl⟩ : ∃ f', f = f' + 1 := ⟨f - 1, by omega⟩
    obtain ⟨c3, -⟩ := ok.2 i hi
    have hv := c3 k (by omega)
    have l1 := sgnL_len W (g i k)
    have l2 := digL_len (sgnL W (g i k)) (g i k)
    have l3 := termL_len W (g i k) (120 + k)
    have step : ∃ τ2, (∀ K : sT → Option sT, fMM_writesRow_L7 (nI i) K (f' + 1) (nI k) τ = fMM_writesRow_L7 (nI i) K f' (nI (k + 1)) τ2) ∧ WrM τ2 (termL W (g i k) (120 + k)) ∧ mOff [50] [38] τ τ2 := by
      by_cases v0 : g i k = 0
      · refine ⟨τ, fun K => ?_, by unfold termL; rw [if_pos v0]; exact hW, mOff.refl _ _ _⟩
        conv => lhs; unfold fMM_writesRow_L7
        rw [show (3 : Int32) = nI 3 from rfl, if_neg (nI_ge (by omega) (by omega)), db1_t (at_spec hB hn hi (by omega)), if_pos (by rw [v0]; rfl), nI_1]
      · -- the sign, then the digit, then the letter
        obtain ⟨τ3, a1, a2, a3⟩ : ∃ τ3, (∀ J : sT → Option sT, (if 0 ≤ iI (g i k) then (if (τ.1 33 38) ≤ 0 then J τ else db1 (fMM_writes (43 : Int32) τ) fun σ65 => J σ65) else db1 (fMM_writes (45 : Int32) τ) fun σ67 => J σ67) = J τ3) ∧ WrM τ3 (sgnL W (g i k)) ∧ mOff [50] [38] τ τ3 := by
          by_cases c : 0 ≤ g i k
          · by_cases w0 : W.length = 0
            · refine ⟨τ, fun J => ?_, by unfold sgnL; rw [if_neg (by omega), if_pos w0]; exact hW, mOff.refl _ _ _⟩
              rw [if_pos ((nn32 (by omega)).mpr c), hW.1, if_pos (by rw [w0]; decide)]
            · obtain ⟨τ3, e1, e2, e3⟩ := mput_spec hW (by omega) 43
              have e1' : fMM_writes (43 : Int32) τ = some τ3 := e1
              refine ⟨τ3, fun J => ?_, by unfold sgnL; rw [if_neg (by omega), if_neg w0]; exact e2, e3⟩
              rw [if_pos ((nn32 (by omega)).mpr c), hW.1, if_neg (nI_nle (by omega) (by omega)), db1_t e1']
          · obtain ⟨τ3, e1, e2, e3⟩ := mput_spec hW (by omega) 45
            have e1' : fMM_writes (45 : Int32) τ = some τ3 := e1
            refine ⟨τ3, fun J => ?_, by unfold sgnL; rw [if_pos (by omega)]; exact e2, e3⟩
            rw [if_neg (fun z => c ((nn32 (by omega)).mp z)), db1_t e1']
        obtain ⟨τ4, c1, c2, c4⟩ : ∃ τ4, (∀ J : sT → Option sT, (if (1 : Int32) < iI (g i k) then (if 0 ≤ iI (g i k) then db1 (fMM_writesNumber (iI (g i k)) τ3) fun σ58 => J σ58 else db1 (fMM_writesNumber (-iI (g i k)) τ3) fun σ58 => J σ58) else if (-1 : Int32) ≤ iI (g i k) then J τ3 else (if 0 ≤ iI (g i k) then db1 (fMM_writesNumber (iI (g i k)) τ3) fun σ58 => J σ58 else db1 (fMM_writesNumber (-iI (g i k)) τ3) fun σ58 => J σ58)) = J τ4) ∧ WrM τ4 (digL (sgnL W (g i k)) (g i k)) ∧ mOff [50] [38] τ3 τ4 := by
          have lt1 : ((1 : Int32) < iI (g i k)) ↔ 1 < g i k := iI_lt (a := 1) (by unfold inI; omega) (by unfold inI; omega)
          have le1 : ((-1 : Int32) ≤ iI (g i k)) ↔ -1 ≤ g i k := by
            rw [show (-1 : Int32) = iI (-1) from rfl]
            exact iI_le (by unfold inI; omega) (by unfold inI; omega)
          by_cases c : (g i k).natAbs ≤ 1
          · refine ⟨τ3, fun J => ?_, by unfold digL; rw [if_pos c]; exact a2, mOff.refl _ _ _⟩
            rw [if_neg (fun z => by have := lt1.mp z; omega), if_pos (le1.mpr (by omega))]
          · obtain ⟨τ4, e1, e2, e3⟩ := mnum_spec a2 (by omega) (a := (g i k).natAbs) (by omega)
            refine ⟨τ4, fun J => ?_, ?_, e3⟩
            · by_cases p : 0 ≤ g i k
              · rw [if_pos (lt1.mpr (by omega)), if_pos ((nn32 (by omega)).mpr p), pos_nat p, db1_t e1]
              · rw [if_neg (fun z => by have := lt1.mp z; omega), if_neg (fun z => by have := le1.mp z; omega), if_neg (fun z => p ((nn32 (by omega)).mp z)), neg_nat (by omega) (by omega), db1_t e1]
            · unfold digL; rw [if_neg c]
              unfold numL at e2
              rw [if_pos (by omega), Nat.mod_eq_of_lt (by omega)] at e2; exact e2
        obtain ⟨τ5, d1, d2, d3⟩ := mput_spec c2 (by omega) (120 + k)
        refine ⟨τ5, fun K => ?_, by unfold termL; rw [if_neg v0]; exact d2, (a3.trans c4).trans d3⟩
        conv => lhs; unfold fMM_writesRow_L7
        rw [show (3 : Int32) = nI 3 from rfl, if_neg (nI_ge (by omega) (by omega)), db1_t (at_spec hB hn hi (by omega)), if_neg (fun z => v0 ((iz (by omega)).mp z)), nI_1, show (120 : Int32) = nI 120 from rfl, na]
        simp only [dlt_u]
        have := a1 (fun σ48 => (if (1 : Int32) < iI (g i k) then (if 0 ≤ iI (g i k) then db1 (fMM_writesNumber (iI (g i k)) σ48) fun σ58 => (db1 (fMM_writes (nI (120 + k)) σ58) fun σ53 => fMM_writesRow_L7 (nI i) K f' (nI (k + 1)) σ53) else db1 (fMM_writesNumber (-iI (g i k)) σ48) fun σ58 => (db1 (fMM_writes (nI (120 + k)) σ58) fun σ53 => fMM_writesRow_L7 (nI i) K f' (nI (k + 1)) σ53)) else if (-1 : Int32) ≤ iI (g i k) then (db1 (fMM_writes (nI (120 + k)) σ48) fun σ53 => fMM_writesRow_L7 (nI i) K f' (nI (k + 1)) σ53) else (if 0 ≤ iI (g i k) then db1 (fMM_writesNumber (iI (g i k)) σ48) fun σ58 => (db1 (fMM_writes (nI (120 + k)) σ58) fun σ53 => fMM_writesRow_L7 (nI i) K f' (nI (k + 1)) σ53) else db1 (fMM_writesNumber (-iI (g i k)) σ48) fun σ58 => (db1 (fMM_writes (nI (120 + k)) σ58) fun σ53 => fMM_writesRow_L7 (nI i) K f' (nI (k + 1)) σ53))))
        rw [this]
        have := c1 (fun σ50 => db1 (fMM_writes (nI (120 + k)) σ50) fun σ53 => fMM_writesRow_L7 (nI i) K f' (nI (k + 1)) σ53)
        rw [this, db1_t d1]
    obtain ⟨τ2, s1, s2, s3⟩ := step
    obtain ⟨τ3, f1, f2, f3⟩ := ih (k + 1) f' τ2 _ (by omega) (by omega) (hB.of s3 (by decide)) s2 (by omega)
    exact ⟨τ3, fun K => by rw [s1 K]; exact f1 K, f2, s3.trans f3⟩
