/-! sign vectors: the class counts -/
def srw (g : gT) (i e : Nat) : rT := if e = 0 then sgR 1 g i 0 else if e = 1 then sgR 1 g i 2 else sgR (-1) g i 0
def stQ (g : gT) (Q : List (Nat × Nat)) : stR := (Q.map (fun q => srw g q.1 q.2)).foldl keepS ([], false)
def satQ (g : gT) (Q : List (Nat × Nat)) : Prop := ∃ p, ∀ q ∈ Q, hol p (srw g q.1 q.2)
theorem stQ_snoc (g : gT) (Q : List (Nat × Nat)) (q : Nat × Nat) : stQ g (Q ++ [q]) = keepS (stQ g Q) (srw g q.1 q.2) := by
  unfold stQ; rw [List.map_append, List.foldl_append]; rfl
theorem stQ_sem (g : gT) (Q : List (Nat × Nat)) : (∃ p, semR (stQ g Q) p) ↔ satQ g Q := by
  unfold satQ stQ
  refine exists_congr (fun p => ?_)
  rw [sem_fold]
  unfold semR
  constructor
  · rintro ⟨-, h⟩ q hq
    exact h _ (List.mem_map.mpr ⟨q, hq, rfl⟩)
  · intro h
    refine ⟨⟨rfl, by simp⟩, fun r hr => ?_⟩
    obtain ⟨q, hq, rfl⟩ := List.mem_map.mp hr
    exact h q hq
theorem stQ_len (g : gT) (Q : List (Nat × Nat)) : (stQ g Q).1.length ≤ Q.length := by
  have := fold_len (Q.map (fun q => srw g q.1 q.2)) ([], false)
  unfold stQ
  simpa using this
theorem srw_B {n : Nat} {g : gT} (ok : BkOk n g) {i : Nat} (hi : i < n) (e : Nat) : rB 5 50 (srw g i e) := by
  unfold srw
  split
  · exact sgR_B ok hi (Or.inl rfl) (by omega)
  · split
    · exact sgR_B ok hi (Or.inl rfl) (by omega)
    · exact sgR_B ok hi (Or.inr rfl) (by omega)
def SgAt (σ : sT) (L : List Nat) : Prop := σ.1 24 3 = nI L.length ∧ ∀ p y, L[p]? = some y → σ.1 25 p = nI y
theorem SgAt.of {C : List Nat} {σ σ1 : sT} {L : List Nat} (h : SgAt σ L) (ho : offC C σ σ1) (h1 : 24 ∉ C) (h2 : 25 ∉ C) : SgAt σ1 L := by
  unfold SgAt at *
  rw [(ho 24 h1).1, (ho 25 h2).1]; exact h
theorem tsign_spec {n i e : Nat} {g : gT} (ok : BkOk n g) (hi : i < n) (he : e < 3) {σ : sT} (hB : BkC σ n g) {Q : List (Nat × Nat)} (hQ : ∀ q ∈ Q, q.1 < n) (hR : RowsAt σ 6 7 8 (stQ g Q)) (hl : Q.length < 12) :
    ∃ (σ1 : sT) (b : Bool), fSo_takesSign (nI i) (iI ((e : Int) - 1)) σ = some (b01 b, σ1) ∧ RowsAt σ1 6 7 8 (stQ g (Q ++ [(i, e)])) ∧ (b = true ↔ satQ g (Q ++ [(i, e)])) ∧ offC [6, 7, 8, 9, 10, 11, 12, 13, 14, 15] σ σ1 := by
  have hlen := stQ_len g Q
  have body : ∀ (s : Int) (k : Nat), (s = 1 ∨ s = -1) → k ≤ 2 → srw g i e = sgR s g i k → ∃ (σ1 : sT) (b : Bool), (db1 (fSo_keep (nI i) (iI s) (nI k) σ) fun σ9 =>
      db2 (fSo_narrow (0 : Int32) σ9) fun r11 σ12 =>
      dck (okZ r11) <|
      some (r11, σ12)) = some (b01 b, σ1) ∧ RowsAt σ1 6 7 8 (stQ g (Q ++ [(i, e)])) ∧ (b = true ↔ satQ g (Q ++ [(i, e)])) ∧ offC [6, 7, 8, 9, 10, 11, 12, 13, 14, 15] σ σ1 := by
    intro s k hs hk hrow
    obtain ⟨σ2, f1, f2, f3⟩ := skeep_spec hB ok hR (by omega) hs hi hk
    rw [← hrow] at f2
    have e2 : RowsAt σ2 6 7 8 (stQ g (Q ++ [(i, e)])) := by rw [stQ_snoc]; exact f2
    have hl2 := stQ_len g (Q ++ [(i, e)])
    rw [List.length_append, List.length_singleton] at hl2
    obtain ⟨σ3, b, g1, g2, g3⟩ := narrow0 e2 (by omega) (by
      intro r hr
      rcases fold_mem _ _ hr with h | h
      · simp at h
      · obtain ⟨q, hq, rfl⟩ := List.mem_map.mp h
        rcases List.mem_append.mp hq with hq | hq
        · exact srw_B ok (hQ q hq) q.2
        · rw [List.mem_singleton.mp hq]; exact srw_B ok hi e)
    rw [db1_t f1, db2_t g1, dck_t (okZ_b b)]
    exact ⟨σ3, b, rfl, e2.of_off g2 (by decide) (by decide) (by decide), g3.trans (stQ_sem g _), (f3.mono (by simp)).trans (g2.mono (by simp))⟩
  unfold fSo_takesSign
  simp only [dlt_u]
  rcases (show e = 0 ∨ e = 1 ∨ e = 2 by omega) with rfl | rfl | rfl
  · rw [if_pos (by decide), if_neg (by decide)]
    exact body 1 0 (Or.inl rfl) (by omega) rfl
  · rw [if_pos (by decide), if_pos (by decide)]
    exact body 1 2 (Or.inl rfl) (by omega) rfl
  · rw [if_neg (by decide), if_neg (by decide)]
    have := body (-1) 0 (Or.inr rfl) (by omega) rfl
    rw [show iI (-1) = (-1 : Int32) from rfl, nI_0] at this
    exact this
theorem ret_spec {g : gT} {σ : sT} {Q : List (Nat × Nat)} {q : Nat × Nat} (hl : Q.length < 12) (hR : RowsAt σ 6 7 8 (stQ g (Q ++ [q]))) (hs : satQ g Q) : ∃ σ1, fSo_returnTo (nI (stQ g Q).1.length) σ = some σ1 ∧ RowsAt σ1 6 7 8 (stQ g Q) ∧ offC [6] σ σ1 := by
  have hb : (stQ g Q).2 = false := by
    obtain ⟨p, hp⟩ := (stQ_sem g Q).mpr hs
    exact hp.1
  have hlen := stQ_len g Q
  rw [stQ_snoc] at hR
  have hk := keep_len' (stQ g Q) (srw g q.1 q.2)
  have hk2 := keep_len (stQ g Q) (srw g q.1 q.2)
  refine ⟨siW (siW σ 6 2 (nI (stQ g Q).1.length)) 6 3 0, ?_, ⟨?_, ?_, fun i r hr => ?_⟩, (offC_si (by simp)).trans (offC_si (by simp))⟩
  · unfold fSo_returnTo
    rw [dlt_u, dlt_u, hR.1, if_neg (nI_nlt (show (stQ g Q).1.length ≤ (keepS (stQ g Q) (srw g q.1 q.2)).1.length from hk) (by omega))]
    by_cases z : (stQ g Q).1.length = 0
    · rw [z, if_neg (show ¬ (0 : Int32) < nI 0 by decide)]; rfl
    · rw [if_pos (show (0 : Int32) < nI (stQ g Q).1.length from nI_lt (a := 0) (by omega) (by omega))]
  · rw [siW_s, if_neg (by decide), siW_s, if_pos rfl]
  · rw [siW_s, if_pos rfl, hb]; rfl
  · have hi : i < (stQ g Q).1.length := (List.getElem?_eq_some_iff.mp hr).1
    have h' : (keepS (stQ g Q) (srw g q.1 q.2)).1[i]? = some r := by
      unfold keepS
      split
      · exact hr
      · dsimp only; rw [List.getElem?_append_left hi]; exact hr
    have := hR.2.2 i r h'
    unfold RowIs at *
    rw [siW_n (by decide), siW_n (by decide)]
    exact this
/-- is a row true by a sign -/
def truE (g : gT) (i e : Nat) : Bool := if kOf g i = 0 then decide (e = 0) else if kOf g i = 1 then decide (e ≤ 1) else decide (e = 1)
theorem istrue_spec {n i e : Nat} {g : gT} (ok : BkOk n g) (hi : i < n) (he : e < 3) {σ : sT} (hB : BkC σ n g) : fSg_isTrue (nI i) (iI ((e : Int) - 1)) σ = some (b01 (truE g i e)) := by
  have hk := kd_n ok hi
  unfold fSg_isTrue truE
  rw [show (3 : Int32) = nI 3 from rfl, db1_t (get_spec hB ok.1 hi (by omega)), hk.1]
  have hkk : kOf g i = (g i 3).toNat := rfl
  rw [hkk]
  have h2 := hk.2
  generalize (g i 3).toNat = k at *
  rcases k012 h2 with rfl | rfl | rfl <;> rcases (show e = 0 ∨ e = 1 ∨ e = 2 by omega) with rfl | rfl | rfl <;> rfl
/-- how many sign vectors go on from here -/
noncomputable def cntC (g : gT) (tb : Nat → Nat) : List Nat → List (Nat × Nat) → Nat → Nat
  | [], _, pl => tb pl
  | i :: R, Q, pl =>
    (if dP (satQ g (Q ++ [(i, 0)])) = true then cntC g tb R (Q ++ [(i, 0)]) (pl ||| (if truE g i 0 = true then 2 ^ Q.length else 0)) else 0) +
    (if dP (satQ g (Q ++ [(i, 1)])) = true then cntC g tb R (Q ++ [(i, 1)]) (pl ||| (if truE g i 1 = true then 2 ^ Q.length else 0)) else 0) +
    (if dP (satQ g (Q ++ [(i, 2)])) = true then cntC g tb R (Q ++ [(i, 2)]) (pl ||| (if truE g i 2 = true then 2 ^ Q.length else 0)) else 0)
theorem satQ_pre {g : gT} {Q : List (Nat × Nat)} {q : Nat × Nat} (h : satQ g (Q ++ [q])) : satQ g Q := by
  obtain ⟨p, hp⟩ := h
  exact ⟨p, fun r hr => hp r (List.mem_append_left _ hr)⟩
theorem or32 {pl s : Nat} (hp : pl < 2 ^ s) (hs : s < 5) (b : Bool) : pl ||| (if b = true then 2 ^ s else 0) < 2 ^ (s + 1) := by
  apply Nat.or_lt_two_pow
  · exact Nat.lt_of_lt_of_le hp (Nat.pow_le_pow_right (by omega) (by omega))
  · split
    · exact Nat.pow_lt_pow_right (by omega) (by omega)
    · exact Nat.two_pow_pos _
theorem nI_or' {a b : Nat} (ha : a < 4096) (hb : b < 4096) : nI a ||| nI b = nI (a ||| b) := by
  have h1 : a ||| b < 4096 := Nat.or_lt_two_pow (n := 12) ha hb
  apply Int32.toBitVec_inj.mp
  apply BitVec.eq_of_toNat_eq
  rw [Int32.toBitVec_or, BitVec.toNat_or, pk_tn (by omega), pk_tn (by omega), pk_tn (by omega)]
theorem shl_n {s : Nat} (hs : s ≤ 12) : (1 : Int32) <<< (nI s &&& 31) = nI (2 ^ s) := by
  have := pow_i hs
  rw [show (1 : Int32) = nI 1 from rfl, pk_shlN _ s (sh31 hs) (by omega), Nat.one_mul]
