/-! reading a text: places, spaces, both sides -/
def ch (T : List Nat) (p : Nat) : Int := match T[p]? with | some c => (c : Int) | none => -1
def skp (T : List Nat) : Nat → Nat → Nat
  | 0, p => p
  | f + 1, p => if ch T p = 32 then skp T f (p + 1) else p
def sk (T : List Nat) (p : Nat) : Nat := skp T (T.length - p) p
theorem ch_lt {T : List Nat} {p : Nat} (h : ch T p ≠ -1) : p < T.length := by
  unfold ch at h
  cases e : T[p]? with
  | none => rw [e] at h; exact absurd rfl h
  | some c => exact (List.getElem?_eq_some_iff.mp e).1
theorem ch_out {T : List Nat} {p : Nat} (h : T.length ≤ p) : ch T p = -1 := by
  unfold ch; rw [List.getElem?_eq_none h]
theorem ch_in {T : List Nat} {p : Nat} (h : p < T.length) : ∃ c, T[p]? = some c ∧ ch T p = (c : Int) := by
  obtain ⟨c, hc⟩ := get_lt h
  exact ⟨c, hc, by unfold ch; rw [hc]⟩
theorem skp_ge {T : List Nat} : ∀ (f p : Nat), p ≤ skp T f p ∧ skp T f p ≤ p + f
  | 0, p => ⟨Nat.le_refl _, Nat.le_refl _⟩
  | f + 1, p => by
    rw [skp]
    split
    · have := skp_ge (T := T) f (p + 1); omega
    · omega
theorem sk_ge (T : List Nat) (p : Nat) : p ≤ sk T p := (skp_ge _ _).1
theorem sk_le {T : List Nat} {p : Nat} (h : p ≤ T.length) : sk T p ≤ T.length := by
  have := (skp_ge (T := T) (T.length - p) p).2
  unfold sk; omega
theorem sk_not {T : List Nat} {p : Nat} : ch T (sk T p) ≠ 32 := by
  have : ∀ (f p : Nat), T.length ≤ p + f → ch T (skp T f p) ≠ 32 := by
    intro f
    induction f with
    | zero => intro p h; rw [skp, ch_out (by omega)]; decide
    | succ f ih =>
      intro p h
      rw [skp]
      by_cases z : ch T p = 32
      · rw [if_pos z]; exact ih (p + 1) (by omega)
      · rw [if_neg z]; exact z
  exact this _ _ (by omega)
/-- the text's sizes -/
def TxOk (T : List Nat) : Prop := T.length ≤ 80 ∧ ∀ c ∈ T, c < 128
/-- the class's scanner at place p, fault q -/
def ScAt (σ : sT) (T : List Nat) (p : Nat) (q : Int) : Prop := TxC σ T ∧ σ.1 26 2 = nI p ∧ σ.1 26 3 = iI q
/-- the frame of the class's scanner -/
def scO (C : List Nat) (σ σ1 : sT) : Prop := (∀ q, q ∉ C → q ≠ 26 → σ1.1 q = σ.1 q ∧ σ1.2 q = σ.2 q) ∧ ∀ k, k ≠ 2 → k ≠ 3 → σ1.1 26 k = σ.1 26 k
theorem scO.refl (C : List Nat) (σ : sT) : scO C σ σ := ⟨fun _ _ _ => ⟨rfl, rfl⟩, fun _ _ _ => rfl⟩
theorem scO.trans {C : List Nat} {a b c : sT} (h : scO C a b) (k : scO C b c) : scO C a c :=
  ⟨fun q h1 h2 => ⟨(k.1 q h1 h2).1.trans (h.1 q h1 h2).1, (k.1 q h1 h2).2.trans (h.1 q h1 h2).2⟩, fun i h1 h2 => (k.2 i h1 h2).trans (h.2 i h1 h2)⟩
theorem scO.mono {C D : List Nat} {a b : sT} (h : scO C a b) (hs : ∀ q ∈ C, q ∈ D) : scO D a b := ⟨fun q h1 h2 => h.1 q (fun z => h1 (hs q z)) h2, h.2⟩
theorem scO_p {C : List Nat} (σ : sT) (x : Int32) : scO C σ (siW σ 26 2 x) :=
  ⟨fun q _ h2 => ⟨by funext k; exact siW_n h2 k, rfl⟩, fun k h1 _ => by rw [siW_s, if_neg h1]⟩
theorem scO_q {C : List Nat} (σ : sT) (x : Int32) : scO C σ (siW σ 26 3 x) :=
  ⟨fun q _ h2 => ⟨by funext k; exact siW_n h2 k, rfl⟩, fun k _ h1 => by rw [siW_s, if_neg h1]⟩
theorem TxC.sc {C : List Nat} {σ σ1 : sT} {T : List Nat} (h : TxC σ T) (o : scO C σ σ1) (hc : 27 ∉ C) : TxC σ1 T := by
  refine ⟨(o.2 1 (by decide) (by decide)).trans h.1, fun j c hj => ?_⟩
  rw [(o.1 27 hc (by decide)).1]; exact h.2 j c hj
theorem ScAt.p {σ : sT} {T : List Nat} {p p' : Nat} {q : Int} (h : ScAt σ T p q) : ScAt (siW σ 26 2 (nI p')) T p' q :=
  ⟨h.1.sc (C := []) (scO_p σ _) (by decide), by rw [siW_s, if_pos rfl], by rw [siW_s, if_neg (by decide)]; exact h.2.2⟩
theorem ScAt.q {σ : sT} {T : List Nat} {p : Nat} {q q' : Int} (h : ScAt σ T p q) : ScAt (siW σ 26 3 (iI q')) T p q' :=
  ⟨h.1.sc (C := []) (scO_q σ _) (by decide), by rw [siW_s, if_neg (by decide)]; exact h.2.1, by rw [siW_s, if_pos rfl]⟩
theorem shere_spec {σ : sT} {T : List Nat} {p : Nat} {q : Int} (hT : TxOk T) (h : ScAt σ T p q) (hp : p ≤ T.length) : fSc_here σ = some (iI (ch T p)) := by
  have hl := hT.1
  unfold fSc_here
  rw [h.1.1, h.2.1]
  by_cases z : p < T.length
  · obtain ⟨c, hc, hc'⟩ := ch_in z
    rw [if_neg (nI_ge (by omega) (by omega)), if_neg (show ¬ (80 : Int32) ≤ nI p from nI_ge (b := 80) (by omega) (by omega)), dck_t (okI_n (by omega) (by omega)), nc (by omega), h.1.2 p c hc, hc', nI_iI]
  · rw [if_pos (nI_le (by omega) (by omega)), ch_out (by omega)]; rfl
theorem speek_loop {T : List Nat} (hT : TxOk T) : ∀ (c p f : Nat) (σ : sT) (q : Int), p + c = T.length → c < f → ScAt σ T p q →
    ∃ σ1, (∀ K : sT → Option (Int32 × sT), fSc_peek_L0 K f σ = K σ1) ∧ ScAt σ1 T (skp T c p) q ∧ scO [] σ σ1 := by
  have hl := hT.1
  intro c
  induction c with
  | zero =>
    intro p f σ q h1 h2 h
    obtain ⟨f', rfl⟩ : ∃ f', f = f' + 1 := ⟨f - 1, by omega⟩
    refine ⟨σ, fun K => ?_, h, scO.refl _ _⟩
    unfold fSc_peek_L0
    rw [h.1.1, h.2.1, if_pos (nI_le (by omega) (by omega))]
  | succ c ih =>
    intro p f σ q h1 h2 h
    obtain ⟨f', rfl⟩ : ∃ f', f = f' + 1 := ⟨f - 1, by omega⟩
    obtain ⟨y, hy, hy'⟩ := ch_in (show p < T.length by omega)
    have hyl := hT.2 y (List.mem_of_getElem? hy)
    rw [skp]
    by_cases z : ch T p = 32
    · obtain ⟨σ1, e1, e2, e3⟩ := ih (p + 1) f' (siW σ 26 2 (nI (p + 1))) q (by omega) (by omega) h.p
      refine ⟨σ1, fun K => ?_, by rw [if_pos z]; exact e2, (scO_p σ _).trans e3⟩
      unfold fSc_peek_L0
      have hy32 : nI y = (32 : Int32) := by rw [show y = 32 by omega]; rfl
      rw [h.1.1, h.2.1, if_neg (nI_ge (by omega) (by omega)), if_neg (show ¬ (80 : Int32) ≤ nI p from nI_ge (b := 80) (by omega) (by omega)), dck_t (okI_n (by omega) (by omega)), nc (by omega), h.1.2 p y hy, if_pos hy32, nI_1, dlt_u]
      exact e1 K
    · refine ⟨σ, fun K => ?_, by rw [if_neg z]; exact h, scO.refl _ _⟩
      have hy32 : ¬ nI y = (32 : Int32) := fun w => by
        have := (nI_eq (b := 32) (by omega) (by omega)).mp w
        omega
      unfold fSc_peek_L0
      rw [h.1.1, h.2.1, if_neg (nI_ge (by omega) (by omega)), if_neg (show ¬ (80 : Int32) ≤ nI p from nI_ge (b := 80) (by omega) (by omega)), dck_t (okI_n (by omega) (by omega)), nc (by omega), h.1.2 p y hy, if_neg hy32]
theorem speek_spec {σ : sT} {T : List Nat} {p : Nat} {q : Int} (hT : TxOk T) (h : ScAt σ T p q) (hp : p ≤ T.length) :
    ∃ σ1, fSc_peek σ = some (iI (ch T (sk T p)), σ1) ∧ ScAt σ1 T (sk T p) q ∧ scO [] σ σ1 := by
  have hl := hT.1
  obtain ⟨σ1, e1, e2, e3⟩ := speek_loop hT (T.length - p) p FU σ q (by omega) (by unfold FU; omega) h
  have e2' : ScAt σ1 T (sk T p) q := e2
  refine ⟨σ1, ?_, e2', e3⟩
  have hq := sk_le hp
  obtain ⟨A, hA⟩ : ∃ A, FU = A := ⟨_, rfl⟩
  rw [hA] at e1
  unfold fSc_peek
  rw [hA, dlt_u, e1, e2'.1.1, e2'.2.1]
  generalize sk T p = r at *
  by_cases z : r < T.length
  · obtain ⟨c, hc, hc'⟩ := ch_in z
    rw [if_neg (nI_ge (by omega) (by omega)), if_neg (show ¬ (80 : Int32) ≤ nI r from nI_ge (b := 80) (by omega) (by omega)), dck_t (okI_n (by omega) (by omega)), nc (by omega), e2'.1.2 r c hc, hc', nI_iI]
  · rw [if_pos (nI_le (by omega) (by omega)), ch_out (by omega)]; rfl
/-- the model's scanner -/
def MsAt (τ : sT) (T : List Nat) (p : Nat) : Prop := TxM τ T ∧ τ.1 33 27 = nI p
theorem TxM.ms {C F : List Nat} {τ τ1 : sT} {T : List Nat} (h : TxM τ T) (o : mOff C F τ τ1) (h1 : 45 ∉ C) (h2 : 26 ∉ F) : TxM τ1 T := by
  refine ⟨(o.2 26 h2).1.trans h.1, fun j c hj => ?_⟩
  rw [(o.1 45 h1 (by decide)).1]; exact h.2 j c hj
theorem MsAt.p {τ : sT} {T : List Nat} {p p' : Nat} (h : MsAt τ T p) : MsAt (siW τ 33 27 (nI p')) T p' :=
  ⟨h.1.ms (C := []) (F := [27]) (mOff_si (by simp)) (by decide) (by decide), by rw [siW_s, if_pos rfl]⟩
theorem mhere_loop {T : List Nat} (hT : TxOk T) : ∀ (c p f : Nat) (τ : sT), p + c = T.length → c < f → MsAt τ T p →
    ∃ τ1, (∀ K : sT → Option (Int32 × sT), fMM_here_L0 K f τ = K τ1) ∧ MsAt τ1 T (skp T c p) ∧ mOff [] [27] τ τ1 := by
  have hl := hT.1
  intro c
  induction c with
  | zero =>
    intro p f τ h1 h2 h
    obtain ⟨f', rfl⟩ : ∃ f', f = f' + 1 := ⟨f - 1, by omega⟩
    refine ⟨τ, fun K => ?_, h, mOff.refl _ _ _⟩
    unfold fMM_here_L0
    rw [h.1.1, h.2, if_pos (nI_le (by omega) (by omega))]
  | succ c ih =>
    intro p f τ h1 h2 h
    obtain ⟨f', rfl⟩ : ∃ f', f = f' + 1 := ⟨f - 1, by omega⟩
    obtain ⟨y, hy, hy'⟩ := ch_in (show p < T.length by omega)
    have hyl := hT.2 y (List.mem_of_getElem? hy)
    rw [skp]
    by_cases z : ch T p = 32
    · obtain ⟨τ1, e1, e2, e3⟩ := ih (p + 1) f' (siW τ 33 27 (nI (p + 1))) (by omega) (by omega) h.p
      refine ⟨τ1, fun K => ?_, by rw [if_pos z]; exact e2, (mOff_si (by simp)).trans e3⟩
      unfold fMM_here_L0
      have hy32 : nI y = (32 : Int32) := by rw [show y = 32 by omega]; rfl
      rw [h.1.1, h.2, if_neg (nI_ge (by omega) (by omega)), dck_t (okI_n (by omega) (by omega)), nc (by omega), h.1.2 p y hy, if_pos hy32, nI_1, dlt_u]
      exact e1 K
    · refine ⟨τ, fun K => ?_, by rw [if_neg z]; exact h, mOff.refl _ _ _⟩
      have hy32 : ¬ nI y = (32 : Int32) := fun w => by
        have := (nI_eq (b := 32) (by omega) (by omega)).mp w
        omega
      unfold fMM_here_L0
      rw [h.1.1, h.2, if_neg (nI_ge (by omega) (by omega)), dck_t (okI_n (by omega) (by omega)), nc (by omega), h.1.2 p y hy, if_neg hy32]
theorem mhere_spec {τ : sT} {T : List Nat} {p : Nat} (hT : TxOk T) (h : MsAt τ T p) (hp : p ≤ T.length) :
    ∃ τ1, fMM_here τ = some (iI (ch T (sk T p)), τ1) ∧ MsAt τ1 T (sk T p) ∧ mOff [] [27] τ τ1 := by
  have hl := hT.1
  obtain ⟨τ1, e1, e2, e3⟩ := mhere_loop hT (T.length - p) p FU τ (by omega) (by unfold FU; omega) h
  have e2' : MsAt τ1 T (sk T p) := e2
  refine ⟨τ1, ?_, e2', e3⟩
  have hq := sk_le hp
  obtain ⟨A, hA⟩ : ∃ A, FU = A := ⟨_, rfl⟩
  rw [hA] at e1
  unfold fMM_here
  rw [hA, dlt_u, e1, e2'.1.1, e2'.2]
  generalize sk T p = r at *
  by_cases z : r < T.length
  · obtain ⟨c, hc, hc'⟩ := ch_in z
    rw [if_neg (nI_ge (by omega) (by omega)), dck_t (okI_n (by omega) (by omega)), nc (by omega), e2'.1.2 r c hc, hc', nI_iI]
  · rw [if_pos (nI_le (by omega) (by omega)), ch_out (by omega)]; rfl
