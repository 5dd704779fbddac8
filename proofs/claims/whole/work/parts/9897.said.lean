/-! formulas: what is said and what it means; slots; a number -/
def stpR (v : Nat → Bool) (x : Int) (st : List Bool) : Option (List Bool) :=
  if 0 ≤ x then some (v x.toNat :: st) else
    match st with
    | [] => none
    | a :: st1 => if x = -33 then some ((!a) :: st1) else
      match st1 with
      | [] => none
      | b :: st2 => some ((if x = -38 then b && a else b || a) :: st2)
def evR (v : Nat → Bool) : List Int → List Bool → Option (List Bool)
  | [], st => some st
  | x :: R, st => (stpR v x st).bind (fun st1 => evR v R st1)
theorem evR_c {v : Nat → Bool} {x : Int} {R : List Int} {st st1 : List Bool} (h : stpR v x st = some st1) : evR v (x :: R) st = evR v R st1 := by
  rw [evR, h]; rfl
def Says (R : List Int) (F : (Nat → Bool) → Bool) : Prop := (∀ x ∈ R, -1000 < x ∧ x < 1000) ∧ ∀ (v : Nat → Bool) (R' : List Int) (st : List Bool), evR v (R ++ R') st = evR v R' (F v :: st)
theorem bnd_app {R R1 : List Int} (h : ∀ x ∈ R, -1000 < x ∧ x < 1000) (h1 : ∀ x ∈ R1, -1000 < x ∧ x < 1000) : ∀ x ∈ R ++ R1, -1000 < x ∧ x < 1000 := by
  intro x hx
  rcases List.mem_append.mp hx with hx | hx
  · exact h x hx
  · exact h1 x hx
theorem says_num (i : Nat) (hi : i < 1000) : Says [(i : Int)] (fun v => v i) := by
  refine ⟨fun x hx => by rw [List.mem_singleton.mp hx]; omega, ?_⟩
  intro v R' st
  have : stpR v (i : Int) st = some (v i :: st) := by unfold stpR; rw [if_pos (Int.natCast_nonneg i), Int.toNat_natCast]
  rw [List.singleton_append, evR_c this]
theorem says_not {R : List Int} {F : (Nat → Bool) → Bool} (h : Says R F) : Says (R ++ [-33]) (fun v => !F v) := by
  refine ⟨bnd_app h.1 (fun x hx => by rw [List.mem_singleton.mp hx]; omega), ?_⟩
  intro v R' st
  rw [List.append_assoc, h.2, List.singleton_append]
  exact evR_c (by unfold stpR; rw [if_neg (by decide)]; rfl)
theorem says_nots {R : List Int} {F : (Nat → Bool) → Bool} (h : Says R F) : ∀ m : Nat, Says (R ++ List.replicate m (-33)) (fun v => if m % 2 = 0 then F v else !F v)
  | 0 => by simpa using h
  | m + 1 => by
    have := says_not (says_nots h m)
    rw [List.replicate_succ', ← List.append_assoc]
    refine ⟨this.1, ?_⟩
    intro v R' st
    rw [this.2 v R' st]
    dsimp only
    by_cases z : m % 2 = 0
    · rw [if_pos z, if_neg (by omega)]
    · rw [if_neg z, if_pos (by omega), Bool.not_not]
theorem says_op {R R1 : List Int} {F F1 : (Nat → Bool) → Bool} (h : Says R F) (h1 : Says R1 F1) {s : Nat} (hs : s = 38 ∨ s = 124) : Says (R ++ R1 ++ [-(s : Int)]) (fun v => if s = 38 then F v && F1 v else F v || F1 v) := by
  refine ⟨bnd_app (bnd_app h.1 h1.1) (fun x hx => by rw [List.mem_singleton.mp hx]; omega), ?_⟩
  intro v R' st
  rw [List.append_assoc, List.append_assoc, h.2, h1.2, List.singleton_append]
  rcases hs with rfl | rfl
  · exact evR_c rfl
  · exact evR_c rfl
def numsR (R : List Int) : List Nat := (R.filter (fun x => decide (0 ≤ x))).map Int.toNat
theorem numsR_app (R R1 : List Int) : numsR (R ++ R1) = numsR R ++ numsR R1 := by
  unfold numsR; rw [List.filter_append, List.map_append]
theorem numsR_neg {s : Nat} (hs : 0 < s) : numsR [-(s : Int)] = [] := by
  unfold numsR
  rw [List.filter_cons_of_neg (by simp; omega)]
  rfl
theorem numsR_nots : ∀ m : Nat, numsR (List.replicate m (-33)) = []
  | 0 => rfl
  | m + 1 => by
    rw [List.replicate_succ, ← List.singleton_append, numsR_app, numsR_nots m]
    exact numsR_neg (s := 33) (by omega)
theorem numsR_num (i : Nat) : numsR [(i : Int)] = [i] := by
  unfold numsR
  rw [List.filter_cons_of_pos (by simp)]
  rfl
/-! slots and the set -/
def addS (L : List Nat) (i : Nat) : List Nat := if i ∈ L then L else if L.length < 5 then L ++ [i] else L
def addL (L : List Nat) (is : List Nat) : List Nat := is.foldl addS L
def orL (O : Nat) (is : List Nat) : Nat := is.foldl (fun o i => o ||| 2 ^ i) O
theorem addL_app (L is js : List Nat) : addL L (is ++ js) = addL (addL L is) js := by unfold addL; rw [List.foldl_append]
theorem orL_app (O : Nat) (is js : List Nat) : orL O (is ++ js) = orL (orL O is) js := by unfold orL; rw [List.foldl_append]
theorem addS_pre (L : List Nat) (i : Nat) : ∃ X, addS L i = L ++ X := by
  unfold addS
  split
  · exact ⟨[], (List.append_nil L).symm⟩
  · split
    · exact ⟨[i], rfl⟩
    · exact ⟨[], (List.append_nil L).symm⟩
theorem addL_pre : ∀ (is L : List Nat), ∃ X, addL L is = L ++ X
  | [], L => ⟨[], (List.append_nil L).symm⟩
  | i :: is, L => by
    obtain ⟨X, hX⟩ := addS_pre L i
    obtain ⟨Y, hY⟩ := addL_pre is (addS L i)
    exact ⟨X ++ Y, by show addL (addS L i) is = _; rw [hY, hX, List.append_assoc]⟩
/-- what holds of the slots -/
def slOk (n : Nat) (L : List Nat) : Prop := L.Nodup ∧ L.length ≤ 5 ∧ ∀ i ∈ L, i < n
theorem slOk_add {n : Nat} {L : List Nat} (h : slOk n L) {i : Nat} (hi : i < n) : slOk n (addS L i) := by
  unfold addS
  split
  · exact h
  · rename_i hm
    split
    · rename_i hl
      refine ⟨?_, by rw [List.length_append, List.length_singleton]; omega, fun j hj => ?_⟩
      · rw [List.nodup_append]
        refine ⟨h.1, by simp, fun a ha b hb => ?_⟩
        rw [List.mem_singleton.mp hb]
        exact fun e => hm (e ▸ ha)
      · rcases List.mem_append.mp hj with hj | hj
        · exact h.2.2 j hj
        · rw [List.mem_singleton.mp hj]; exact hi
    · exact h
theorem slOk_addL {n : Nat} : ∀ (is : List Nat) {L : List Nat}, slOk n L → (∀ i ∈ is, i < n) → slOk n (addL L is)
  | [], L, h, _ => h
  | i :: is, L, h, hi => slOk_addL is (slOk_add h (hi i List.mem_cons_self)) (fun j hj => hi j (List.mem_cons_of_mem _ hj))
theorem nod_len {L : List Nat} (h : L.Nodup) : ∀ {M : List Nat}, (∀ i ∈ L, i ∈ M) → L.length ≤ M.length := by
  induction L with
  | nil => intro M _; exact Nat.zero_le _
  | cons i L ih =>
    intro M hM
    have hi := hM i List.mem_cons_self
    have h' := List.nodup_cons.mp h
    have := ih h'.2 (M := M.erase i) (fun j hj => by
      have hne : j ≠ i := fun e => h'.1 (e ▸ hj)
      exact (List.mem_erase_of_ne hne).mpr (hM j (List.mem_cons_of_mem _ hj)))
    rw [List.length_erase_of_mem hi] at this
    have hpos := List.length_pos_of_mem hi
    rw [List.length_cons]; omega
/-- with room for all, all have slots -/
theorem addS_room {L M : List Nat} {i : Nat} (h : L.Nodup) (hM : M.length ≤ 5) (hL : ∀ j ∈ L, j ∈ M) (hi : i ∈ M) : i ∈ addS L i ∧ ∀ j ∈ addS L i, j ∈ M := by
  unfold addS
  split
  · rename_i z; exact ⟨z, hL⟩
  · rename_i z
    have h1 : (i :: L).Nodup := List.nodup_cons.mpr ⟨z, h⟩
    have := nod_len h1 (M := M) (fun j hj => by
      rcases List.mem_cons.mp hj with rfl | hj
      · exact hi
      · exact hL j hj)
    rw [List.length_cons] at this
    rw [if_pos (by omega)]
    refine ⟨by simp, fun j hj => ?_⟩
    rcases List.mem_append.mp hj with hj | hj
    · exact hL j hj
    · rw [List.mem_singleton.mp hj]; exact hi
theorem addL_room {n : Nat} {M : List Nat} (hM : M.length ≤ 5) : ∀ (is : List Nat) {L : List Nat}, slOk n L → (∀ i ∈ is, i < n) → (∀ j ∈ L, j ∈ M) → (∀ i ∈ is, i ∈ M) → (∀ i ∈ is, i ∈ addL L is) ∧ ∀ j ∈ addL L is, j ∈ M
  | [], L, _, _, hL, _ => ⟨fun i hi => (by cases hi), hL⟩
  | i :: is, L, h, hn, hL, hi => by
    obtain ⟨a, b⟩ := addS_room h.1 hM hL (hi i List.mem_cons_self)
    obtain ⟨c, d⟩ := addL_room hM is (slOk_add h (hn i List.mem_cons_self)) (fun j hj => hn j (List.mem_cons_of_mem _ hj)) b (fun j hj => hi j (List.mem_cons_of_mem _ hj))
    refine ⟨fun j hj => ?_, d⟩
    show j ∈ addL (addS L i) is
    rcases List.mem_cons.mp hj with rfl | hj
    · obtain ⟨X, hX⟩ := addL_pre is (addS L j)
      rw [hX]; exact List.mem_append_left _ a
    · exact c j hj
theorem orL_lt : ∀ (is : List Nat) {O : Nat}, O < 4096 → (∀ i ∈ is, i < 12) → orL O is < 4096
  | [], _, h, _ => h
  | i :: is, O, h, hi => orL_lt is (Nat.or_lt_two_pow (n := 12) h (Nat.pow_lt_pow_right (by omega) (hi i List.mem_cons_self))) (fun j hj => hi j (List.mem_cons_of_mem _ hj))
theorem orL_bit : ∀ (is : List Nat) {O j : Nat}, (orL O is).testBit j = true ↔ O.testBit j = true ∨ j ∈ is
  | [], O, j => by simp [orL]
  | i :: is, O, j => by
    show (orL (O ||| 2 ^ i) is).testBit j = true ↔ _
    rw [orL_bit is, Nat.testBit_or, Nat.testBit_two_pow, Bool.or_eq_true, decide_eq_true_iff, List.mem_cons]
    constructor
    · rintro ((h | h) | h)
      · exact Or.inl h
      · exact Or.inr (Or.inl h.symm)
      · exact Or.inr (Or.inr h)
    · rintro (h | h | h)
      · exact Or.inl (Or.inl h)
      · exact Or.inl (Or.inr h.symm)
      · exact Or.inr h
/-- the truth table fits -/
def tbOk (L : List Nat) (R : List Int) (F : (Nat → Bool) → Bool) (y : Int32) : Prop :=
  (∃ M : List Nat, M.length ≤ 5 ∧ (∀ i ∈ L, i ∈ M) ∧ ∀ i ∈ numsR R, i ∈ M) → ∀ (pl : Nat) (v : Nat → Bool), pl < 32 → (∀ j i, (addL L (numsR R))[j]? = some i → v i = pl.testBit j) → y.toBitVec.getLsbD pl = F v
theorem col_all : ∀ j : Fin 5, ∀ pl : Fin 32, (colI j.1).toBitVec.getLsbD pl.1 = pl.1.testBit j.1 := by decide +kernel
theorem first_at : ∀ {L : List Nat} {i : Nat}, i ∈ L → ∃ j : Nat, L[j]? = some i ∧ ∀ p : Nat, p < j → L[p]? ≠ some i
  | [], i, h => by cases h
  | x :: L, i, h => by
    by_cases z : x = i
    · exact ⟨0, by simp [z], fun p hp => by omega⟩
    · have hi : i ∈ L := by
        rcases List.mem_cons.mp h with h | h
        · exact absurd h.symm z
        · exact h
      obtain ⟨j, h1, h2⟩ := first_at hi
      refine ⟨j + 1, by simpa using h1, fun p hp => ?_⟩
      cases p with
      | zero => simp [z]
      | succ p => simpa using h2 p (by omega)
theorem slot_find {σ : sT} {L : List Nat} {i j : Nat} (hS : SgAt σ L) (hl : L.length ≤ 5) (hL : ∀ y ∈ L, y < 12) (hi : i < 12) (hj : L[j]? = some i) (hno : ∀ p, p < j → L[p]? ≠ some i) : ∀ (c p f : Nat), p + c = j → c < f → ∀ K : Unit → Option (Int32 × sT), fSg_slotOf_L2 (nI i) σ K f (nI p) = some (nI j, σ) := by
  have hjl := (List.getElem?_eq_some_iff.mp hj).1
  intro c
  induction c with
  | zero =>
    intro p f h1 h2 K
    obtain ⟨f', rfl⟩ : ∃ f', f = f' + 1 := ⟨f - 1, by omega⟩
    obtain rfl : p = j := by omega
    unfold fSg_slotOf_L2
    rw [hS.1, if_neg (nI_ge (by omega) (by omega)), dck_t (okI_n (by omega) (by omega)), nc (by omega), hS.2 p i hj, if_pos rfl]
  | succ c ih =>
    intro p f h1 h2 K
    obtain ⟨f', rfl⟩ : ∃ f', f = f' + 1 := ⟨f - 1, by omega⟩
    obtain ⟨y, hy⟩ := get_lt (show p < L.length by omega)
    have hyl := hL y (List.mem_of_getElem? hy)
    unfold fSg_slotOf_L2
    rw [hS.1, if_neg (nI_ge (by omega) (by omega)), dck_t (okI_n (by omega) (by omega)), nc (by omega), hS.2 p y hy, if_neg (fun z => by
      have := (nI_eq (by omega) (by omega)).mp z
      exact hno p (by omega) (this ▸ hy)), nI_1]
    exact ih (p + 1) f' (by omega) (by omega) K
/-- the slot of a row, and its column -/
theorem slot_x {n : Nat} (hn : n ≤ 12) {σ : sT} {L : List Nat} {i : Nat} (hS : SgAt σ L) (ok : slOk n L) (hi : i < n) :
    ∃ σ1 y, (db2 (fSg_slotOf (nI i) σ) fun r9 σ10 =>
    if r9 < 0 then
      some ((0 : Int32), σ10)
    else
      if (5 : Int32) ≤ r9 then
        some ((0 : Int32), σ10)
      else
        dck (okI r9 5) <|
        some (colI r9.toNatClampNeg, σ10)) = some (y, σ1) ∧ SgAt σ1 (addS L i) ∧ offC [24, 25] σ σ1 ∧ (i ∈ addS L i → ∀ (pl : Nat) (v : Nat → Bool), pl < 32 → (∀ j k, (addS L i)[j]? = some k → v k = pl.testBit j) → y.toBitVec.getLsbD pl = v i) := by
  have hL12 : ∀ y ∈ L, y < 12 := fun y hy => by have := ok.2.2 y hy; omega
  have col : ∀ (j : Nat) (pl : Nat) (v : Nat → Bool), j < 5 → pl < 32 → (addS L i)[j]? = some i → (∀ j k, (addS L i)[j]? = some k → v k = pl.testBit j) → (colI j).toBitVec.getLsbD pl = v i := by
    intro j pl v hj hpl hji hv
    rw [hv j i hji]
    exact col_all ⟨j, hj⟩ ⟨pl, hpl⟩
  by_cases hm : i ∈ L
  · obtain ⟨j, h1, h2⟩ := first_at hm
    have hjl := (List.getElem?_eq_some_iff.mp h1).1
    have hl5 := ok.2.1
    have ha : addS L i = L := by unfold addS; rw [if_pos hm]
    have e := slot_find hS hl5 hL12 (show i < 12 by omega) h1 h2 j 0 FU (by omega) (by unfold FU; omega)
    rw [nI_0] at e
    have e' : fSg_slotOf (nI i) σ = some (nI j, σ) := by
      unfold fSg_slotOf
      obtain ⟨A, hA⟩ : ∃ A, FU = A := ⟨_, rfl⟩
      rw [hA] at e ⊢
      rw [dlt_u, e]
    rw [ha] at col ⊢
    refine ⟨σ, colI j, ?_, hS, offC.refl _ _, fun _ pl v hpl hv => col j pl v (by omega) hpl h1 hv⟩
    rw [db2_t e', if_neg (nI_pos (by omega)), if_neg (show ¬ (5 : Int32) ≤ nI j from nI_ge (b := 5) (by omega) (by omega)), dck_t (okI_n (by omega) (by omega)), nc (by omega)]
  · by_cases hl : L.length < 5
    · obtain ⟨σ1, e1, e2, e3⟩ := slot_new hS hl hL12 (show i < 12 by omega) hm
      have ha : addS L i = L ++ [i] := by unfold addS; rw [if_neg hm, if_pos hl]
      rw [ha] at col ⊢
      refine ⟨σ1, colI L.length, ?_, e2, e3, fun _ pl v hpl hv => col L.length pl v hl hpl (by rw [List.getElem?_append_right (Nat.le_refl _), Nat.sub_self]; rfl) hv⟩
      rw [db2_t e1, if_neg (nI_pos (by omega)), if_neg (show ¬ (5 : Int32) ≤ nI L.length from nI_ge (b := 5) (by omega) (by omega)), dck_t (okI_n (by omega) (by omega)), nc (by omega)]
    · have hl5 := ok.2.1
      have ha : addS L i = L := by unfold addS; rw [if_neg hm, if_neg hl]
      have e := slot_loop hS hl5 hL12 (show i < 12 by omega) hm L.length 0 FU (by omega) (by unfold FU; omega)
      rw [nI_0] at e
      have e' : fSg_slotOf (nI i) σ = some ((-1 : Int32), σ) := by
        unfold fSg_slotOf
        obtain ⟨A, hA⟩ : ∃ A, FU = A := ⟨_, rfl⟩
        rw [hA] at e ⊢
        rw [dlt_u, e, hS.1, if_neg (show ¬ nI L.length < (5 : Int32) from nI_nlt (b := 5) (by omega) (by omega))]
      rw [ha]
      refine ⟨σ, 0, ?_, hS, offC.refl _ _, fun z => absurd z hm⟩
      rw [db2_t e', if_pos (by decide)]
