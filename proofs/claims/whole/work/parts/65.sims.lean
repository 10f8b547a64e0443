theorem za (x : Int32) : (0 : Int32) + x = x := by
  rw [Ieq]
  simp
def sumN (g : Nat → Nat) : Nat → Nat
  | 0 => 0
  | n + 1 => sumN g n + g n
theorem pcN_0 : ∀ n, pcN 0 n = 0
  | 0 => rfl
  | n + 1 => by rw [pcN, pcN_0 n]; simp
theorem sumN_le {g : Nat → Nat} {c : Nat} (h : ∀ i, g i ≤ c) : ∀ n, sumN g n ≤ n * c
  | 0 => Nat.zero_le _
  | n + 1 => by have := sumN_le h n; have := h n; rw [sumN, Nat.succ_mul]; omega
/-- a loop that adds up -/
theorem sum_loop {R : Type} {F : Nat → Int32 → Nat → Option R} (g : Nat → Nat) (N : Nat) (ex : Int32 → Option R) (hs : ∀ k x i, i < N → F (k + 1) x i = F k (x + nI (g i)) (i + 1)) (he : ∀ k x, F (k + 1) x N = ex x) {k : Nat} (hk : N < k) : F k 0 0 = ex (nI (sumN g N)) := by
  have h := loop_up (F := F) (fun x i => x + nI (g i)) ex N hs he N k 0 0 (by omega) hk
  rw [h]
  congr 1
  have := itr_invB (f := fun (x : Int32) i => x + nI (g i)) (fun i x => x = nI (sumN g i)) (N := N) (fun x i hi hx => by
    show x + nI (g i) = nI (sumN g i + g i)
    rw [hx, nI_add]) N 0 0 (by omega) rfl
  rw [Nat.zero_add] at this
  exact this
-- whoHad
theorem just8 {S M : St} (h : Rel S M) {t : Nat} (ht : t < 12) (x : Int32) : fX8_housesThatSeeJust (S.2.2 0) S x (nI t) = some (nI (setN (fun a => (hN M).testBit a && decide (nI (seenN M a t) = x)) 16), S) := by
  unfold fX8_housesThatSeeJust
  have e7 := h.2.1.2.2.2.1
  refine set_loop (F := fun k y i => fX8_housesThatSeeJust_5 (S.2.2 0) k S x (nI t) y (nI i)) _ 16 (by decide) (fun y => some (y, S)) ?_ ?_ (by decide)
  · intro k y i hi
    show bX8_housesThatSeeJust_5 _ _ _ _ _ _ _ = _
    unfold bX8_housesThatSeeJust_5
    rw [li 16, if_neg (by rw [nle (by decide) (by omega)]; omega)]
    simp only [hasHouse8, e7, h.hoN hi, bi_some, ite_b2i, view8 h hi ht, bV_e, nI_1]
    by_cases hb : (hN M).testBit i = true <;> by_cases hq : nI (seenN M i t) = x <;> simp [hb, hq]
  · intro k y
    show bX8_housesThatSeeJust_5 _ _ _ _ _ _ _ = _
    unfold bX8_housesThatSeeJust_5
    rw [if_pos (by decide)]
theorem whoHad12 {S M : St} (h : Rel S M) {t : Nat} (ht : t < 12) (x : Int32) : fX12_whoHad_25 100 M (nI t) x 0 0 = some (nI (setN (fun a => (hN M).testBit a && decide (nI (seenN M a t) = x)) 16), M) := by
  refine set_loop (F := fun k y i => fX12_whoHad_25 k M (nI t) x y (nI i)) _ 16 (by decide) (fun y => some (y, M)) ?_ ?_ (by decide)
  · intro k y i hi
    show bX12_whoHad_25 _ _ _ _ _ _ = _
    unfold bX12_whoHad_25
    rw [li 16, if_neg (by rw [nle (by decide) (by omega)]; omega)]
    simp only [isHouse12, h.hoN hi, bi_some, ite_b2i, seenBy12 h.1 hi (show t < 2 ^ 31 by omega), bV_e, nI_1]
    by_cases hb : (hN M).testBit i = true <;> by_cases hq : nI (seenN M i t) = x <;> simp [hb, hq]
  · intro k y
    show bX12_whoHad_25 _ _ _ _ _ _ = _
    unfold bX12_whoHad_25
    rw [if_pos (by decide)]
/-- the class's two tests against the model's one -/
theorem rng_cls {α : Type} (x b : Int32) (A B : α) : (if x < 0 then A else (if x ≤ b then B else A)) = if inR x 0 b.toInt = true then B else A := by
  simp only [Ilt, Ile, i0]
  by_cases h1 : x.toInt < 0
  · have : ¬ inR x 0 b.toInt = true := by rw [inR_t]; omega
    simp [h1, this]
  · by_cases h2 : x.toInt ≤ b.toInt
    · have : inR x 0 b.toInt = true := by rw [inR_t]; omega
      simp [h1, h2, this]
    · have : ¬ inR x 0 b.toInt = true := by rw [inR_t]; omega
      simp [h1, h2, this]
theorem sim_whoHad (S M : St) (x y : Int32) (h : Rel S M) : ∃ v S1 M1, fX11_whoHad S x y = some (v, S1) ∧ fX12_whoHad M x y = some (v, M1) ∧ Rel S1 M1 := by
  unfold fX11_whoHad fX12_whoHad
  simp only [isTurn11, isTurn12, in12, bi_some, ite_b2i, rng_cls, h.2.1.1, if_true, i0]
  by_cases hx : inR x 0 11 = true
  · obtain ⟨t, ht, rfl⟩ := tu_nat hx
    by_cases hy : inR y 0 (65535 : Int32).toInt = true
    · simp only [hx, hy, if_true, just8 h ht, whoHad12 h ht, bi_some]
      exact ⟨_, _, _, rfl, rfl, h⟩
    · simp only [hx, hy, if_true]
      exact ⟨_, _, _, rfl, rfl, h⟩
  · simp only [hx]
    exact ⟨_, _, _, rfl, rfl, h⟩
-- clearest
def twN (M : St) (t : Nat) : Nat := sumN (fun a => pcN (if (hN M).testBit a = true then seenN M a t else 0) 16) 16
theorem twosIn8 {S M : St} (h : Rel S M) {t : Nat} (ht : t < 12) : fX8_twosIn (S.2.2 0) S (nI t) = some (nI (twN M t), S) := by
  unfold fX8_twosIn
  refine sum_loop (F := fun k y i => fX8_twosIn_4 (S.2.2 0) k S (nI t) y (nI i)) _ 16 (fun y => some (y, S)) ?_ ?_ (by decide)
  · intro k y i hi
    show bX8_twosIn_4 _ _ _ _ _ _ = _
    unfold bX8_twosIn_4
    rw [li 16, if_neg (by rw [nle (by decide) (by omega)]; omega)]
    have := seenN_lt M i t
    simp only [view8 h hi ht, bi_some, bitCount6 S (show (if (hN M).testBit i = true then seenN M i t else 0) < 65536 by split <;> omega), bV_e, nI_1]
  · intro k y
    show bX8_twosIn_4 _ _ _ _ _ _ = _
    unfold bX8_twosIn_4
    rw [if_pos (by decide)]
theorem twosAt12 {S M : St} (h : Rel S M) {t : Nat} (ht : t < 12) : fX12_twosAt M (nI t) = some (nI (twN M t), M) := by
  unfold fX12_twosAt
  refine sum_loop (F := fun k y i => fX12_twosAt_4 k M (nI t) y (nI i)) _ 16 (fun y => some (y, M)) ?_ ?_ (by decide)
  · intro k y i hi
    show bX12_twosAt_4 _ _ _ _ _ = _
    unfold bX12_twosAt_4
    rw [li 16, if_neg (by rw [nle (by decide) (by omega)]; omega)]
    simp only [isHouse12, h.hoN hi, bi_some, ite_b2i, seenBy12 h.1 hi (show t < 2 ^ 31 by omega), bits12 M (seenN_lt M i t), bV_e, nI_1]
    by_cases hb : (hN M).testBit i = true
    · simp [hb]
    · simp only [hb]
      rw [if_neg (by decide), if_neg (by decide), pcN_0, nI_0]
      simp
  · intro k y
    show bX12_twosAt_4 _ _ _ _ _ = _
    unfold bX12_twosAt_4
    rw [if_pos (by decide)]
theorem twN_lt (M : St) (t : Nat) : twN M t < 1000 := by
  have := sumN_le (g := fun a => pcN (if (hN M).testBit a = true then seenN M a t else 0) 16) (c := 16) (fun i => pcN_le _ 16) 16
  unfold twN
  omega
theorem clear_loop {S M : St} (h : Rel S M) (x : Int32) : ∀ n i b k k2, 1 ≤ i → i + n = 12 → b < 12 → n < k → n < k2 → ∃ b', b' < 12 ∧ fX8_clearestTurn_6 (S.2.2 0) k S (nI b) (nI (twN M b)) (nI i) = some (nI b', S) ∧ fX12_clearest_15 k2 M x (nI b) (nI i) = (if x = 0 then some (nI b', M) else some (nI (twN M b'), M)) := by
  intro n
  induction n with
  | zero =>
    intro i b k k2 h0 h1 hb h2 h3
    obtain ⟨k, rfl⟩ : ∃ k', k = k' + 1 := ⟨k - 1, by omega⟩
    obtain ⟨k2, rfl⟩ : ∃ k', k2 = k' + 1 := ⟨k2 - 1, by omega⟩
    have : i = 12 := by omega
    subst this
    refine ⟨b, hb, ?_, ?_⟩
    · show bX8_clearestTurn_6 _ _ _ _ _ _ = _
      unfold bX8_clearestTurn_6
      rw [if_pos (by decide)]
    · show bX12_clearest_15 _ _ _ _ _ = _
      unfold bX12_clearest_15
      rw [if_pos (by decide)]
      simp only [twosAt12 h hb, bi_some]
  | succ n ih =>
    intro i b k k2 h0 h1 hb h2 h3
    obtain ⟨k, rfl⟩ : ∃ k', k = k' + 1 := ⟨k - 1, by omega⟩
    obtain ⟨k2, rfl⟩ : ∃ k', k2 = k' + 1 := ⟨k2 - 1, by omega⟩
    have hi : i < 12 := by omega
    have e1 : fX8_clearestTurn_6 (S.2.2 0) (k + 1) S (nI b) (nI (twN M b)) (nI i) = (if nI (twN M i) ≤ nI (twN M b) then fX8_clearestTurn_6 (S.2.2 0) k S (nI b) (nI (twN M b)) (nI (i + 1)) else fX8_clearestTurn_6 (S.2.2 0) k S (nI i) (nI (twN M i)) (nI (i + 1))) := by
      show bX8_clearestTurn_6 _ _ _ _ _ _ = _
      unfold bX8_clearestTurn_6
      rw [li 12, if_neg (by rw [nle (by decide) (by omega)]; omega)]
      simp only [twosIn8 h hi, bi_some, bV_e, nI_1]
    have e2 : fX12_clearest_15 (k2 + 1) M x (nI b) (nI i) = (if nI (twN M i) ≤ nI (twN M b) then fX12_clearest_15 k2 M x (nI b) (nI (i + 1)) else fX12_clearest_15 k2 M x (nI i) (nI (i + 1))) := by
      show bX12_clearest_15 _ _ _ _ _ = _
      unfold bX12_clearest_15
      rw [li 12, if_neg (by rw [nle (by decide) (by omega)]; omega)]
      simp only [twosAt12 h hi, twosAt12 h hb, bi_some, bV_e, nI_1]
    rw [e1, e2]
    by_cases hc : nI (twN M i) ≤ nI (twN M b)
    · simp only [hc, if_true]
      exact ih (i + 1) b k k2 (by omega) (by omega) hb (by omega) (by omega)
    · simp only [hc, if_false]
      exact ih (i + 1) i k k2 (by omega) (by omega) hi (by omega) (by omega)
theorem sim_clearest (S M : St) (x : Int32) (h : Rel S M) : ∃ v S1 M1, fX11_clearest S x = some (v, S1) ∧ fX12_clearest M x = some (v, M1) ∧ Rel S1 M1 := by
  unfold fX11_clearest fX12_clearest
  simp only [in12, bi_some, ite_b2i, rng_cls, h.2.1.1, if_true, i0]
  by_cases hx : inR x 0 (1 : Int32).toInt = true
  · obtain ⟨b', hb', g1, g3⟩ := clear_loop h x 11 1 0 99 100 (by decide) (by decide) (by decide) (by decide) (by decide)
    have g0 : fX8_clearestTurn (S.2.2 0) S = some (nI b', S) := by
      unfold fX8_clearestTurn
      show bX8_clearestTurn_6 _ _ _ _ _ _ = _
      unfold bX8_clearestTurn_6
      rw [if_neg (by decide)]
      have z := twosIn8 h (t := 0) (by decide)
      have z : fX8_twosIn (S.2.2 0) S 0 = some (nI (twN M 0), S) := z
      simp only [z, bi_some, bV_e]
      by_cases hc : nI (twN M 0) ≤ (0 : Int32)
      · have t0 : twN M 0 = 0 := by
          rw [li 0, nle (by have := twN_lt M 0; omega) (by decide)] at hc
          omega
        simp only [hc, if_true]
        rw [t0] at g1
        exact g1
      · simp only [hc, if_false]
        exact g1
    have g3 : fX12_clearest_15 100 M x 0 1 = (if x = 0 then some (nI b', M) else some (nI (twN M b'), M)) := g3
    simp only [hx, if_true, g0, g3, bi_some, twosIn8 h hb', h.2.1.1]
    by_cases h0 : x = 0
    · simp only [h0, if_true]
      exact ⟨_, _, _, rfl, rfl, h⟩
    · simp only [h0, if_false]
      exact ⟨_, _, _, rfl, rfl, h⟩
  · simp only [hx]
    exact ⟨_, _, _, rfl, rfl, h⟩
