-- counting
def cnt (q : Nat → Bool) : Nat → Nat
  | 0 => 0
  | n + 1 => cnt q n + (if q n then 1 else 0)
theorem cnt_cg {q r : Nat → Bool} : ∀ {n}, (∀ i, i < n → q i = r i) → cnt q n = cnt r n
  | 0, _ => rfl
  | n + 1, h => by rw [cnt, cnt, cnt_cg (fun i hi => h i (by omega)), h n (by omega)]
theorem pcN_cnt (a : Nat) : ∀ m, pcN a m = cnt (fun i => a.testBit i) m
  | 0 => rfl
  | m + 1 => by
    rw [pcN, cnt, pcN_cnt a m, tb_div]
    have : a / 2 ^ m % 2 < 2 := Nat.mod_lt _ (by decide)
    by_cases h : a / 2 ^ m % 2 = 1
    · simp [h]
    · have : a / 2 ^ m % 2 = 0 := by omega
      simp [this]
theorem cnt_cut (q : Nat → Bool) (n : Nat) : ∀ m, cnt (fun i => decide (i < n) && q i) (n + m) = cnt q n
  | 0 => cnt_cg fun i hi => by
      have : i < n := by omega
      simp [this]
  | m + 1 => by
    rw [show n + (m + 1) = n + m + 1 by omega, cnt, cnt_cut q n m]
    have : ¬ n + m < n := by omega
    simp [this]
theorem pcN_setN (q : Nat → Bool) {n : Nat} (h : n ≤ 16) : pcN (setN q n) 16 = cnt q n := by
  rw [pcN_cnt, cnt_cg (fun i _ => setN_tb q n i)]
  have := cnt_cut q n (16 - n)
  rw [show n + (16 - n) = 16 by omega] at this
  exact this
theorem cnt_le (q : Nat → Bool) : ∀ n, cnt q n ≤ n
  | 0 => Nat.le_refl _
  | n + 1 => by have := cnt_le q n; rw [cnt]; split <;> omega
theorem sumN_cnt (q : Nat → Bool) : ∀ n, sumN (fun i => if q i then 1 else 0) n = cnt q n
  | 0 => rfl
  | n + 1 => by rw [sumN, cnt, sumN_cnt q n]
-- the rota
def roB (M : St) (x : Int32) (j : Nat) : Bool := decide (M.1 59 j = x)
theorem turnsOf4 {S M : St} (h : Rel S M) (x : Int32) : fX4_turnsOf S x = some (nI (setN (roB M x) 12), S) := by
  unfold fX4_turnsOf
  refine set_loop (F := fun k y i => fX4_turnsOf_4 k S x y (nI i)) _ 12 (by decide) (fun y => some (y, S)) ?_ ?_ (by decide)
  · intro k y i hi
    show bX4_turnsOf_4 _ _ _ _ _ = _
    unfold bX4_turnsOf_4
    rw [li 12, if_neg (by rw [nle (by decide) (by omega)]; omega)]
    simp only [inbT hi (show 12 < 2 ^ 31 by decide), if_true, nI_clamp (show i < 2 ^ 31 by omega), (h.2.2.1 i hi).1, bV_e, nI_1, roB]
    by_cases hq : M.1 59 i = x <;> simp [hq]
  · intro k y
    show bX4_turnsOf_4 _ _ _ _ _ = _
    unfold bX4_turnsOf_4
    rw [if_pos (by decide)]
theorem turnsOf12 (M : St) (x : Int32) : fX12_turnsOf M x = some (nI (cnt (roB M x) 12), M) := by
  rw [← sumN_cnt]
  unfold fX12_turnsOf
  refine sum_loop (F := fun k y i => fX12_turnsOf_4 k M x y (nI i)) _ 12 (fun y => some (y, M)) ?_ ?_ (by decide)
  · intro k y i hi
    show bX12_turnsOf_4 _ _ _ _ _ = _
    unfold bX12_turnsOf_4
    rw [li 12, if_neg (by rw [nle (by decide) (by omega)]; omega)]
    simp only [inbT hi (show 12 < 2 ^ 31 by decide), if_true, nI_clamp (show i < 2 ^ 31 by omega), bV_e, nI_1, roB]
    by_cases hq : M.1 59 i = x
    · simp only [hq, if_true, decide_true]
      rfl
    · simp only [hq, if_false, decide_false]
      rw [if_neg (by decide), nI_0]
      simp
  · intro k y
    show bX12_turnsOf_4 _ _ _ _ _ = _
    unfold bX12_turnsOf_4
    rw [if_pos (by decide)]
theorem taken4 {S M : St} (h : Rel S M) : fX4_takenTurns S = some (nI (cnt (fun j => !roB M (-1) j) 12), S) := by
  rw [← sumN_cnt]
  unfold fX4_takenTurns
  refine sum_loop (F := fun k y i => fX4_takenTurns_4 k S y (nI i)) _ 12 (fun y => some (y, S)) ?_ ?_ (by decide)
  · intro k y i hi
    show bX4_takenTurns_4 _ _ _ _ = _
    unfold bX4_takenTurns_4
    rw [li 12, if_neg (by rw [nle (by decide) (by omega)]; omega)]
    simp only [inbT hi (show 12 < 2 ^ 31 by decide), if_true, nI_clamp (show i < 2 ^ 31 by omega), (h.2.2.1 i hi).1, bV_e, nI_1, roB]
    by_cases hq : M.1 59 i = -1
    · simp only [hq, if_true, decide_true]
      rw [if_neg (by decide), nI_0]
      simp
    · simp only [hq, if_false, decide_false]
      rfl
  · intro k y
    show bX4_takenTurns_4 _ _ _ _ = _
    unfold bX4_takenTurns_4
    rw [if_pos (by decide)]
theorem cnt_not (q : Nat → Bool) : ∀ n, cnt q n + cnt (fun i => !q i) n = n
  | 0 => rfl
  | n + 1 => by
    have := cnt_not q n
    rw [cnt, cnt]
    cases q n <;> simp <;> omega
-- the longest row
def lrC (a : Nat) : Nat → Nat → Nat → Nat → Nat
  | 0, _, _, l => l
  | n + 1, i, r, l => lrC a n (i + 1) (if (a / 2 ^ (i % 12) % 2) = 1 then r + 1 else 0) (max l (if (a / 2 ^ (i % 12) % 2) = 1 then r + 1 else 0))
def lrM (a : Nat) : Nat → Nat → Nat → Nat → Nat
  | 0, _, _, l => l
  | n + 1, i, r, l => lrM a n (i + 1) (if (a / 2 ^ (i % 12) % 2) = 1 then min 12 (r + 1) else 0) (max l (if (a / 2 ^ (i % 12) % 2) = 1 then min 12 (r + 1) else 0))
def stR (a i r : Nat) : Nat := match Nat.mod (Nat.div a (Nat.pow 2 (Nat.mod i 12))) 2 with
  | 0 => 0
  | _ => Nat.succ r
def mxR (a b : Nat) : Nat := match Nat.ble a b with
  | true => b
  | false => a
def mnR (a b : Nat) : Nat := match Nat.ble a b with
  | true => a
  | false => b
def lrCR (a : Nat) : Nat → Nat → Nat → Nat → Nat
  | 0, _, _, l => l
  | n + 1, i, r, l => lrCR a n (Nat.succ i) (stR a i r) (mxR l (stR a i r))
def lrMR (a : Nat) : Nat → Nat → Nat → Nat → Nat
  | 0, _, _, l => l
  | n + 1, i, r, l => lrMR a n (Nat.succ i) (mnR 12 (stR a i r)) (mxR l (mnR 12 (stR a i r)))
theorem mx_eq (a b : Nat) : mxR a b = max a b := by
  unfold mxR
  cases h : Nat.ble a b with
  | true => have := Nat.le_of_ble_eq_true h; show b = max a b; omega
  | false => have : ¬ a ≤ b := fun z => by rw [Nat.ble_eq_true_of_le z] at h; cases h
             show a = max a b; omega
theorem mn_eq (a b : Nat) : mnR a b = min a b := by
  unfold mnR
  cases h : Nat.ble a b with
  | true => have := Nat.le_of_ble_eq_true h; show a = min a b; omega
  | false => have : ¬ a ≤ b := fun z => by rw [Nat.ble_eq_true_of_le z] at h; cases h
             show b = min a b; omega
theorem st_eq (a i r : Nat) : stR a i r = if (a / 2 ^ (i % 12) % 2) = 1 then r + 1 else 0 := by
  unfold stR
  show (match a / 2 ^ (i % 12) % 2 with | 0 => 0 | _ => Nat.succ r) = _
  have : a / 2 ^ (i % 12) % 2 < 2 := Nat.mod_lt _ (by decide)
  generalize a / 2 ^ (i % 12) % 2 = z at *
  match z, this with
  | 0, _ => rfl
  | 1, _ => rfl
theorem lrC_eq (a : Nat) : ∀ n i r l, lrCR a n i r l = lrC a n i r l
  | 0, _, _, _ => rfl
  | n + 1, i, r, l => by rw [lrCR, lrC, lrC_eq a n, st_eq, mx_eq]
theorem lrM_eq (a : Nat) : ∀ n i r l, lrMR a n i r l = lrM a n i r l
  | 0, _, _, _ => rfl
  | n + 1, i, r, l => by
    rw [lrMR, lrM, lrM_eq a n, st_eq, mx_eq, mn_eq]
    by_cases h : a / 2 ^ (i % 12) % 2 = 1 <;> simp [h]
def lrOk (a : Nat) : Bool := match Nat.beq a 4095 with
  | true => Nat.beq (lrMR a 24 0 0 0) 12
  | false => Nat.beq (lrCR a 24 0 0 0) (lrMR a 24 0 0 0)
def chL : Nat → Nat → Bool
  | 0, b => lrOk b
  | k + 1, b => match chL k b with
    | true => chL k (Nat.add b (Nat.pow 2 k))
    | false => false
theorem chL_spec : ∀ {k b : Nat}, chL k b = true → ∀ a, b ≤ a → a < b + 2 ^ k → lrOk a = true
  | 0, b, h, a, h1, h2 => by
    have : a = b := by simp at h2; omega
    subst this
    exact h
  | k + 1, b, h, a, h1, h2 => by
    rw [chL] at h
    rw [Nat.pow_succ] at h2
    cases hq : chL k b with
    | false => rw [hq] at h; cases h
    | true =>
      rw [hq] at h
      have h : chL k (b + 2 ^ k) = true := h
      rcases Nat.lt_or_ge a (b + 2 ^ k) with q | q
      · exact chL_spec hq a h1 q
      · exact chL_spec h a q (by omega)
theorem chL_0 : chL 9 0 = true := by decide +kernel
theorem chL_1 : chL 9 512 = true := by decide +kernel
theorem chL_2 : chL 9 1024 = true := by decide +kernel
theorem chL_3 : chL 9 1536 = true := by decide +kernel
theorem chL_4 : chL 9 2048 = true := by decide +kernel
theorem chL_5 : chL 9 2560 = true := by decide +kernel
theorem chL_6 : chL 9 3072 = true := by decide +kernel
theorem chL_7 : chL 9 3584 = true := by decide +kernel
theorem lr_all {a : Nat} (ha : a < 4096) : lrOk a = true := by
  rcases Nat.lt_or_ge a 512 with h0 | h0
  · exact chL_spec chL_0 a (by omega) (by omega)
  rcases Nat.lt_or_ge a 1024 with h1 | h1
  · exact chL_spec chL_1 a (by omega) (by omega)
  rcases Nat.lt_or_ge a 1536 with h2 | h2
  · exact chL_spec chL_2 a (by omega) (by omega)
  rcases Nat.lt_or_ge a 2048 with h3 | h3
  · exact chL_spec chL_3 a (by omega) (by omega)
  rcases Nat.lt_or_ge a 2560 with h4 | h4
  · exact chL_spec chL_4 a (by omega) (by omega)
  rcases Nat.lt_or_ge a 3072 with h5 | h5
  · exact chL_spec chL_5 a (by omega) (by omega)
  rcases Nat.lt_or_ge a 3584 with h6 | h6
  · exact chL_spec chL_6 a (by omega) (by omega)
  exact chL_spec chL_7 a (by omega) (by omega)
theorem lr_ne {a : Nat} (ha : a < 4096) (h : a ≠ 4095) : lrC a 24 0 0 0 = lrM a 24 0 0 0 := by
  have h1 := lr_all ha
  unfold lrOk at h1
  have h2 : Nat.beq a 4095 = false := by
    cases hq : Nat.beq a 4095 with
    | false => rfl
    | true => exact absurd (Nat.eq_of_beq_eq_true hq) h
  rw [h2] at h1
  rw [← lrC_eq, ← lrM_eq]
  exact Nat.eq_of_beq_eq_true h1
theorem lr_12 : lrM 4095 24 0 0 0 = 12 := by
  have h1 := lr_all (a := 4095) (by decide)
  rw [← lrM_eq]
  exact Nat.eq_of_beq_eq_true h1
theorem lr_bit {a i : Nat} (ha : a < 4096) (hi : i < 24) : ((nI a >>> ((nI i - nI i / 12 * 12) &&& 31)) &&& (1 : Int32) = (1 : Int32)) = ((a / 2 ^ (i % 12) % 2) = 1) := by
  rw [li 12, rem_nI (by omega) (by decide) (by decide), shr_nI (by omega) (by omega), li 1, and_nI, Nat.and_one_is_mod]
  exact neq (by omega) (by decide)
theorem run11 (S : St) {a : Nat} (ha : a < 4096) : ∀ n i r l k, i + n = 24 → n < k → r ≤ i → l ≤ i → fX11_longestRun_16 k S (nI a) (nI r) (nI l) (nI i) = some (nI (lrC a n i r l), S) := by
  intro n
  induction n with
  | zero =>
    intro i r l k h1 h2 _ _
    obtain ⟨k, rfl⟩ : ∃ k', k = k' + 1 := ⟨k - 1, by omega⟩
    have : i = 24 := by omega
    subst this
    show bX11_longestRun_16 _ _ _ _ _ _ = _
    unfold bX11_longestRun_16
    rw [if_pos (by decide)]
    rfl
  | succ n ih =>
    intro i r l k h1 h2 hr hl
    obtain ⟨k, rfl⟩ : ∃ k', k = k' + 1 := ⟨k - 1, by omega⟩
    show bX11_longestRun_16 _ _ _ _ _ _ = _
    unfold bX11_longestRun_16 fX11_longestRun_41
    rw [li 24, if_neg (by rw [nle (by decide) (by omega)]; omega)]
    simp only [lr_bit ha (show i < 24 by omega), bV_e, nI_1]
    rw [lrC]
    by_cases hb : a / 2 ^ (i % 12) % 2 = 1
    · simp only [hb, if_true, nlt (show l < 2 ^ 31 by omega) (show r + 1 < 2 ^ 31 by omega)]
      have e : (if l < r + 1 then nI (r + 1) else nI l) = nI (max l (r + 1)) := by
        split
        · congr 1; omega
        · congr 1; omega
      rw [e]
      exact ih (i + 1) (r + 1) (max l (r + 1)) k (by omega) (by omega) (by omega) (by omega)
    · simp only [hb, if_false]
      have e : (if nI l < (0 : Int32) then (0 : Int32) else nI l) = nI (max l 0) := by
        rw [if_neg (nI_pos (by omega))]
        congr 1; omega
      rw [e]
      exact ih (i + 1) 0 (max l 0) k (by omega) (by omega) (by omega) (by omega)
theorem max12 (S : St) (x y : Int32) : fX12_max S x y = some (if x ≤ y then y else x, S) := by
  unfold fX12_max
  by_cases h : x ≤ y <;> simp [h]
theorem min12 (S : St) (x y : Int32) : fX12_min S x y = some (if y ≤ x then y else x, S) := by
  unfold fX12_min
  by_cases h : y ≤ x <;> simp [h]
theorem longestRun11 (S : St) {a : Nat} (ha : a < 4096) : fX11_longestRun S (nI a) = some (nI (lrM a 24 0 0 0), S) := by
  unfold fX11_longestRun
  simp only [li 4095, neq (show a < 2 ^ 31 by omega) (show 4095 < 2 ^ 31 by decide)]
  by_cases h : a = 4095
  · subst h
    rw [if_pos rfl, lr_12]
    rfl
  · rw [if_neg h, ← lr_ne ha h]
    exact run11 S ha 24 0 0 0 100 rfl (by decide) (by decide) (by decide)
theorem row12 (S : St) {a : Nat} (ha : a < 4096) : ∀ n i r l k, i + n = 24 → n < k → r ≤ 12 → l ≤ 12 → fX12_longestRow_6 k S (nI a) (nI l) (nI r) (nI i) = some (nI (lrM a n i r l), S) := by
  intro n
  induction n with
  | zero =>
    intro i r l k h1 h2 _ _
    obtain ⟨k, rfl⟩ : ∃ k', k = k' + 1 := ⟨k - 1, by omega⟩
    have : i = 24 := by omega
    subst this
    show bX12_longestRow_6 _ _ _ _ _ _ = _
    unfold bX12_longestRow_6
    rw [if_pos (by decide)]
    rfl
  | succ n ih =>
    intro i r l k h1 h2 hr hl
    obtain ⟨k, rfl⟩ : ∃ k', k = k' + 1 := ⟨k - 1, by omega⟩
    show bX12_longestRow_6 _ _ _ _ _ _ = _
    unfold bX12_longestRow_6 fX12_longestRow_35
    have hm : nI i - nI i / 12 * 12 = nI (i % 12) := by rw [li 12]; exact rem_nI (by omega) (by decide) (by decide)
    have hb0 : hsB (nI a) (nI (i % 12)) = decide (a / 2 ^ (i % 12) % 2 = 1) := by rw [hsB_nI (by omega) (by omega), tb_div]
    rw [li 24, if_neg (by rw [nle (by decide) (by omega)]; omega)]
    simp only [hm, has12, hb0, bi_some, ite_b2i, min12, max12, bV_e, nI_1]
    rw [lrM]
    by_cases hb : a / 2 ^ (i % 12) % 2 = 1
    · simp only [hb, decide_true, if_true]
      have e1 : (if nI (r + 1) ≤ (12 : Int32) then nI (r + 1) else (12 : Int32)) = nI (min 12 (r + 1)) := by
        simp only [li 12, nle (show r + 1 < 2 ^ 31 by omega) (show 12 < 2 ^ 31 by decide)]
        split
        · congr 1; omega
        · congr 1; omega
      have e2 : (if nI l ≤ nI (min 12 (r + 1)) then nI (min 12 (r + 1)) else nI l) = nI (max l (min 12 (r + 1))) := by
        simp only [nle (show l < 2 ^ 31 by omega) (show min 12 (r + 1) < 2 ^ 31 by omega)]
        split
        · congr 1; omega
        · congr 1; omega
      rw [e1, e2]
      exact ih (i + 1) (min 12 (r + 1)) (max l (min 12 (r + 1))) k (by omega) (by omega) (by omega) (by omega)
    · simp only [hb, decide_false, if_false]
      rw [if_neg (by decide)]
      have e2 : (if nI l ≤ (0 : Int32) then (0 : Int32) else nI l) = nI (max l 0) := by
        simp only [li 0, nle (show l < 2 ^ 31 by omega) (show 0 < 2 ^ 31 by decide)]
        split
        · congr 1; omega
        · congr 1; omega
      rw [e2]
      exact ih (i + 1) 0 (max l 0) k (by omega) (by omega) (by omega) (by omega)
theorem longestRow12 (S : St) {a : Nat} (ha : a < 4096) : fX12_longestRow S (nI a) = some (nI (lrM a 24 0 0 0), S) := row12 S ha 24 0 0 0 100 rfl (by decide) (by decide) (by decide)
