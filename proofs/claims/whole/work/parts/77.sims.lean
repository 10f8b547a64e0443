-- swaps
theorem ixN {n p t : Nat} (hp : p < n) (ht : t < n) : n * p + t < n * n := by
  have : n * (p + 1) ≤ n * n := Nat.mul_le_mul_left _ hp
  rw [Nat.mul_succ] at this
  omega
theorem worth1 {S : St} {b : Nat → Nat} {z n p t : Nat} (hT : TapS b z S) (hz : z ≤ 260) (hn : n * n ≤ z) (hp : p < n) (ht : t < n) : fX1_worth S (nI n) (nI p) (nI t) = some (nI (b (n * p + t)), S) := by
  have := ixN hp ht
  unfold fX1_worth
  rw [pk_mul, nI_add, byte7 hT hz (by omega)]
  rfl
theorem worth12 {M : St} {b : Nat → Nat} {n p t : Nat} (hb : ∀ j, b j < 256) (hT : TapM b M) (hn : n * n ≤ 260) (hp : p < n) (ht : t < n) : fX12_worth M (nI n) (nI p) (nI t) = some (nI (b (n * p + t)), M) := by
  have := ixN hp ht
  unfold fX12_worth
  rw [pk_mul, nI_add, oct12 hb hT (by omega)]
  rfl
def wsB (b : Nat → Nat) (n i j : Nat) : Bool := decide (b (n * i + i) < b (n * i + j)) && decide (b (n * j + j) < b (n * j + i))
theorem wsB_sym (b : Nat → Nat) (n i j : Nat) : wsB b n i j = wsB b n j i := Bool.and_comm _ _
theorem would1 {S : St} {b : Nat → Nat} {z n p t : Nat} (hb : ∀ j, b j < 256) (hT : TapS b z S) (hz : z ≤ 260) (hn : n * n ≤ z) (hp : p < n) (ht : t < n) : fX1_wouldSwap S (nI n) (nI p) (nI t) = some (b2i (wsB b n p t), S) := by
  have h1 := hb (n * p + t)
  have h2 := hb (n * p + p)
  have h3 := hb (n * t + p)
  have h4 := hb (n * t + t)
  unfold fX1_wouldSwap fX1_wouldSwap_38 wsB
  simp only [worth1 hT hz hn hp ht, worth1 hT hz hn hp hp, worth1 hT hz hn ht hp, worth1 hT hz hn ht ht, bi_some, nle (show b (n * p + t) < 2 ^ 31 by omega) (show b (n * p + p) < 2 ^ 31 by omega), nle (show b (n * t + p) < 2 ^ 31 by omega) (show b (n * t + t) < 2 ^ 31 by omega)]
  by_cases c1 : b (n * p + t) ≤ b (n * p + p)
  · have : ¬ b (n * p + p) < b (n * p + t) := by omega
    simp [c1, this, b2i]
  · have : b (n * p + p) < b (n * p + t) := by omega
    by_cases c2 : b (n * t + p) ≤ b (n * t + t)
    · have e : ¬ b (n * t + t) < b (n * t + p) := by omega
      simp [c1, c2, this, e, b2i]
    · have e : b (n * t + t) < b (n * t + p) := by omega
      simp [c1, c2, this, e, b2i]
theorem would12 {M : St} {b : Nat → Nat} {n p t : Nat} (hb : ∀ j, b j < 256) (hT : TapM b M) (hn : n * n ≤ 260) (hp : p < n) (ht : t < n) : fX12_bothWould M (nI n) (nI p) (nI t) = some (b2i (wsB b n p t), M) := by
  have h1 := hb (n * p + t)
  have h2 := hb (n * p + p)
  have h3 := hb (n * t + p)
  have h4 := hb (n * t + t)
  unfold fX12_bothWould fX12_bothWould_38 wsB
  simp only [worth12 hb hT hn hp ht, worth12 hb hT hn hp hp, worth12 hb hT hn ht hp, worth12 hb hT hn ht ht, bi_some, nle (show b (n * p + t) < 2 ^ 31 by omega) (show b (n * p + p) < 2 ^ 31 by omega), nle (show b (n * t + p) < 2 ^ 31 by omega) (show b (n * t + t) < 2 ^ 31 by omega)]
  by_cases c1 : b (n * p + t) ≤ b (n * p + p)
  · have : ¬ b (n * p + p) < b (n * p + t) := by omega
    simp [c1, this, b2i]
  · have : b (n * p + p) < b (n * p + t) := by omega
    by_cases c2 : b (n * t + p) ≤ b (n * t + t)
    · have e : ¬ b (n * t + t) < b (n * t + p) := by omega
      simp [c1, c2, this, e, b2i]
    · have e : b (n * t + t) < b (n * t + p) := by omega
      simp [c1, c2, this, e, b2i]
theorem sumN_cg {f g : Nat → Nat} : ∀ {n}, (∀ i, i < n → f i = g i) → sumN f n = sumN g n
  | 0, _ => rfl
  | n + 1, h => by rw [sumN, sumN, sumN_cg (fun i hi => h i (by omega)), h n (by omega)]
theorem sumN_ad (f g : Nat → Nat) : ∀ n, sumN (fun i => f i + g i) n = sumN f n + sumN g n
  | 0 => rfl
  | n + 1 => by rw [sumN, sumN, sumN, sumN_ad f g n]; omega
def g01 (b : Nat → Nat) (n i j : Nat) : Nat := if wsB b n i j = true then 1 else 0
theorem pairs {g : Nat → Nat → Nat} (hs : ∀ i j, g i j = g j i) : ∀ m, sumN (fun i => sumN (fun k => g i (i + 1 + k)) (m - 1 - i)) m = sumN (fun a => sumN (fun c => g a c) a) m
  | 0 => rfl
  | m + 1 => by
    rw [sumN]
    have h1 : sumN (fun i => sumN (fun k => g i (i + 1 + k)) (m + 1 - 1 - i)) m = sumN (fun i => sumN (fun k => g i (i + 1 + k)) (m - 1 - i) + g i m) m := by
      apply sumN_cg
      intro i hi
      rw [show m + 1 - 1 - i = (m - 1 - i) + 1 by omega, sumN, show i + 1 + (m - 1 - i) = m by omega]
    rw [h1, sumN_ad, pairs hs m, show m + 1 - 1 - m = 0 by omega, sumN, sumN, sumN_cg (fun i _ => hs i m), Nat.add_zero]
theorem will14 {S : St} {b : Nat → Nat} {z n i s : Nat} (rc : St → Int32 → Int32 → Int32 → Option (Int32 × St)) (hb : ∀ j, b j < 256) (hT : TapS b z S) (hz : z ≤ 260) (hn : n * n ≤ z) (h8 : n ≤ 8) (hi : i < n) : fX1_willingTwos_14 rc 100 S (nI n) (nI s) (nI i) (nI i + 1) = rc S (nI n) (nI (s + sumN (fun k => g01 b n i (i + 1 + k)) (n - 1 - i))) (nI i + 1) := by
  rw [nI_1]
  have key := loop_inv (F := fun f (s : Nat) j => fX1_willingTwos_14 rc f S (nI n) (nI s) (nI i) (nI j)) (fun j s' => i + 1 ≤ j ∧ s' = s + sumN (fun k => g01 b n i (i + 1 + k)) (j - 1 - i)) (fun s' => rc S (nI n) (nI s') (nI (i + 1))) n (fun f s' j hj hp => by
      obtain ⟨p1, p2⟩ := hp
      refine ⟨s' + g01 b n i j, ?_, by omega, ?_⟩
      · show bX1_willingTwos_14 _ _ _ _ _ _ _ = _
        unfold bX1_willingTwos_14
        rw [if_neg (by rw [nle (by omega) (by omega)]; omega)]
        simp only [would1 hb hT hz hn hi hj, bi_some, ite_b2i, bV_e, nI_1, g01]
        by_cases c : wsB b n i j = true <;> simp [c]
      · rw [show j + 1 - 1 - i = (j - 1 - i) + 1 by omega, sumN, p2, show i + 1 + (j - 1 - i) = j by omega]
        omega) (fun f s' hp => by
      show bX1_willingTwos_14 _ _ _ _ _ _ _ = _
      unfold bX1_willingTwos_14
      rw [if_pos (by rw [nle (by omega) (by omega)]; omega)]
      simp only [bV_e, nI_1]) (n - (i + 1)) 100 s (i + 1) (by omega) (by omega) ⟨Nat.le_refl _, by rw [show i + 1 - 1 - i = 0 by omega]; rfl⟩
  obtain ⟨s', ⟨_, k1⟩, k2⟩ := key
  rw [k1] at k2
  exact k2
theorem will1 {S : St} {b : Nat → Nat} {z n : Nat} (hb : ∀ j, b j < 256) (hT : TapS b z S) (hz : z ≤ 260) (hn : n * n ≤ z) (h8 : n ≤ 8) : fX1_willingTwos S (nI n) = some (nI (sumN (fun a => sumN (fun c => g01 b n a c) a) n), S) := by
  have key := loop_inv (F := fun f (s : Nat) i => fX1_willingTwos_4 f S (nI n) (nI s) (nI i)) (fun i s => s = sumN (fun i => sumN (fun k => g01 b n i (i + 1 + k)) (n - 1 - i)) i) (fun s => some (nI s, S)) n (fun f s i hi hp => by
      refine ⟨_, ?_, rfl⟩
      show bX1_willingTwos_4 _ _ _ _ _ = _
      unfold bX1_willingTwos_4
      rw [if_neg (by rw [nle (by omega) (by omega)]; omega)]
      simp only [bV_e]
      rw [will14 _ hb hT hz hn h8 hi, nI_1, hp]
      rfl) (fun f s hp => by
      show bX1_willingTwos_4 _ _ _ _ _ = _
      unfold bX1_willingTwos_4
      rw [if_pos (by rw [nle (by omega) (by omega)]; omega)]) n 100 0 0 (by omega) (by omega) rfl
  obtain ⟨s, k1, k2⟩ := key
  rw [k1, pairs (fun i j => by unfold g01; rw [wsB_sym])] at k2
  exact k2
theorem swap61 {M : St} {b : Nat → Nat} {n a s : Nat} (rc : St → Int32 → Int32 → Int32 → Option (Int32 × St)) (hb : ∀ j, b j < 256) (hT : TapM b M) (hn : n * n ≤ 260) (h8 : n ≤ 8) (ha : a < n) : fX12_swaps_61 rc 100 M (nI n) (nI s) (nI a) 0 = rc M (nI n) (nI (s + sumN (fun c => g01 b n a c) a)) (nI (a + 1)) := by
  have key := loop_inv (F := fun f (s : Nat) j => fX12_swaps_61 rc f M (nI n) (nI s) (nI a) (nI j)) (fun j s' => s' = s + sumN (fun c => g01 b n a c) j) (fun s' => rc M (nI n) (nI s') (nI (a + 1))) a (fun f s' j hj hp => by
      refine ⟨s' + g01 b n a j, ?_, by rw [sumN, hp]; omega⟩
      show bX12_swaps_61 _ _ _ _ _ _ _ = _
      unfold bX12_swaps_61
      rw [if_neg (by rw [nle (by omega) (by omega)]; omega)]
      simp only [would12 hb hT hn ha (show j < n by omega), bi_some, ite_b2i, bV_e, nI_1, g01]
      by_cases c : wsB b n a j = true <;> simp [c]) (fun f s' hp => by
      show bX12_swaps_61 _ _ _ _ _ _ _ = _
      unfold bX12_swaps_61
      rw [if_pos (by rw [nle (by omega) (by omega)]; omega)]
      simp only [bV_e, nI_1]) a 100 s 0 (by omega) (by omega) rfl
  obtain ⟨s', k1, k2⟩ := key
  rw [k1] at k2
  exact k2
theorem swap52 {M : St} {b : Nat → Nat} {n : Nat} (hb : ∀ j, b j < 256) (hT : TapM b M) (hn : n * n ≤ 260) (h8 : n ≤ 8) : fX12_swaps_52 100 M (nI n) 0 0 = some (nI (sumN (fun a => sumN (fun c => g01 b n a c) a) n), M) := by
  have key := loop_inv (F := fun f (s : Nat) i => fX12_swaps_52 f M (nI n) (nI s) (nI i)) (fun i s => s = sumN (fun a => sumN (fun c => g01 b n a c) a) i) (fun s => some (nI s, M)) n (fun f s i hi hp => by
      refine ⟨_, ?_, rfl⟩
      show bX12_swaps_52 _ _ _ _ _ = _
      unfold bX12_swaps_52
      rw [if_neg (by rw [nle (by omega) (by omega)]; omega), swap61 _ hb hT hn h8 hi, hp]
      rfl) (fun f s hp => by
      show bX12_swaps_52 _ _ _ _ _ = _
      unfold bX12_swaps_52
      rw [if_pos (by rw [nle (by omega) (by omega)]; omega)]) n 100 0 0 (by omega) (by omega) rfl
  obtain ⟨s, k1, k2⟩ := key
  rw [k1] at k2
  exact k2
-- lowest bits
def lowF : Nat → Nat → Nat → Nat
  | 0, _, i => i
  | k + 1, q, i => if q.testBit i = true then i else lowF k q (i + 1)
def lowN (q : Nat) : Nat := lowF 16 q 0
theorem lowF_spec {q : Nat} : ∀ k i, (∃ j, i ≤ j ∧ j < i + k ∧ q.testBit j = true) → q.testBit (lowF k q i) = true ∧ i ≤ lowF k q i ∧ lowF k q i < i + k ∧ ∀ j, i ≤ j → j < lowF k q i → q.testBit j = false
  | 0, i, h => by
    obtain ⟨j, h1, h2, _⟩ := h
    omega
  | k + 1, i, h => by
    rw [lowF]
    by_cases c : q.testBit i = true
    · rw [if_pos c]
      exact ⟨c, Nat.le_refl _, by omega, fun j h1 h2 => by omega⟩
    · rw [if_neg c]
      obtain ⟨j, h1, h2, h3⟩ := h
      have hne : j ≠ i := by rintro rfl; exact c h3
      obtain ⟨a1, a2, a3, a4⟩ := lowF_spec k (i + 1) ⟨j, by omega, by omega, h3⟩
      refine ⟨a1, by omega, by omega, fun l l1 l2 => ?_⟩
      by_cases e : l = i
      · subst e; simpa using c
      · exact a4 l (by omega) l2
theorem ex_bit {q : Nat} (h0 : q ≠ 0) (h : q < 65536) : ∃ j, j < 16 ∧ q.testBit j = true := by
  rcases Classical.em (∃ j, j < 16 ∧ q.testBit j = true) with z | z
  · exact z
  · exfalso
    apply h0
    apply Nat.eq_of_testBit_eq
    intro j
    rw [Nat.zero_testBit]
    by_cases hj : j < 16
    · cases hq : q.testBit j with
      | false => rfl
      | true => exact absurd ⟨j, hj, hq⟩ z
    · exact tb_big h (by omega)
theorem lowN_spec {q : Nat} (h0 : q ≠ 0) (h : q < 65536) : q.testBit (lowN q) = true ∧ lowN q < 16 ∧ ∀ j, j < lowN q → q.testBit j = false := by
  obtain ⟨j, h1, h2⟩ := ex_bit h0 h
  obtain ⟨a1, _, a3, a4⟩ := lowF_spec (q := q) 16 0 ⟨j, by omega, by omega, h2⟩
  exact ⟨a1, by have : lowF 16 q 0 < 0 + 16 := a3; unfold lowN; omega, fun l hl => a4 l (Nat.zero_le _) hl⟩
theorem lowest_l {M : St} {q : Nat} (h : q < 65536) : ∀ k i f, i + k ≤ 31 → k < f → (∃ j, i ≤ j ∧ j < i + k ∧ q.testBit j = true) → fX12_lowest_2 f M (nI q) (nI i) = some (nI (lowF k q i), M) := by
  intro k
  induction k with
  | zero =>
    intro i f _ _ ⟨j, h1, h2, _⟩
    omega
  | succ k ih =>
    intro i f h1 h2 hex
    obtain ⟨f, rfl⟩ : ∃ k', f = k' + 1 := ⟨f - 1, by omega⟩
    show bX12_lowest_2 _ _ _ _ = _
    unfold bX12_lowest_2
    simp only [has12, hsB_nI (show q < 2 ^ 31 by omega) (show i < 32 by omega), bi_some, ite_b2i, bV_e, nI_1]
    rw [lowF]
    by_cases c : q.testBit i = true
    · rw [if_pos c, if_pos c]
    · rw [if_neg c, if_neg c]
      obtain ⟨j, j1, j2, j3⟩ := hex
      have hne : j ≠ i := by rintro rfl; exact c j3
      exact ih (i + 1) f (by omega) (by omega) ⟨j, by omega, by omega, j3⟩
theorem lowest12 {M : St} {q : Nat} (h0 : q ≠ 0) (h : q < 65536) : fX12_lowest M (nI q) = some (nI (lowN q), M) := by
  obtain ⟨j, h1, h2⟩ := ex_bit h0 h
  exact lowest_l h 16 0 40 (by decide) (by decide) ⟨j, by omega, by omega, h2⟩
def nt74 (x y : Int32) : Int32 := y + ((x.toUInt32 >>> ((1 : Int32).toUInt32 &&& Int32.toUInt32 31)).toInt32)
def nt62 (x y : Int32) : Int32 := if x ≤ 4 then nt74 x y else nt74 ((x.toUInt32 >>> ((2 : Int32).toUInt32 &&& Int32.toUInt32 31)).toInt32) (y + 2)
def nt49 (x y : Int32) : Int32 := if x ≤ 16 then nt62 x y else nt62 ((x.toUInt32 >>> ((4 : Int32).toUInt32 &&& Int32.toUInt32 31)).toInt32) (y + 4)
def nt34 (x y : Int32) : Int32 := if x ≤ 256 then nt49 x y else nt49 ((x.toUInt32 >>> ((8 : Int32).toUInt32 &&& Int32.toUInt32 31)).toInt32) (y + 8)
def ntP (x : Int32) : Int32 := if 0 < ((x ^^^ (-1 : Int32)) &&& (x - 1)) then (if ((x ^^^ (-1 : Int32)) &&& (x - 1)) ≤ 65536 then nt34 ((x ^^^ (-1 : Int32)) &&& (x - 1)) 1 else nt34 ((((x ^^^ (-1 : Int32)) &&& (x - 1)).toUInt32 >>> ((16 : Int32).toUInt32 &&& Int32.toUInt32 31)).toInt32) (1 + 16)) else ((x ^^^ (-1 : Int32)) &&& (x - 1)) &&& 32
theorem nt74_e (S : St) (x y : Int32) : fJ6_numberOfTrailingZeros_0f7a4_74 S x y = some (nt74 x y, S) := rfl
theorem nt62_e (S : St) (x y : Int32) : fJ6_numberOfTrailingZeros_0f7a4_62 S x y = some (nt62 x y, S) := by
  unfold fJ6_numberOfTrailingZeros_0f7a4_62 nt62
  simp only [nt74_e, bV_e]
  split <;> rfl
theorem nt49_e (S : St) (x y : Int32) : fJ6_numberOfTrailingZeros_0f7a4_49 S x y = some (nt49 x y, S) := by
  unfold fJ6_numberOfTrailingZeros_0f7a4_49 nt49
  simp only [nt62_e, bV_e]
  split <;> rfl
theorem nt34_e (S : St) (x y : Int32) : fJ6_numberOfTrailingZeros_0f7a4_34 S x y = some (nt34 x y, S) := by
  unfold fJ6_numberOfTrailingZeros_0f7a4_34 nt34
  simp only [nt49_e, bV_e]
  split <;> rfl
theorem ntP_e (S : St) (x : Int32) : fJ6_numberOfTrailingZeros_0f7a4 S x = some (ntP x, S) := by
  unfold fJ6_numberOfTrailingZeros_0f7a4 ntP
  simp only [nt34_e, bV_e]
  split
  · split <;> rfl
  · rfl
theorem ntP_low : ∀ q, q < 256 → q = 0 ∨ ntP (nI q) = nI (lowN q) := by decide +kernel
theorem ntz6 {S : St} {q : Nat} (h0 : q ≠ 0) (h : q < 256) : fJ6_numberOfTrailingZeros_0f7a4 S (nI q) = some (nI (lowN q), S) := by
  rw [ntP_e]
  rcases ntP_low q h with z | z
  · exact absurd z h0
  · rw [z]
