theorem tb_big {a j : Nat} (h : a < 65536) (hj : 16 ≤ j) : a.testBit j = false := by
  apply Nat.testBit_lt_two_pow
  have h1 : a < 2 ^ 16 := h
  exact Nat.lt_of_lt_of_le h1 (Nat.pow_le_pow_right (by decide) hj)
-- spread
theorem spread_e1 (S : St) (t m f k : Nat) : fX4_spreadAmong_8 t (k + 1) S (nI m) (nI f) (nI 16) = some (if nI m - nI f < 0 then 0 else nI m - nI f, S) := by
  show bX4_spreadAmong_8 _ _ _ _ _ _ = _
  unfold bX4_spreadAmong_8
  have : (16 : Int32) ≤ nI 16 := by decide
  rw [if_pos this]
theorem spread_e2 (M : St) (m f k : Nat) : fX12_spread_7 (k + 1) M (nI m) (nI f) (nI 16) = (if M.1 55 8 = 0 then some (0, M) else some (nI m - nI f, M)) := by
  show bX12_spread_7 _ _ _ _ _ = _
  unfold bX12_spread_7
  have : (16 : Int32) ≤ nI 16 := by decide
  rw [if_pos this]
def cT (M : St) (i : Nat) : Nat := cnt (roB M (nI i)) 12
theorem cT_le (M : St) (i : Nat) : cT M i ≤ 12 := cnt_le _ 12
theorem sp_max {m c : Nat} (hm : m ≤ 12) (hc : c ≤ 12) : (if nI m < nI c then nI c else nI m) = nI (max m c) := by
  simp only [nlt (show m < 2 ^ 31 by omega) (show c < 2 ^ 31 by omega)]
  split
  · congr 1; omega
  · congr 1; omega
theorem sp_min {f c : Nat} (hf : f ≤ 12) (hc : c ≤ 12) : (if nI c < nI f then nI c else nI f) = nI (min f c) := by
  simp only [nlt (show c < 2 ^ 31 by omega) (show f < 2 ^ 31 by omega)]
  split
  · congr 1; omega
  · congr 1; omega
theorem sp_max2 {m c : Nat} (hm : m ≤ 12) (hc : c ≤ 12) : (if nI m ≤ nI c then nI c else nI m) = nI (max m c) := by
  simp only [nle (show m < 2 ^ 31 by omega) (show c < 2 ^ 31 by omega)]
  split
  · congr 1; omega
  · congr 1; omega
theorem sp_min2 {f c : Nat} (hf : f ≤ 12) (hc : c ≤ 12) : (if nI c ≤ nI f then nI c else nI f) = nI (min f c) := by
  simp only [nle (show c < 2 ^ 31 by omega) (show f < 2 ^ 31 by omega)]
  split
  · congr 1; omega
  · congr 1; omega
theorem turnsCnt4 {S M : St} (h : Rel S M) {β : Type} (x : Int32) (k : Int32 → St → Option β) : (bi (fX4_turnsOf S x) fun r S1 => bi (fJ6_bitCount_0f7a4 S1 r) k) = k (nI (cnt (roB M x) 12)) S := by
  rw [turnsOf4 h, bi_some, bitCount6 S (Nat.lt_of_lt_of_le (setN_lt (roB M x) 12) (Nat.le_of_ble_eq_true rfl)), bi_some, pcN_setN (roB M x) (Nat.le_of_ble_eq_true rfl)]
theorem spread_s1 {S M : St} (h : Rel S M) {i m f k : Nat} (hi : i < 16) (hm : m ≤ 12) (hf : f ≤ 12) : fX4_spreadAmong_8 (S.2.2 0) (k + 1) S (nI m) (nI f) (nI i) = (if (hN M).testBit i = true then fX4_spreadAmong_8 (S.2.2 0) k S (nI (max m (cT M i))) (nI (min f (cT M i))) (nI (i + 1)) else fX4_spreadAmong_8 (S.2.2 0) k S (nI m) (nI f) (nI (i + 1))) := by
  have e7 := h.2.1.2.2.2.1
  rw [← sp_max hm (cT_le M i), ← sp_min hf (cT_le M i)]
  show bX4_spreadAmong_8 _ _ _ _ _ _ = _
  unfold bX4_spreadAmong_8
  rw [li 16, if_neg (by rw [nle (by decide) (by omega)]; omega)]
  have hq := fun (k : Int32 → St → Option (Int32 × St)) => turnsCnt4 h (nI i) k
  have hc : cnt (roB M (nI i)) 12 = cT M i := by unfold cT; exact rfl
  rw [hc] at hq
  simp only [hasHouse8, e7, h.hoN hi, bi_some, ite_b2i, hq, bV_e, nI_1]
theorem spread_s2 {S M : St} (h : Rel S M) {i m f k : Nat} (hi : i < 16) (hm : m ≤ 12) (hf : f ≤ 12) : fX12_spread_7 (k + 1) M (nI m) (nI f) (nI i) = (if (hN M).testBit i = true then fX12_spread_7 k M (nI (max m (cT M i))) (nI (min f (cT M i))) (nI (i + 1)) else fX12_spread_7 k M (nI m) (nI f) (nI (i + 1))) := by
  rw [← sp_max2 hm (cT_le M i), ← sp_min2 hf (cT_le M i)]
  unfold cT
  show bX12_spread_7 _ _ _ _ _ = _
  unfold bX12_spread_7
  rw [li 16, if_neg (by rw [nle (by decide) (by omega)]; omega)]
  simp only [isHouse12, h.hoN hi, bi_some, ite_b2i, turnsOf12, max12, min12, bV_e, nI_1]
theorem spread_end {S M : St} (h : Rel S M) {m f k : Nat} (hm : m ≤ 12) (hf : f ≤ 12) (q1 : (∀ j, j < 16 → (hN M).testBit j = false) → m = 0 ∧ f = 12) (q2 : (∃ j, j < 16 ∧ (hN M).testBit j = true) → f ≤ m) : ∃ v, fX4_spreadAmong_8 (S.2.2 0) (k + 1) S (nI m) (nI f) (nI 16) = some (v, S) ∧ fX12_spread_7 (k + 1) M (nI m) (nI f) (nI 16) = some (v, M) := by
  have hb := h.1.1.2
  rw [spread_e1, spread_e2, h.1.1.1]
  by_cases hz : hN M = 0
  · obtain ⟨em, ef⟩ := q1 (fun j _ => by rw [hz]; exact Nat.zero_testBit j)
    rw [em, ef, hz]
    have d1 : (if nI 0 - nI 12 < 0 then (0 : Int32) else nI 0 - nI 12) = 0 := by decide +kernel
    refine ⟨0, by rw [d1], ?_⟩
    rw [if_pos nI_0]
  · have hex : ∃ j, j < 16 ∧ (hN M).testBit j = true := by
      rcases Classical.em (∃ j, j < 16 ∧ (hN M).testBit j = true) with q | q
      · exact q
      · exfalso
        apply hz
        apply Nat.eq_of_testBit_eq
        intro j
        rw [Nat.zero_testBit]
        by_cases hj : j < 16
        · cases hq : (hN M).testBit j with
          | false => rfl
          | true => exact absurd ⟨j, hj, hq⟩ q
        · exact tb_big hb (by omega)
    have hle := q2 hex
    have hn0 : ¬ nI (hN M) = 0 := by
      intro z
      rw [← nI_0] at z
      exact hz ((nI_eq (by omega) (Nat.le_of_ble_eq_true rfl)).mp z)
    refine ⟨nI (m - f), ?_, ?_⟩
    · rw [pk_sub hle, if_neg (nI_pos (by omega))]
    · rw [if_neg hn0, pk_sub hle]
theorem spread_loop {S M : St} (h : Rel S M) : ∀ n i m f k, i + n = 16 → n < k → m ≤ 12 → f ≤ 12 → ((∀ j, j < i → (hN M).testBit j = false) → m = 0 ∧ f = 12) → ((∃ j, j < i ∧ (hN M).testBit j = true) → f ≤ m) → ∃ v, fX4_spreadAmong_8 (S.2.2 0) k S (nI m) (nI f) (nI i) = some (v, S) ∧ fX12_spread_7 k M (nI m) (nI f) (nI i) = some (v, M) := by
  intro n
  induction n with
  | zero =>
    intro i m f k h1 h2 hm hf q1 q2
    obtain ⟨k, rfl⟩ : ∃ k', k = k' + 1 := ⟨k - 1, by omega⟩
    have : i = 16 := by omega
    subst this
    exact spread_end h hm hf q1 q2
  | succ n ih =>
    intro i m f k h1 h2 hm hf q1 q2
    obtain ⟨k, rfl⟩ : ∃ k', k = k' + 1 := ⟨k - 1, by omega⟩
    have hi : i < 16 := by omega
    have hc := cT_le M i
    rw [spread_s1 h hi hm hf, spread_s2 h hi hm hf]
    by_cases hb : (hN M).testBit i = true
    · rw [if_pos hb, if_pos hb]
      refine ih (i + 1) _ _ k (by omega) (by omega) (by omega) (by omega) (fun q => ?_) (fun _ => by omega)
      have := q i (by omega)
      rw [hb] at this
      cases this
    · rw [if_neg hb, if_neg hb]
      refine ih (i + 1) m f k (by omega) (by omega) hm hf (fun q => q1 (fun j hj => q j (by omega))) (fun ⟨j, hj, hj2⟩ => q2 ⟨j, ?_, hj2⟩)
      rcases Nat.lt_or_ge j i with z | z
      · exact z
      · have : j = i := by omega
        subst this
        exact absurd hj2 hb
theorem sim_spread (S M : St) (h : Rel S M) : ∃ v S1 M1, fX11_spread S = some (v, S1) ∧ fX12_spread M = some (v, M1) ∧ Rel S1 M1 := by
  obtain ⟨v, i1, i2⟩ := spread_loop h 16 0 0 12 100 rfl (by decide) (by decide) (by decide) (fun _ => ⟨rfl, rfl⟩) (fun ⟨j, hj, _⟩ => absurd hj (Nat.not_lt_zero j))
  have i1 : fX4_spreadAmong_8 (S.2.2 0) 100 S 0 12 0 = some (v, S) := i1
  have i2 : fX12_spread_7 100 M 0 12 0 = some (v, M) := i2
  unfold fX11_spread fX12_spread fX4_spreadAmong
  simp only [h.2.1.1, if_true, i1, i2, bi_some]
  exact ⟨_, _, _, rfl, rfl, h⟩
-- readers
theorem read_loop {S M : St} (h : Rel S M) {t n : Nat} (ht : t < 12) (hn : n ≤ 12) : ∀ m i s k, i + m = n + 1 → m < k → s < 65536 → ∃ b, b < 65536 ∧ fX4_readBy_6 (S.2.2 0) k S (nI t) (nI n) (nI s) (nI i) = some (nI b, S) ∧ fX12_readersOf_5 k M (nI t) (nI n) (nI s) (nI i) = some (nI b, M) := by
  intro m
  induction m with
  | zero =>
    intro i s k h1 h2 hs
    obtain ⟨k, rfl⟩ : ∃ k', k = k' + 1 := ⟨k - 1, by omega⟩
    refine ⟨s, hs, ?_, ?_⟩
    · show bX4_readBy_6 _ _ _ _ _ _ _ = _
      unfold bX4_readBy_6
      rw [if_pos (by rw [nlt (by omega) (by omega)]; omega)]
    · show bX12_readersOf_5 _ _ _ _ _ _ = _
      unfold bX12_readersOf_5
      rw [if_pos (by rw [nlt (by omega) (by omega)]; omega)]
  | succ m ih =>
    intro i s k h1 h2 hs
    obtain ⟨k, rfl⟩ : ∃ k', k = k' + 1 := ⟨k - 1, by omega⟩
    have hm : nI t + nI i - (nI t + nI i) / 12 * 12 = nI ((t + i) % 12) := by rw [nI_add, li 12]; exact rem_nI (by omega) (by decide) (by decide)
    have hm2 : (t + i) % 12 < 12 := Nat.mod_lt _ (by decide)
    obtain ⟨r1, r2⟩ := h.2.2.1 _ hm2
    rcases r2 with r2 | ⟨a, ha, r2, hb⟩
    · obtain ⟨b, hb, i1, i2⟩ := ih (i + 1) s k (by omega) (by omega) hs
      refine ⟨b, hb, ?_, ?_⟩
      · show bX4_readBy_6 _ _ _ _ _ _ _ = _
        unfold bX4_readBy_6
        rw [if_neg (by rw [nlt (by omega) (by omega)]; omega)]
        simp only [hm, bV_e, holder4 hm2, bi_some, r1, r2, if_true, nI_1, i1]
      · show bX12_readersOf_5 _ _ _ _ _ _ = _
        unfold bX12_readersOf_5
        rw [if_neg (by rw [nlt (by omega) (by omega)]; omega)]
        simp only [hm, bV_e, inbT hm2 (show 12 < 2 ^ 31 by decide), if_true, nI_clamp (show (t + i) % 12 < 2 ^ 31 by omega), r2, nI_1, i2]
    · have e1 : (1 : Int32) <<< (nI a &&& 31) = nI (2 ^ a) := by
        have := shl_nI (a := 1) (k := a) (by omega) (by
          have : 2 ^ a ≤ 2 ^ 16 := Nat.pow_le_pow_right (by decide) (by omega)
          omega)
        rw [li 1, this, Nat.one_mul]
      have hne : ¬ nI a = -1 := nm1 (by omega)
      have hs2 : s ||| 2 ^ a < 65536 := Nat.or_lt_two_pow (n := 16) hs (Nat.pow_lt_pow_right (by decide) ha)
      have hsn := seenN_lt M a ((t + i) % 12)
      obtain ⟨b, hb2, i1, i2⟩ := ih (i + 1) (s ||| 2 ^ a) k (by omega) (by omega) hs2
      have f1 : fX4_readBy_6 (S.2.2 0) (k + 1) S (nI t) (nI n) (nI s) (nI i) = (if seenN M a ((t + i) % 12) = 0 then some (nI (s ||| 2 ^ a), S) else some (nI b, S)) := by
        show bX4_readBy_6 _ _ _ _ _ _ _ = _
        unfold bX4_readBy_6
        rw [if_neg (by rw [nlt (by omega) (by omega)]; omega)]
        simp only [hm, bV_e, holder4 hm2, bi_some, r1, r2, hne, if_false, e1, or_nI, view8 h ha hm2, hb, if_true, li 0, neq (show seenN M a ((t + i) % 12) < 2 ^ 31 by omega) (show 0 < 2 ^ 31 by decide), nI_1, i1]
      have f2 : fX12_readersOf_5 (k + 1) M (nI t) (nI n) (nI s) (nI i) = (if seenN M a ((t + i) % 12) = 0 then some (nI (s ||| 2 ^ a), M) else some (nI b, M)) := by
        show bX12_readersOf_5 _ _ _ _ _ _ = _
        unfold bX12_readersOf_5
        rw [if_neg (by rw [nlt (by omega) (by omega)]; omega)]
        simp only [hm, bV_e, inbT hm2 (show 12 < 2 ^ 31 by decide), if_true, nI_clamp (show (t + i) % 12 < 2 ^ 31 by omega), r2, hne, if_false, e1, or_nI, seenBy12 h.1 ha (show (t + i) % 12 < 2 ^ 31 by omega), bi_some, li 0, neq (show seenN M a ((t + i) % 12) < 2 ^ 31 by omega) (show 0 < 2 ^ 31 by decide), nI_1, i2]
      rw [f1, f2]
      by_cases c : seenN M a ((t + i) % 12) = 0
      · simp only [c, if_true]
        exact ⟨_, hs2, rfl, rfl⟩
      · simp only [c, if_false]
        exact ⟨_, hb2, rfl, rfl⟩
theorem readBy {S M : St} (h : Rel S M) {t n : Nat} (ht : t < 12) (hn : n ≤ 12) : ∃ b, b < 65536 ∧ fX4_readBy (S.2.2 0) S (nI t) (nI n) = some (nI b, S) ∧ fX12_readersOf M (nI t) (nI n) = some (nI b, M) := read_loop h ht hn n 1 0 100 (by omega) (by omega) (by decide)
theorem sim_readers (S M : St) (x y : Int32) (h : Rel S M) : ∃ v S1 M1, fX11_readers S x y = some (v, S1) ∧ fX12_readers M x y = some (v, M1) ∧ Rel S1 M1 := by
  unfold fX11_readers fX12_readers fX11_readers_33 fX12_readers_26
  simp only [isTurn11, isTurn12, in12, bi_some, ite_b2i, i0, i12, h.2.1.1, if_true]
  by_cases hx : inR x 0 11 = true
  · obtain ⟨t, ht, rfl⟩ := tu_nat hx
    by_cases hy : inR y 0 12 = true
    · obtain ⟨n, hn, rfl⟩ := inR_nat (n := 12) hy (by decide)
      obtain ⟨b, hb, i1, i2⟩ := readBy h ht hn
      have c1 : ¬ nI n < 0 := nI_pos (by omega)
      have c2 : ¬ (12 : Int32) < nI n := by rw [li 12, nlt (by decide) (by omega)]; omega
      simp only [hx, hy, c1, c2, if_true, if_false, i1, i2, bi_some]
      exact ⟨_, _, _, rfl, rfl, h⟩
    · simp only [hx, hy, if_true]
      have : (if y < 0 then (some ((-1 : Int32), S)) else if (12 : Int32) < y then some (-1, S) else bi (fX4_readBy (S.2.2 0) S (nI t) y) fun r5 S2 => some (r5, S2)) = some (-1, S) := by
        by_cases c1 : y < 0
        · rw [if_pos c1]
        · rw [if_neg c1, if_pos]
          rw [Ilt, i12]
          rw [Ilt, i0] at c1
          rw [inR_t] at hy
          omega
      rw [this]
      exact ⟨_, _, _, rfl, rfl, h⟩
  · simp only [hx]
    exact ⟨_, _, _, rfl, rfl, h⟩
-- best breath
theorem others {S M : St} (h : Rel S M) {a t : Nat} (ha : a < 16) (ht : t < 12) : ∃ c, c ≤ 16 ∧ fX4_othersWhoRead (S.2.2 0) S (nI t) (nI a) = some (nI c, S) ∧ fX12_othersWhoRead M (nI a) (nI t) = some (nI c, M) := by
  obtain ⟨b, hb, i1, i2⟩ := readBy h ht (n := 12) (by decide)
  have i1 : fX4_readBy (S.2.2 0) S (nI t) 12 = some (nI b, S) := i1
  have i2 : fX12_readersOf M (nI t) 12 = some (nI b, M) := i2
  have hl : b &&& (((1 : Int32) <<< (nI a &&& 31)) ^^^ (-1 : Int32)).toBitVec.toNat < 65536 := Nat.lt_of_le_of_lt Nat.and_le_left hb
  refine ⟨pcN (b &&& (((1 : Int32) <<< (nI a &&& 31)) ^^^ (-1 : Int32)).toBitVec.toNat) 16, pcN_le _ 16, ?_, ?_⟩
  · unfold fX4_othersWhoRead
    simp only [i1, bi_some, and_any (show b < 2 ^ 31 by omega), bitCount6 S hl]
  · unfold fX12_othersWhoRead
    simp only [i2, bi_some, and_any (show b < 2 ^ 31 by omega), bits12 M hl]
theorem m2n {a : Nat} (ha : a < 2 ^ 31) : ¬ nI a = -2 := by
  rw [Ieq, nI_toInt ha, im2]
  omega
theorem breath_loop {S M : St} (h : Rel S M) {a : Nat} (ha : a < 16) (x : Int32) (oth : Nat → Nat) (ho : ∀ t, t < 12 → oth t ≤ 16 ∧ fX4_othersWhoRead (S.2.2 0) S (nI t) (nI a) = some (nI (oth t), S) ∧ fX12_othersWhoRead M (nI a) (nI t) = some (nI (oth t), M)) : ∀ n i best most k k2, i + n = 12 → n < k → n < k2 → ((best = -2 ∧ most = -1) ∨ ∃ b, b < 12 ∧ best = nI b ∧ most = nI (oth b)) → ∃ r : Int32, (r = -2 ∨ ∃ b, b < 12 ∧ r = nI b) ∧ fX4_bestTurnToWrite_9 (S.2.2 0) k S (nI a) best most (nI i) = some (r, S) ∧ fX12_bestBreath_25 k2 M (nI a) x best (nI i) = (if x = 0 then some (r, M) else if r = -2 then some (0, M) else bi (fX12_othersWhoRead M (nI a) r) fun r2 S1 => some (r2, S1)) := by
  intro n
  induction n with
  | zero =>
    intro i best most k k2 h1 h2 h3 hq
    obtain ⟨k, rfl⟩ : ∃ k', k = k' + 1 := ⟨k - 1, by omega⟩
    obtain ⟨k2, rfl⟩ : ∃ k', k2 = k' + 1 := ⟨k2 - 1, by omega⟩
    have : i = 12 := by omega
    subst this
    refine ⟨best, ?_, ?_, ?_⟩
    · rcases hq with ⟨q, _⟩ | ⟨b, hb, q, _⟩
      · exact Or.inl q
      · exact Or.inr ⟨b, hb, q⟩
    · show bX4_bestTurnToWrite_9 _ _ _ _ _ _ _ = _
      unfold bX4_bestTurnToWrite_9
      rw [if_pos (by decide)]
    · show bX12_bestBreath_25 _ _ _ _ _ _ = _
      unfold bX12_bestBreath_25
      rw [if_pos (by decide)]
  | succ n ih =>
    intro i best most k k2 h1 h2 h3 hq
    obtain ⟨k, rfl⟩ : ∃ k', k = k' + 1 := ⟨k - 1, by omega⟩
    obtain ⟨k2, rfl⟩ : ∃ k', k2 = k' + 1 := ⟨k2 - 1, by omega⟩
    have hi : i < 12 := by omega
    obtain ⟨o0, o1, o2⟩ := ho i hi
    have f1 : fX4_bestTurnToWrite_9 (S.2.2 0) (k + 1) S (nI a) best most (nI i) = (if M.1 59 i = nI a then (if nI (oth i) ≤ most then fX4_bestTurnToWrite_9 (S.2.2 0) k S (nI a) best most (nI (i + 1)) else fX4_bestTurnToWrite_9 (S.2.2 0) k S (nI a) (nI i) (nI (oth i)) (nI (i + 1))) else (if (-1 : Int32) ≤ most then fX4_bestTurnToWrite_9 (S.2.2 0) k S (nI a) best most (nI (i + 1)) else fX4_bestTurnToWrite_9 (S.2.2 0) k S (nI a) (nI i) (-1) (nI (i + 1)))) := by
      show bX4_bestTurnToWrite_9 _ _ _ _ _ _ _ = _
      unfold bX4_bestTurnToWrite_9 fX4_bestTurnToWrite_39
      rw [li 12, if_neg (by rw [nle (by decide) (by omega)]; omega)]
      simp only [inbT hi (show 12 < 2 ^ 31 by decide), if_true, nI_clamp (show i < 2 ^ 31 by omega), (h.2.2.1 i hi).1, o1, bi_some, bV_e, nI_1]
    have hm1 : (-1 : Int32) ≤ most := by
      rcases hq with ⟨_, q⟩ | ⟨b, hb, _, q⟩
      · rw [q]; decide
      · have := (ho b hb).1
        rw [q, Ile, nI_toInt (by omega), im1]
        omega
    rw [f1]
    by_cases hc : M.1 59 i = nI a
    · rcases hq with ⟨q1, q2⟩ | ⟨b, hb, q1, q2⟩
      · subst q1; subst q2
        have hgt : ¬ nI (oth i) ≤ (-1 : Int32) := by
          rw [Ile, nI_toInt (by omega), im1]
          omega
        have f2 : fX12_bestBreath_25 (k2 + 1) M (nI a) x (-2) (nI i) = fX12_bestBreath_25 k2 M (nI a) x (nI i) (nI (i + 1)) := by
          show bX12_bestBreath_25 _ _ _ _ _ _ = _
          unfold bX12_bestBreath_25 fX12_bestBreath_65
          rw [li 12, if_neg (by rw [nle (by decide) (by omega)]; omega)]
          simp only [inbT hi (show 12 < 2 ^ 31 by decide), if_true, nI_clamp (show i < 2 ^ 31 by omega), hc, bV_e, nI_1]
        rw [f2]
        simp only [hc, hgt, if_true, if_false]
        exact ih (i + 1) _ _ k k2 (by omega) (by omega) (by omega) (Or.inr ⟨i, hi, rfl, rfl⟩)
      · subst q1; subst q2
        obtain ⟨p0, p1, p2⟩ := ho b hb
        have hne : ¬ nI b = -2 := m2n (by omega)
        have f2 : fX12_bestBreath_25 (k2 + 1) M (nI a) x (nI b) (nI i) = (if nI (oth i) ≤ nI (oth b) then fX12_bestBreath_25 k2 M (nI a) x (nI b) (nI (i + 1)) else fX12_bestBreath_25 k2 M (nI a) x (nI i) (nI (i + 1))) := by
          show bX12_bestBreath_25 _ _ _ _ _ _ = _
          unfold bX12_bestBreath_25 fX12_bestBreath_65
          rw [li 12, if_neg (by rw [nle (by decide) (by omega)]; omega)]
          simp only [inbT hi (show 12 < 2 ^ 31 by decide), if_true, nI_clamp (show i < 2 ^ 31 by omega), hc, hne, if_false, o2, p2, bi_some, bV_e, nI_1]
        rw [f2]
        by_cases hle : nI (oth i) ≤ nI (oth b)
        · simp only [hc, hle, if_true]
          exact ih (i + 1) _ _ k k2 (by omega) (by omega) (by omega) (Or.inr ⟨b, hb, rfl, rfl⟩)
        · simp only [hc, hle, if_true, if_false]
          exact ih (i + 1) _ _ k k2 (by omega) (by omega) (by omega) (Or.inr ⟨i, hi, rfl, rfl⟩)
    · have f2 : fX12_bestBreath_25 (k2 + 1) M (nI a) x best (nI i) = fX12_bestBreath_25 k2 M (nI a) x best (nI (i + 1)) := by
        show bX12_bestBreath_25 _ _ _ _ _ _ = _
        unfold bX12_bestBreath_25
        rw [li 12, if_neg (by rw [nle (by decide) (by omega)]; omega)]
        simp only [inbT hi (show 12 < 2 ^ 31 by decide), if_true, nI_clamp (show i < 2 ^ 31 by omega), hc, if_false, bV_e, nI_1]
      rw [f2]
      simp only [hc, hm1, if_true, if_false]
      exact ih (i + 1) _ _ k k2 (by omega) (by omega) (by omega) hq
theorem sim_bestBreath (S M : St) (x y : Int32) (h : Rel S M) : ∃ v S1 M1, fX11_bestBreath S x y = some (v, S1) ∧ fX12_bestBreath M x y = some (v, M1) ∧ Rel S1 M1 := by
  have e7 := h.2.1.2.2.2.1
  unfold fX11_bestBreath fX12_bestBreath fX4_bestTurnToWrite
  simp only [hasHouse8, isHouse12, bi_some, ite_b2i, e7, h.2.1.1, if_true, in12, rng_cls, i0, isTurn11]
  by_cases hx : hoB (M.1 55 8) x = true
  · obtain ⟨a, ha, rfl, hb⟩ := h.told hx
    have hox : ∀ t : Nat, ∃ c : Nat, t < 12 → (c ≤ 16 ∧ fX4_othersWhoRead (S.2.2 0) S (nI t) (nI a) = some (nI c, S) ∧ fX12_othersWhoRead M (nI a) (nI t) = some (nI c, M)) := by
      intro t
      by_cases ht : t < 12
      · obtain ⟨c, hc⟩ := others h ha ht
        exact ⟨c, fun _ => hc⟩
      · exact ⟨0, fun z => absurd z ht⟩
    obtain ⟨oth, hoth⟩ := Classical.axiomOfChoice hox
    obtain ⟨r, hr, i1, i2⟩ := breath_loop h ha y oth hoth 12 0 (-2) (-1) 100 100 rfl (by decide) (by decide) (Or.inl ⟨rfl, rfl⟩)
    have i1 : fX4_bestTurnToWrite_9 (S.2.2 0) 100 S (nI a) (-2) (-1) 0 = some (r, S) := i1
    have i2 : fX12_bestBreath_25 100 M (nI a) y (-2) 0 = _ := i2
    simp only [hx, if_true, i1, i2, bi_some]
    refine par (fun _ => ?_) (fun _ => ⟨_, _, _, rfl, rfl, h⟩)
    refine par (fun _ => ⟨_, _, _, rfl, rfl, h⟩) (fun _ => ?_)
    rcases hr with rfl | ⟨b, hb2, rfl⟩
    · have c1 : inR (-2) 0 11 = false := by decide
      simp only [c1, Bool.false_eq_true, if_false, if_true]
      exact ⟨_, _, _, rfl, rfl, h⟩
    · have hne : ¬ nI b = -2 := m2n (by omega)
      obtain ⟨p0, p1, p2⟩ := hoth b hb2
      simp only [tu_nI hb2, hne, if_true, if_false, p1, p2, bi_some, h.2.1.1]
      exact ⟨_, _, _, rfl, rfl, h⟩
  · simp only [hx, Bool.false_eq_true, if_false]
    exact ⟨_, _, _, rfl, rfl, h⟩
