-- crack
def allB (q : Nat → Bool) : Nat → Bool
  | 0 => true
  | n + 1 => allB q n && q n
theorem allB_t (q : Nat → Bool) : ∀ n, allB q n = true ↔ ∀ i, i < n → q i = true
  | 0 => ⟨fun _ i h => absurd h (Nat.not_lt_zero i), fun _ => rfl⟩
  | n + 1 => by
    rw [allB, Bool.and_eq_true, allB_t q n]
    constructor
    · rintro ⟨h1, h2⟩ i hi
      by_cases e : i = n
      · subst e; exact h2
      · exact h1 i (by omega)
    · intro h
      exact ⟨fun i hi => h i (by omega), h n (by omega)⟩
theorem allB_f {q : Nat → Bool} {n i : Nat} (hi : i < n) (h : ¬ q i = true) : allB q n = false := by
  cases e : allB q n with
  | false => rfl
  | true => exact absurd ((allB_t q n).mp e i hi) h
def fitC (b : Nat → Nat) (c k : Nat) : Bool := decide (c ≤ b (2 * k)) == decide (b (2 * k + 1) = 1)
theorem fits12 {M : St} {b : Nat → Nat} {n c : Nat} (hb : ∀ j, b j < 256) (hT : TapM b M) (hn : n ≤ 12) (hc : c ≤ 12) (hv : ∀ k, k < n → b (2 * k) < 12 ∧ b (2 * k + 1) ≤ 1) : ∀ m i f, i + m = n → m < f → allB (fitC b c) i = true → fX12_fits_2 f M (nI n) (nI c) (nI i) = some (b2i (allB (fitC b c) n), M) := by
  intro m
  induction m with
  | zero =>
    intro i f h1 h2 ha
    obtain ⟨f, rfl⟩ : ∃ k', f = k' + 1 := ⟨f - 1, by omega⟩
    have : i = n := by omega
    subst this
    show bX12_fits_2 _ _ _ _ _ = _
    unfold bX12_fits_2
    rw [if_pos (by rw [nle (by omega) (by omega)]; omega), ha]
    rfl
  | succ m ih =>
    intro i f h1 h2 ha
    obtain ⟨f, rfl⟩ : ∃ k', f = k' + 1 := ⟨f - 1, by omega⟩
    obtain ⟨v1, v2⟩ := hv i (by omega)
    have i2 : (2 : Int32) * nI i = nI (2 * i) := by rw [li 2, pk_mul]
    show bX12_fits_2 _ _ _ _ _ = _
    unfold bX12_fits_2 fX12_fits_23
    rw [if_neg (by rw [nle (by omega) (by omega)]; omega)]
    simp only [i2, nI_1, oct12 hb hT (show 2 * i < 260 by omega), oct12 hb hT (show 2 * i + 1 < 260 by omega), bi_some, bV_e, nlt (show b (2 * i) < 2 ^ 31 by omega) (show c < 2 ^ 31 by omega)]
    by_cases hq : fitC b c i = true
    · have h3 := ih (i + 1) f (by omega) (by omega) (by rw [allB, ha, hq]; rfl)
      unfold fitC at hq
      by_cases c1 : b (2 * i) < c
      · have c2 : ¬ c ≤ b (2 * i) := by omega
        have c3 : ¬ b (2 * i + 1) = 1 := by simpa [c2] using hq
        have c4 : b (2 * i + 1) = 0 := by omega
        rw [if_pos c1, c4, if_pos nI_0.symm]
        exact h3
      · have c2 : c ≤ b (2 * i) := by omega
        have c3 : b (2 * i + 1) = 1 := by simpa [c2] using hq
        rw [if_neg c1, c3, if_pos (show (1 : Int32) = nI 1 from rfl)]
        exact h3
    · rw [allB_f (show i < n by omega) hq]
      unfold fitC at hq
      by_cases c1 : b (2 * i) < c
      · have c2 : ¬ c ≤ b (2 * i) := by omega
        have c3 : b (2 * i + 1) = 1 := by simpa [c2] using hq
        rw [if_pos c1, c3, if_neg (by decide)]
        rfl
      · have c2 : c ≤ b (2 * i) := by omega
        have c3 : ¬ b (2 * i + 1) = 1 := by simpa [c2] using hq
        have c4 : b (2 * i + 1) = 0 := by omega
        rw [if_neg c1, c4, if_neg (by decide)]
        rfl
def vaB (b : Nat → Nat) (k : Nat) : Bool := decide (b (2 * k) < 12) && decide (b (2 * k + 1) ≤ 1)
theorem up_to {t : Nat} (ht : t < 12) : ((2 : Int32) <<< (nI t &&& 31)) - 1 = nI (2 ^ (t + 1) - 1) := by
  have hp : 2 ^ t ≤ 2 ^ 11 := Nat.pow_le_pow_right (by decide) (by omega)
  have hp2 : 0 < 2 ^ (t + 1) := Nat.two_pow_pos _
  rw [li 2, shl_nI (by omega) (by omega), li 1, pk_sub (by omega), Nat.pow_succ, Nat.mul_comm]
theorem set_and_le (q : Nat → Bool) {t : Nat} (ht : t < 12) : nI (setN q 13) &&& (((2 : Int32) <<< (nI t &&& 31)) - 1) = nI (setN (fun c => q c && decide (c ≤ t)) 13) := by
  rw [up_to ht, and_nI]
  congr 1
  apply Nat.eq_of_testBit_eq
  intro i
  rw [Nat.testBit_and, setN_tb, setN_tb, Nat.testBit_two_pow_sub_one]
  have e : decide (i < t + 1) = decide (i ≤ t) := by simp [Nat.lt_succ_iff]
  rw [e, Bool.and_assoc]
theorem set_and_gt (q : Nat → Bool) {t : Nat} (ht : t < 12) : nI (setN q 13) &&& ((((2 : Int32) <<< (nI t &&& 31)) - 1) ^^^ (-1 : Int32)) = nI (setN (fun c => q c && !decide (c ≤ t)) 13) := by
  have hs := setN_lt q 13
  rw [up_to ht, and_any (by omega)]
  congr 1
  apply Nat.eq_of_testBit_eq
  intro i
  rw [Nat.testBit_and, setN_tb, setN_tb]
  by_cases hi : i < 13
  · rw [not_tb (by omega), BitVec.getLsbD_ofNat, Nat.testBit_two_pow_sub_one]
    have e : decide (i < t + 1) = decide (i ≤ t) := by simp [Nat.lt_succ_iff]
    rw [e]
    simp [show i < 32 by omega, Bool.and_assoc]
  · simp [hi]
theorem poss24 {S : St} {b : Nat → Nat} {z n : Nat} (hb : ∀ j, b j < 256) (hT : TapS b z S) (hz : z ≤ 260) (hn : 2 * n ≤ z) (h12 : n ≤ 12) : ∀ m i f, i + m = n → m < f → allB (vaB b) i = true → fX1_possibleCracks_24 f S (nI n) (nI (setN (fun c => allB (fitC b c) i) 13)) (nI i) = (if allB (vaB b) n = true then some (nI (setN (fun c => allB (fitC b c) n) 13), S) else some (-3, S)) := by
  intro m
  induction m with
  | zero =>
    intro i f h1 h2 ha
    obtain ⟨f, rfl⟩ : ∃ k', f = k' + 1 := ⟨f - 1, by omega⟩
    have : i = n := by omega
    subst this
    show bX1_possibleCracks_24 _ _ _ _ _ = _
    unfold bX1_possibleCracks_24
    rw [if_pos (by rw [nle (by omega) (by omega)]; omega), if_pos ha]
  | succ m ih =>
    intro i f h1 h2 ha
    obtain ⟨f, rfl⟩ : ∃ k', f = k' + 1 := ⟨f - 1, by omega⟩
    have i2 : (2 : Int32) * nI i = nI (2 * i) := by rw [li 2, pk_mul]
    show bX1_possibleCracks_24 _ _ _ _ _ = _
    unfold bX1_possibleCracks_24
    rw [if_neg (by rw [nle (by omega) (by omega)]; omega)]
    simp only [i2, nI_1, byte7 hT hz (show 2 * i < z by omega), byte7 hT hz (show 2 * i + 1 < z by omega), bi_some, bV_e, isTurn11, ite_b2i]
    by_cases hv : vaB b i = true
    · have h3 := ih (i + 1) f (by omega) (by omega) (by rw [allB, ha, hv]; rfl)
      unfold vaB at hv
      simp only [Bool.and_eq_true, decide_eq_true_eq] at hv
      obtain ⟨v1, v2⟩ := hv
      rw [tu_nI v1, if_pos rfl, li 1, if_pos (by rw [nle (by omega) (by decide)]; exact v2)]
      by_cases c1 : b (2 * i + 1) = 1
      · rw [c1, if_pos rfl, ← li 1, set_and_le _ v1]
        rw [setN_congr (r := fun c => allB (fitC b c) (i + 1)) (fun c hc => by
          rw [allB, fitC, c1]
          simp)]
        exact h3
      · have c4 : b (2 * i + 1) = 0 := by omega
        rw [c4, if_neg (by decide), ← li 1, set_and_gt _ v1]
        rw [setN_congr (r := fun c => allB (fitC b c) (i + 1)) (fun c hc => by
          rw [allB, fitC, c4]
          simp)]
        exact h3
    · have hb1 := hb (2 * i)
      have hb2 := hb (2 * i + 1)
      rw [allB_f (show i < n by omega) hv]
      simp only [Bool.false_eq_true, if_false]
      unfold vaB at hv
      by_cases c1 : b (2 * i) < 12
      · have c2 : ¬ b (2 * i + 1) ≤ 1 := by simpa [c1] using hv
        rw [tu_nI c1, if_pos rfl, li 1, if_neg (by rw [nle (by omega) (Nat.le_of_ble_eq_true rfl)]; exact c2)]
      · have c2 : inR (nI (b (2 * i))) 0 11 = false := by
          rw [show (11 : Int) = ((11 : Nat) : Int) from rfl, inR_nI (by omega)]
          simp
          omega
        rw [c2]
        simp
theorem poss1 {S : St} {b : Nat → Nat} {z n : Nat} (hb : ∀ j, b j < 256) (hT : TapS b z S) (hz : z ≤ 260) (hn : 2 * n ≤ z) (h12 : n ≤ 12) : fX1_possibleCracks S (nI n) = (if allB (vaB b) n = true then some (nI (setN (fun c => allB (fitC b c) n) 13), S) else some (-3, S)) := by
  unfold fX1_possibleCracks
  refine (set_loop (F := fun k x i => fX1_possibleCracks_4 k S (nI n) x (nI i)) (fun _ => true) 13 (by decide) (fun x => fX1_possibleCracks_24 100 S (nI n) x 0) ?_ ?_ (by decide)).trans (poss24 hb hT hz hn h12 n 0 100 (by omega) (by omega) rfl)
  · intro k x i hi
    show bX1_possibleCracks_4 _ _ _ _ _ = _
    unfold bX1_possibleCracks_4
    rw [li 12, if_neg (by rw [nlt (by decide) (by omega)]; omega)]
    simp only [bV_e, nI_1, if_true]
  · intro k x
    show bX1_possibleCracks_4 _ _ _ _ _ = _
    unfold bX1_possibleCracks_4
    rw [if_pos (by decide)]
def whR (q : Nat → Bool) (r : Nat → Int32) : Nat → Int32
  | 0 => 0
  | i + 1 => if q i = true then (if r i = -1 then whR q r i else whR q r i ||| ((1 : Int32) <<< (r i &&& 31))) else whR q r i
theorem holders4 {S M : St} (h : Rel S M) (q : Nat → Bool) (S' : St) (hS : ∀ j, S'.1 9 j = S.1 9 j) : ∀ m i f, i + m = 12 → m < f → fX4_holdersOf_4 f S' (nI (setN q 13)) (whR q (M.1 59) i) (nI i) = some (whR q (M.1 59) 12, S') := by
  intro m
  induction m with
  | zero =>
    intro i f h1 h2
    obtain ⟨f, rfl⟩ : ∃ k', f = k' + 1 := ⟨f - 1, by omega⟩
    have : i = 12 := by omega
    subst this
    show bX4_holdersOf_4 _ _ _ _ _ = _
    unfold bX4_holdersOf_4
    rw [if_pos (by decide)]
  | succ m ih =>
    intro i f h1 h2
    obtain ⟨f, rfl⟩ : ∃ k', f = k' + 1 := ⟨f - 1, by omega⟩
    have hs := setN_lt q 13
    have hq : hsB (nI (setN q 13)) (nI i) = q i := by
      rw [hsB_nI (by omega) (by omega), setN_tb]
      simp [show i < 13 by omega]
    have h3 := ih (i + 1) f (by omega) (by omega)
    rw [whR] at h3
    show bX4_holdersOf_4 _ _ _ _ _ = _
    unfold bX4_holdersOf_4
    rw [li 12, if_neg (by rw [nle (by decide) (by omega)]; omega)]
    simp only [hs_prop, hq, inbT (show i < 12 by omega) (show 12 < 2 ^ 31 by decide), if_true, nI_clamp (show i < 2 ^ 31 by omega), hS, (h.2.2.1 i (by omega)).1, bV_e, nI_1]
    by_cases c1 : q i = true
    · by_cases c2 : M.1 59 i = -1
      · simp only [c1, c2, if_true] at h3 ⊢
        exact h3
      · simp only [c1, c2, if_true, if_false] at h3 ⊢
        exact h3
    · simp only [c1, Bool.false_eq_true, if_false] at h3 ⊢
      exact h3
theorem crack85 {M : St} {b : Nat → Nat} {n : Nat} (x : Int32) (hb : ∀ j, b j < 256) (hT : TapM b M) (hn : n ≤ 12) (hv : ∀ k, k < n → b (2 * k) < 12 ∧ b (2 * k + 1) ≤ 1) : ∀ m i f, i + m = 13 → m < f → fX12_crack_85 f M (nI n) x (nI (setN (fun c => allB (fitC b c) n) i)) (whR (fun c => allB (fitC b c) n) (M.1 59) (min i 12)) (nI i) = (if x = 0 then some (nI (setN (fun c => allB (fitC b c) n) 13), M) else some (whR (fun c => allB (fitC b c) n) (M.1 59) 12, M)) := by
  intro m
  induction m with
  | zero =>
    intro i f h1 h2
    obtain ⟨f, rfl⟩ : ∃ k', f = k' + 1 := ⟨f - 1, by omega⟩
    have : i = 13 := by omega
    subst this
    show bX12_crack_85 _ _ _ _ _ _ _ = _
    unfold bX12_crack_85
    rw [if_pos (by decide)]
    rfl
  | succ m ih =>
    intro i f h1 h2
    obtain ⟨f, rfl⟩ : ∃ k', f = k' + 1 := ⟨f - 1, by omega⟩
    have h3 := ih (i + 1) f (by omega) (by omega)
    have g : fX12_fits M (nI n) (nI i) = some (b2i (allB (fitC b i) n), M) := fits12 hb hT hn (by omega) hv n 0 100 (by omega) (by omega) rfl
    have e1 : (1 : Int32) <<< (nI i &&& 31) = nI (2 ^ i) := by
      have hp : 2 ^ i ≤ 2 ^ 16 := Nat.pow_le_pow_right (by decide) (by omega)
      have := shl_nI (a := 1) (k := i) (by omega) (by omega)
      rw [li 1, this, Nat.one_mul]
    rw [setN] at h3
    show bX12_crack_85 _ _ _ _ _ _ _ = _
    unfold bX12_crack_85
    rw [li 12, if_neg (by rw [nlt (by decide) (by omega)]; omega)]
    simp only [g, bi_some, ite_b2i, bV_e, nI_1, e1, or_nI, nle (show 12 < 2 ^ 31 by decide) (show i < 2 ^ 31 by omega)]
    by_cases hi : i < 12
    · rw [show min (i + 1) 12 = i + 1 by omega, whR] at h3
      rw [show min i 12 = i by omega]
      simp only [show ¬ 12 ≤ i by omega, inbT hi (show 12 < 2 ^ 31 by decide), if_true, if_false, nI_clamp (show i < 2 ^ 31 by omega)]
      by_cases c1 : allB (fitC b i) n = true
      · by_cases c2 : M.1 59 i = -1
        · simp only [c1, c2, if_true] at h3 ⊢
          exact h3
        · simp only [c1, c2, if_true, if_false] at h3 ⊢
          exact h3
      · simp only [c1, Bool.false_eq_true, if_false, Nat.or_zero] at h3 ⊢
        exact h3
    · have : i = 12 := by omega
      subst this
      rw [show min (12 + 1) 12 = 12 by decide] at h3
      rw [show min 12 12 = 12 by decide]
      simp only [Nat.le_refl, if_true]
      by_cases c1 : allB (fitC b 12) n = true
      · simp only [c1, if_true] at h3 ⊢
        exact h3
      · simp only [c1, Bool.false_eq_true, if_false, Nat.or_zero] at h3 ⊢
        exact h3
theorem crack38 {M : St} {b : Nat → Nat} {n : Nat} (x : Int32) (hb : ∀ j, b j < 256) (hT : TapM b M) (hn : n ≤ 12) : ∀ m i f, i + m = n → m < f → allB (vaB b) i = true → fX12_crack_38 f M (nI n) x (nI i) = (if allB (vaB b) n = true then fX12_crack_85 100 M (nI n) x 0 0 0 else some (-3, M)) := by
  intro m
  induction m with
  | zero =>
    intro i f h1 h2 ha
    obtain ⟨f, rfl⟩ : ∃ k', f = k' + 1 := ⟨f - 1, by omega⟩
    have : i = n := by omega
    subst this
    show bX12_crack_38 _ _ _ _ _ = _
    unfold bX12_crack_38
    rw [if_pos (by rw [nle (by omega) (by omega)]; omega), if_pos ha]
  | succ m ih =>
    intro i f h1 h2 ha
    obtain ⟨f, rfl⟩ : ∃ k', f = k' + 1 := ⟨f - 1, by omega⟩
    have i2 : (2 : Int32) * nI i = nI (2 * i) := by rw [li 2, pk_mul]
    have hb1 := hb (2 * i)
    have hb2 := hb (2 * i + 1)
    show bX12_crack_38 _ _ _ _ _ = _
    unfold bX12_crack_38
    rw [if_neg (by rw [nle (by omega) (by omega)]; omega)]
    simp only [i2, nI_1, oct12 hb hT (show 2 * i < 260 by omega), oct12 hb hT (show 2 * i + 1 < 260 by omega), bi_some, bV_e, li 12, nle (show 12 < 2 ^ 31 by decide) (show b (2 * i) < 2 ^ 31 by omega)]
    by_cases hv : vaB b i = true
    · have h3 := ih (i + 1) f (by omega) (by omega) (by rw [allB, ha, hv]; rfl)
      unfold vaB at hv
      simp only [Bool.and_eq_true, decide_eq_true_eq] at hv
      obtain ⟨v1, v2⟩ := hv
      rw [if_neg (by omega), li 1, if_pos (by rw [nle (by omega) (Nat.le_of_ble_eq_true rfl)]; exact v2)]
      exact h3
    · rw [allB_f (show i < n by omega) hv]
      simp only [Bool.false_eq_true, if_false]
      unfold vaB at hv
      by_cases c1 : b (2 * i) < 12
      · have c2 : ¬ b (2 * i + 1) ≤ 1 := by simpa [c1] using hv
        rw [if_neg (by omega), li 1, if_neg (by rw [nle (by omega) (Nat.le_of_ble_eq_true rfl)]; exact c2)]
      · rw [if_pos (by omega)]
theorem sim_crack (S M : St) (x y : Int32) (h : Rel S M) : ∃ v S1 M1, fX11_crack S x y = some (v, S1) ∧ fX12_crack M x y = some (v, M1) ∧ Rel S1 M1 := by
  obtain ⟨b, z, hz, hb, hT, hT2, hz2⟩ := h.tap
  unfold fX11_crack fX12_crack
  simp only [in12, bi_some, ite_b2i, rng2, i0, i1, i12]
  by_cases hx : inR x 1 12 = true
  · obtain ⟨n, h0, h12, rfl⟩ := inR_natL (m := 1) (n := 12) hx (by decide)
    by_cases hy : inR y 0 1 = true
    · have i2 : (2 : Int32) * nI n = nI (2 * n) := by rw [li 2, pk_mul]
      simp only [hx, hy, if_true, i2, holds7 hT hz (show 2 * n < 2 ^ 31 by omega), bi_some, ite_b2i, hz2, nle (show 2 * n < 2 ^ 31 by omega) (show z < 2 ^ 31 by omega), bS_e]
      by_cases hn : 2 * n ≤ z
      · have g2 : fX12_crack_38 100 (pI M 55 11 0) (nI n) y 0 = _ := crack38 y hb (hT2.clr 0) h12 n 0 100 (by omega) (by omega) rfl
        have r59 : (pI M 55 11 0).1 59 = M.1 59 := pI_row M _ (by decide)
        simp only [hn, decide_true, if_true, poss1 hb hT hz hn h12, g2]
        by_cases hv : allB (vaB b) n = true
        · have hv2 : ∀ k, k < n → b (2 * k) < 12 ∧ b (2 * k + 1) ≤ 1 := by
            intro k hk
            have := (allB_t _ _).mp hv k hk
            unfold vaB at this
            simpa using this
          have g3 : fX12_crack_85 100 (pI M 55 11 0) (nI n) y 0 0 0 = _ := crack85 y hb (hT2.clr 0) h12 hv2 13 0 100 (by omega) (by omega)
          have g4 : fX4_holdersOf (pI S 1 1 0) (nI (setN (fun c => allB (fitC b c) n) 13)) = _ := holders4 h (fun c => allB (fitC b c) n) (pI S 1 1 0) (fun j => by rw [pI_row S _ (by decide)]) 12 0 100 (by omega) (by omega)
          have hp : (0 : Int32) ≤ nI (setN (fun c => allB (fitC b c) n) 13) := nI_pos' (by have := setN_lt (fun c => allB (fitC b c) n) 13; omega)
          simp only [hv, if_true, g3, g4, bi_some, clear7, bv_some, hp, r59]
          refine par (fun _ => ⟨_, _, _, rfl, rfl, h.clr⟩) (fun _ => ⟨_, _, _, rfl, rfl, h.clr⟩)
        · have hm3 : ¬ (0 : Int32) ≤ -3 := by decide
          simp only [hv, Bool.false_eq_true, if_false, bi_some, clear7, bv_some, hm3, ite_self]
          exact ⟨_, _, _, rfl, rfl, h.clr⟩
      · simp only [hn, decide_false, Bool.false_eq_true, if_false]
        exact ⟨_, _, _, rfl, rfl, h⟩
    · simp only [hx, hy, if_true]
      exact ⟨_, _, _, rfl, rfl, h⟩
  · simp only [hx]
    exact ⟨_, _, _, rfl, rfl, h⟩
