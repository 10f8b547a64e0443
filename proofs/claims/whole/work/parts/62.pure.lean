-- seeing
def gv (x : Int32) : Nat := x.toNatClampNeg
theorem gv_nI {n : Nat} (h : n < 2 ^ 31) : gv (nI n) = n := nI_clamp h
def besB (f s : Nat) : Bool := decide ((s + 12 - f) % 12 < 2) || decide ((s + 12 - f) % 12 = 11)
def thenB (a b t : Nat) : Bool := if b < a then decide (a ≤ t) || !decide (b < t) else decide (a ≤ t) && decide (t ≤ b)
def hN (M : St) : Nat := gv (M.1 55 8)
def tN (M : St) : Nat := gv (M.1 55 9)
def seeB (M : St) (h p t : Nat) : Bool := besB (gv (M.1 60 h)) (gv (M.1 61 p)) && thenB (gv (M.1 62 p)) (gv (M.1 63 p)) t
def seenN (M : St) (h t : Nat) : Nat := setN (fun p => (tN M).testBit p && seeB M h p t) 16
def everN (M : St) (h : Nat) : Nat := setN (fun p => (tN M).testBit p && besB (gv (M.1 60 h)) (gv (M.1 61 p))) 16
/-- what holds of the model's street -/
def IvS (M : St) : Prop := (M.1 55 8 = nI (hN M) ∧ hN M < 65536) ∧ (M.1 55 9 = nI (tN M) ∧ tN M < 65536) ∧ (∀ o, 60 ≤ o → o ≤ 63 → ∀ h, h < 16 → M.1 o h = nI (gv (M.1 o h)) ∧ gv (M.1 o h) < 12)
theorem off12 : ∀ s, s < 12 → ∀ f, f < 12 → (nI s - nI f) + 12 = nI (s + 12 - f) := by decide +kernel
theorem rem_nI {a d : Nat} (ha : a < 2 ^ 31) (h0 : 0 < d) (hd : d < 2 ^ 31) : nI a - nI a / nI d * nI d = nI (a % d) := pk_rem ha h0 hd
theorem isSeen_39 (M : St) {p t a b : Nat} (s0 : Bool) (hp : p < 16) (ht : t < 2 ^ 31) (ha : a < 12) (hb : b < 12) (e3 : M.1 62 p = nI a) (e4 : M.1 63 p = nI b) : fX12_isSeen_39 M (nI p) (nI t) (b2i s0) = some (b2i (s0 && thenB a b t), M) := by
  unfold fX12_isSeen_39 fX12_isSeen_100 fX12_isSeen_116
  simp only [inbT hp (by decide), if_true, nI_clamp (show p < 2 ^ 31 by omega), e3, e4, nlt (show b < 2 ^ 31 by omega) (show a < 2 ^ 31 by omega), nlt (show b < 2 ^ 31 by omega) ht, nle (show a < 2 ^ 31 by omega) ht, in12, bi_some, nI_toInt (show a < 2 ^ 31 by omega), nI_toInt (show b < 2 ^ 31 by omega)]
  unfold thenB
  by_cases h1 : b < a
  · by_cases h2 : a ≤ t
    · cases s0 <;> simp [h1, h2, b2i]
    · by_cases h3 : b < t <;> cases s0 <;> simp [h1, h2, h3, b2i]
  · have e5 : inR (nI t) (a : Int) (b : Int) = (decide (a ≤ t) && decide (t ≤ b)) := by
      rw [Bool.eq_iff_iff, inR_t, nI_toInt ht]
      simp
    rw [if_neg h1, if_neg h1, e5]
    by_cases h2 : a ≤ t <;> by_cases h3 : t ≤ b <;> cases s0 <;> simp [h2, h3, b2i]
theorem isSeen12 {M : St} (hM : IvS M) {h p t : Nat} (hh : h < 16) (hp : p < 16) (ht : t < 2 ^ 31) : fX12_isSeen M (nI h) (nI p) (nI t) = some (b2i (seeB M h p t), M) := by
  obtain ⟨-, -, hA⟩ := hM
  obtain ⟨e1, l1⟩ := hA 60 (by decide) (by decide) h hh
  obtain ⟨e2, l2⟩ := hA 61 (by decide) (by decide) p hp
  obtain ⟨e3, l3⟩ := hA 62 (by decide) (by decide) p hp
  obtain ⟨e4, l4⟩ := hA 63 (by decide) (by decide) p hp
  unfold fX12_isSeen
  simp only [inbT hp (show 16 < 2 ^ 31 by decide), inbT hh (show 16 < 2 ^ 31 by decide), if_true, nI_clamp (show p < 2 ^ 31 by omega), nI_clamp (show h < 2 ^ 31 by omega), bV_e]
  rw [e1, e2, off12 _ l2 _ l1, li 12, rem_nI (by omega) (by decide) (by decide)]
  unfold seeB
  generalize gv (M.1 60 h) = f at *
  generalize gv (M.1 61 p) = s at *
  have hm : (s + 12 - f) % 12 < 12 := Nat.mod_lt _ (by decide)
  have q1 : fX12_isSeen_39 M (nI p) (nI t) 1 = _ := isSeen_39 M true hp ht l3 l4 e3 e4
  have q0 : fX12_isSeen_39 M (nI p) (nI t) 0 = _ := isSeen_39 M false hp ht l3 l4 e3 e4
  simp only [li 2, li 11, nlt (show (s + 12 - f) % 12 < 2 ^ 31 by omega) (show 2 < 2 ^ 31 by decide), neq (show (s + 12 - f) % 12 < 2 ^ 31 by omega) (show 11 < 2 ^ 31 by decide), q1, q0]
  unfold besB
  by_cases h1 : (s + 12 - f) % 12 < 2
  · simp [h1]
  · by_cases h2 : (s + 12 - f) % 12 = 11 <;> simp [h1, h2]
theorem hoB_nI {a k : Nat} (ha : a < 2 ^ 31) (hk : k < 2 ^ 31) : hoB (nI a) (nI k) = (decide (k < 16) && a.testBit k) := by
  unfold hoB
  rw [show (15 : Int) = ((15 : Nat) : Int) from rfl, inR_nI hk]
  by_cases h : k < 16
  · rw [hsB_nI ha (by omega)]
    have : k ≤ 15 := by omega
    simp [h, this]
  · have : ¬ k ≤ 15 := by omega
    simp [h, this]
theorem seenBy12 {M : St} (hM : IvS M) {h t : Nat} (hh : h < 16) (ht : t < 2 ^ 31) : fX12_seenBy M (nI h) (nI t) = some (nI (seenN M h t), M) := by
  unfold fX12_seenBy seenN
  refine set_loop (F := fun k x i => fX12_seenBy_5 k M (nI h) (nI t) x (nI i)) _ 16 (by decide) (fun x => some (x, M)) ?_ ?_ (by decide)
  · intro k x i hi
    show bX12_seenBy_5 _ _ _ _ _ _ = _
    unfold bX12_seenBy_5
    rw [li 16, if_neg (by rw [nle (by decide) (by omega)]; omega)]
    simp only [isThing12, bi_some, ite_b2i, isSeen12 hM hh hi ht, bV_e, hM.2.1.1, hoB_nI (show tN M < 2 ^ 31 by have := hM.2.1.2; omega) (show i < 2 ^ 31 by omega), li 1, nI_add]
    have : decide (i < 16) = true := by simpa using hi
    rw [this, Bool.true_and]
    by_cases h1 : (tN M).testBit i = true <;> by_cases h2 : seeB M h i t = true <;> simp [h1, h2]
  · intro k x
    show bX12_seenBy_5 _ _ _ _ _ _ = _
    unfold bX12_seenBy_5
    rw [if_pos (by decide)]
theorem then_ex {a b : Nat} (ha : a < 12) : thenB a b a = true := by
  unfold thenB
  by_cases h : b < a
  · simp [h]
  · have : a ≤ b := by omega
    simp [h, this]
theorem seenN_lt (M : St) (h t : Nat) : seenN M h t < 65536 := setN_lt _ 16
theorem everN_lt (M : St) (h : Nat) : everN M h < 65536 := setN_lt _ 16
def orN (g : Nat → Nat) : Nat → Nat
  | 0 => 0
  | n + 1 => orN g n ||| g n
theorem orN_tb (g : Nat → Nat) (j : Nat) : ∀ n, (orN g n).testBit j = true ↔ ∃ t, t < n ∧ (g t).testBit j = true
  | 0 => by simp [orN]
  | n + 1 => by
    rw [orN, Nat.testBit_or, Bool.or_eq_true, orN_tb g j n]
    constructor
    · rintro (⟨t, h1, h2⟩ | h)
      · exact ⟨t, by omega, h2⟩
      · exact ⟨n, by omega, h⟩
    · rintro ⟨t, h1, h2⟩
      by_cases h : t = n
      · subst h; exact Or.inr h2
      · exact Or.inl ⟨t, by omega, h2⟩
theorem orN_lt (g : Nat → Nat) (hg : ∀ t, g t < 65536) : ∀ n, orN g n < 65536
  | 0 => by show 0 < 65536; decide
  | n + 1 => Nat.or_lt_two_pow (n := 16) (orN_lt g hg n) (hg n)
theorem orN_ever {M : St} (hM : IvS M) {h : Nat} (hh : h < 16) : orN (seenN M h) 12 = everN M h := by
  apply Nat.eq_of_testBit_eq
  intro j
  rw [Bool.eq_iff_iff, orN_tb]
  unfold everN seenN
  simp only [setN_tb, Bool.and_eq_true, decide_eq_true_eq]
  constructor
  · rintro ⟨t, ht, hj, h1, h2⟩
    unfold seeB at h2
    rw [Bool.and_eq_true] at h2
    exact ⟨hj, h1, h2.1⟩
  · rintro ⟨hj, h1, h2⟩
    obtain ⟨e3, l3⟩ := hM.2.2 62 (by decide) (by decide) j hj
    refine ⟨gv (M.1 62 j), l3, hj, h1, ?_⟩
    unfold seeB
    rw [h2, then_ex l3]
    rfl
theorem everSeenBy12_loop {M : St} (hM : IvS M) {h : Nat} (hh : h < 16) : ∀ n i k, i + n = 12 → n < k → fX12_everSeenBy_4 k M (nI h) (nI (orN (seenN M h) i)) (nI i) = some (nI (orN (seenN M h) 12), M) := by
  intro n
  induction n with
  | zero =>
    intro i k h1 h2
    obtain ⟨k, rfl⟩ : ∃ k', k = k' + 1 := ⟨k - 1, by omega⟩
    have : i = 12 := by omega
    subst this
    show bX12_everSeenBy_4 _ _ _ _ _ = _
    unfold bX12_everSeenBy_4
    rw [if_pos (by decide)]
  | succ n ih =>
    intro i k h1 h2
    obtain ⟨k, rfl⟩ : ∃ k', k = k' + 1 := ⟨k - 1, by omega⟩
    show bX12_everSeenBy_4 _ _ _ _ _ = _
    unfold bX12_everSeenBy_4
    rw [li 12, if_neg (by rw [nle (by decide) (by omega)]; omega)]
    simp only [bV_e, seenBy12 hM hh (show i < 2 ^ 31 by omega), bi_some, or_nI, li 1, nI_add]
    exact ih (i + 1) k (by omega) (by omega)
theorem everSeenBy12 {M : St} (hM : IvS M) {h : Nat} (hh : h < 16) : fX12_everSeenBy M (nI h) = some (nI (everN M h), M) := by
  rw [← orN_ever hM hh]
  exact everSeenBy12_loop hM hh 12 0 100 rfl (by decide)
