-- halves
theorem tI_sub {x y : Int32} (h1 : -2147483648 ≤ x.toInt - y.toInt) (h2 : x.toInt - y.toInt < 2147483648) : (x - y).toInt = x.toInt - y.toInt := by
  rw [Int32.toInt_sub]
  exact Int.bmod_eq_of_le (by omega) (by omega)
theorem tI_add {x y : Int32} (h1 : -2147483648 ≤ x.toInt + y.toInt) (h2 : x.toInt + y.toInt < 2147483648) : (x + y).toInt = x.toInt + y.toInt := by
  rw [Int32.toInt_add]
  exact Int.bmod_eq_of_le (by omega) (by omega)
def DI (b : Nat → Nat) : Nat → Nat → Int
  | 0, i => b i
  | l + 1, i => max ((b i : Int) - DI b l (i + 1)) ((b (i + l + 1) : Int) - DI b l i)
theorem DI_bd {b : Nat → Nat} (hb : ∀ j, b j < 256) : ∀ (l i : Nat), -(255 * ((l : Int) + 1)) ≤ DI b l i ∧ DI b l i ≤ 255 * ((l : Int) + 1)
  | 0, i => by
    have := hb i
    rw [DI]
    omega
  | l + 1, i => by
    have h1 := DI_bd hb l (i + 1)
    have h2 := DI_bd hb l i
    have := hb i
    have := hb (i + l + 1)
    rw [DI]
    omega
def smN (b : Nat → Nat) (i : Nat) : Nat → Nat
  | 0 => 0
  | k + 1 => smN b i k + b (i + k)
theorem smN_bd {b : Nat → Nat} (hb : ∀ j, b j < 256) (i : Nat) : ∀ k, smN b i k ≤ 255 * k
  | 0 => Nat.le_refl _
  | k + 1 => by
    have := smN_bd hb i k
    have := hb (i + k)
    rw [smN]
    omega
theorem smN_sh (b : Nat → Nat) (i : Nat) : ∀ k, smN b i (k + 1) = b i + smN b (i + 1) k
  | 0 => by rw [smN, smN, smN]; simp
  | k + 1 => by
    rw [smN, smN_sh b i k, smN, show i + (k + 1) = i + 1 + k by omega]
    omega
/-- only one object's cells change -/
def Ex (o : Nat) (S S' : St) : Prop := S'.2 = S.2 ∧ ∀ j, j ≠ o → S'.1 j = S.1 j
theorem Ex.rf (o : Nat) (S : St) : Ex o S S := ⟨rfl, fun _ _ => rfl⟩
theorem Ex.tr {o : Nat} {S S1 S2 : St} (h : Ex o S S1) (h2 : Ex o S1 S2) : Ex o S S2 := ⟨h2.1.trans h.1, fun j hj => (h2.2 j hj).trans (h.2 j hj)⟩
theorem Ex.put {o : Nat} {S S1 : St} (h : Ex o S S1) (k : Nat) (v : Int32) : Ex o S (pI S1 o k v) := ⟨h.1, fun j hj => (pI_row S1 v hj).trans (h.2 j hj)⟩
theorem Ex.tapS {o : Nat} {S S' : St} {b : Nat → Nat} {z : Nat} (h : Ex o S S') (h1 : o ≠ 1) (h2 : o ≠ 2) (hT : TapS b z S) : TapS b z S' := ⟨by rw [h.2 1 (Ne.symm h1)]; exact hT.1, fun j hj => by rw [h.2 2 (Ne.symm h2)]; exact hT.2 j hj⟩
theorem Ex.tapM {o : Nat} {M M' : St} {b : Nat → Nat} (h : Ex o M M') (h1 : o ≠ 64) (hT : TapM b M) : TapM b M' := fun j hj => by rw [h.2 64 (Ne.symm h1)]; exact hT j hj
theorem Ex.eqC {o : Nat} {S S' : St} (h : Ex o S S') (ho : ∀ k, ¬ coreC (S.2.2 0) (S.2.2 2) o k) : EqC S S' := ⟨by rw [h.1], fun a k hc => by
  have : a ≠ o := by rintro rfl; exact ho k hc
  rw [h.2 a this]⟩
theorem Ex.eqM {o : Nat} {M M' : St} (h : Ex o M M') (ho : ∀ k, ¬ coreM o k) : EqM M M' := fun a k hc => by
  have : a ≠ o := by rintro rfl; exact ho k hc
  rw [h.2 a this]
theorem Rel.nc {S M : St} (h : Rel S M) {o : Nat} (h1 : 10 ≤ o) (h2 : o ≤ 18) (k : Nat) : ¬ coreC (S.2.2 0) (S.2.2 2) o k := by
  have hT := h.2.1.1
  have hR := h.2.2.2.2.2.2.2.1
  unfold isT at hT
  unfold isL at hR
  unfold coreC
  omega
theorem share4 {S0 : St} {b : Nat → Nat} {z n : Nat} (hb : ∀ j, b j < 256) (hT : TapS b z S0) (hz : z ≤ 260) (hn : n ≤ z) (h12 : n ≤ 12) : ∃ s : St × Int32, (Ex 16 S0 s.1 ∧ s.2 = nI (smN b 0 n) ∧ ∀ j, j < n → (s.1.1 16 j).toInt = DI b 0 j) ∧ fX1_firstShare S0 (nI n) = fX1_firstShare_46 100 s.1 (nI n) s.2 2 := by
  refine loop_inv (F := fun f (s : St × Int32) i => fX1_firstShare_4 f s.1 (nI n) s.2 (nI i)) (fun i s => Ex 16 S0 s.1 ∧ s.2 = nI (smN b 0 i) ∧ ∀ j, j < i → (s.1.1 16 j).toInt = DI b 0 j) (fun s => fX1_firstShare_46 100 s.1 (nI n) s.2 2) n ?_ ?_ n 100 (S0, 0) 0 (by omega) (by omega) ⟨Ex.rf _ _, rfl, fun j hj => absurd hj (Nat.not_lt_zero j)⟩
  · intro f s i hi ⟨p1, p2, p3⟩
    have hbi := hb i
    have hT2 := p1.tapS (by decide) (by decide) hT
    refine ⟨(pI s.1 16 i (nI (b i)), nI (smN b 0 (i + 1))), ?_, p1.put i _, rfl, fun j hj => ?_⟩
    · show bX1_firstShare_4 _ _ _ _ _ = _
      unfold bX1_firstShare_4
      rw [if_neg (by rw [nle (by omega) (by omega)]; omega), li 12, if_neg (by rw [nle (by decide) (by omega)]; omega)]
      simp only [byte7 hT2 hz (show i < z by omega), bi_some, inbT (show i < 12 by omega) (show 12 < 2 ^ 31 by decide), if_true, nI_clamp (show i < 2 ^ 31 by omega), bS_e, bV_e, nI_1, pI_same, p2, nI_add, smN, Nat.zero_add]
    · by_cases e : j = i
      · subst e
        rw [pI_same, nI_toInt (by omega)]
        rfl
      · rw [pI_cell _ _ (by omega)]
        exact p3 j (by omega)
  · intro f s _
    show bX1_firstShare_4 _ _ _ _ _ = _
    unfold bX1_firstShare_4
    rw [if_pos (by rw [nle (by omega) (by omega)]; omega)]
theorem share54 {S0 : St} {b : Nat → Nat} {z n l : Nat} (rc : St → Int32 → Int32 → Int32 → Option (Int32 × St)) (x : Int32) (hb : ∀ j, b j < 256) (hT : TapS b z S0) (hz : z ≤ 260) (hn : n ≤ z) (h12 : n ≤ 12) (hl : l + 2 ≤ n) (h0 : ∀ j, j + l < n → (S0.1 16 j).toInt = DI b l j) : ∃ S', (Ex 16 S0 S' ∧ ∀ j, j + l + 1 < n → (S'.1 16 j).toInt = DI b (l + 1) j) ∧ fX1_firstShare_54 rc 100 S0 (nI n) x (nI (l + 2)) 0 = rc S' (nI n) x (nI (l + 2) + 1) := by
  have key := loop_inv (F := fun f S i => fX1_firstShare_54 rc f S (nI n) x (nI (l + 2)) (nI i)) (fun i S => Ex 16 S0 S ∧ (∀ j, j < i → (S.1 16 j).toInt = DI b (l + 1) j) ∧ ∀ j, i ≤ j → j + l < n → (S.1 16 j).toInt = DI b l j) (fun S => rc S (nI n) x (nI (l + 2) + 1)) (n - (l + 1)) (fun f S i hi hp => by
      obtain ⟨p1, p2, p3⟩ := hp
      have hT2 := p1.tapS (by decide) (by decide) hT
      have b1 := hb i
      have b2 := hb (i + l + 1)
      have d1 := DI_bd hb l (i + 1)
      have d2 := DI_bd hb l i
      have q1 := p3 (i + 1) (by omega) (by omega)
      have q2 := p3 i (by omega) (by omega)
      have e1 : (nI (b i) - S.1 16 (i + 1)).toInt = (b i : Int) - DI b l (i + 1) := by
        rw [tI_sub (by rw [nI_toInt (by omega), q1]; omega) (by rw [nI_toInt (by omega), q1]; omega), nI_toInt (by omega), q1]
      have e2 : (nI (b (i + l + 1)) - S.1 16 i).toInt = (b (i + l + 1) : Int) - DI b l i := by
        rw [tI_sub (by rw [nI_toInt (by omega), q2]; omega) (by rw [nI_toInt (by omega), q2]; omega), nI_toInt (by omega), q2]
      refine ⟨pI S 16 i (if (nI (b i) - S.1 16 (i + 1)) < (nI (b (i + l + 1)) - S.1 16 i) then (nI (b (i + l + 1)) - S.1 16 i) else (nI (b i) - S.1 16 (i + 1))), ?_, p1.put i _, fun j hj => ?_, fun j hj hj2 => ?_⟩
      · show bX1_firstShare_54 _ _ _ _ _ _ _ = _
        unfold bX1_firstShare_54
        have a1 : nI (i + (l + 2)) - 1 = nI (i + l + 1) := by rw [li 1, pk_sub (by omega)]; congr 1
        rw [nI_add, if_neg (by rw [nlt (by omega) (by omega)]; omega), nI_1, li 12, if_neg (by rw [nle (by decide) (by omega)]; omega), a1]
        simp only [byte7 hT2 hz (show i < z by omega), byte7 hT2 hz (show i + l + 1 < z by omega), bi_some, inbT (show i < 12 by omega) (show 12 < 2 ^ 31 by decide), inbT (show i + 1 < 12 by omega) (show 12 < 2 ^ 31 by decide), if_true, nI_clamp (show i < 2 ^ 31 by omega), nI_clamp (show i + 1 < 2 ^ 31 by omega), bS_e, bV_e]
      · by_cases e : j = i
        · subst e
          rw [pI_same, DI]
          split
          · rename_i hlt
            rw [Ilt, e1, e2] at hlt
            rw [e2]
            omega
          · rename_i hlt
            rw [Ilt, e1, e2] at hlt
            rw [e1]
            omega
        · rw [pI_cell _ _ (by omega)]
          exact p2 j (by omega)
      · rw [pI_cell _ _ (by omega)]
        exact p3 j (by omega) hj2) (fun f S hp => by
      show bX1_firstShare_54 _ _ _ _ _ _ _ = _
      unfold bX1_firstShare_54
      rw [nI_add, if_pos (by rw [nlt (by omega) (by omega)]; omega)]
      rfl) (n - (l + 1)) 100 S0 0 (by omega) (by omega) ⟨Ex.rf _ _, fun j hj => absurd hj (Nat.not_lt_zero j), fun j _ hj => h0 j hj⟩
  obtain ⟨S', ⟨k1, k2, _⟩, k3⟩ := key
  exact ⟨S', ⟨k1, fun j hj => k2 j (by omega)⟩, k3⟩
theorem share46 {S0 : St} {b : Nat → Nat} {z n : Nat} (x : Int32) (hb : ∀ j, b j < 256) (hT : TapS b z S0) (hz : z ≤ 260) (hn : n ≤ z) (h2 : 2 ≤ n) (h12 : n ≤ 12) (h0 : ∀ j, j < n → (S0.1 16 j).toInt = DI b 0 j) : ∃ S', Ex 16 S0 S' ∧ (S'.1 16 0).toInt = DI b (n - 1) 0 ∧ fX1_firstShare_46 100 S0 (nI n) x 2 = some ((x + S'.1 16 0) / 2, S') := by
  have key := loop_inv (F := fun f S i => fX1_firstShare_46 f S (nI n) x (nI (i + 2))) (fun i S => Ex 16 S0 S ∧ ∀ j, j + i < n → (S.1 16 j).toInt = DI b i j) (fun S => some ((x + S.1 16 0) / 2, S)) (n - 1) (fun f S i hi hp => by
      obtain ⟨p1, p2⟩ := hp
      obtain ⟨S', ⟨q1, q2⟩, q3⟩ := share54 (fX1_firstShare_46 f) x hb (p1.tapS (by decide) (by decide) hT) hz hn h12 (show i + 2 ≤ n by omega) p2
      refine ⟨S', ?_, p1.tr q1, fun j hj => q2 j (by omega)⟩
      show bX1_firstShare_46 _ _ _ _ _ = _
      unfold bX1_firstShare_46
      rw [if_neg (by rw [nlt (by omega) (by omega)]; omega), q3, nI_1]) (fun f S hp => by
      show bX1_firstShare_46 _ _ _ _ _ = _
      unfold bX1_firstShare_46
      rw [if_pos (by rw [nlt (by omega) (by omega)]; omega)]) (n - 1) 100 S0 0 (by omega) (by omega) ⟨Ex.rf _ _, fun j hj => h0 j hj⟩
  obtain ⟨S', ⟨k1, k2⟩, k3⟩ := key
  exact ⟨S', k1, k2 0 (by omega), k3⟩
theorem sumF12 {M : St} {b : Nat → Nat} {a t : Nat} (hb : ∀ j, b j < 256) (hT : TapM b M) (ht : t < 200) : ∀ k i f, i + k = t + 1 - a → a ≤ t + 1 → k < f → fX12_sumFrom_5 f M (nI t) (nI (smN b a i)) (nI (a + i)) = some (nI (smN b a (t + 1 - a)), M) := by
  intro k
  induction k with
  | zero =>
    intro i f h1 h2 h3
    obtain ⟨f, rfl⟩ : ∃ k', f = k' + 1 := ⟨f - 1, by omega⟩
    show bX12_sumFrom_5 _ _ _ _ _ = _
    unfold bX12_sumFrom_5
    rw [if_pos (by rw [nlt (by omega) (by omega)]; omega), ← h1]
    rfl
  | succ k ih =>
    intro i f h1 h2 h3
    obtain ⟨f, rfl⟩ : ∃ k', f = k' + 1 := ⟨f - 1, by omega⟩
    have := ih (i + 1) f (by omega) h2 (by omega)
    rw [smN, ← Nat.add_assoc] at this
    show bX12_sumFrom_5 _ _ _ _ _ = _
    unfold bX12_sumFrom_5
    rw [if_neg (by rw [nlt (by omega) (by omega)]; omega)]
    simp only [oct12 hb hT (show a + i < 260 by omega), bi_some, bV_e, nI_add, nI_1]
    exact this
theorem sumF {M : St} {b : Nat → Nat} (hb : ∀ j, b j < 256) (hT : TapM b M) {a k : Nat} (ha : a + k < 99) (hk : 0 < k) : fX12_sumFrom M (nI a) (nI (a + k - 1)) = some (nI (smN b a k), M) := by
  have := sumF12 hb hT (show a + k - 1 < 200 by omega) k 0 100 (by omega) (show a ≤ a + k - 1 + 1 by omega) (by omega)
  rw [show a + k - 1 + 1 - a = k by omega] at this
  exact this
def HvI (b : Nat → Nat) (M : St) (f l : Nat) : Prop := 2 * (M.1 91 (12 * f + (f + l))).toInt = (smN b f (l + 1) : Int) + DI b l f
theorem half53 {M0 : St} {b : Nat → Nat} {n fr : Nat} (rc : St → Int32 → Int32 → Option (Int32 × St)) (hb : ∀ j, b j < 256) (hT : TapM b M0) (h12 : n ≤ 12) (hf : fr < n) (h0 : ∀ f l, fr < f → f + l < n → HvI b M0 f l) (h1 : HvI b M0 fr 0) : ∃ M', (Ex 91 M0 M' ∧ ∀ f l, fr ≤ f → f + l < n → HvI b M' f l) ∧ fX12_halves_53 rc 100 M0 (nI n) (nI fr) (nI fr + 1) = rc M' (nI n) (nI fr + (-1)) := by
  have key := loop_inv (F := fun f S i => fX12_halves_53 rc f S (nI n) (nI fr) (nI i)) (fun i S => fr < i ∧ Ex 91 M0 S ∧ (∀ f l, fr < f → f + l < n → HvI b S f l) ∧ ∀ l, fr + l < i → HvI b S fr l) (fun S => rc S (nI n) (nI fr + (-1))) n (fun f S i hi hp => by
      obtain ⟨p0, p1, p2, p3⟩ := hp
      have hT2 := p1.tapM (by decide) hT
      obtain ⟨l, rfl⟩ : ∃ l, i = fr + l + 1 := ⟨i - fr - 1, by omega⟩
      have b1 := hb fr
      have b2 := hb (fr + l + 1)
      have s1 := smN_bd hb (fr + 1) (l + 1)
      have s2 := smN_bd hb fr (l + 1)
      have d1 := DI_bd hb l (fr + 1)
      have d2 := DI_bd hb l fr
      have q1 := p2 (fr + 1) l (by omega) (by omega)
      have q2 := p3 l (by omega)
      unfold HvI at q1 q2
      have t1 : fX12_sumFrom S (nI (fr + 1)) (nI (fr + l + 1)) = some (nI (smN b (fr + 1) (l + 1)), S) := by
        have := sumF hb hT2 (a := fr + 1) (k := l + 1) (by omega) (by omega)
        rw [show fr + 1 + (l + 1) - 1 = fr + l + 1 by omega] at this
        exact this
      have t2 : fX12_sumFrom S (nI fr) (nI (fr + l)) = some (nI (smN b fr (l + 1)), S) := by
        have := sumF hb hT2 (a := fr) (k := l + 1) (by omega) (by omega)
        rw [show fr + (l + 1) - 1 = fr + l by omega] at this
        exact this
      have x1 : (12 : Int32) * nI (fr + 1) + nI (fr + l + 1) = nI (12 * (fr + 1) + (fr + 1 + l)) := by rw [li 12, pk_mul, nI_add]; congr 1; omega
      have x2 : nI (12 * fr + (fr + (l + 1))) - 1 = nI (12 * fr + (fr + l)) := by rw [li 1, pk_sub (by omega)]; congr 1
      have x3 : (12 : Int32) * nI fr + nI (fr + l + 1) = nI (12 * fr + (fr + (l + 1))) := by rw [li 12, pk_mul, nI_add]; congr 1
      have x4 : nI (fr + l + 1) - 1 = nI (fr + l) := by rw [li 1, pk_sub (by omega)]; congr 1
      have e1 : (nI (b fr) + nI (smN b (fr + 1) (l + 1)) - S.1 91 (12 * (fr + 1) + (fr + 1 + l))).toInt = ((b fr + smN b (fr + 1) (l + 1) : Nat) : Int) - (S.1 91 (12 * (fr + 1) + (fr + 1 + l))).toInt := by
        rw [nI_add, tI_sub (by rw [nI_toInt (by omega)]; omega) (by rw [nI_toInt (by omega)]; omega), nI_toInt (by omega)]
      have e2 : (nI (b (fr + l + 1)) + nI (smN b fr (l + 1)) - S.1 91 (12 * fr + (fr + l))).toInt = ((b (fr + l + 1) + smN b fr (l + 1) : Nat) : Int) - (S.1 91 (12 * fr + (fr + l))).toInt := by
        rw [nI_add, tI_sub (by rw [nI_toInt (by omega)]; omega) (by rw [nI_toInt (by omega)]; omega), nI_toInt (by omega)]
      generalize hL : nI (b fr) + nI (smN b (fr + 1) (l + 1)) - S.1 91 (12 * (fr + 1) + (fr + 1 + l)) = L at e1
      generalize hR : nI (b (fr + l + 1)) + nI (smN b fr (l + 1)) - S.1 91 (12 * fr + (fr + l)) = R at e2
      refine ⟨pI S 91 (12 * fr + (fr + (l + 1))) (if L ≤ R then R else L), ?_, by omega, p1.put _ _, fun f l2 c1 c2 => ?_, fun l2 c1 => ?_⟩
      · show bX12_halves_53 _ _ _ _ _ _ = _
        unfold bX12_halves_53
        rw [if_neg (by rw [nle (by omega) (by omega)]; omega), nI_1, nI_1, x1, x4]
        simp only [x3, x2, oct12 hb hT2 (show fr < 260 by omega), oct12 hb hT2 (show fr + l + 1 < 260 by omega), t1, t2, bi_some, inbT (show 12 * (fr + 1) + (fr + 1 + l) < 144 by omega) (show 144 < 2 ^ 31 by decide), inbT (show 12 * fr + (fr + l) < 144 by omega) (show 144 < 2 ^ 31 by decide), inbT (show 12 * fr + (fr + (l + 1)) < 144 by omega) (show 144 < 2 ^ 31 by decide), if_true, nI_clamp (show 12 * (fr + 1) + (fr + 1 + l) < 2 ^ 31 by omega), nI_clamp (show 12 * fr + (fr + l) < 2 ^ 31 by omega), nI_clamp (show 12 * fr + (fr + (l + 1)) < 2 ^ 31 by omega), max12, hL, hR, bS_e, bV_e]
      · unfold HvI
        rw [pI_cell _ _ (by omega)]
        exact p2 f l2 c1 c2
      · by_cases e : l2 = l + 1
        · subst e
          unfold HvI
          have g1 := smN_sh b fr (l + 1)
          have g2 : smN b fr (l + 1 + 1) = smN b fr (l + 1) + b (fr + (l + 1)) := rfl
          have g3 : b (fr + (l + 1)) = b (fr + l + 1) := rfl
          rw [pI_same, DI]
          split
          · rename_i hle
            rw [Ile, e1, e2] at hle
            rw [e2]
            omega
          · rename_i hle
            rw [Ile, e1, e2] at hle
            rw [e1]
            omega
        · unfold HvI
          rw [pI_cell _ _ (by omega)]
          exact p3 l2 (by omega)) (fun f S hp => by
      show bX12_halves_53 _ _ _ _ _ _ = _
      unfold bX12_halves_53
      rw [if_pos (by rw [nle (by omega) (by omega)]; omega)]
      rfl) (n - (fr + 1)) 100 M0 (fr + 1) (by omega) (by omega) ⟨by omega, Ex.rf _ _, h0, fun l hl => by
        have : l = 0 := by omega
        subst this
        exact h1⟩
  obtain ⟨M', ⟨_, k1, k2, k3⟩, k4⟩ := key
  refine ⟨M', ⟨k1, fun f l c1 c2 => ?_⟩, ?_⟩
  · by_cases e : f = fr
    · subst e; exact k3 l c2
    · exact k2 f l (by omega) c2
  · rw [nI_1]
    exact k4
theorem half29 {M0 : St} {b : Nat → Nat} {n : Nat} (hb : ∀ j, b j < 256) (hT : TapM b M0) (h2 : 2 ≤ n) (h12 : n ≤ 12) : ∃ M', Ex 91 M0 M' ∧ 2 * (M'.1 91 (n - 1)).toInt = (smN b 0 n : Int) + DI b (n - 1) 0 ∧ fX12_halves_29 100 M0 (nI n) (nI n + (-1)) = some (M'.1 91 (n - 1), M') := by
  have key := loop_dn (F := fun f S i => fX12_halves_29 f S (nI n) (nI i + (-1))) (fun i S => Ex 91 M0 S ∧ ∀ f l, i ≤ f → f + l < n → HvI b S f l) (fun S => some (S.1 91 (n - 1), S)) n (fun f S i hi hp => by
      obtain ⟨p1, p2⟩ := hp
      have bi := hb i
      have hT2 := p1.tapM (by decide) hT
      have hT3 : TapM b (pI S 91 (12 * i + i) (nI (b i))) := fun j hj => by rw [pI_row _ _ (by decide)]; exact hT2 j hj
      obtain ⟨M', ⟨q1, q2⟩, q3⟩ := half53 (M0 := pI S 91 (12 * i + i) (nI (b i))) (fX12_halves_29 f) hb hT3 h12 hi (fun f2 l c1 c2 => by
          unfold HvI
          rw [pI_cell _ _ (by omega)]
          exact p2 f2 l (by omega) c2) (by
          unfold HvI
          rw [Nat.add_zero, pI_same, nI_toInt (by omega), DI, smN, smN, Nat.add_zero]
          omega)
      refine ⟨M', ?_, (p1.put _ _).tr q1, q2⟩
      show bX12_halves_29 _ _ _ _ = _
      unfold bX12_halves_29
      have x1 : (12 : Int32) * nI i + nI i = nI (12 * i + i) := by rw [li 12, pk_mul, nI_add]
      rw [pk_m1, if_neg (nI_pos (by omega))]
      simp only [oct12 hb hT2 (show i < 260 by omega), bi_some, x1, inbT (show 12 * i + i < 144 by omega) (show 144 < 2 ^ 31 by decide), if_true, nI_clamp (show 12 * i + i < 2 ^ 31 by omega), bS_e, bV_e]
      exact q3) (fun f S hp => by
      show bX12_halves_29 _ _ _ _ = _
      unfold bX12_halves_29
      have x1 : nI n - 1 = nI (n - 1) := by rw [li 1, pk_sub (by omega)]
      rw [if_pos (by decide), x1, if_pos (inbT (by omega) (by decide)), nI_clamp (by omega)]) n 100 M0 (Nat.le_refl _) (by omega) ⟨Ex.rf _ _, fun f l c1 c2 => by omega⟩
  obtain ⟨M', ⟨k1, k2⟩, k3⟩ := key
  refine ⟨M', k1, ?_, k3⟩
  have := k2 0 (n - 1) (Nat.le_refl _) (by omega)
  unfold HvI at this
  rw [show 12 * 0 + (0 + (n - 1)) = n - 1 by omega, show n - 1 + 1 = n by omega] at this
  exact this
theorem div2 {x m : Int32} (h : x.toInt = 2 * m.toInt) : x / 2 = m := by
  have h1 := m.toInt_lt
  have h2 := m.le_toInt
  rw [Ieq, Int32.toInt_div, i2, h, Int.mul_tdiv_cancel_left _ (by decide)]
  exact Int.bmod_eq_of_le (by omega) (by omega)
theorem sim_halves (S M : St) (x : Int32) (h : Rel S M) : ∃ v S1 M1, fX11_halves S x = some (v, S1) ∧ fX12_halves M x = some (v, M1) ∧ Rel S1 M1 := by
  obtain ⟨b, z, hz, hb, hT, hT2, hz2⟩ := h.tap
  unfold fX11_halves fX12_halves
  simp only [in12, bi_some, ite_b2i, rng2, i2, i12]
  by_cases hx : inR x 2 12 = true
  · obtain ⟨n, h2, h12, rfl⟩ := inR_natL (m := 2) (n := 12) hx (by decide)
    simp only [hx, if_true, holds7 hT hz (show n < 2 ^ 31 by omega), bi_some, ite_b2i, hz2, nle (show n < 2 ^ 31 by omega) (show z < 2 ^ 31 by omega), bS_e, bV_e]
    by_cases hn : n ≤ z
    · obtain ⟨s, ⟨a1, a2, a3⟩, a4⟩ := share4 hb hT hz hn h12
      obtain ⟨S', b1, b2, b3⟩ := share46 s.2 hb (a1.tapS (by decide) (by decide) hT) hz hn h2 h12 a3
      obtain ⟨M', c1, c2, c3⟩ := half29 (M0 := pI M 55 11 0) hb (hT2.clr 0) h2 h12
      have x1 : nI n - 1 = nI n + (-1) := by rw [Int32.sub_eq_add_neg]
      have sb := smN_bd hb 0 n
      have db := DI_bd hb (n - 1) 0
      have hv : (s.2 + S'.1 16 0) / 2 = M'.1 91 (n - 1) := by
        apply div2
        rw [a2, tI_add (by rw [nI_toInt (by omega), b2]; omega) (by rw [nI_toInt (by omega), b2]; omega), nI_toInt (by omega), b2, c2]
      simp only [hn, decide_true, if_true, a4, b3, x1, c3, hv, bi_some, clear7, bv_some]
      exact ⟨_, _, _, rfl, rfl, h.done ((a1.tr b1).eqC (h.nc (by decide) (by decide))) (c1.eqM (by unfold coreM; omega))⟩
    · simp only [hn, decide_false, Bool.false_eq_true, if_false]
      exact ⟨_, _, _, rfl, rfl, h⟩
  · simp only [hx]
    exact ⟨_, _, _, rfl, rfl, h⟩
