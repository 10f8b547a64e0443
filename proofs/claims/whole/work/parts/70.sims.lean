-- loops that carry a state
theorem loop_inv {σ R : Type} {F : Nat → σ → Nat → Option R} (P : Nat → σ → Prop) (ex : σ → Option R) (N : Nat) (hs : ∀ k S i, i < N → P i S → ∃ S1, F (k + 1) S i = F k S1 (i + 1) ∧ P (i + 1) S1) (he : ∀ k S, P N S → F (k + 1) S N = ex S) : ∀ n k S i, i + n = N → n < k → P i S → ∃ S', P N S' ∧ F k S i = ex S' := by
  intro n
  induction n with
  | zero =>
    intro k S i h1 h2 hp
    obtain ⟨k, rfl⟩ : ∃ k', k = k' + 1 := ⟨k - 1, by omega⟩
    have : i = N := by omega
    subst this
    exact ⟨S, hp, he k S hp⟩
  | succ n ih =>
    intro k S i h1 h2 hp
    obtain ⟨k, rfl⟩ : ∃ k', k = k' + 1 := ⟨k - 1, by omega⟩
    obtain ⟨S1, e1, p1⟩ := hs k S i (by omega) hp
    rw [e1]
    exact ih k S1 (i + 1) (by omega) (by omega) p1
theorem loop_dn {σ R : Type} {F : Nat → σ → Nat → Option R} (P : Nat → σ → Prop) (ex : σ → Option R) (N : Nat) (hs : ∀ k S i, i < N → P (i + 1) S → ∃ S1, F (k + 1) S (i + 1) = F k S1 i ∧ P i S1) (he : ∀ k S, P 0 S → F (k + 1) S 0 = ex S) : ∀ n k S, n ≤ N → n < k → P n S → ∃ S', P 0 S' ∧ F k S n = ex S' := by
  intro n
  induction n with
  | zero =>
    intro k S _ h2 hp
    obtain ⟨k, rfl⟩ : ∃ k', k = k' + 1 := ⟨k - 1, by omega⟩
    exact ⟨S, hp, he k S hp⟩
  | succ n ih =>
    intro k S hN h2 hp
    obtain ⟨k, rfl⟩ : ∃ k', k = k' + 1 := ⟨k - 1, by omega⟩
    obtain ⟨S1, e1, p1⟩ := hs k S n (by omega) hp
    rw [e1]
    exact ih k S1 (by omega) (by omega) p1
-- the tape
def TapS (b : Nat → Nat) (z : Nat) (S : St) : Prop := S.1 1 1 = nI z ∧ ∀ j, j < 260 → S.1 2 j = nI (b j)
def TapM (b : Nat → Nat) (M : St) : Prop := ∀ j, j < 260 → M.1 64 j = sb_b (b j)
theorem Rel.tap {S M : St} (h : Rel S M) : ∃ b z, z ≤ 260 ∧ (∀ j, b j < 256) ∧ TapS b z S ∧ TapM b M ∧ M.1 55 11 = nI z := by
  obtain ⟨⟨z, hz, z1, z2⟩, ht⟩ := h.2.2.2.2.2.1
  have hc : ∀ j : Nat, ∃ c : Nat, c < 256 ∧ (j < 260 → S.1 2 j = nI c ∧ M.1 64 j = sb_b c) := by
    intro j
    by_cases hj : j < 260
    · obtain ⟨c, c1, c2, c3⟩ := ht j hj
      exact ⟨c, c1, fun _ => ⟨c2, c3⟩⟩
    · exact ⟨0, by decide, fun q => absurd q hj⟩
  obtain ⟨b, hb⟩ := Classical.axiomOfChoice hc
  exact ⟨b, z, hz, fun j => (hb j).1, ⟨z1, fun j hj => ((hb j).2 hj).1⟩, fun j hj => ((hb j).2 hj).2, z2⟩
theorem byte7 {S : St} {b : Nat → Nat} {z j : Nat} (h : TapS b z S) (hz : z ≤ 260) (hj : j < z) : fX7_byteAt S (nI j) = some (nI (b j), S) := by
  unfold fX7_byteAt
  rw [if_neg (nI_pos (by omega)), h.1, if_neg (by rw [nle (by omega) (by omega)]; omega), if_pos (inbT (by omega) (by decide)), nI_clamp (by omega), h.2 j (by omega)]
theorem oct12 {M : St} {b : Nat → Nat} (hb : ∀ j, b j < 256) (h : TapM b M) {j : Nat} (hj : j < 260) : fX12_octet M (nI j) = some (nI (b j), M) := by
  unfold fX12_octet
  rw [if_pos (inbT (by omega) (by decide)), nI_clamp (by omega), h j hj, (sb_byte _ (hb j)).1]
theorem holds7 {S : St} {b : Nat → Nat} {z n : Nat} (h : TapS b z S) (hz : z ≤ 260) (hn : n < 2 ^ 31) : fX7_holds S (nI n) = some (b2i (decide (n ≤ z)), S) := by
  unfold fX7_holds b2i
  rw [h.1]
  simp only [nlt (show z < 2 ^ 31 by omega) hn]
  by_cases hq : z < n
  · have : ¬ n ≤ z := by omega
    simp [hq, this]
  · have : n ≤ z := by omega
    simp [hq, this]
theorem TapM.clr {M : St} {b : Nat → Nat} (h : TapM b M) (v : Int32) : TapM b (pI M 55 11 v) := fun j hj => by
  rw [pI_row M v (by decide)]
  exact h j hj
theorem Rel.clr {S M : St} (h : Rel S M) : Rel (pI S 1 1 0) (pI M 55 11 0) := by
  obtain ⟨a1, a2, a3, a4, a5, a6, a7, a8⟩ := h
  have hT := a2.1
  have hR := a8.1
  refine ⟨a1.cg (AgC.put M _ (by unfold strM; omega)), a2.cg (AgC.put M _ (by unfold strM; omega)) rfl rfl (AgC.put S _ (by unfold strC; unfold isT at hT; omega)), a3, a4, a5.cg (AgC.put S _ (by unfold kepC; omega)) (AgC.put M _ (by unfold kepM; omega)), ?_, a7.cg (fun o h1 h2 k hk => pI_cell M _ (by omega)), a8.cg rfl rfl (AgC.put S _ (by unfold rulC; unfold isL at hR; omega)) (AgC.put M _ (by unfold rulM; omega))⟩
  exact ⟨⟨0, by decide, pI_same _ _ _ _, pI_same _ _ _ _⟩, a6.2⟩
theorem EqC.put {S : St} {o k : Nat} {v : Int32} (h : ¬ coreC (S.2.2 0) (S.2.2 2) o k) : EqC S (pI S o k v) := ⟨rfl, fun a b hp => pI_cell S v (by rintro ⟨rfl, rfl⟩; exact h hp)⟩
theorem EqM.put {M : St} {o k : Nat} {v : Int32} (h : ¬ coreM o k) : EqM M (pI M o k v) := fun a b hp => pI_cell M v (by rintro ⟨rfl, rfl⟩; exact h hp)
theorem EqC.clr {S S' : St} (h : EqC S S') : EqC (pI S 1 1 0) (pI S' 1 1 0) := by
  refine ⟨h.1, fun o k hc => ?_⟩
  by_cases q : o = 1 ∧ k = 1
  · obtain ⟨rfl, rfl⟩ := q
    rw [pI_same, pI_same]
  · rw [pI_cell S _ q, pI_cell S' _ q]
    exact h.2 o k hc
theorem Rel.done {S M S' M' : St} (h : Rel S M) (hC : EqC S S') (hM : EqM (pI M 55 11 0) M') : Rel (pI S' 1 1 0) M' := h.clr.keep hC.clr hM
theorem rng2 {α : Type} (x a b : Int32) (A B : α) : (if x < a then A else (if b < x then A else B)) = if inR x a.toInt b.toInt = true then B else A := by
  simp only [Ilt]
  by_cases h1 : x.toInt < a.toInt
  · have : ¬ inR x a.toInt b.toInt = true := by rw [inR_t]; omega
    simp [h1, this]
  · by_cases h2 : b.toInt < x.toInt
    · have : ¬ inR x a.toInt b.toInt = true := by rw [inR_t]; omega
      simp [h1, h2, this]
    · have : inR x a.toInt b.toInt = true := by rw [inR_t]; omega
      simp [h1, h2, this]
theorem inR_natL {x : Int32} {m n : Nat} (h : inR x m n = true) (hn : n < 2 ^ 31) : ∃ j : Nat, m ≤ j ∧ j ≤ n ∧ x = nI j := by
  rw [inR_t] at h
  refine ⟨x.toInt.toNat, by omega, by omega, ?_⟩
  rw [Ieq, nI_toInt (by omega)]
  omega
theorem clear7 (S : St) : fX7_clear S = some (pI S 1 1 0) := rfl
theorem mx_same (a b : Int32) : (if a < b then b else a) = if a ≤ b then b else a := by
  simp only [Ilt, Ile]
  by_cases h1 : a.toInt < b.toInt
  · rw [if_pos h1, if_pos (by omega)]
  · rw [if_neg h1]
    by_cases h2 : a.toInt ≤ b.toInt
    · rw [if_pos h2, Ieq]; omega
    · rw [if_neg h2]
-- keepIt
def had (b : Nat → Nat) (k n : Nat) : Nat → Nat → Int32 → Int32
  | 0, _, _ => nI (b (n - 1))
  | m + 1, i, most => if i < k then had b k n m (i + 1) (if most ≤ nI (b i) then nI (b i) else most) else if nI (b i) ≤ most then had b k n m (i + 1) (if most ≤ nI (b i) then nI (b i) else most) else nI (b i)
theorem had1 {S : St} {b : Nat → Nat} {z n k : Nat} (hT : TapS b z S) (hz : z ≤ 260) (hn : n ≤ z) (h0 : 0 < n) (hk : k < 2 ^ 31) : ∀ m i most f, i + m = n → m < f → fX1_hadByLettingGo_5 f S (nI k) (nI n) most (nI i) = some (had b k n m i most, S) := by
  intro m
  induction m with
  | zero =>
    intro i most f h1 h2
    obtain ⟨f, rfl⟩ : ∃ k', f = k' + 1 := ⟨f - 1, by omega⟩
    have : i = n := by omega
    subst this
    show bX1_hadByLettingGo_5 _ _ _ _ _ _ = _
    unfold bX1_hadByLettingGo_5
    rw [if_pos (by rw [nle (by omega) (by omega)]; omega), li 1, pk_sub (by omega), byte7 hT hz (by omega)]
    rfl
  | succ m ih =>
    intro i most f h1 h2
    obtain ⟨f, rfl⟩ : ∃ k', f = k' + 1 := ⟨f - 1, by omega⟩
    show bX1_hadByLettingGo_5 _ _ _ _ _ _ = _
    unfold bX1_hadByLettingGo_5 fX1_hadByLettingGo_37
    rw [if_neg (by rw [nle (by omega) (by omega)]; omega), had]
    simp only [byte7 hT hz (show i < z by omega), bi_some, bV_e, nI_1, nlt (show i < 2 ^ 31 by omega) hk, mx_same, ih (i + 1) _ f (by omega) (by omega)]
    by_cases c1 : i < k
    · simp only [c1, if_true]
    · by_cases c2 : nI (b i) ≤ most
      · simp only [c1, c2, if_true, if_false]
      · simp only [c1, c2, if_false]
theorem had12 {M : St} {b : Nat → Nat} {n k : Nat} (hb : ∀ j, b j < 256) (hT : TapM b M) (hn : n ≤ 260) (h0 : 0 < n) (hk : k < 2 ^ 31) : ∀ m i most f, i + m = n → m < f → fX12_hasBy_5 f M (nI n) (nI k) most (nI i) = some (had b k n m i most, M) := by
  intro m
  induction m with
  | zero =>
    intro i most f h1 h2
    obtain ⟨f, rfl⟩ : ∃ k', f = k' + 1 := ⟨f - 1, by omega⟩
    have : i = n := by omega
    subst this
    show bX12_hasBy_5 _ _ _ _ _ _ = _
    unfold bX12_hasBy_5
    rw [if_pos (by rw [nle (by omega) (by omega)]; omega), li 1, pk_sub (by omega), oct12 hb hT (by omega)]
    rfl
  | succ m ih =>
    intro i most f h1 h2
    obtain ⟨f, rfl⟩ : ∃ k', f = k' + 1 := ⟨f - 1, by omega⟩
    show bX12_hasBy_5 _ _ _ _ _ _ = _
    unfold bX12_hasBy_5 fX12_hasBy_34
    rw [if_neg (by rw [nle (by omega) (by omega)]; omega), had]
    simp only [oct12 hb hT (show i < 260 by omega), bi_some, bV_e, nI_1, nlt (show i < 2 ^ 31 by omega) hk, max12, ih (i + 1) _ f (by omega) (by omega)]
    by_cases c1 : i < k
    · simp only [c1, if_true]
    · by_cases c2 : nI (b i) ≤ most
      · simp only [c1, c2, if_true, if_false]
      · simp only [c1, c2, if_false]
theorem hadB {S M : St} {b : Nat → Nat} {z n k : Nat} (hb : ∀ j, b j < 256) (hT : TapS b z S) (hT2 : TapM b M) (hz : z ≤ 260) (hn : n ≤ z) (h0 : 0 < n) (h20 : n ≤ 20) (hk : k < 2 ^ 31) : fX1_hadByLettingGo S (nI k) (nI n) = some (had b k n n 0 (-1), S) ∧ fX12_hasBy M (nI n) (nI k) = some (had b k n n 0 (-1), M) := ⟨had1 hT hz hn h0 hk n 0 (-1) 100 (by omega) (by omega), had12 hb hT2 (by omega) h0 hk n 0 (-1) 100 (by omega) (by omega)⟩
theorem letGo {S M : St} {b : Nat → Nat} {z n : Nat} (hb : ∀ j, b j < 256) (hT : TapS b z S) (hT2 : TapM b M) (hz : z ≤ 260) (hn : n ≤ z) (h0 : 0 < n) (h20 : n ≤ 20) : ∀ m i best f, i + m = n → best < n → m < f → ∃ r, fX1_bestToLetGo_4 f S (nI n) (nI best) (nI i) = some (r, S) ∧ fX12_keepIt_53 f M (nI n) (nI best) (nI i) = some (r, M) := by
  intro m
  induction m with
  | zero =>
    intro i best f h1 hbn h2
    obtain ⟨f, rfl⟩ : ∃ k', f = k' + 1 := ⟨f - 1, by omega⟩
    have : i = n := by omega
    subst this
    refine ⟨nI best, ?_, ?_⟩
    · show bX1_bestToLetGo_4 _ _ _ _ _ = _
      unfold bX1_bestToLetGo_4
      rw [if_pos (by rw [nle (by omega) (by omega)]; omega)]
    · show bX12_keepIt_53 _ _ _ _ _ = _
      unfold bX12_keepIt_53
      rw [if_pos (by rw [nle (by omega) (by omega)]; omega)]
  | succ m ih =>
    intro i best f h1 hbn h2
    obtain ⟨f, rfl⟩ : ∃ k', f = k' + 1 := ⟨f - 1, by omega⟩
    obtain ⟨r1, p1, q1⟩ := ih (i + 1) best f (by omega) hbn (by omega)
    obtain ⟨r2, p2, q2⟩ := ih (i + 1) i f (by omega) (by omega) (by omega)
    obtain ⟨u1, v1⟩ := hadB hb hT hT2 hz hn h0 h20 (show i < 2 ^ 31 by omega)
    obtain ⟨u2, v2⟩ := hadB hb hT hT2 hz hn h0 h20 (show best < 2 ^ 31 by omega)
    refine ⟨if had b i n n 0 (-1) ≤ had b best n n 0 (-1) then r1 else r2, ?_, ?_⟩
    · show bX1_bestToLetGo_4 _ _ _ _ _ = _
      unfold bX1_bestToLetGo_4
      rw [if_neg (by rw [nle (by omega) (by omega)]; omega)]
      simp only [u1, u2, bi_some, bV_e, nI_1, p1, p2]
      split <;> rfl
    · show bX12_keepIt_53 _ _ _ _ _ = _
      unfold bX12_keepIt_53
      rw [if_neg (by rw [nle (by omega) (by omega)]; omega)]
      simp only [v1, v2, bi_some, bV_e, nI_1, q1, q2]
      split <;> rfl
theorem sim_keepIt (S M : St) (x y : Int32) (h : Rel S M) : ∃ v S1 M1, fX11_keepIt S x y = some (v, S1) ∧ fX12_keepIt M x y = some (v, M1) ∧ Rel S1 M1 := by
  obtain ⟨b, z, hz, hb, hT, hT2, hz2⟩ := h.tap
  unfold fX11_keepIt fX12_keepIt
  simp only [in12, bi_some, ite_b2i, rng2, i1, i20]
  by_cases hx : inR x 1 20 = true
  · obtain ⟨n, h0, h20, rfl⟩ := inR_natL (m := 1) (n := 20) hx (by decide)
    have e1 : (nI n - 1).toInt = (n : Int) - 1 := by rw [li 1, pk_sub h0, nI_toInt (by omega)]; omega
    simp only [hx, if_true, e1, im1, holds7 hT hz (show n < 2 ^ 31 by omega), bi_some, ite_b2i, hz2, nle (show n < 2 ^ 31 by omega) (show z < 2 ^ 31 by omega), Ilt y, Ile (nI n) y, nI_toInt (show n < 2 ^ 31 by omega)]
    by_cases hy : inR y (-1) ((n : Int) - 1) = true
    · have hy2 := inR_t.mp hy
      have c1 : ¬ y.toInt < -1 := by omega
      have c2 : ¬ (n : Int) ≤ y.toInt := by omega
      simp only [hy, c1, c2, if_true, if_false]
      by_cases hn : n ≤ z
      · simp only [hn, decide_true, if_true, bS_e]
        by_cases hy1 : y = -1
        · subst hy1
          have c3 : ¬ (0 : Int32) ≤ -1 := by decide
          obtain ⟨r, g1, g2⟩ := letGo hb hT (hT2.clr 0) hz hn h0 h20 (n - 1) 1 0 100 (by omega) (by omega) (by omega)
          have g1 : fX1_bestToLetGo S (nI n) = some (r, S) := g1
          have g2 : fX12_keepIt_53 100 (pI M 55 11 0) (nI n) 0 1 = some (r, pI M 55 11 0) := g2
          simp only [c3, if_true, if_false, g1, g2, bi_some, fX11_keepIt_58, clear7, bv_some]
          exact ⟨_, _, _, rfl, rfl, h.clr⟩
        · have c3 : (0 : Int32) ≤ y := by
            rw [Ieq, im1] at hy1
            rw [Ile, i0]
            omega
          have hy3 : inR y 0 ((n - 1 : Nat) : Int) = true := by
            rw [Ile, i0] at c3
            rw [inR_t]
            omega
          obtain ⟨k, hk, rfl⟩ := inR_nat hy3 (by omega)
          obtain ⟨u1, v1⟩ := hadB hb hT (hT2.clr 0) hz hn h0 h20 (show k < 2 ^ 31 by omega)
          simp only [c3, hy1, if_true, if_false, u1, v1, bi_some, fX11_keepIt_58, clear7, bv_some]
          exact ⟨_, _, _, rfl, rfl, h.clr⟩
      · simp only [hn, decide_false, Bool.false_eq_true, if_false]
        exact ⟨_, _, _, rfl, rfl, h⟩
    · simp only [hy]
      have : y.toInt < -1 ∨ (n : Int) ≤ y.toInt := by
        rw [inR_t] at hy
        omega
      by_cases c1 : y.toInt < -1
      · simp only [c1, if_true]
        exact ⟨_, _, _, rfl, rfl, h⟩
      · have c2 : (n : Int) ≤ y.toInt := by omega
        simp only [c1, c2, if_true, if_false]
        exact ⟨_, _, _, rfl, rfl, h⟩
  · simp only [hx]
    exact ⟨_, _, _, rfl, rfl, h⟩
