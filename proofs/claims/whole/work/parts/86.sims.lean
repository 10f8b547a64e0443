-- the cursor over a text
def sg (b : Nat → Nat) (n p : Nat) : Int32 := if p < n then nI (b p) else -1
theorem sg_lt {b : Nat → Nat} {n p : Nat} (h : p < n) : sg b n p = nI (b p) := if_pos h
theorem sg_ge {b : Nat → Nat} {n p : Nat} (h : n ≤ p) : sg b n p = -1 := if_neg (by omega)
theorem sg_in {b : Nat → Nat} {n p : Nat} (h : sg b n p ≠ -1) : p < n := by
  rcases Nat.lt_or_ge p n with z | z
  · exact z
  · exact absurd (sg_ge z) h
/-- the class's cursor stands at p with fault v -/
def Cu (b : Nat → Nat) (z n : Nat) (S : St) (p : Nat) (v : Int32) : Prop := TapS b z S ∧ n ≤ z ∧ z ≤ 260 ∧ p ≤ n ∧ S.1 3 1 = nI n ∧ S.1 3 2 = nI p ∧ S.1 3 3 = sg b n p ∧ S.1 3 4 = v
/-- the model's place is p -/
def Mu (b : Nat → Nat) (n : Nat) (M : St) (p : Nat) : Prop := TapM b M ∧ (∀ j, b j < 256) ∧ n ≤ 260 ∧ p ≤ n ∧ M.1 55 12 = nI p ∧ M.1 55 13 = nI n
def flt (k p : Nat) : Int32 := (-1000 : Int32) * nI k - nI p
theorem flt_neg0 : ∀ k, k < 8 → ∀ p, p < 261 → k = 0 ∨ flt k p < 0 := by decide +kernel
theorem flt_neg {k p : Nat} (h1 : 1 ≤ k) (h2 : k < 8) (hp : p < 261) : flt k p < 0 := (flt_neg0 k h2 p hp).resolve_left (by omega)
theorem flt_ne {k p : Nat} (h1 : 1 ≤ k) (h2 : k < 8) (hp : p < 261) : flt k p ≠ 0 := fun e => by
  have := flt_neg h1 h2 hp
  rw [e] at this
  exact absurd this (by decide)
theorem here12 {b : Nat → Nat} {n p : Nat} {M : St} (h : Mu b n M p) : fX12_here M = some (sg b n p, M) := by
  obtain ⟨h1, h2, h3, h4, h5, h6⟩ := h
  unfold fX12_here
  rw [h5, h6]
  rcases Nat.lt_or_ge p n with z | z
  · have := oct12 h2 h1 (show p < 260 by omega)
    unfold fX12_octet at this
    rw [if_neg (by rw [nle (by omega) (by omega)]; omega), sg_lt z]
    exact this
  · rw [if_pos (by rw [nle (by omega) (by omega)]; omega), sg_ge z]
theorem wrong12 (M : St) (k p : Nat) : fX12_wrongAt M (nI k) (nI p) = some (0, pI M 55 14 (flt k p)) := rfl
theorem Cu.put {b : Nat → Nat} {z n p : Nat} {S : St} {v w : Int32} (h : Cu b z n S p v) : Cu b z n (pI S 3 4 w) p w := by
  obtain ⟨h1, h2, h3, h4, h5, h6, h7, h8⟩ := h
  exact ⟨⟨by rw [pI_row _ _ (by decide)]; exact h1.1, fun j hj => by rw [pI_row _ _ (by decide)]; exact h1.2 j hj⟩, h2, h3, h4, by rw [pI_cell _ _ (by decide)]; exact h5, by rw [pI_cell _ _ (by decide)]; exact h6, by rw [pI_cell _ _ (by decide)]; exact h7, pI_same _ _ _ _⟩
theorem Cu.oth {b : Nat → Nat} {z n p : Nat} {S S' : St} {v : Int32} (h : Cu b z n S p v) (h1 : S'.1 1 = S.1 1) (h2 : S'.1 2 = S.1 2) (h3 : S'.1 3 = S.1 3) : Cu b z n S' p v := by
  unfold Cu TapS
  rw [h1, h2, h3]
  exact h
theorem Mu.oth {b : Nat → Nat} {n p : Nat} {M M' : St} (h : Mu b n M p) (h1 : M'.1 64 = M.1 64) (h2 : M'.1 55 12 = M.1 55 12) (h3 : M'.1 55 13 = M.1 55 13) : Mu b n M' p := by
  unfold Mu TapM
  rw [h1, h2, h3]
  exact h
theorem Mu.mv {b : Nat → Nat} {n p q : Nat} {M : St} (h : Mu b n M p) (hq : q ≤ n) : Mu b n (pI M 55 12 (nI q)) q := by
  obtain ⟨h1, h2, h3, h4, h5, h6⟩ := h
  exact ⟨fun j hj => by rw [pI_row _ _ (by decide)]; exact h1 j hj, h2, h3, hq, pI_same _ _ _ _, by rw [pI_cell _ _ (by decide)]; exact h6⟩
theorem step0 {b : Nat → Nat} {z n p : Nat} {S : St} {v : Int32} (h : Cu b z n S p v) (hp : p < n) : ∃ S', fX0_step S = some S' ∧ Ex 3 S S' ∧ Cu b z n S' (p + 1) v := by
  obtain ⟨h1, h2, h3, h4, h5, h6, h7, h8⟩ := h
  have t1 : TapS b z (pI S 3 2 (nI (p + 1))) := ⟨by rw [pI_row _ _ (by decide)]; exact h1.1, fun j hj => by rw [pI_row _ _ (by decide)]; exact h1.2 j hj⟩
  have c1 : (pI S 3 2 (nI (p + 1))).1 3 1 = nI n := by rw [pI_cell _ _ (by decide)]; exact h5
  have c2 : (pI S 3 2 (nI (p + 1))).1 3 2 = nI (p + 1) := pI_same _ _ _ _
  have hf : fX0_step S = some (pI (pI S 3 2 (nI (p + 1))) 3 3 (sg b n (p + 1))) := by
    unfold fX0_step
    rw [h6, nI_1, bS_e, c1, c2]
    rcases Nat.lt_or_ge (p + 1) n with y | y
    · rw [if_neg (by rw [nle (by omega) (by omega)]; omega), byte7 t1 h3 (by omega), bi_some, bS_e, sg_lt y]
    · rw [if_pos (by rw [nle (by omega) (by omega)]; omega), bS_e, sg_ge y]
  refine ⟨_, hf, ((Ex.rf 3 S).put _ _).put _ _, ⟨by rw [pI_row _ _ (by decide)]; exact t1.1, fun j hj => by rw [pI_row _ _ (by decide)]; exact t1.2 j hj⟩, h2, h3, hp, ?_, ?_, pI_same _ _ _ _, ?_⟩
  · rw [pI_cell _ _ (by decide)]; exact c1
  · rw [pI_cell _ _ (by decide)]; exact c2
  · rw [pI_cell _ _ (by decide), pI_cell _ _ (by decide)]; exact h8
theorem fine0 (S : St) : fX0_fine S = some (b2i (decide (S.1 3 4 = 0)), S) := by
  unfold fX0_fine
  by_cases c : S.1 3 4 = 0 <;> simp [c, b2i]
theorem fail0 {b : Nat → Nat} {z n p : Nat} {S : St} (h : Cu b z n S p 0) (k q : Nat) : fX0_fail S (nI k) (nI q) = some (pI S 3 4 (flt k q)) := by
  unfold fX0_fail
  rw [h.2.2.2.2.2.2.2, if_pos rfl, bS_e]
  rfl
theorem fail0n {S : St} (h : S.1 3 4 ≠ 0) (x y : Int32) : fX0_fail S x y = some S := by
  unfold fX0_fail
  rw [if_neg h]
theorem failH {b : Nat → Nat} {z n p : Nat} {S : St} (h : Cu b z n S p 0) (k : Nat) : fX0_failHere S (nI k) = some (pI S 3 4 (flt k p)) := by
  unfold fX0_failHere
  rw [h.2.2.2.2.2.1, fail0 h]
  rfl
theorem failHn {S : St} (h : S.1 3 4 ≠ 0) (x : Int32) : fX0_failHere S x = some S := by
  unfold fX0_failHere
  rw [fail0n h]
  rfl
def dgB (x : Int32) : Bool := inR x 48 57
theorem isDig0 (S : St) : fX0_isDigit S = some (b2i (dgB (S.1 3 3)), S) := by
  unfold fX0_isDigit fX0_isDigit_22 dgB inR
  simp only [Ilt]
  have e1 : (48 : Int32).toInt = 48 := by decide
  have e2 : (57 : Int32).toInt = 57 := by decide
  rw [e1, e2]
  by_cases c1 : (S.1 3 3).toInt < 48
  · have : ¬ 48 ≤ (S.1 3 3).toInt := by omega
    simp [c1, this, b2i]
  · have c3 : 48 ≤ (S.1 3 3).toInt := by omega
    by_cases c2 : 57 < (S.1 3 3).toInt
    · have : ¬ (S.1 3 3).toInt ≤ 57 := by omega
      simp [c1, c2, c3, this, b2i]
    · have : (S.1 3 3).toInt ≤ 57 := by omega
      simp [c1, c2, c3, this, b2i]
theorem isDig12 {b : Nat → Nat} {n p : Nat} {M : St} (h : Mu b n M p) : fX12_isDigit M = some (b2i (dgB (sg b n p)), M) := by
  unfold fX12_isDigit fX12_isDigit_22 dgB inR
  simp only [here12 h, bi_some, Ilt]
  have e1 : (48 : Int32).toInt = 48 := by decide
  have e2 : (57 : Int32).toInt = 57 := by decide
  rw [e1, e2]
  by_cases c1 : (sg b n p).toInt < 48
  · have : ¬ 48 ≤ (sg b n p).toInt := by omega
    simp [c1, this, b2i]
  · have c3 : 48 ≤ (sg b n p).toInt := by omega
    by_cases c2 : 57 < (sg b n p).toInt
    · have : ¬ (sg b n p).toInt ≤ 57 := by omega
      simp [c1, c2, c3, this, b2i]
    · have : (sg b n p).toInt ≤ 57 := by omega
      simp [c1, c2, c3, this, b2i]
theorem dg_m1 : dgB (-1) = false := by decide
theorem dg_in {b : Nat → Nat} {n p : Nat} (hb : ∀ j, b j < 256) (h : dgB (sg b n p) = true) : p < n ∧ 48 ≤ b p ∧ b p ≤ 57 := by
  have hp : p < n := sg_in (fun e => by rw [e, dg_m1] at h; cases h)
  have := hb p
  rw [sg_lt hp] at h
  unfold dgB at h
  rw [inR_t, nI_toInt (by omega)] at h
  omega
theorem expect0 {b : Nat → Nat} {z n p : Nat} {S : St} {v : Int32} (h : Cu b z n S p v) (w : Nat) (hw : w < 256) : ∃ S', fX0_expect S (nI w) = some S' ∧ Ex 3 S S' ∧ (if sg b n p = nI w then p < n ∧ Cu b z n S' (p + 1) v else Cu b z n S' p (if v = 0 then flt 1 p else v)) := by
  unfold fX0_expect
  rw [h.2.2.2.2.2.2.1]
  by_cases c : sg b n p = nI w
  · have hp : p < n := sg_in (fun e => by
      rw [e] at c
      exact m1n (by omega) c)
    obtain ⟨S', a1, a2, a3⟩ := step0 h hp
    refine ⟨S', by rw [if_pos c, a1]; rfl, a2, ?_⟩
    rw [if_pos c]
    exact ⟨hp, a3⟩
  · rw [if_neg c]
    by_cases e : v = 0
    · subst e
      refine ⟨pI S 3 4 (flt 1 p), by rw [li 1, failH h]; rfl, (Ex.rf 3 S).put _ _, ?_⟩
      rw [if_neg c, if_pos rfl]
      exact h.put
    · refine ⟨S, by rw [failHn (by rw [h.2.2.2.2.2.2.2]; exact e)]; rfl, Ex.rf 3 S, ?_⟩
      rw [if_neg c, if_neg e]
      exact h
theorem takes12 {b : Nat → Nat} {n p : Nat} {M : St} (h : Mu b n M p) (w : Int32) : fX12_takes M w = (if sg b n p = w then some (1, pI M 55 12 (nI (p + 1))) else some (0, pI M 55 14 (flt 1 p))) := by
  unfold fX12_takes
  rw [here12 h, bi_some, h.2.2.2.2.1, nI_1, bS_e]
  by_cases c : sg b n p = w
  · rw [if_pos c, if_pos c]
  · rw [if_neg c, if_neg c, li 1, wrong12, bi_some, if_pos (Or.inl rfl)]
-- numbers
def dgs (b : Nat → Nat) (n : Nat) : Nat → Nat → Nat → Nat × Nat × Bool
  | 0, p, w => (p, w, !dgB (sg b n p))
  | r + 1, p, w => if dgB (sg b n p) = true then dgs b n r (p + 1) (10 * w + (b p - 48)) else (p, w, true)
def bnd : Nat → Nat
  | 0 => 100000
  | r + 1 => bnd r / 10
theorem bnd_le : ∀ r, bnd r ≤ 100000
  | 0 => Nat.le_refl _
  | r + 1 => by
    have := bnd_le r
    rw [bnd]
    omega
theorem dgs_bd {b : Nat → Nat} (hb : ∀ j, b j < 256) {n : Nat} : ∀ r p w, p ≤ n → w < bnd r → (dgs b n r p w).1 ≤ n ∧ p ≤ (dgs b n r p w).1 ∧ (dgs b n r p w).2.1 < 100000
  | 0, p, w, hp, hw => ⟨hp, Nat.le_refl _, hw⟩
  | r + 1, p, w, hp, hw => by
    rw [dgs]
    by_cases c : dgB (sg b n p) = true
    · rw [if_pos c]
      obtain ⟨c1, c2, c3⟩ := dg_in hb c
      rw [bnd] at hw
      obtain ⟨a1, a2, a3⟩ := dgs_bd (n := n) hb r (p + 1) (10 * w + (b p - 48)) (by omega) (by omega)
      exact ⟨a1, by omega, a3⟩
    · rw [if_neg c]
      have := bnd_le (r + 1)
      exact ⟨hp, Nat.le_refl _, by show w < 100000; omega⟩
theorem dgs_nd {b : Nat → Nat} {n : Nat} : ∀ r p w, (dgs b n r p w).2.2 = true → dgB (sg b n (dgs b n r p w).1) = false
  | 0, p, w, h => by
    rw [dgs] at h ⊢
    simpa using h
  | r + 1, p, w, h => by
    rw [dgs] at h ⊢
    by_cases c : dgB (sg b n p) = true
    · rw [if_pos c] at h ⊢
      exact dgs_nd r _ _ h
    · rw [if_neg c]
      simpa using c
theorem dig_e {w c : Nat} (hc : 48 ≤ c) : (10 : Int32) * nI w + nI c - 48 = nI (10 * w + (c - 48)) := by
  rw [li 10, pk_mul, nI_add, li 48, pk_sub (by omega), show 10 * w + c - 48 = 10 * w + (c - 48) by omega]
theorem rn16 {b : Nat → Nat} (hb : ∀ j, b j < 256) {z n m : Nat} (hm : m ≤ 5) : ∀ r k p w f S, k + r = m → Cu b z n S p 0 → w < bnd r → r + 1 < f → ∃ S', Ex 3 S S' ∧ Cu b z n S' (dgs b n r p w).1 (if (dgs b n r p w).2.2 = true then 0 else flt 2 (dgs b n r p w).1) ∧ fX0_readNumber_16 f S (nI m) (nI w) (nI k) = some (nI (dgs b n r p w).2.1, S') := by
  intro r
  induction r with
  | zero =>
    intro k p w f S hk h hw hf
    obtain ⟨f, rfl⟩ : ∃ f', f = f' + 2 := ⟨f - 2, by omega⟩
    have ek : k = m := by omega
    subst ek
    have hv := h.2.2.2.2.2.2.2
    have e1 : fX0_readNumber_16 (f + 2) S (nI k) (nI w) (nI k) = (if dgB (sg b n p) = true then some (nI w, pI S 3 4 (flt 2 p)) else some (nI w, S)) := by
      show bX0_readNumber_16 _ _ _ _ _ = _
      unfold bX0_readNumber_16
      rw [if_neg (by rw [nlt (by omega) (by omega)]; omega), fine0, hv, bi_some, if_neg (by decide), isDig0, bi_some, h.2.2.2.2.2.2.1]
      cases c : dgB (sg b n p) with
      | false => rw [b2i_f, if_pos rfl]; rfl
      | true =>
        rw [b2i_t, if_neg (by decide), if_pos rfl, li 2, failH h, bv_some, bV_e, nI_1, if_pos rfl]
        show bX0_readNumber_16 _ _ _ _ _ = _
        unfold bX0_readNumber_16
        rw [if_pos (by rw [nlt (by omega) (by omega)]; omega)]
    rw [e1, dgs]
    cases c : dgB (sg b n p) with
    | false =>
      refine ⟨S, Ex.rf 3 S, ?_, rfl⟩
      exact h
    | true =>
      refine ⟨pI S 3 4 (flt 2 p), (Ex.rf 3 S).put _ _, ?_, rfl⟩
      exact h.put
  | succ r ih =>
    intro k p w f S hk h hw hf
    obtain ⟨f, rfl⟩ : ∃ f', f = f' + 1 := ⟨f - 1, by omega⟩
    have hv := h.2.2.2.2.2.2.2
    have e1 : fX0_readNumber_16 (f + 1) S (nI m) (nI w) (nI k) = (if b2i (dgB (sg b n p)) = 0 then (some (nI w, S)) else (bV (((((10 : Int32) * nI w) + sg b n p) - (48 : Int32))) fun v5 => bv (fX0_step S) fun S3 => bV (nI k + (1 : Int32)) fun v7 => fX0_readNumber_16 f S3 (nI m) v5 v7)) := by
      show bX0_readNumber_16 _ _ _ _ _ = _
      unfold bX0_readNumber_16
      rw [if_neg (show ¬ nI m < nI k by rw [nlt (by omega) (by omega)]; omega), fine0, hv, bi_some, if_neg (by decide), isDig0, bi_some, h.2.2.2.2.2.2.1, if_neg (show ¬ nI k = nI m by rw [neq (by omega) (by omega)]; omega)]
    by_cases c : dgB (sg b n p) = true
    · obtain ⟨c1, c2, c3⟩ := dg_in hb c
      obtain ⟨S1, s1, s2, s3⟩ := step0 h c1
      rw [bnd] at hw
      have hd : dgs b n (r + 1) p w = dgs b n r (p + 1) (10 * w + (b p - 48)) := by rw [dgs, if_pos c]
      obtain ⟨S', a1, a2, a3⟩ := ih (k + 1) (p + 1) (10 * w + (b p - 48)) f S1 (by omega) s3 (by omega) (by omega)
      rw [hd]
      refine ⟨S', s2.tr a1, a2, ?_⟩
      rw [e1, c, b2i_t, if_neg (by decide), sg_lt c1, dig_e c2, bV_e, s1, bv_some, bV_e, nI_1]
      exact a3
    · have c' : dgB (sg b n p) = false := by simpa using c
      have hd : dgs b n (r + 1) p w = (p, w, true) := by rw [dgs, if_neg c]
      rw [hd]
      refine ⟨S, Ex.rf 3 S, h, ?_⟩
      rw [e1, c', b2i_f, if_pos rfl]
