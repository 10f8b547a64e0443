-- a factor of a sum
theorem rn10 {b : Nat → Nat} {n fr : Nat} : ∀ r p w f M, fr ≤ p → p + r = fr + 5 → Mu b n M p → M.1 55 15 = nI w → w < bnd r → r + 1 < f → ∃ M', E55 M M' ∧ Mu b n M' (dgs b n r p w).1 ∧ M'.1 55 15 = nI (dgs b n r p w).2.1 ∧ fX12_readsNumber_10 f M (nI fr) = (if (dgs b n r p w).2.2 = true then some (1, M') else some (0, pI M' 55 14 (flt 2 (dgs b n r p w).1))) := by
  intro r
  induction r with
  | zero =>
    intro p w f M hfr hr h hw hb hf
    obtain ⟨f, rfl⟩ : ∃ f', f = f' + 1 := ⟨f - 1, by omega⟩
    have h5 := h.2.2.2.2.1
    have h3 := h.2.2.1
    have h4 := h.2.2.2.1
    refine ⟨M, E55.rf M, h, hw, ?_⟩
    have e1 : fX12_readsNumber_10 (f + 1) M (nI fr) = bX12_readsNumber_10 (fX12_readsNumber_10 f) M (nI fr) := rfl
    unfold bX12_readsNumber_10 at e1
    rw [isDig12 h, bi_some, h5, li 2, li 5, nI_add, wrong12, bi_some] at e1
    have hd : dgs b n 0 p w = (p, w, !dgB (sg b n p)) := rfl
    rw [e1, hd]
    cases c : dgB (sg b n p) with
    | false => rw [b2i_f, if_pos rfl, if_pos (show (!false) = true from rfl)]
    | true => rw [b2i_t, if_neg (show ¬ (1 : Int32) = 0 by decide), if_pos (show nI p = nI (fr + 5) by rw [neq (by omega) (by omega)]; omega), if_neg (show ¬ (!true) = true by decide), if_pos (Or.inl rfl)]
  | succ r ih =>
    intro p w f M hfr hr h hw hb hf
    obtain ⟨f, rfl⟩ : ∃ f', f = f' + 1 := ⟨f - 1, by omega⟩
    have h5 := h.2.2.2.2.1
    have h3 := h.2.2.1
    have h4 := h.2.2.2.1
    have e1 : fX12_readsNumber_10 (f + 1) M (nI fr) = bX12_readsNumber_10 (fX12_readsNumber_10 f) M (nI fr) := rfl
    by_cases c : dgB (sg b n p) = true
    · obtain ⟨c1, c2, c3⟩ := dg_in h.2.1 c
      have hd : dgs b n (r + 1) p w = dgs b n r (p + 1) (10 * w + (b p - 48)) := by rw [dgs, if_pos c]
      rw [bnd] at hb
      have m1 : Mu b n (pI M 55 15 (nI (10 * w + (b p - 48)))) p := h.oth (pI_row _ _ (by decide)) (pI_cell _ _ (by decide)) (pI_cell _ _ (by decide))
      obtain ⟨M', a1, a2, a3, a4⟩ := ih (p + 1) (10 * w + (b p - 48)) f (pI (pI M 55 15 (nI (10 * w + (b p - 48)))) 55 12 (nI (p + 1))) (by omega) (by omega) (m1.mv (by omega)) (by rw [pI_cell _ _ (by decide), pI_same]) (by omega) (by omega)
      rw [hd]
      refine ⟨M', ((E55.put M (by decide) _).tr (E55.put _ (by decide) _)).tr a1, a2, a3, ?_⟩
      rw [e1]
      unfold bX12_readsNumber_10
      rw [isDig12 h, bi_some, c, b2i_t, if_neg (by decide), h5, li 5, nI_add, if_neg (show ¬ nI p = nI (fr + 5) by rw [neq (by omega) (by omega)]; omega), here12 h, bi_some, hw, sg_lt c1, dig_e c2, bS_e, m1.2.2.2.2.1, nI_1, bS_e]
      exact a4
    · have hd : dgs b n (r + 1) p w = (p, w, true) := by rw [dgs, if_neg c]
      have c' : dgB (sg b n p) = false := by simpa using c
      rw [hd]
      refine ⟨M, E55.rf M, h, hw, ?_⟩
      unfold bX12_readsNumber_10 at e1
      rw [isDig12 h, bi_some, c', b2i_f, if_pos rfl] at e1
      rw [e1, if_pos (show (p, w, true).2.2 = true from rfl)]
theorem dgs_mv {b : Nat → Nat} {n r p w : Nat} (c : dgB (sg b n p) = true) (hb : ∀ j, b j < 256) (hp : p ≤ n) (hw : w < bnd (r + 1)) : p < (dgs b n (r + 1) p w).1 := by
  obtain ⟨c1, c2, c3⟩ := dg_in hb c
  rw [dgs, if_pos c]
  rw [bnd] at hw
  have := dgs_bd (n := n) hb r (p + 1) (10 * w + (b p - 48)) (by omega) (by omega)
  omega
def SumP (b : Nat → Nat) (z n o op : Nat) : Prop := ∀ S M p sc cm w k cf c bs, LI b z n o S M p sc cm w op → OTx M w 1 → bs ≤ w → w ≤ bs + 3 * op → 3 * (6 - op) + 3 ≤ k → 100 ≤ cf + op → 260 ≤ c + p → ∃ S', fLR k 3 o S (nI op) = some S' ∧ (Flt b z n o S M S' (FS cf c (nI bs) M) ∨ ∃ p' sc' cm' a1 a2 s1 s2 M' c', Got b z n o S M S' p sc cm w op (15 - 2 * op) (nI bs) (FS cf c (nI bs) M) p' sc' cm' a1 a2 s1 s2 M' c' ∧ (sg b n p' ≠ nI 43 ∧ sg b n p' ≠ nI 45 ∧ sg b n p' ≠ nI 42 ∧ sg b n p' ≠ nI 47 ∧ sg b n p' ≠ nI 37))
def FacP (b : Nat → Nat) (z n o op : Nat) : Prop := ∀ S M p sc cm w k cf c bs, LI b z n o S M p sc cm w op → bs ≤ w → w ≤ bs + 3 * op + 2 → 3 * (6 - op) + 1 ≤ k → 100 ≤ cf + op → 260 ≤ c + p → ∃ S', fLR k 5 o S (nI op) = some S' ∧ (Flt b z n o S M S' (FS cf c (nI bs) M) ∨ ∃ p' sc' cm' M' c', Got b z n o S M S' p sc cm w op (13 - 2 * op) (nI bs) (FS cf c (nI bs) M) p' sc' cm' 0 0 0 0 M' c')
theorem fLR_3 (k o : Nat) (S : St) (x : Int32) : fLR (k + 1) 3 o S x = fX3_readSum (fLR k) o S x := by
  rw [fLR]
  show (if (3 : Nat) = 0 then fX3_readChoice (fLR k) o S x else if (3 : Nat) = 1 then fX3_readPart (fLR k) o S x else if (3 : Nat) = 2 then fX3_readTest (fLR k) o S x else if (3 : Nat) = 3 then fX3_readSum (fLR k) o S x else if (3 : Nat) = 4 then fX3_readTerm (fLR k) o S x else if (3 : Nat) = 5 then fX3_readFactor (fLR k) o S x else none) = _
  rw [if_neg (by decide), if_neg (by decide), if_neg (by decide), if_pos rfl]
theorem fLR_4 (k o : Nat) (S : St) (x : Int32) : fLR (k + 1) 4 o S x = fX3_readTerm (fLR k) o S x := by
  rw [fLR]
  show (if (4 : Nat) = 0 then fX3_readChoice (fLR k) o S x else if (4 : Nat) = 1 then fX3_readPart (fLR k) o S x else if (4 : Nat) = 2 then fX3_readTest (fLR k) o S x else if (4 : Nat) = 3 then fX3_readSum (fLR k) o S x else if (4 : Nat) = 4 then fX3_readTerm (fLR k) o S x else if (4 : Nat) = 5 then fX3_readFactor (fLR k) o S x else none) = _
  rw [if_neg (by decide), if_neg (by decide), if_neg (by decide), if_neg (by decide), if_pos rfl]
theorem fLR_5 (k o : Nat) (S : St) (x : Int32) : fLR (k + 1) 5 o S x = fX3_readFactor (fLR k) o S x := by
  rw [fLR]
  show (if (5 : Nat) = 0 then fX3_readChoice (fLR k) o S x else if (5 : Nat) = 1 then fX3_readPart (fLR k) o S x else if (5 : Nat) = 2 then fX3_readTest (fLR k) o S x else if (5 : Nat) = 3 then fX3_readSum (fLR k) o S x else if (5 : Nat) = 4 then fX3_readTerm (fLR k) o S x else if (5 : Nat) = 5 then fX3_readFactor (fLR k) o S x else none) = _
  rw [if_neg (by decide), if_neg (by decide), if_neg (by decide), if_neg (by decide), if_neg (by decide), if_pos rfl]
theorem fac_m1 : facI (-1) = -1 ∧ dgB (-1) = false := by decide
theorem opens3 {b : Nat → Nat} {z n op p : Nat} {S : St} (hC : Cu b z n S p 0) (hp : p < n) (ho : op ≤ 6) (hn : n ≤ 260) : (op < 6 → ∃ S', fX3_opens S (nI op) = some (1, S') ∧ Ex 3 S S' ∧ Cu b z n S' (p + 1) 0) ∧ (op = 6 → fX3_opens S (nI op) = some (0, pI S 3 4 (flt 5 p))) := by
  unfold fX3_opens
  constructor
  · intro h
    obtain ⟨S', s1, s2, s3⟩ := step0 hC hp
    refine ⟨S', ?_, s2, s3⟩
    rw [if_pos (show nI op < (6 : Int32) by rw [li 6, nlt (by omega) (by decide)]; exact h), s1, bv_some]
  · intro h
    rw [if_neg (show ¬ nI op < (6 : Int32) by rw [li 6, nlt (by omega) (by decide)]; omega), li 5, failH hC, bv_some]
def opM (w op q p : Nat) (M : St) : St := pI (pI (pI (pI M 55 16 (nI (op + 1))) 66 w (cw q 0)) 55 18 (nI (w + 1))) 55 12 (nI (p + 1))
theorem opens12 {w op q p : Nat} {M : St} (h16 : M.1 55 16 = nI op) (ho : op ≤ 6) (h18 : M.1 55 18 = nI w) (hw : w < 260) (h12 : M.1 55 12 = nI p) : fX12_opens M (nI q) = if op = 6 then some (0, pI M 55 14 (flt 5 p)) else some (1, opM w op q p M) := by
  unfold fX12_opens opM
  rw [h16, h12]
  by_cases c : op = 6
  · rw [if_pos c, if_pos (show nI op = (6 : Int32) by rw [c]; rfl), li 5, wrong12, bi_some, if_pos (Or.inl rfl)]
  · have g1 : (pI M 55 16 (nI (op + 1))).1 55 18 = nI w := by rw [pI_cell _ _ (by decide)]; exact h18
    have g2 : (pI (pI M 55 16 (nI (op + 1))) 66 w (nI (1048576 * q))).1 55 18 = nI w := by rw [pI_row _ _ (by decide)]; exact g1
    have g3 : (pI (pI (pI M 55 16 (nI (op + 1))) 66 w (nI (1048576 * q))) 55 18 (nI (w + 1))).1 55 12 = nI p := by rw [pI_cell _ _ (by decide), pI_row _ _ (by decide), pI_cell _ _ (by decide)]; exact h12
    rw [if_neg c, if_neg (show ¬ nI op = (6 : Int32) by rw [li 6, neq (by omega) (by decide)]; exact c), nI_1, bS_e, g1, if_pos (inbT hw (by decide)), nI_clamp (by omega), li 1048576, pk_mul, bS_e, g2, nI_1, bS_e, g3, nI_1, bS_e]
    rfl
