-- the law
theorem l49n {o : Nat} {S : St} {v x : Int32} (hv : v ≠ 0) (h : S.1 3 4 = v) : fX3_readLaw_49 o S x = some (v, S) := by
  unfold fX3_readLaw_49
  rw [nfine (by rw [h]; exact hv), bi_some, if_pos rfl, h]
theorem l49 {o : Nat} {S : St} {x : Int32} (h : S.1 3 4 = 0) : fX3_readLaw_49 o S x = some (x, S) := by
  unfold fX3_readLaw_49
  rw [yfine h, bi_some, if_neg (by decide)]
theorem l17e (o f : Nat) (S : St) (x : Int32) : fX3_readLaw_17 o (f + 1) S x 0 = fX3_readLaw_49 o S x := by
  show bX3_readLaw_17 _ _ _ _ _ = _
  unfold bX3_readLaw_17
  rw [if_pos rfl]
theorem m31e (g : Nat) (M : St) : fX12_law_31 (g + 1) M 0 = fX12_law_71 M 0 := by
  show bX12_law_31 _ _ _ = _
  unfold bX12_law_31
  rw [if_pos rfl]
def LwO (b : Nat → Nat) (z n o f g r : Nat) (S M S' : St) : Prop := FrO o S S' ∧ ((∃ r' p' sc' cm' M', FrN M M' ∧ RuI b z n o S' M' p' r' sc' cm' ∧ fX3_readLaw_17 o f S (nI r) 1 = some (nI r', S') ∧ (bi (fX12_readsRule M) fun r5 S3 => fX12_law_31 g S3 r5) = fX12_law_71 M' 1) ∨ (∃ v M', v < 0 ∧ FrN M M' ∧ M'.1 55 14 = v ∧ fX3_readLaw_17 o f S (nI r) 1 = some (v, S') ∧ (bi (fX12_readsRule M) fun r5 S3 => fX12_law_31 g S3 r5) = fX12_law_71 M' 0))
theorem llaw_loop {b : Nat → Nat} {z n o : Nat} : ∀ k r S M p sc cm f g, r + k = 17 → 0 < k → RuI b z n o S M p r sc cm → k < f → k < g → ∃ S', LwO b z n o f g r S M S' := by
  intro k
  induction k with
  | zero => intro r S M p sc cm f g _ h; omega
  | succ k ih =>
    intro r S M p sc cm f g hk _ hI hf hg
    obtain ⟨f, rfl⟩ : ∃ f', f = f' + 2 := ⟨f - 2, by omega⟩
    obtain ⟨g, rfl⟩ : ∃ g', g = g' + 1 := ⟨g - 1, by omega⟩
    obtain ⟨S1, l1, l2, l3⟩ := rule_sim hI
    have hLo := hI.2.2.2.1
    have hol := hLo
    unfold isL at hol
    have ec : fX3_readLaw_17 o (f + 2) S (nI r) 1 = bi (fX0_passesSemicolon S1) fun r4 S2 => fX3_readLaw_17 o (f + 1) S2 (nI (r + 1)) r4 := by
      show bX3_readLaw_17 o (fX3_readLaw_17 o (f + 1)) S (nI r) 1 = _
      unfold bX3_readLaw_17
      rw [if_neg (by decide), if_neg (show ¬ (16 : Int32) < nI r by rw [li 16, nlt (by decide) (by omega)]; omega), l1, bv_some, bV_e, nI_1]
    unfold LwO
    rw [ec, pass0]
    rcases l3 with ⟨v, M1, ⟨⟨p', hC⟩, v1, _⟩, v3, v4, v5⟩ | ⟨hr, p', sc', cm', M1, v2, hI2, v4, v5⟩
    · have hv := ne_of_neg v1
      have h34 := hC.2.2.2.2.2.2.2
      refine ⟨S1, l2, Or.inr ⟨v, M1, v1, v3, v4, ?_, ?_⟩⟩
      · rw [if_neg (by rw [h34]; exact hv), bi_some, l17e, l49n hv h34]
      · rw [v5, bi_some]
        exact m31e g M1
    · obtain ⟨hC, hM, hn, _, h6, hr2, h19, h7, h17, hcm, hsc, hQ⟩ := id hI2
      have h34 := hC.2.2.2.2.2.2.2
      have h33 := hC.2.2.2.2.2.2.1
      have hp' := hC.2.2.2.1
      have m1 : fX12_law_31 (g + 1) M1 1 = (if n ≤ p' then fX12_law_71 M1 1 else bi (fX12_takes M1 (59 : Int32)) fun r2 S1 => if r2 = 0 then (fX12_law_66 (fX12_law_31 g) S1) else (bi (fX12_readsRule S1) fun r4 S2 => if r4 = 0 then (fX12_law_66 (fX12_law_31 g) S2) else (fX12_law_31 g S2 (1 : Int32)))) := by
        show bX12_law_31 _ _ _ = _
        unfold bX12_law_31
        rw [if_neg (by decide), hM.2.2.2.2.1, hM.2.2.2.2.2]
        by_cases c : n ≤ p'
        · rw [if_pos c, if_pos (show nI n ≤ nI p' by rw [nle (by omega) (by omega)]; exact c)]
        · rw [if_neg c, if_neg (show ¬ nI n ≤ nI p' by rw [nle (by omega) (by omega)]; exact c)]
      rw [v5, bi_some, m1, if_pos h34, h33]
      rcases Nat.lt_or_ge p' n with y | y
      · have hs : sg b n p' ≠ -1 := by rw [sg_lt y]; exact nm1 (by have := hM.2.1 p'; omega)
        rw [if_neg hs, if_neg (show ¬ n ≤ p' by omega), takes12 hM]
        obtain ⟨S2, a1, a2, a3⟩ := expect0 hC 59 (by decide)
        rw [li 59, a1, bv_some]
        by_cases c : sg b n p' = nI 59
        · rw [if_pos c] at a3
          rw [if_pos c, bi_some, bi_some, a3.2.2.2.2.2.2.2.2, if_neg (show ¬ (1 : Int32) = 0 by decide)]
          have hI3 : RuI b z n o S2 (pI M1 55 12 (nI (p' + 1))) (p' + 1) (r + 1) sc' cm' := ⟨a3.2, hM.mv (by omega), hn, hLo, by rw [a2.2 o (by omega)]; exact h6, hr2, by rw [pI_cell _ _ (by decide)]; exact h19, by rw [a2.2 o (by omega)]; exact h7, by rw [pI_cell _ _ (by decide)]; exact h17, by omega, by omega, fun q hq => (hQ q hq).cg (fun a h1 h2 => by rw [a2.2 a (by omega)]) (fun a h1 h2 => by rw [pI_row _ _ (by omega)]) (fun t _ => by rw [a2.2 (o + 4) (by omega)]) (fun t _ => by rw [pI_row _ _ (by decide)]) (Nat.le_refl _) (Nat.le_refl _)⟩
          have fn2 : FrN M1 (pI M1 55 12 (nI (p' + 1))) := FrN.put _ (by unfold lnM; omega) _
          obtain ⟨S', q1, q2⟩ := ih (r + 1) S2 (pI M1 55 12 (nI (p' + 1))) (p' + 1) sc' cm' (f + 1) g (by omega) (by omega) hI3 (by omega) (by omega)
          have e2 : (bi (fX12_readsRule (pI M1 55 12 (nI (p' + 1)))) fun r4 S2 => if r4 = 0 then (fX12_law_66 (fX12_law_31 g) S2) else (fX12_law_31 g S2 (1 : Int32))) = (bi (fX12_readsRule (pI M1 55 12 (nI (p' + 1)))) fun r5 S3 => fX12_law_31 g S3 r5) := by
            obtain ⟨_, _, _, y3⟩ := rule_sim hI3
            rcases y3 with ⟨_, M3, _, _, _, y4⟩ | ⟨_, _, _, _, M3, _, _, _, y4⟩
            · rw [y4, bi_some, bi_some, if_pos rfl]; rfl
            · rw [y4, bi_some, bi_some, if_neg (by decide)]
          rw [e2]
          refine ⟨S', (l2.tr (FrO.ex a2)).tr q1, ?_⟩
          rcases q2 with ⟨r', p3, sc3, cm3, M3, x1, x2, x3, x4⟩ | ⟨v, M3, x1, x2, x3, x4, x5⟩
          · exact Or.inl ⟨r', p3, sc3, cm3, M3, (v2.tr fn2).tr x1, x2, x3, x4⟩
          · exact Or.inr ⟨v, M3, x1, (v2.tr fn2).tr x2, x3, x4, x5⟩
        · rw [if_neg c, if_pos rfl] at a3
          have hv : flt 1 p' < 0 := flt_neg (by decide) (by decide) (by omega)
          have h344 := a3.2.2.2.2.2.2.2
          have hdf : decide (flt 1 p' = 0) = false := by
            have := ne_of_neg hv
            simpa using this
          rw [if_neg c, bi_some, bi_some, h344, hdf, b2i_f, if_pos rfl]
          refine ⟨S2, l2.tr (FrO.ex a2), Or.inr ⟨flt 1 p', pI M1 55 14 (flt 1 p'), hv, v2.tr (FrN.put _ (by unfold lnM; omega) _), pI_same _ _ _ _, ?_, ?_⟩⟩
          · rw [l17e, l49n (ne_of_neg hv) h344]
          · obtain ⟨g, rfl⟩ : ∃ g', g = g' + 1 := ⟨g - 1, by omega⟩
            exact m31e g _
      · rw [sg_ge y, if_pos rfl, if_pos y, bi_some]
        refine ⟨S1, l2, Or.inl ⟨r + 1, p', sc', cm', M1, v2, hI2, ?_, rfl⟩⟩
        rw [l17e, l49 h34]
-- what was said is copied
theorem cp95 {cm : Nat} (hcm : cm ≤ 260) : ∀ m k f M, k + m = cm → m < f → M.1 55 17 = nI cm → ∃ M', fX12_law_95 f M (nI k) = fX12_law_123 300 M' 0 ∧ M'.2 = M.2 ∧ (∀ a, a ≠ 71 → M'.1 a = M.1 a) ∧ (∀ q, q < k → M'.1 71 q = M.1 71 q) ∧ ∀ q, k ≤ q → q < cm → M'.1 71 q = M.1 65 q := by
  intro m
  induction m with
  | zero =>
    intro k f M h1 h2 h17
    obtain ⟨f, rfl⟩ : ∃ f', f = f' + 1 := ⟨f - 1, by omega⟩
    refine ⟨M, ?_, rfl, fun _ _ => rfl, fun _ _ => rfl, fun q q1 q2 => by omega⟩
    show bX12_law_95 _ _ _ = _
    unfold bX12_law_95
    rw [h17, if_pos (show nI cm ≤ nI k by rw [nle (by omega) (by omega)]; omega)]
  | succ m ih =>
    intro k f M h1 h2 h17
    obtain ⟨f, rfl⟩ : ∃ f', f = f' + 1 := ⟨f - 1, by omega⟩
    obtain ⟨M', a1, a2, a3, a4, a5⟩ := ih (k + 1) f (pI M 71 k (M.1 65 k)) (by omega) (by omega) (by rw [pI_row _ _ (by decide)]; exact h17)
    refine ⟨M', ?_, a2, fun a ha => ?_, fun q hq => ?_, fun q q1 q2 => ?_⟩
    · show bX12_law_95 _ _ _ = _
      unfold bX12_law_95
      rw [h17, if_neg (show ¬ nI cm ≤ nI k by rw [nle (by omega) (by omega)]; omega), if_pos (inbT (by omega) (by decide)), if_pos (inbT (by omega) (by decide)), nI_clamp (by omega), bS_e, nI_1, bV_e]
      exact a1
    · rw [a3 a ha, pI_row _ _ ha]
    · rw [a4 q (by omega), pI_cell _ _ (by omega)]
    · by_cases c : q = k
      · rw [c, a4 k (by omega), pI_same]
      · rw [a5 q (by omega) q2, pI_row _ _ (by decide)]
theorem cp123 {r : Nat} (hr : r ≤ 16) : ∀ m k f M, k + m = r → m < f → M.1 55 19 = nI r → ∃ M', fX12_law_123 f M (nI k) = some (nI r, M') ∧ M'.2 = M.2 ∧ (∀ a, ¬ (72 ≤ a ∧ a ≤ 75) → M'.1 a = M.1 a) ∧ (∀ a, 72 ≤ a → a ≤ 75 → ∀ q, q < k → M'.1 a q = M.1 a q) ∧ ∀ a, 72 ≤ a → a ≤ 75 → ∀ q, k ≤ q → q < r → M'.1 a q = M.1 (a - 5) q := by
  intro m
  induction m with
  | zero =>
    intro k f M h1 h2 h19
    obtain ⟨f, rfl⟩ : ∃ f', f = f' + 1 := ⟨f - 1, by omega⟩
    refine ⟨M, ?_, rfl, fun _ _ => rfl, fun _ _ _ _ _ => rfl, fun a _ _ q q1 q2 => by omega⟩
    show bX12_law_123 _ _ _ = _
    unfold bX12_law_123
    rw [h19, if_pos (show nI r ≤ nI k by rw [nle (by omega) (by omega)]; omega)]
  | succ m ih =>
    intro k f M h1 h2 h19
    obtain ⟨f, rfl⟩ : ∃ f', f = f' + 1 := ⟨f - 1, by omega⟩
    have e1 : (pI M 72 k (M.1 67 k)).1 68 = M.1 68 := pI_row _ _ (by decide)
    have e2 : (pI (pI M 72 k (M.1 67 k)) 73 k (M.1 68 k)).1 69 = M.1 69 := by rw [pI_row _ _ (by decide), pI_row _ _ (by decide)]
    have e3 : (pI (pI (pI M 72 k (M.1 67 k)) 73 k (M.1 68 k)) 74 k (M.1 69 k)).1 70 = M.1 70 := by rw [pI_row _ _ (by decide), pI_row _ _ (by decide), pI_row _ _ (by decide)]
    have ib : inb (nI k) 16 = true := inbT (by omega) (by decide)
    obtain ⟨M', a1, a2, a3, a4, a5⟩ := ih (k + 1) f (pI (pI (pI (pI M 72 k (M.1 67 k)) 73 k (M.1 68 k)) 74 k (M.1 69 k)) 75 k (M.1 70 k)) (by omega) (by omega) (by rw [pI_row _ _ (by decide), pI_row _ _ (by decide), pI_row _ _ (by decide), pI_row _ _ (by decide)]; exact h19)
    refine ⟨M', ?_, a2, fun a ha => ?_, fun a x1 x2 q hq => ?_, fun a x1 x2 q q1 q2 => ?_⟩
    · show bX12_law_123 _ _ _ = _
      unfold bX12_law_123
      rw [h19, if_neg (show ¬ nI r ≤ nI k by rw [nle (by omega) (by omega)]; omega)]
      simp only [ib, if_true, nI_clamp (show k < 2 ^ 31 by omega), bS_e, bV_e, e1, e2, e3, nI_1]
      exact a1
    · rw [a3 a ha, pI_row _ _ (by omega), pI_row _ _ (by omega), pI_row _ _ (by omega), pI_row _ _ (by omega)]
    · rw [a4 a x1 x2 q (by omega), pI_cell _ _ (by omega), pI_cell _ _ (by omega), pI_cell _ _ (by omega), pI_cell _ _ (by omega)]
    · by_cases c : q = k
      · subst c
        rw [a4 a x1 x2 q (by omega)]
        have : a = 72 ∨ a = 73 ∨ a = 74 ∨ a = 75 := by omega
        rcases this with rfl | rfl | rfl | rfl
        · rw [pI_row _ _ (by decide), pI_row _ _ (by decide), pI_row _ _ (by decide), pI_same]
        · rw [pI_row _ _ (by decide), pI_row _ _ (by decide), pI_same]
        · rw [pI_row _ _ (by decide), pI_same]
        · rw [pI_same]
      · rw [a5 a x1 x2 q (by omega) q2, pI_row _ _ (by omega), pI_row _ _ (by omega), pI_row _ _ (by omega), pI_row _ _ (by omega)]
/-- a law that is not read leaves the rest as it was -/
theorem Rel.lrd {S M S' M' : St} (h : Rel S M) (hC : FrO (S.2.2 3) S S') (hM : FrN M M') : Rel (pI S' 1 1 0) (pI M' 55 11 0) := by
  obtain ⟨a1, a2, a3, a4, a5, a6, a7, a8⟩ := h
  have hT := a2.1
  have hR := a8.1
  have hR1 := a8.2.1
  have hRn := a8.2.2.1
  unfold isT at hT
  unfold isL at hR hR1
  have s2 : S'.2.2 = S.2.2 := by rw [hC.1]
  have cS : ∀ o k, o ≠ 3 → ¬ (S.2.2 3 ≤ o ∧ o ≤ S.2.2 3 + 4) → ¬ (o = 1 ∧ k = 1) → (pI S' 1 1 0).1 o k = S.1 o k := fun o k h1 h2 h3 => by rw [pI_cell _ _ h3, hC.2 o h1 h2]
  have cM : ∀ o k, ¬ lnM o k → ¬ (o = 55 ∧ k = 11) → (pI M' 55 11 0).1 o k = M.1 o k := fun o k h1 h2 => by rw [pI_cell _ _ h2, hM.2 o k h1]
  have hn : hN (pI M' 55 11 0) = hN M := by unfold hN; rw [cM 55 8 (by unfold lnM; omega) (by omega)]
  have aM : AgC strM M (pI M' 55 11 0) := fun o k hp => cM o k (by unfold strM at hp; unfold lnM; omega) (by unfold strM at hp; omega)
  refine ⟨a1.cg aM, a2.cg aM (by show S'.2.2 0 = _; rw [s2]) (by show S'.2.2 1 = _; rw [s2]) (fun o k hp => cS o k (by unfold strC at hp; omega) (by unfold strC at hp; omega) (by unfold strC at hp; omega)), a3.cg hn (fun j _ => cS 9 j (by decide) (by omega) (by omega)) (fun j _ => cM 59 j (by unfold lnM; omega) (by omega)), ?_, a5.cg (fun o k hp => cS o k (by unfold kepC at hp; omega) (by unfold kepC at hp; omega) (by unfold kepC at hp; omega)) (fun o k hp => cM o k (by unfold kepM at hp; unfold lnM; omega) (by unfold kepM at hp; omega)), ?_, a7.cg (fun o h1 h2 k _ => cM o k (by unfold lnM; omega) (by omega)), a8.cg (by show S'.2.2 2 = _; rw [s2]) (by show S'.2.2 3 = _; rw [s2]) (fun o k hp => cS o k (by unfold rulC at hp; omega) (by unfold rulC at hp; omega) (by unfold rulC at hp; omega)) (fun o k hp => cM o k (by unfold rulM at hp; unfold lnM; omega) (by unfold rulM at hp; omega))⟩
  · rw [hn]
    exact a4.cg (fun k _ => cS 20 k (by decide) (by omega) (by omega)) (fun k _ => cS 19 k (by decide) (by omega) (by omega)) (fun k _ => cM 56 k (by unfold lnM; omega) (by omega))
  · refine ⟨⟨0, by decide, pI_same _ _ _ _, pI_same _ _ _ _⟩, fun j hj => ?_⟩
    rw [cS 2 j (by decide) (by omega) (by omega), cM 64 j (by unfold lnM; omega) (by omega)]
    exact a6.2 j hj
