-- a whole sum; what the reading of a test comes to
theorem hos0 {M : St} {wt : Nat} (h18 : M.1 55 18 = nI wt) (hwt : wt ≤ 260) : ∀ m k f, k + m = wt → m < f → (∀ q, k ≤ q → q < wt → ∃ s, s < 7 ∧ M.1 66 q = cw s 0) → fX12_hasOpenSum_2 f M (nI k) = some (0, M) := by
  intro m
  induction m with
  | zero =>
    intro k f h1 h2 _
    obtain ⟨f, rfl⟩ : ∃ f', f = f' + 1 := ⟨f - 1, by omega⟩
    show bX12_hasOpenSum_2 _ _ _ = _
    unfold bX12_hasOpenSum_2
    rw [h18, if_pos (show nI wt ≤ nI k by rw [nle (by omega) (by omega)]; omega)]
  | succ m ih =>
    intro k f h1 h2 h3
    obtain ⟨f, rfl⟩ : ∃ f', f = f' + 1 := ⟨f - 1, by omega⟩
    obtain ⟨s, s1, s2⟩ := h3 k (Nat.le_refl _) (by omega)
    show bX12_hasOpenSum_2 _ _ _ = _
    unfold bX12_hasOpenSum_2
    rw [h18, if_neg (show ¬ nI wt ≤ nI k by rw [nle (by omega) (by omega)]; omega), if_pos (inbT (by omega) (by decide)), nI_clamp (by omega), s2, cw_op (by omega) (by decide), if_neg (show ¬ nI s = 14 by rw [li 14, neq (by omega) (by decide)]; omega), bV_e, nI_1, ih (k + 1) f (by omega) (by omega) (fun q q1 q2 => h3 q (by omega) q2)]
def SumT (b : Nat → Nat) (z n o : Nat) (S M S' : St) (p sc cm w op p' sc' cm' : Nat) (M' : St) : Prop := p < p' ∧ LI b z n o S' M' p' sc' cm' w op ∧ FrW o S S' ∧ FrV M M' ∧ Kep o sc cm w S M S' M' ∧ cm < cm' ∧ sc' + cm = sc + cm' ∧ sc' + p ≤ sc + p' ∧ EA (S'.1 (o + 4)) (M'.1 65) sc sc' cm cm' (15 - 2 * op)
theorem sum_top {b : Nat → Nat} {z n o op k p sc cm w : Nat} {S M : St} (hL : LI b z n o S M p sc cm w op) (hO : OTx M w 1) (hk : 3 * (6 - op) + 3 ≤ k) : ∃ S', fLR k 3 o S (nI op) = some S' ∧ (Flt b z n o S M S' (fX12_readsSum M) ∨ ∃ p' sc' cm' M', SumT b z n o S M S' p sc cm w op p' sc' cm' M' ∧ fX12_readsSum M = some (1, M')) := by
  have ho := hL.2.2.2.2.2.2.2.2.1
  have hcm0 := hL.2.2.2.2.2.2.2.2.2.1
  have e0 : fX12_readsSum M = FS 100 260 (nI w) M := by
    unfold fX12_readsSum
    rw [hL.2.2.2.2.2.2.1, bV_e]
    rfl
  obtain ⟨S', r1, r2⟩ := sum_all b z n o (6 - op) op (by omega) S M p sc cm w k 100 260 w hL hO (Nat.le_refl _) (by omega) hk (by omega) (by omega)
  rw [e0]
  refine ⟨S', r1, ?_⟩
  rcases r2 with r2 | ⟨p1, sc1, cm1, a1, a2, s1, s2, M1, c1, ⟨g1, ⟨hC, hM, hn, hLo, h7, h17, h18, h16, _, hcm, hw, hsc⟩, g3, g4, g5, g6, g7, g8, g9, g10, g11, g12, g13⟩, g14⟩
  · exact Or.inl r2
  · have hp1 := hC.2.2.2.1
    have ha1 := g6.1
    have ha2 := g7.1
    obtain ⟨c1, rfl⟩ : ∃ x, c1 = x + 1 := ⟨c1 - 1, by omega⟩
    obtain ⟨M2, u1, u2, u3, u4, u5⟩ := cls_all (w := w) (cm := cm1) (a1 := a1) (a2 := a2) (s1 := s1) (s2 := s2) h18 (by omega) h17 (by omega) g6 g7 (hO.cg (fun q hq => g5.2.2 q hq))
    have hos : fX12_hasOpenSum M1 (nI w) = some (0, M1) := by
      refine hos0 (wt := w + a2 + a1) h18 (by omega) (a2 + a1) w 100 (by omega) (by omega) (fun q q1 q2 => ?_)
      by_cases c : q < w + a2
      · have e : a2 = 1 := by omega
        have e2 : q = w := by omega
        have := g7.2 e
        exact ⟨s2, by omega, by rw [e2]; exact this.2.2⟩
      · have e : a1 = 1 := by omega
        have e2 : q = w + a2 := by omega
        have := g6.2 e
        exact ⟨s1, by omega, by rw [e2]; exact this.2.2⟩
    have e138 : fX12_readsSum_138 M1 (nI w) = some (1, M2) := by
      unfold fX12_readsSum_138
      rw [hos, bi_some, if_pos rfl, u1, bv_some]
    have em : fX12_readsSum_14 (c1 + 1) M1 (nI w) = some (1, M2) := by
      show bX12_readsSum_14 _ _ _ = _
      unfold bX12_readsSum_14
      rw [here12 hM, bi_some, noSign g14, bi_some, if_pos rfl, here12 hM, bi_some, hos, bi_some, e138, if_pos rfl, ite_self]
    rw [g12, em]
    refine Or.inr ⟨p1, sc1, cm1 + a1 + a2, M2, ⟨g1, ⟨hC, hM.cl u2, hn, hLo, h7, u2.2.1, u2.2.2.1, by rw [u2.2.2.2.2 16 (by decide) (by decide)]; exact h16, ho, by omega, by omega, by omega⟩, g3, g4.tr u2.1, ⟨g5.1, fun q hq => ?_, fun q hq => ?_⟩, ?_, by omega, g10, ?_⟩, rfl⟩
    · rw [u3 q (by omega), g5.2.1 q hq]
    · rw [u2.2.2.2.1, g5.2.2 q hq]
    · have := (g13 (M2.1 65) (fun q q1 q2 => u3 q q2) u4 u5).2.1
      exact this
    · exact g13 (M2.1 65) (fun q q1 q2 => u3 q q2) u4 u5
-- what ends a piece
def C92 (c d : Nat) (M : St) : Option (Int32 × St) := fX12_readsCondition_92 (fX12_readsCondition_40 c) d M
def EP (e c d : Nat) (M : St) : Option (Int32 × St) := bv (fX12_endsPiece_0 e M) fun S => C92 c d S
def ndM (cm w op : Nat) (M : St) : St := pI (pI (noM cm 10 0 M) 55 18 (nI w)) 55 16 (nI op)
theorem EP_not {e c d cm w op : Nat} {M : St} (h18 : M.1 55 18 = nI (w + 1)) (hw : w < 260) (hc : M.1 66 w = cw 10 0) (h17 : M.1 55 17 = nI cm) (hcm : cm < 260) (h16 : M.1 55 16 = nI (op + 1)) : EP (e + 1) c d M = EP e c d (ndM cm w op M) := by
  have hn := note12 (op := 10) (v := 0) h17 hcm
  have hn : fX12_notes M 10 0 = _ := hn
  have x2 : nI (op + 1) - 1 = nI op := by rw [Int32.sub_eq_add_neg, pk_m1]
  have y1 : (pI (noM cm 10 0 M) 55 18 (nI w)).1 55 16 = nI (op + 1) := by rw [pI_cell _ _ (by decide), noM_55 _ (by decide)]; exact h16
  unfold EP
  show bv (bX12_endsPiece_0 (fX12_endsPiece_0 e) M) _ = _
  unfold bX12_endsPiece_0
  rw [top12 h18 hw hc (by decide) (by decide), bi_some, if_pos (show nI 10 = 10 from rfl), hn, bv_some, noM_55 _ (by decide), h18, Int32.sub_eq_add_neg, pk_m1, bS_e, y1, x2, bS_e]
  rfl
theorem EP_end {e c d w q v : Nat} {M : St} (h18 : M.1 55 18 = nI (w + 1)) (hw : w < 260) (hc : M.1 66 w = cw q v) (hq : q < 16) (hq2 : q ≠ 10) (hv : v < 1048576) : EP (e + 1) c d M = C92 c d M := by
  unfold EP
  show bv (bX12_endsPiece_0 (fX12_endsPiece_0 e) M) _ = _
  unfold bX12_endsPiece_0
  rw [top12 h18 hw hc hq hv, bi_some, if_neg (show ¬ nI q = 10 by rw [li 10, neq (by omega) (by decide)]; exact hq2), bv_some]
/-- the top of what waits -/
def TopQ (M : St) (w lo hi : Nat) : Prop := ∃ w1 q v, w = w1 + 1 ∧ M.1 66 w1 = cw q v ∧ v < 1048576 ∧ lo ≤ q ∧ q ≤ hi
theorem TopQ.cg {M M' : St} {w lo hi : Nat} (h : TopQ M w lo hi) (e : ∀ q, q < w → M'.1 66 q = M.1 66 q) : TopQ M' w lo hi := by
  obtain ⟨w1, q, v, e1, e2, e3⟩ := h
  exact ⟨w1, q, v, e1, by rw [e w1 (by omega)]; exact e2, e3⟩
theorem TopQ.ot {M : St} {w lo hi : Nat} (h : TopQ M w lo hi) (h1 : 10 ≤ lo) (h2 : hi ≤ 14) (hw : w ≤ 260) (x : Int32) : OTx M w x := by
  obtain ⟨w1, q, v, e1, e2, e3, e4, e5⟩ := h
  exact Or.inr ⟨w1, q, v, e1, by omega, e2, e3, Or.inl ⟨by omega, by omega⟩⟩
/-- a test is read: its end is not yet seen by the model -/
def GotT (b : Nat → Nat) (z n o : Nat) (S M S' : St) (p sc cm w op : Nat) (run : Option (Int32 × St)) (p' sc' cm' : Nat) (M' : St) (e c' d : Nat) : Prop := p + 3 ≤ p' ∧ LI b z n o S' M' p' sc' cm' w op ∧ FrW o S S' ∧ FrV M M' ∧ Kep o sc cm w S M S' M' ∧ cm < cm' ∧ sc' + cm = sc + cm' ∧ sc' + p ≤ sc + p' ∧ 260 ≤ c' + p' ∧ 260 ≤ d + p' ∧ 90 + op ≤ e ∧ run = EP e c' d M' ∧ EB (S'.1 (o + 4)) (M'.1 65) sc sc' cm cm'
def TestP (b : Nat → Nat) (z n o op : Nat) : Prop := ∀ S M p sc cm w k c, LI b z n o S M p sc cm w op → TopQ M w 10 13 → 3 * (6 - op) + 4 ≤ k → 260 ≤ c + p → ∃ S', fLR k 2 o S (nI op) = some S' ∧ (Flt b z n o S M S' (fX12_readsCondition_40 c M) ∨ ∃ p' sc' cm' M' e c' d, GotT b z n o S M S' p sc cm w op (fX12_readsCondition_40 c M) p' sc' cm' M' e c' d)
/-- a jump that waits -/
def PJ (M : St) (w a f q cm cm' : Nat) : Prop := a ≤ 1 ∧ (a = 1 → M.1 66 w = cw q f ∧ cm ≤ f ∧ f < cm' ∧ M.1 65 f = cw q 0)
def GotP (b : Nat → Nat) (z n o : Nat) (S M S' : St) (p sc cm w op : Nat) (run : Option (Int32 × St)) (p' sc' cm' a f : Nat) (M' : St) (c' d : Nat) : Prop := p + 3 ≤ p' ∧ LI b z n o S' M' p' sc' cm' (w + a) op ∧ FrW o S S' ∧ FrV M M' ∧ Kep o sc cm w S M S' M' ∧ cm < cm' ∧ sc' + cm = sc + cm' ∧ sc' + p ≤ sc + p' ∧ 260 ≤ c' + p' ∧ 260 ≤ d + p' ∧ PJ M' w a f 11 cm cm' ∧ run = C92 c' d M' ∧ ∀ cd, (∀ q, cm ≤ q → q < cm' → ¬ (a = 1 ∧ q = f) → cd q = M'.1 65 q) → (a = 1 → cd f = cw 11 cm') → EB (S'.1 (o + 4)) cd sc sc' cm cm'
def PartP (b : Nat → Nat) (z n o op : Nat) : Prop := ∀ S M p sc cm w k c, LI b z n o S M p sc cm w op → TopQ M w 12 13 → 3 * (6 - op) + 5 ≤ k → 260 ≤ c + p → ∃ S', fLR k 1 o S (nI op) = some S' ∧ (Flt b z n o S M S' (fX12_readsCondition_40 c M) ∨ ∃ p' sc' cm' a f M' c' d, GotP b z n o S M S' p sc cm w op (fX12_readsCondition_40 c M) p' sc' cm' a f M' c' d ∧ sg b n p' ≠ nI 38)
def GotC (b : Nat → Nat) (z n o : Nat) (S M S' : St) (p sc cm w op : Nat) (run : Option (Int32 × St)) (p' sc' cm' a f a2 f2 : Nat) (M' : St) (c' d : Nat) : Prop := p + 3 ≤ p' ∧ LI b z n o S' M' p' sc' cm' (w + a2 + a) op ∧ FrW o S S' ∧ FrV M M' ∧ Kep o sc cm w S M S' M' ∧ cm < cm' ∧ sc' + cm = sc + cm' ∧ sc' + p ≤ sc + p' ∧ 260 ≤ c' + p' ∧ 260 ≤ d + p' ∧ PJ M' (w + a2) a f 11 cm cm' ∧ PJ M' w a2 f2 12 cm cm' ∧ (a = 1 → a2 = 1 → f ≠ f2) ∧ run = C92 c' d M' ∧ ∀ cd, (∀ q, cm ≤ q → q < cm' → ¬ (a = 1 ∧ q = f) → ¬ (a2 = 1 ∧ q = f2) → cd q = M'.1 65 q) → (a = 1 → cd f = cw 11 cm') → (a2 = 1 → cd f2 = cw 12 cm') → EB (S'.1 (o + 4)) cd sc sc' cm cm'
def ChoP (b : Nat → Nat) (z n o op : Nat) : Prop := ∀ S M p sc cm w k c, LI b z n o S M p sc cm w op → TopQ M w 13 13 → 3 * (6 - op) + 6 ≤ k → 260 ≤ c + p → ∃ S', fLR k 0 o S (nI op) = some S' ∧ (Flt b z n o S M S' (fX12_readsCondition_40 c M) ∨ ∃ p' sc' cm' a f a2 f2 M' c' d, GotC b z n o S M S' p sc cm w op (fX12_readsCondition_40 c M) p' sc' cm' a f a2 f2 M' c' d ∧ sg b n p' ≠ nI 38 ∧ sg b n p' ≠ nI 124)
