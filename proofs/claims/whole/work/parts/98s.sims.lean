-- a rule
def FrO (o : Nat) (S S' : St) : Prop := S'.2 = S.2 ∧ ∀ a, a ≠ 3 → ¬ (o ≤ a ∧ a ≤ o + 4) → S'.1 a = S.1 a
theorem FrO.rf (o : Nat) (S : St) : FrO o S S := ⟨rfl, fun _ _ _ => rfl⟩
theorem FrO.tr {o : Nat} {S S1 S2 : St} (h : FrO o S S1) (h2 : FrO o S1 S2) : FrO o S S2 := ⟨h2.1.trans h.1, fun a x y => (h2.2 a x y).trans (h.2 a x y)⟩
theorem FrO.ex {o : Nat} {S S' : St} (h : Ex 3 S S') : FrO o S S' := ⟨h.1, fun a x _ => h.2 a x⟩
theorem FrO.fw {o : Nat} {S S' : St} (h : FrW o S S') : FrO o S S' := ⟨h.1, fun a x y => h.2.1 a x (by omega) (by omega)⟩
theorem FrO.put {o a : Nat} (S : St) (h1 : o ≤ a) (h2 : a ≤ o + 4) (k : Nat) (v : Int32) : FrO o S (pI S a k v) := ⟨rfl, fun c _ h => pI_row S v (by omega)⟩
def lnM (a k : Nat) : Prop := (a = 55 ∧ 12 ≤ k ∧ k ≤ 19) ∨ (65 ≤ a ∧ a ≤ 70)
def FrN (M M' : St) : Prop := M'.2 = M.2 ∧ ∀ a k, ¬ lnM a k → M'.1 a k = M.1 a k
theorem FrN.rf (M : St) : FrN M M := ⟨rfl, fun _ _ _ => rfl⟩
theorem FrN.tr {M M1 M2 : St} (h : FrN M M1) (h2 : FrN M1 M2) : FrN M M2 := ⟨h2.1.trans h.1, fun a k x => (h2.2 a k x).trans (h.2 a k x)⟩
theorem FrN.fv {M M' : St} (h : FrV M M') : FrN M M' := ⟨h.1, fun a k x => h.2 a k (fun y => x (by unfold ltM at y; unfold lnM; omega))⟩
theorem FrN.put (M : St) {a k : Nat} (h : lnM a k) (v : Int32) : FrN M (pI M a k v) := ⟨rfl, fun b c hc => pI_cell M v (by rintro ⟨rfl, rfl⟩; exact hc h)⟩
/-- behind a fault -/
def FF (b : Nat → Nat) (z n o : Nat) (S : St) (v : Int32) : Prop := (∃ p, Cu b z n S p v) ∧ v < 0 ∧ (∃ s, s ≤ 288 ∧ S.1 o 7 = nI s) ∧ ∃ r, r ≤ 16 ∧ S.1 o 6 = nI r
theorem FF.ne {b : Nat → Nat} {z n o : Nat} {S : St} {v : Int32} (h : FF b z n o S v) : S.1 3 4 ≠ 0 := by
  obtain ⟨⟨p, hC⟩, h1, _⟩ := h
  rw [hC.2.2.2.2.2.2.2]
  exact ne_of_neg h1
theorem FF.exp {b : Nat → Nat} {z n o : Nat} {S : St} {v : Int32} (hL : isL o) (h : FF b z n o S v) (w : Nat) (hw : w < 256) : ∃ S2, fX0_expect S (nI w) = some S2 ∧ FrO o S S2 ∧ FF b z n o S2 v := by
  obtain ⟨⟨p, hC⟩, h1, ⟨s, s1, s2⟩, r, r1, r2⟩ := h
  unfold isL at hL
  obtain ⟨S2, p2, e1, e2, e3⟩ := expF (ne_of_neg h1) hC w hw
  exact ⟨S2, e1, FrO.ex e2, ⟨p2, e3⟩, h1, ⟨s, s1, by rw [e2.2 o (by omega)]; exact s2⟩, r, r1, by rw [e2.2 o (by omega)]; exact r2⟩
theorem FF.add {b : Nat → Nat} {z n o : Nat} {S : St} {v : Int32} (hL : isL o) (h : FF b z n o S v) (x y : Int32) : ∃ q S2, fX2_addStep o S x y = some (q, S2) ∧ FrO o S S2 ∧ FF b z n o S2 v := by
  obtain ⟨⟨p, hC⟩, h1, ⟨s, s1, s2⟩, r, r1, r2⟩ := h
  unfold isL at hL
  obtain ⟨S2, b1, b2, b3, b4⟩ := addF s1 s2 x y
  exact ⟨_, S2, b1, FrO.fw b2, ⟨p, hC.oth (b4 1 (by omega) (by omega)) (b4 2 (by omega) (by omega)) (b4 3 (by omega) (by omega))⟩, h1, b3, r, r1, by rw [b2.2.2 6 (by decide)]; exact r2⟩
def arC (o r : Nat) (x1 x2 x3 : Int32) (S : St) : St := pI (pI (pI (pI S (o + 1) r x1) (o + 2) r x2) (o + 3) r x3) o 6 (nI (r + 1))
theorem addR {o r : Nat} {S : St} (h6 : S.1 o 6 = nI r) (hr : r < 16) (x1 x2 x3 : Int32) : fX2_addRule o S x1 x2 x3 = some (arC o r x1 x2 x3 S) := by
  have g1 : (pI S (o + 1) r x1).1 o 6 = nI r := by rw [pI_row _ _ (by omega)]; exact h6
  have g2 : (pI (pI S (o + 1) r x1) (o + 2) r x2).1 o 6 = nI r := by rw [pI_row _ _ (by omega)]; exact g1
  have g3 : (pI (pI (pI S (o + 1) r x1) (o + 2) r x2) (o + 3) r x3).1 o 6 = nI r := by rw [pI_row _ _ (by omega)]; exact g2
  unfold fX2_addRule arC
  rw [h6, if_neg (show ¬ (16 : Int32) ≤ nI r by rw [li 16, nle (by decide) (by omega)]; omega), if_pos (inbT hr (by decide)), nI_clamp (by omega), bS_e, g1, if_pos (inbT hr (by decide)), nI_clamp (by omega), bS_e, g2, if_pos (inbT hr (by decide)), nI_clamp (by omega), bS_e, g3, nI_1, bS_e]
theorem arC_fr (o r : Nat) (x1 x2 x3 : Int32) (S : St) : FrO o S (arC o r x1 x2 x3 S) := (((FrO.put _ (by omega) (by omega) _ _).tr (FrO.put _ (by omega) (by omega) _ _)).tr (FrO.put _ (by omega) (by omega) _ _)).tr (FrO.put _ (by omega) (by omega) _ _)
theorem arC_7 (o r : Nat) (x1 x2 x3 : Int32) (S : St) : (arC o r x1 x2 x3 S).1 o 7 = S.1 o 7 := by unfold arC; rw [pI_cell _ _ (by omega), pI_row _ _ (by omega), pI_row _ _ (by omega), pI_row _ _ (by omega)]
theorem arC_6 (o r : Nat) (x1 x2 x3 : Int32) (S : St) : (arC o r x1 x2 x3 S).1 o 6 = nI (r + 1) := pI_same _ _ _ _
theorem arC_o {o r a : Nat} {x1 x2 x3 : Int32} (S : St) (h0 : a ≠ o) (h1 : a ≠ o + 1) (h2 : a ≠ o + 2) (h3 : a ≠ o + 3) : (arC o r x1 x2 x3 S).1 a = S.1 a := by unfold arC; rw [pI_row _ _ h0, pI_row _ _ h3, pI_row _ _ h2, pI_row _ _ h1]
theorem arC_q {o r a q : Nat} {x1 x2 x3 : Int32} (S : St) (h0 : a ≠ o) (h1 : q ≠ r) : (arC o r x1 x2 x3 S).1 a q = S.1 a q := by unfold arC; rw [pI_row _ _ h0, pI_cell _ _ (by omega), pI_cell _ _ (by omega), pI_cell _ _ (by omega)]
theorem arC_in (o r : Nat) (x1 x2 x3 : Int32) (S : St) : (arC o r x1 x2 x3 S).1 (o + 1) r = x1 ∧ (arC o r x1 x2 x3 S).1 (o + 2) r = x2 ∧ (arC o r x1 x2 x3 S).1 (o + 3) r = x3 := by
  unfold arC
  refine ⟨?_, ?_, ?_⟩
  · rw [pI_row _ _ (by omega), pI_row _ _ (by omega), pI_row _ _ (by omega), pI_same]
  · rw [pI_row _ _ (by omega), pI_row _ _ (by omega), pI_same]
  · rw [pI_row _ _ (by omega), pI_same]
theorem FF.rul {b : Nat → Nat} {z n o : Nat} {S : St} {v : Int32} (hL : isL o) (h : FF b z n o S v) (x1 x2 x3 : Int32) : ∃ S2, fX2_addRule o S x1 x2 x3 = some S2 ∧ FrO o S S2 ∧ FF b z n o S2 v := by
  obtain ⟨⟨p, hC⟩, h1, ⟨s, s1, s2⟩, r, r1, r2⟩ := id h
  unfold isL at hL
  by_cases c : r < 16
  · exact ⟨_, addR r2 c x1 x2 x3, arC_fr _ _ _ _ _ _, ⟨p, hC.oth (arC_o _ (by omega) (by omega) (by omega) (by omega)) (arC_o _ (by omega) (by omega) (by omega) (by omega)) (arC_o _ (by omega) (by omega) (by omega) (by omega))⟩, h1, ⟨s, s1, by rw [arC_7]; exact s2⟩, r + 1, by omega, arC_6 _ _ _ _ _ _⟩
  · refine ⟨S, ?_, FrO.rf o S, h⟩
    unfold fX2_addRule
    rw [r2, if_pos (show (16 : Int32) ≤ nI r by rw [li 16, nle (by decide) (by omega)]; omega)]
def rT4 (o : Nat) (x3 x4 v : Int32) (S : St) : Option St := bi (fX2_addStep o S (nI 0) (nI 0)) fun r6 S4 => bv (fX2_addRule o S4 x3 x4 v) fun S5 => some S5
def rT3 (o : Nat) (x3 x4 v : Int32) (S : St) : Option St := bv (fX0_expect S (nI 41)) fun S3 => rT4 o x3 x4 v S3
def rT2 (o : Nat) (x3 x4 : Int32) (S : St) : Option St := bV ((S.1 o 7)) fun v2 => bv (fLR 60 0 o S (nI 1)) fun S2 => rT3 o x3 x4 v2 S2
theorem rT1 (o : Nat) (x3 x4 : Int32) (S : St) : fX3_readRule_82 o S x3 x4 = bv (fX0_expect S (nI 40)) fun S1 => rT2 o x3 x4 S1 := rfl
theorem rT4f {b : Nat → Nat} {z n o : Nat} {S : St} {v : Int32} (hL : isL o) (h : FF b z n o S v) (x3 x4 x : Int32) : ∃ S', rT4 o x3 x4 x S = some S' ∧ FrO o S S' ∧ FF b z n o S' v := by
  obtain ⟨q, S1, a1, a2, a3⟩ := h.add hL (nI 0) (nI 0)
  obtain ⟨S2, b1, b2, b3⟩ := a3.rul hL x3 x4 x
  unfold rT4
  rw [a1, bi_some, b1, bv_some]
  exact ⟨S2, rfl, a2.tr b2, b3⟩
theorem rT3f {b : Nat → Nat} {z n o : Nat} {S : St} {v : Int32} (hL : isL o) (h : FF b z n o S v) (x3 x4 x : Int32) : ∃ S', rT3 o x3 x4 x S = some S' ∧ FrO o S S' ∧ FF b z n o S' v := by
  obtain ⟨S1, a1, a2, a3⟩ := h.exp hL 41 (by decide)
  obtain ⟨S2, b1, b2, b3⟩ := rT4f hL a3 x3 x4 x
  unfold rT3
  rw [a1, bv_some, b1]
  exact ⟨S2, rfl, a2.tr b2, b3⟩
theorem rT2f {b : Nat → Nat} {z n o : Nat} {S : St} {v : Int32} (hL : isL o) (h : FF b z n o S v) (x3 x4 : Int32) : ∃ S', rT2 o x3 x4 S = some S' ∧ FrO o S S' ∧ FF b z n o S' v := by
  obtain ⟨S2, b1, b2, b3⟩ := rT3f hL h x3 x4 (S.1 o 7)
  have hc : fLR 60 0 o S (nI 1) = some S := choN (k := 57) h.ne (nI 1)
  unfold rT2
  rw [bV_e, hc, bv_some, b1]
  exact ⟨S2, rfl, b2, b3⟩
theorem rT1f {b : Nat → Nat} {z n o : Nat} {S : St} {v : Int32} (hL : isL o) (h : FF b z n o S v) (x3 x4 : Int32) : ∃ S', fX3_readRule_82 o S x3 x4 = some S' ∧ FrO o S S' ∧ FF b z n o S' v := by
  obtain ⟨S1, a1, a2, a3⟩ := h.exp hL 40 (by decide)
  obtain ⟨S2, b1, b2, b3⟩ := rT2f hL a3 x3 x4
  rw [rT1, a1, bv_some, b1]
  exact ⟨S2, rfl, a2.tr b2, b3⟩
theorem Flt.ff {b : Nat → Nat} {z n o r : Nat} {S M S' : St} {run : Option (Int32 × St)} (h : Flt b z n o S M S' run) (h6 : S.1 o 6 = nI r) (hr : r ≤ 16) : ∃ v M', FF b z n o S' v ∧ FrO o S S' ∧ FrV M M' ∧ M'.1 55 14 = v ∧ run = some (0, M') := by
  obtain ⟨a0, v, p', M', a1, a2, a3, a4, a5, a6⟩ := h
  exact ⟨v, M', ⟨⟨p', a2⟩, a1, a0, r, hr, by rw [a3.2.2 6 (by decide)]; exact h6⟩, FrO.fw a3, a4, a5, a6⟩
def CnG (b : Nat → Nat) (z n o : Nat) (S M : St) (x3 x4 : Int32) (p sc cm r : Nat) (S' : St) (p' sc' cm' : Nat) (M' : St) : Prop := FrV M M' ∧ Cu b z n S' p' 0 ∧ Mu b n M' p' ∧ p < p' ∧ S'.1 o 7 = nI (sc' + 1) ∧ S'.1 o 6 = nI (r + 1) ∧ M'.1 55 17 = nI cm' ∧ cm' ≤ p' ∧ sc' + 1 + p ≤ sc + p' ∧ cm ≤ cm' ∧ (∀ q, q < sc → S'.1 (o + 4) q = S.1 (o + 4) q) ∧ (∀ q, q < cm → M'.1 65 q = M.1 65 q) ∧ (∀ a q, o + 1 ≤ a → a ≤ o + 3 → q ≠ r → S'.1 a q = S.1 a q) ∧ S'.1 (o + 1) r = x3 ∧ S'.1 (o + 2) r = x4 ∧ S'.1 (o + 3) r = nI sc ∧ EB (S'.1 (o + 4)) (M'.1 65) sc sc' cm cm' ∧ S'.1 (o + 4) sc' = 0
theorem cond_sim {b : Nat → Nat} {z n o p sc cm r : Nat} {S M : St} (hC : Cu b z n S p 0) (hM : Mu b n M p) (hn : n ≤ 240) (hLo : isL o) (h7 : S.1 o 7 = nI sc) (h6 : S.1 o 6 = nI r) (hr : r < 16) (h17 : M.1 55 17 = nI cm) (hcm : cm ≤ p) (hsc : sc ≤ p + 32) (x3 x4 : Int32) : ∃ S', fX3_readRule_82 o S x3 x4 = some S' ∧ FrO o S S' ∧ ((∃ v M', FF b z n o S' v ∧ FrV M M' ∧ M'.1 55 14 = v ∧ fX12_readsCondition M = some (0, M')) ∨ ∃ p' sc' cm' M', CnG b z n o S M x3 x4 p sc cm r S' p' sc' cm' M' ∧ fX12_readsCondition M = some (1, M')) := by
  have hp := hC.2.2.2.1
  have hol := hLo
  unfold isL at hol
  obtain ⟨S1, e1, e2, e3⟩ := expect0 hC 40 (by decide)
  have k7 : S1.1 o 7 = nI sc := by rw [e2.2 o (by omega)]; exact h7
  have k6 : S1.1 o 6 = nI r := by rw [e2.2 o (by omega)]; exact h6
  rw [rT1, e1, bv_some]
  by_cases c40 : sg b n p = nI 40
  · rw [if_pos c40] at e3
    obtain ⟨hpn, e4⟩ := e3
    have hL0 : LI b z n o S (pI (pI M 55 16 0) 55 18 0) p sc cm 0 0 := ⟨hC, hM.oth (by rw [pI_row _ _ (by decide), pI_row _ _ (by decide)]) (by rw [pI_cell _ _ (by decide), pI_cell _ _ (by decide)]) (by rw [pI_cell _ _ (by decide), pI_cell _ _ (by decide)]), hn, hLo, h7, by rw [pI_cell _ _ (by decide), pI_cell _ _ (by decide)]; exact h17, by rw [pI_same]; rfl, by rw [pI_cell _ _ (by decide), pI_same]; rfl, by decide, hcm, by omega, by omega⟩
    have hL1 := opM_LI (q := 13) hL0 (by decide) hpn e2 e4
    have fv0 : FrV M (pI (pI M 55 16 0) 55 18 0) := (FrV.put _ (by unfold ltM; omega) _).tr (FrV.put _ (by unfold ltM; omega) _)
    have em : fX12_readsCondition M = fX12_readsCondition_40 260 (opM 0 0 13 p (pI (pI M 55 16 0) 55 18 0)) := by
      have eo := opens12 (q := 13) hL0.2.2.2.2.2.2.2.1 (show 0 ≤ 6 by decide) hL0.2.2.2.2.2.2.1 (show 0 < 260 by decide) hL0.2.1.2.2.2.2.1
      rw [if_neg (by decide)] at eo
      have eo : fX12_opens (pI (pI M 55 16 0) 55 18 0) 13 = _ := eo
      unfold fX12_readsCondition
      rw [here12 hM, bi_some, if_pos (show sg b n p = 40 from c40), bS_e, bS_e, eo, bi_some, if_neg (by decide)]
    obtain ⟨S2, q1, q2⟩ := (cond_all b z n o 5 1 rfl).2 S1 (opM 0 0 13 p (pI (pI M 55 16 0) 55 18 0)) (p + 1) sc cm 1 60 260 hL1 ⟨0, 13, 0, rfl, opM_in _ _ _ _ _, by decide, by decide, by decide⟩ (by decide) (by omega)
    unfold rT2
    rw [bV_e, q1, bv_some, em]
    have fv1 : FrV M (opM 0 0 13 p (pI (pI M 55 16 0) 55 18 0)) := fv0.tr (opM_fr _ _ _ _ _)
    rcases q2 with q2 | ⟨p2, sc2, cm2, a, f, a2, f2, M2, c2, d, ⟨g1, ⟨hC2, hM2, _, _, l7, l17, l18, l16, l6, lcm, lw, lsc⟩, g3, g4, g5, g6, g7, g8, g9, g10, g11, g12, g13, g14, g15⟩, h38, h124⟩
    · obtain ⟨v, M', x1, x2, x3', x4', x5⟩ := q2.ff k6 (by omega)
      obtain ⟨S3, y1, y2, y3⟩ := rT3f hLo x1 x3 x4 (S1.1 o 7)
      exact ⟨S3, y1, ((FrO.ex e2).tr x2).tr y2, Or.inl ⟨v, M', y3, fv1.tr x3', x4', x5⟩⟩
    · have hp2 := hC2.2.2.2.1
      have ha := g11.1
      have ha2 := g12.1
      have g6' : S2.1 o 6 = nI r := by rw [g3.2.2 6 (by decide)]; exact k6
      obtain ⟨d, rfl⟩ : ∃ d', d = d' + 1 := ⟨d - 1, by omega⟩
      obtain ⟨S3, t1, t2, t3⟩ := expect0 hC2 41 (by decide)
      have i7 : S3.1 o 7 = nI sc2 := by rw [t2.2 o (by omega)]; exact l7
      have i6 : S3.1 o 6 = nI r := by rw [t2.2 o (by omega)]; exact g6'
      unfold rT3
      rw [t1, bv_some, g14, k7]
      by_cases c41 : sg b n p2 = nI 41
      · rw [if_pos c41] at t3
        obtain ⟨hp2n, t4⟩ := t3
        have tp : TopQ M2 1 13 13 := ⟨0, 13, 0, rfl, by rw [g5.2.2 0 (by omega)]; exact opM_in _ _ _ _ _, by decide, by decide, by decide⟩
        obtain ⟨M3, u1, u2, u3, u4, u5⟩ := land_all (w := 1) (a := a) (a2 := a2) (f := f) (f2 := f2) (cm0 := cm) (cm := cm2) l18 (by omega) l17 g11 g12 g13 (by omega) tp
        have x1 : nI 1 - 1 = nI 0 := by decide
        have y1 : (pI M3 55 18 (nI 0)).1 55 16 = nI 1 := by rw [pI_cell _ _ (by decide), u2.2.2.2 16 (by decide)]; exact l16
        have y2 : (pI (pI M3 55 18 (nI 0)) 55 16 (nI 0)).1 55 12 = nI p2 := by rw [pI_cell _ _ (by decide), pI_cell _ _ (by decide), u2.2.2.2 12 (by decide)]; exact hM2.2.2.2.2.1
        have y3 : (pI (pI (pI M3 55 18 (nI 0)) 55 16 (nI 0)) 55 12 (nI (p2 + 1))).1 55 18 = 0 := by rw [pI_cell _ _ (by decide), pI_cell _ _ (by decide), pI_same]; rfl
        have e92 : C92 c2 (d + 1) M2 = some (1, pI (pI (pI M3 55 18 (nI 0)) 55 16 (nI 0)) 55 12 (nI (p2 + 1))) := by
          unfold C92
          show bX12_readsCondition_92 _ _ _ = _
          unfold bX12_readsCondition_92
          rw [here12 hM2, bi_some, if_pos (show sg b n p2 = 41 from c41), u1, bv_some, u2.2.1, x1, bS_e, y1, x1, bS_e, y2, nI_1, bS_e, y3, if_pos rfl]
        rw [e92]
        have k65 : (pI (pI (pI M3 55 18 (nI 0)) 55 16 (nI 0)) 55 12 (nI (p2 + 1))).1 65 = M3.1 65 := by rw [pI_row _ _ (by decide), pI_row _ _ (by decide), pI_row _ _ (by decide)]
        have mu4 : Mu b n (pI (pI (pI M3 55 18 (nI 0)) 55 16 (nI 0)) 55 12 (nI (p2 + 1))) (p2 + 1) := ((hM2.la u2).oth (by rw [pI_row _ _ (by decide), pI_row _ _ (by decide)]) (by rw [pI_cell _ _ (by decide), pI_cell _ _ (by decide)]) (by rw [pI_cell _ _ (by decide), pI_cell _ _ (by decide)]) : Mu b n (pI (pI M3 55 18 (nI 0)) 55 16 (nI 0)) p2).mv (by omega)
        have st3 : S3.1 (o + 4) = S2.1 (o + 4) := t2.2 (o + 4) (by omega)
        have a6 : (adC o sc2 0 0 S3).1 o 6 = nI r := by rw [(adC_fr o sc2 0 0 S3).2.2 6 (by decide)]; exact i6
        unfold rT4
        rw [add2 i7 (by omega) (by decide) (by decide), bi_some, addR a6 hr, bv_some]
        have a4 : (arC o r x3 x4 (nI sc) (adC o sc2 0 0 S3)).1 (o + 4) = (adC o sc2 0 0 S3).1 (o + 4) := arC_o _ (by omega) (by omega) (by omega) (by omega)
        have ac : ∀ a', a' ≠ o → a' ≠ o + 1 → a' ≠ o + 2 → a' ≠ o + 3 → a' ≠ o + 4 → (arC o r x3 x4 (nI sc) (adC o sc2 0 0 S3)).1 a' = S3.1 a' := fun a' h0 h1 h2 h3 h4 => by rw [arC_o _ h0 h1 h2 h3, adC_3 _ h0 h4]
        refine ⟨_, rfl, ((((FrO.ex e2).tr (FrO.fw g3)).tr (FrO.ex t2)).tr (FrO.fw (adC_fr _ _ _ _ _))).tr (arC_fr _ _ _ _ _ _), Or.inr ⟨p2 + 1, sc2, cm2, _, ⟨((fv1.tr g4).tr u2.1).tr (((FrV.put _ (by unfold ltM; omega) _).tr (FrV.put _ (by unfold ltM; omega) _)).tr (FrV.put _ (by unfold ltM; omega) _)), t4.oth (ac 1 (by omega) (by omega) (by omega) (by omega) (by omega)) (ac 2 (by omega) (by omega) (by omega) (by omega) (by omega)) (ac 3 (by omega) (by omega) (by omega) (by omega) (by omega)), mu4, by omega, ?_, arC_6 _ _ _ _ _ _, ?_, by omega, by omega, by omega, fun q hq => ?_, fun q hq => ?_, fun a' q h1 h2 h3 => ?_, (arC_in _ _ _ _ _ _).1, (arC_in _ _ _ _ _ _).2.1, (arC_in _ _ _ _ _ _).2.2, ?_, ?_⟩, rfl⟩⟩
        · rw [arC_7]; exact adC_7 _ _ _ _ _
        · rw [pI_cell _ _ (by decide), pI_cell _ _ (by decide), pI_cell _ _ (by decide), u2.2.2.2 17 (by decide)]; exact l17
        · rw [a4, adC_lt _ (by omega), st3, g5.1 q hq, e2.2 (o + 4) (by omega)]
        · rw [k65, u3 q (fun h => by have := (g11.2 h.1).2.1; omega) (fun h => by have := (g12.2 h.1).2.1; omega), g5.2.1 q hq, opM_65, pI_row _ _ (by decide), pI_row _ _ (by decide)]
        · rw [arC_q _ (by omega) h3, adC_3 _ (by omega) (by omega), t2.2 a' (by omega), g3.2.1 a' (by omega) (by omega) (by omega), e2.2 a' (by omega)]
        · rw [k65, a4]
          refine EB.cg (g15 (M3.1 65) (fun q _ _ q3 q4 => u3 q q3 q4) u4 u5) (fun q _ _ => ?_) (fun _ _ _ => rfl)
          rw [adC_lt _ (by omega), st3]
        · rw [a4, adC_in]; rfl
      · rw [if_neg c41, if_pos rfl] at t3
        have hv : flt 1 p2 < 0 := flt_neg (by decide) (by decide) (by omega)
        have e92 : C92 c2 (d + 1) M2 = some (0, pI M2 55 14 (flt 1 p2)) := by
          unfold C92
          show bX12_readsCondition_92 _ _ _ = _
          unfold bX12_readsCondition_92
          rw [here12 hM2, bi_some, if_neg (show ¬ sg b n p2 = 41 from c41), here12 hM2, bi_some, if_neg (show ¬ sg b n p2 = 38 from h38), here12 hM2, bi_some, if_neg (show ¬ sg b n p2 = 124 from h124), hM2.2.2.2.2.1, li 1, wrong12, bi_some, if_pos (Or.inl rfl)]
        rw [e92]
        obtain ⟨S4, y1, y2, y3⟩ := rT4f (v := flt 1 p2) hLo ⟨⟨p2, t3⟩, hv, ⟨sc2, by omega, i7⟩, r, by omega, i6⟩ x3 x4 (nI sc)
        exact ⟨S4, y1, (((FrO.ex e2).tr (FrO.fw g3)).tr (FrO.ex t2)).tr y2, Or.inl ⟨_, _, y3, (fv1.tr g4).tr (FrV.put _ (by unfold ltM; omega) (flt 1 p2)), pI_same _ _ _ _, rfl⟩⟩
  · rw [if_neg c40, if_pos rfl] at e3
    have hv : flt 1 p < 0 := flt_neg (by decide) (by decide) (by omega)
    have em : fX12_readsCondition M = some (0, pI M 55 14 (flt 1 p)) := by
      unfold fX12_readsCondition
      rw [here12 hM, bi_some, if_neg (show ¬ sg b n p = 40 from c40), hM.2.2.2.2.1, li 1, wrong12, bi_some, if_pos (Or.inl rfl)]
    obtain ⟨S4, y1, y2, y3⟩ := rT2f (v := flt 1 p) hLo ⟨⟨p, e3⟩, hv, ⟨sc, by omega, k7⟩, r, by omega, k6⟩ x3 x4
    rw [em]
    exact ⟨S4, y1, (FrO.ex e2).tr y2, Or.inl ⟨_, _, y3, FrV.put _ (by unfold ltM; omega) (flt 1 p), pI_same _ _ _ _, rfl⟩⟩
