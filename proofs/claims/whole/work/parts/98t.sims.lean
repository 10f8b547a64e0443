-- rules, one after the other
def RuQ (o : Nat) (S M : St) (sc cm q : Nat) : Prop := S.1 (o + 1) q = M.1 67 q ∧ ∃ i j k l, S.1 (o + 3) q = nI i ∧ M.1 69 q = nI k ∧ M.1 70 q = nI l ∧ EB (S.1 (o + 4)) (M.1 65) i j k l ∧ S.1 (o + 4) j = 0 ∧ j < sc ∧ l ≤ cm ∧ (M.1 67 q ≠ 120 → ∃ i0 j0 k0, S.1 (o + 2) q = nI i0 ∧ M.1 68 q = nI k0 ∧ EA (S.1 (o + 4)) (M.1 65) i0 j0 k0 k 15 ∧ S.1 (o + 4) j0 = 0 ∧ j0 < sc)
theorem RuQ.cg {o sc cm sc' cm' q : Nat} {S M S' M' : St} (h : RuQ o S M sc cm q) (h1 : ∀ a, o + 1 ≤ a → a ≤ o + 3 → S'.1 a q = S.1 a q) (h2 : ∀ a, 67 ≤ a → a ≤ 70 → M'.1 a q = M.1 a q) (h3 : ∀ t, t < sc → S'.1 (o + 4) t = S.1 (o + 4) t) (h4 : ∀ t, t < cm → M'.1 65 t = M.1 65 t) (h5 : sc ≤ sc') (h6 : cm ≤ cm') : RuQ o S' M' sc' cm' q := by
  obtain ⟨a0, i, j, k, l, a1, a2, a3, a4, a5, a6, a7, a8⟩ := h
  have b1 := a4.1
  have b2 := a4.2.1
  refine ⟨by rw [h1 (o + 1) (by omega) (by omega), h2 67 (by decide) (by decide)]; exact a0, i, j, k, l, by rw [h1 (o + 3) (by omega) (by omega)]; exact a1, by rw [h2 69 (by decide) (by decide)]; exact a2, by rw [h2 70 (by decide) (by decide)]; exact a3, a4.cg (fun t _ t2 => h3 t (by omega)) (fun t _ t2 => h4 t (by omega)), by rw [h3 j a6]; exact a5, by omega, by omega, fun hx => ?_⟩
  rw [h2 67 (by decide) (by decide)] at hx
  obtain ⟨i0, j0, k0, c1, c2, c3, c4, c5⟩ := a8 hx
  exact ⟨i0, j0, k0, by rw [h1 (o + 2) (by omega) (by omega)]; exact c1, by rw [h2 68 (by decide) (by decide)]; exact c2, c3.cg (fun t _ t2 => h3 t (by omega)) (fun t _ t2 => h4 t (by omega)) (Nat.le_refl _), by rw [h3 j0 c5]; exact c4, by omega⟩
def RuI (b : Nat → Nat) (z n o : Nat) (S M : St) (p r sc cm : Nat) : Prop := Cu b z n S p 0 ∧ Mu b n M p ∧ n ≤ 240 ∧ isL o ∧ S.1 o 6 = nI r ∧ r ≤ 16 ∧ M.1 55 19 = nI r ∧ S.1 o 7 = nI sc ∧ M.1 55 17 = nI cm ∧ cm ≤ p ∧ sc ≤ p + 2 * r ∧ ∀ q, q < r → RuQ o S M sc cm q
def RuO (b : Nat → Nat) (z n o : Nat) (S M : St) (p r : Nat) (S' : St) (run : Option (Int32 × St)) : Prop := FrO o S S' ∧ ((∃ v M', FF b z n o S' v ∧ FrN M M' ∧ M'.1 55 14 = v ∧ run = some (0, M')) ∨ (r < 16 ∧ ∃ p' sc' cm' M', FrN M M' ∧ RuI b z n o S' M' p' (r + 1) sc' cm' ∧ p < p' ∧ run = some (1, M')))
theorem RuO.pre {b : Nat → Nat} {z n o : Nat} {S M S1 M1 : St} {p p1 r : Nat} {S' : St} {run : Option (Int32 × St)} (h : RuO b z n o S1 M1 p1 r S' run) (e1 : FrO o S S1) (e2 : FrN M M1) (hp : p ≤ p1) : RuO b z n o S M p r S' run := by
  refine ⟨e1.tr h.1, ?_⟩
  rcases h.2 with ⟨v, M', a1, a2, a3, a4⟩ | ⟨hr, p', sc', cm', M', a1, a2, a3, a4⟩
  · exact Or.inl ⟨v, M', a1, e2.tr a2, a3, a4⟩
  · exact Or.inr ⟨hr, p', sc', cm', M', e2.tr a1, a2, by omega, a4⟩
theorem rule_rest {b : Nat → Nat} {z n o p sc cm r i0 : Nat} {S M : St} {s : Int32} (hC : Cu b z n S p 0) (hM : Mu b n M p) (hn : n ≤ 240) (hLo : isL o) (h7 : S.1 o 7 = nI sc) (h6 : S.1 o 6 = nI r) (hr : r < 16) (h19 : M.1 55 19 = nI r) (h17 : M.1 55 17 = nI cm) (hcm : cm ≤ p) (hsc : sc ≤ p + 2 * r) (hQ : ∀ q, q < r → RuQ o S M sc cm q) (h67 : M.1 67 r = s) (hW : s ≠ 120 → ∃ j0 k0, M.1 68 r = nI k0 ∧ EA (S.1 (o + 4)) (M.1 65) i0 j0 k0 cm 15 ∧ S.1 (o + 4) j0 = 0 ∧ j0 < sc) : ∃ S', fX3_readRule_82 o S s (nI i0) = some S' ∧ RuO b z n o S M p r S' (fX12_readsRule_110 M) := by
  have hm1 : Mu b n (pI M 69 r (nI cm)) p := hM.oth (pI_row _ _ (by decide)) (by rw [pI_row _ _ (by decide)]) (by rw [pI_row _ _ (by decide)])
  have k17 : (pI M 69 r (nI cm)).1 55 17 = nI cm := by rw [pI_row _ _ (by decide)]; exact h17
  have k19 : (pI M 69 r (nI cm)).1 55 19 = nI r := by rw [pI_row _ _ (by decide)]; exact h19
  have fn1 : FrN M (pI M 69 r (nI cm)) := FrN.put _ (by unfold lnM; omega) _
  obtain ⟨S', e1, e2, e3⟩ := cond_sim hC hm1 hn hLo h7 h6 hr k17 hcm (by omega) s (nI i0)
  have em : fX12_readsRule_110 M = bi (fX12_readsCondition (pI M 69 r (nI cm))) fun r3 S2 => if r3 = 0 then (some ((0 : Int32), S2)) else (if inb (S2.1 55 19) 16 = true then bS (pI S2 70 ((S2.1 55 19).toNatClampNeg) (S2.1 55 17)) fun S3 => bS (pI S3 55 19 ((S3.1 55 19) + (1 : Int32))) fun S4 => some ((1 : Int32), S4) else none) := by
    unfold fX12_readsRule_110
    rw [h19, if_pos (inbT hr (by decide)), nI_clamp (by omega), h17, bS_e]
  rw [em]
  refine ⟨S', e1, e2, ?_⟩
  rcases e3 with ⟨v, M', x1, x2, x3, x4⟩ | ⟨p', sc', cm', M', ⟨g1, g2, g3, g4, g5, g6, g7, g8, g9, g10, g11, g12, g13, g14, g15, g16, g17, g18⟩, x4⟩
  · rw [x4, bi_some, if_pos rfl]
    exact Or.inl ⟨v, M', x1, fn1.tr (FrN.fv x2), x3, rfl⟩
  · have j19 : M'.1 55 19 = nI r := by rw [g1.2 55 19 (by unfold ltM; omega)]; exact k19
    have j19' : (pI M' 70 r (nI cm')).1 55 19 = nI r := by rw [pI_row _ _ (by decide)]; exact j19
    have i1 := g17.1
    have i2 := g17.2.1
    rw [x4, bi_some, if_neg (by decide), j19, if_pos (inbT hr (by decide)), nI_clamp (by omega), g7, bS_e, j19', nI_1, bS_e]
    have c65 : (pI (pI M' 70 r (nI cm')) 55 19 (nI (r + 1))).1 65 = M'.1 65 := by rw [pI_row _ _ (by decide), pI_row _ _ (by decide)]
    have cX : ∀ a q, 67 ≤ a → a ≤ 68 → (pI (pI M' 70 r (nI cm')) 55 19 (nI (r + 1))).1 a q = M.1 a q := fun a q h1 h2 => by rw [pI_row _ _ (by omega), pI_row _ _ (by omega), g1.2 a q (by unfold ltM; omega), pI_row _ _ (by omega)]
    have c69 : (pI (pI M' 70 r (nI cm')) 55 19 (nI (r + 1))).1 69 r = nI cm := by rw [pI_row _ _ (by omega), pI_row _ _ (by omega), g1.2 69 r (by unfold ltM; omega), pI_same]
    have cY : ∀ a q, 67 ≤ a → a ≤ 70 → q ≠ r → (pI (pI M' 70 r (nI cm')) 55 19 (nI (r + 1))).1 a q = M.1 a q := fun a q h1 h2 h3 => by rw [pI_row _ _ (by omega), pI_cell _ _ (by omega), g1.2 a q (by unfold ltM; omega), pI_cell _ _ (by omega)]
    refine Or.inr ⟨hr, p', sc' + 1, cm', _, (fn1.tr (FrN.fv g1)).tr ((FrN.put _ (by unfold lnM; omega) _).tr (FrN.put _ (by unfold lnM; omega) _)), ⟨g2, g3.oth (by rw [pI_row _ _ (by decide), pI_row _ _ (by decide)]) (by rw [pI_cell _ _ (by decide), pI_row _ _ (by decide)]) (by rw [pI_cell _ _ (by decide), pI_row _ _ (by decide)]), hn, hLo, g6, by omega, pI_same _ _ _ _, g5, by rw [pI_cell _ _ (by decide), pI_row _ _ (by decide)]; exact g7, g8, by omega, fun q hq => ?_⟩, g4, rfl⟩
    by_cases c : q = r
    · subst c
      refine ⟨by rw [g14, cX 67 q (by decide) (by decide), h67], sc, sc', cm, cm', g16, c69, ?_, by rw [c65]; exact g17, g18, by omega, Nat.le_refl _, fun hx => ?_⟩
      · rw [pI_row _ _ (by decide), pI_same]
      · rw [cX 67 q (by decide) (by decide), h67] at hx
        obtain ⟨j0, k0, w1, w2, w3, w4⟩ := hW hx
        have b1 := w2.1
        have b2 := w2.2.1
        refine ⟨i0, j0, k0, g15, by rw [cX 68 q (by decide) (by decide)]; exact w1, ?_, by rw [g11 j0 w4]; exact w3, by omega⟩
        rw [c65]
        exact w2.cg (fun t _ t2 => g11 t (by omega)) (fun t _ t2 => by rw [g12 t (by omega), pI_row _ _ (by decide)]) (Nat.le_refl _)
    · exact (hQ q (by omega)).cg (fun a h1 h2 => g13 a q h1 h2 c) (fun a h1 h2 => cY a q h1 h2 c) (fun t ht => g11 t ht) (fun t ht => by rw [c65, g12 t ht, pI_row _ _ (by decide)]) (by omega) g10
theorem rule_sim {b : Nat → Nat} {z n o p r sc cm : Nat} {S M : St} (h : RuI b z n o S M p r sc cm) : ∃ S', fX3_readRule o S (nI r) = some S' ∧ RuO b z n o S M p r S' (fX12_readsRule M) := by
  obtain ⟨hC, hM, hn, hLo, h6, hr, h19, h7, h17, hcm, hsc, hQ⟩ := h
  have hp := hC.2.2.2.1
  have hol := hLo
  unfold isL at hol
  by_cases cK : sg b n p = 99 ∨ sg b n p = 106 ∨ sg b n p = 120
  · have ec : fX3_readRule o S (nI r) = fX3_readRule_35 o S (nI r) (sg b n p) := by
      unfold fX3_readRule
      rw [bV_e, hC.2.2.2.2.2.2.1]
      by_cases c1 : sg b n p = 99
      · rw [if_pos c1]
      · rw [if_neg c1]
        by_cases c2 : sg b n p = 106
        · rw [if_pos c2]
        · rw [if_neg c2, if_pos (by rcases cK with c | c | c; exact absurd c c1; exact absurd c c2; exact c)]
    have em : fX12_readsRule M = fX12_readsRule_33 M (sg b n p) := by
      unfold fX12_readsRule
      rw [here12 hM, bi_some]
      by_cases c1 : sg b n p = 99
      · rw [if_pos c1]
      · rw [if_neg c1]
        by_cases c2 : sg b n p = 106
        · rw [if_pos c2]
        · rw [if_neg c2, if_pos (by rcases cK with c | c | c; exact absurd c c1; exact absurd c c2; exact c)]
    have hpn : p < n := sg_in (by rcases cK with c | c | c <;> (rw [c]; decide))
    rw [ec, em]
    generalize hs : sg b n p = s
    unfold fX3_readRule_35 fX12_readsRule_33
    by_cases c16 : r = 16
    · have hv : flt 4 p < 0 := flt_neg (by decide) (by decide) (by omega)
      rw [if_neg (show ¬ nI r < (16 : Int32) by rw [li 16, nlt (by omega) (by decide)]; omega), li 4, failH hC, bv_some, h19, if_pos (show nI r = (16 : Int32) by rw [c16]; rfl), hM.2.2.2.2.1, wrong12, bi_some, if_pos (Or.inl rfl)]
      exact ⟨_, rfl, FrO.ex ((Ex.rf 3 S).put _ _), Or.inl ⟨_, _, ⟨⟨p, hC.put⟩, hv, ⟨sc, by omega, by rw [pI_row _ _ (by omega)]; exact h7⟩, r, hr, by rw [pI_row _ _ (by omega)]; exact h6⟩, FrN.put _ (by unfold lnM; omega) _, pI_same _ _ _ _, rfl⟩⟩
    · have hr1 : r < 16 := by omega
      obtain ⟨S1, s1, s2, s3⟩ := step0 hC hpn
      have l7 : S1.1 o 7 = nI sc := by rw [s2.2 o (by omega)]; exact h7
      have l6 : S1.1 o 6 = nI r := by rw [s2.2 o (by omega)]; exact h6
      have y1 : (pI M 67 r s).1 55 12 = nI p := by rw [pI_row _ _ (by decide)]; exact hM.2.2.2.2.1
      have y2 : (pI (pI M 67 r s) 55 12 (nI (p + 1))).1 55 19 = nI r := by rw [pI_cell _ _ (by decide), pI_row _ _ (by decide)]; exact h19
      have y3 : (pI (pI M 67 r s) 55 12 (nI (p + 1))).1 55 17 = nI cm := by rw [pI_cell _ _ (by decide), pI_row _ _ (by decide)]; exact h17
      rw [if_pos (show nI r < (16 : Int32) by rw [li 16, nlt (by omega) (by decide)]; omega), s1, bv_some, l7, bV_e, h19, if_neg (show ¬ nI r = (16 : Int32) by rw [li 16, neq (by omega) (by decide)]; exact c16), if_pos (inbT hr1 (by decide)), nI_clamp (by omega), bS_e, y1, nI_1, bS_e, y2, if_pos (inbT hr1 (by decide)), nI_clamp (by omega), y3, bS_e, bS_e, bS_e]
      generalize hM5 : pI (pI (pI (pI (pI M 67 r s) 55 12 (nI (p + 1))) 68 r (nI cm)) 55 16 0) 55 18 0 = M5
      have fn5 : FrN M M5 := by
        rw [← hM5]
        exact ((((FrN.put _ (by unfold lnM; omega) _).tr (FrN.put _ (by unfold lnM; omega) _)).tr (FrN.put _ (by unfold lnM; omega) _)).tr (FrN.put _ (by unfold lnM; omega) _)).tr (FrN.put _ (by unfold lnM; omega) _)
      have m64 : M5.1 64 = M.1 64 := by rw [← hM5, pI_row _ _ (by decide), pI_row _ _ (by decide), pI_row _ _ (by decide), pI_row _ _ (by decide), pI_row _ _ (by decide)]
      have m65 : M5.1 65 = M.1 65 := by rw [← hM5, pI_row _ _ (by decide), pI_row _ _ (by decide), pI_row _ _ (by decide), pI_row _ _ (by decide), pI_row _ _ (by decide)]
      have m12 : M5.1 55 12 = nI (p + 1) := by rw [← hM5, pI_cell _ _ (by decide), pI_cell _ _ (by decide), pI_row _ _ (by decide), pI_same]
      have m5c : ∀ k, k ≠ 12 → k ≠ 16 → k ≠ 18 → M5.1 55 k = M.1 55 k := fun k h1 h2 h3 => by rw [← hM5, pI_cell _ _ (by omega), pI_cell _ _ (by omega), pI_row _ _ (by decide), pI_cell _ _ (by omega), pI_row _ _ (by decide)]
      have m67 : M5.1 67 r = s := by rw [← hM5, pI_row _ _ (by decide), pI_row _ _ (by decide), pI_row _ _ (by decide), pI_row _ _ (by decide), pI_same]
      have m68 : M5.1 68 r = nI cm := by rw [← hM5, pI_row _ _ (by decide), pI_row _ _ (by decide), pI_same]
      have mq : ∀ a q, 67 ≤ a → a ≤ 70 → q ≠ r → M5.1 a q = M.1 a q := fun a q h1 h2 h3 => by rw [← hM5, pI_row _ _ (by omega), pI_row _ _ (by omega), pI_cell _ _ (by omega), pI_row _ _ (by omega), pI_cell _ _ (by omega)]
      have mu5 : Mu b n M5 (p + 1) := ⟨fun j hj => by rw [m64]; exact hM.1 j hj, hM.2.1, hM.2.2.1, by omega, m12, by rw [m5c 13 (by decide) (by decide) (by decide)]; exact hM.2.2.2.2.2⟩
      have m19 : M5.1 55 19 = nI r := by rw [m5c 19 (by decide) (by decide) (by decide)]; exact h19
      have m17 : M5.1 55 17 = nI cm := by rw [m5c 17 (by decide) (by decide) (by decide)]; exact h17
      have hQ1 : ∀ q, q < r → RuQ o S1 M5 sc cm q := fun q hq => (hQ q hq).cg (fun a h1 h2 => by rw [s2.2 a (by omega)]) (fun a h1 h2 => mq a q h1 h2 (by omega)) (fun t _ => by rw [s2.2 (o + 4) (by omega)]) (fun t _ => by rw [m65]) (Nat.le_refl _) (Nat.le_refl _)
      by_cases cx : s = 120
      · rw [if_pos cx, if_pos cx]
        obtain ⟨S', e1, e2⟩ := rule_rest (i0 := sc) (s := s) s3 mu5 hn hLo l7 l6 hr1 m19 m17 (by omega) (by omega) hQ1 m67 (fun w => absurd cx w)
        exact ⟨S', e1, e2.pre (FrO.ex s2) fn5 (by omega)⟩
      · rw [if_neg cx, if_neg cx]
        have hL : LI b z n o S1 M5 (p + 1) sc cm 0 0 := ⟨s3, mu5, hn, hLo, l7, m17, by rw [← hM5, pI_same]; rfl, by rw [← hM5, pI_cell _ _ (by decide), pI_same]; rfl, by decide, by omega, by omega, by omega⟩
        obtain ⟨S2, r1, r2⟩ := sum_top (k := 60) hL (Or.inl rfl) (by decide)
        have r1 : fLR 60 3 o S1 0 = some S2 := r1
        rw [r1, bv_some]
        rcases r2 with r2 | ⟨p2, sc2, cm2, M2, ⟨t1, ⟨hC2, hM2, _, _, i7, i17, i18, i16, _, icm, iw, isc⟩, t3, t4, t5, t6, t7, t8, t9⟩, t10⟩
        · obtain ⟨v, M', x1, x2, x3, x4, x5⟩ := r2.ff l6 hr
          obtain ⟨q, S3, y1, y2, y3⟩ := x1.add hLo 0 0
          obtain ⟨S4, z1, z2, z3⟩ := rT1f hLo y3 s (nI sc)
          rw [y1, bi_some, x5, bi_some, if_pos rfl]
          exact ⟨S4, z1, (((FrO.ex s2).tr x2).tr y2).tr z2, Or.inl ⟨v, M', z3, fn5.tr (FrN.fv x3), x4, rfl⟩⟩
        · have hp2 := hC2.2.2.2.1
          have ead := add2 (kind := 0) (num := 0) i7 (by omega) (by decide) (by decide)
          have ead : fX2_addStep o S2 0 0 = _ := ead
          rw [ead, bi_some, t10, bi_some, if_neg (by decide)]
          have a6 : (adC o sc2 0 0 S2).1 o 6 = nI r := by rw [(adC_fr o sc2 0 0 S2).2.2 6 (by decide), t3.2.2 6 (by decide)]; exact l6
          have v67 : ∀ a q, 67 ≤ a → a ≤ 70 → M2.1 a q = M5.1 a q := fun a q h1 h2 => t4.2 a q (by unfold ltM; omega)
          have hQ2 : ∀ q, q < r → RuQ o (adC o sc2 0 0 S2) M2 (sc2 + 1) cm2 q := fun q hq => (hQ1 q hq).cg (fun a h1 h2 => by rw [adC_3 _ (by omega) (by omega), t3.2.1 a (by omega) (by omega) (by omega)]) (fun a h1 h2 => v67 a q h1 h2) (fun t ht => by rw [adC_lt _ (by omega), t5.1 t ht]) (fun t ht => t5.2.1 t ht) (by omega) (by omega)
          obtain ⟨S', e1, e2⟩ := rule_rest (i0 := sc) (s := s) (hC2.oth (adC_3 _ (by omega) (by omega)) (adC_3 _ (by omega) (by omega)) (adC_3 _ (by omega) (by omega))) hM2 hn hLo (adC_7 o sc2 0 0 S2) a6 hr1 (by rw [t4.2 55 19 (by unfold ltM; omega)]; exact m19) i17 icm (by omega) hQ2 (by rw [v67 67 r (by decide) (by decide)]; exact m67) (fun _ => ⟨sc2, cm, by rw [v67 68 r (by decide) (by decide)]; exact m68, t9.cg (fun t _ t2 => adC_lt _ (by omega)) (fun _ _ _ => rfl) (by decide), adC_in _ _ _ _ _, by omega⟩)
          exact ⟨S', e1, e2.pre (((FrO.ex s2).tr (FrO.fw t3)).tr (FrO.fw (adC_fr _ _ _ _ _))) (fn5.tr (FrN.fv t4)) (by omega)⟩
  · have hv : flt 1 p < 0 := flt_neg (by decide) (by decide) (by omega)
    have c1 : ¬ sg b n p = 99 := fun w => cK (Or.inl w)
    have c2 : ¬ sg b n p = 106 := fun w => cK (Or.inr (Or.inl w))
    have c3 : ¬ sg b n p = 120 := fun w => cK (Or.inr (Or.inr w))
    unfold fX3_readRule fX12_readsRule
    rw [bV_e, hC.2.2.2.2.2.2.1, if_neg c1, if_neg c2, if_neg c3, li 1, failH hC, bv_some, here12 hM, bi_some, if_neg c1, if_neg c2, if_neg c3, hM.2.2.2.2.1, wrong12, bi_some, if_pos (Or.inl rfl)]
    exact ⟨_, rfl, FrO.ex ((Ex.rf 3 S).put _ _), Or.inl ⟨_, _, ⟨⟨p, hC.put⟩, hv, ⟨sc, by omega, by rw [pI_row _ _ (by omega)]; exact h7⟩, r, hr, by rw [pI_row _ _ (by omega)]; exact h6⟩, FrN.put _ (by unfold lnM; omega) _, pI_same _ _ _ _, rfl⟩⟩
