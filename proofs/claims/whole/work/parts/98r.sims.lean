-- parts and choices
theorem aim2 {o sc j kind num : Nat} {S : St} (h7 : S.1 o 7 = nI sc) (hj : j < sc) (hs : sc ≤ 288) (hc : S.1 (o + 4) j = wd kind num) (hk : kind < 16) : fX2_aimHere o S (nI j) = some (pI S (o + 4) j (wd kind sc)) := by
  unfold fX2_aimHere
  rw [if_neg (show ¬ nI j < 0 from nI_pos (by omega)), h7, if_neg (show ¬ nI sc ≤ nI j by rw [nle (by omega) (by omega)]; omega), if_pos (inbT (by omega) (by decide)), if_pos (inbT (by omega) (by decide)), nI_clamp (by omega), hc, wd_kind hk, wd_e hk (by omega), bS_e]
theorem Flt.aim {b : Nat → Nat} {z n o : Nat} {S M S1 : St} {run : Option (Int32 × St)} (hL : isL o) (h : Flt b z n o S M S1 run) {j : Nat} (hj : j < 288) : ∃ S2, fX2_aimHere o S1 (nI j) = some S2 ∧ Flt b z n o S M S2 run := by
  obtain ⟨⟨s, s1, s2⟩, v, p', M', a1, a2, a3, a4, a5, a6⟩ := id h
  unfold isL at hL
  unfold fX2_aimHere
  rw [if_neg (show ¬ nI j < 0 from nI_pos (by omega)), s2]
  by_cases c : s ≤ j
  · rw [if_pos (show nI s ≤ nI j by rw [nle (by omega) (by omega)]; exact c)]
    exact ⟨S1, rfl, h⟩
  · rw [if_neg (show ¬ nI s ≤ nI j by rw [nle (by omega) (by omega)]; exact c), if_pos (inbT hj (by decide)), if_pos (inbT hj (by decide)), nI_clamp (by omega), bS_e]
    exact ⟨_, rfl, ⟨s, s1, by rw [pI_row _ _ (by omega)]; exact s2⟩, v, p', M', a1, a2.oth (pI_row _ _ (by omega)) (pI_row _ _ (by omega)) (pI_row _ _ (by omega)), a3.tr ⟨rfl, fun a _ h2 h3 => pI_row _ _ h3, fun k _ => by rw [pI_row _ _ (by omega)]⟩, a4, a5, a6⟩
def juM (w q cm p : Nat) (M : St) : St := pI (noM cm q 0 (pI (pI M 66 w (cw q cm)) 55 18 (nI (w + 1)))) 55 12 (nI (p + 1))
theorem jump12 {w q cm p : Nat} {M : St} (h18 : M.1 55 18 = nI w) (hw : w < 260) (h17 : M.1 55 17 = nI cm) (hcm : cm < 260) (h12 : M.1 55 12 = nI p) : fX12_jumps M (nI q) = some (juM w q cm p M) := by
  have e2 : (1048576 : Int32) * nI q + nI cm = cw q cm := by rw [li 1048576, pk_mul, nI_add]; rfl
  have g1 : (pI M 66 w (cw q cm)).1 55 18 = nI w := by rw [pI_row _ _ (by decide)]; exact h18
  have g2 : (pI (pI M 66 w (cw q cm)) 55 18 (nI (w + 1))).1 55 17 = nI cm := by rw [pI_cell _ _ (by decide), pI_row _ _ (by decide)]; exact h17
  have g3 : (noM cm q 0 (pI (pI M 66 w (cw q cm)) 55 18 (nI (w + 1)))).1 55 12 = nI p := by rw [noM_55 _ (by decide), pI_cell _ _ (by decide), pI_row _ _ (by decide)]; exact h12
  have hn := note12 (op := q) (v := 0) g2 hcm
  have hn : fX12_notes (pI (pI M 66 w (cw q cm)) 55 18 (nI (w + 1))) (nI q) 0 = _ := hn
  unfold fX12_jumps juM
  rw [h18, if_pos (inbT hw (by decide)), nI_clamp (by omega), h17, e2, bS_e, g1, nI_1, bS_e, hn, bv_some, g3, nI_1, bS_e]
theorem juM_fr (w q cm p : Nat) (M : St) : FrV M (juM w q cm p M) := (((FrV.put _ (by unfold ltM; omega) _).tr (FrV.put _ (by unfold ltM; omega) _)).tr (noM_fr _ _ _ _)).tr (FrV.put _ (by unfold ltM; omega) _)
theorem juM_in (w q cm p : Nat) (M : St) : (juM w q cm p M).1 65 cm = cw q 0 := by unfold juM; rw [pI_row _ _ (by decide), noM_in]
theorem juM_65 {w q cm p r : Nat} (M : St) (h : r ≠ cm) : (juM w q cm p M).1 65 r = M.1 65 r := by unfold juM; rw [pI_row _ _ (by decide), noM_lt _ h, pI_row _ _ (by decide), pI_row _ _ (by decide)]
theorem juM_w (w q cm p : Nat) (M : St) : (juM w q cm p M).1 66 w = cw q cm := by unfold juM; rw [pI_row _ _ (by decide), noM_o _ (by decide) (by decide), pI_row _ _ (by decide), pI_same]
theorem juM_66 {w q cm p r : Nat} (M : St) (h : r ≠ w) : (juM w q cm p M).1 66 r = M.1 66 r := by unfold juM; rw [pI_row _ _ (by decide), noM_o _ (by decide) (by decide), pI_row _ _ (by decide), pI_cell _ _ (by omega)]
theorem juM_LI {b : Nat → Nat} {z n o p sc cm w op q kind : Nat} {S S1 M : St} (hC : Cu b z n S1 (p + 1) 0) (hM : Mu b n M p) (hn : n ≤ 240) (hLo : isL o) (h7 : S.1 o 7 = nI sc) (e : Ex 3 S S1) (h17 : M.1 55 17 = nI cm) (h16 : M.1 55 16 = nI op) (ho : op ≤ 6) (hcm : cm ≤ p) (hw : w ≤ p) (hsc : sc ≤ p + 32) (hp : p < n) : LI b z n o (adC o sc kind 0 S1) (juM w q cm p M) (p + 1) (sc + 1) (cm + 1) (w + 1) op := by
  have hol := hLo
  unfold isL at hol
  refine ⟨hC.oth (adC_3 _ (by omega) (by omega)) (adC_3 _ (by omega) (by omega)) (adC_3 _ (by omega) (by omega)), ?_, hn, hLo, adC_7 _ _ _ _ _, ?_, ?_, ?_, ho, by omega, by omega, by omega⟩
  · unfold juM
    exact (hM.oth (by rw [noM_o _ (by decide) (by decide), pI_row _ _ (by decide), pI_row _ _ (by decide)]) (by rw [noM_55 _ (by decide), pI_cell _ _ (by decide), pI_row _ _ (by decide)]) (by rw [noM_55 _ (by decide), pI_cell _ _ (by decide), pI_row _ _ (by decide)]) : Mu b n (noM cm q 0 (pI (pI M 66 w (cw q cm)) 55 18 (nI (w + 1)))) p).mv (by omega)
  · unfold juM; rw [pI_cell _ _ (by decide), noM_17]
  · unfold juM; rw [pI_cell _ _ (by decide), noM_55 _ (by decide), pI_same]
  · unfold juM; rw [pI_cell _ _ (by decide), noM_55 _ (by decide), pI_cell _ _ (by decide), pI_row _ _ (by decide)]; exact h16
theorem GotT.gp {b : Nat → Nat} {z n o : Nat} {S M S' : St} {p sc cm w op : Nat} {run : Option (Int32 × St)} {p' sc' cm' e c' d : Nat} {M' : St} (h : GotT b z n o S M S' p sc cm w op run p' sc' cm' M' e c' d) (hT : TopQ M w 11 13) : GotP b z n o S M S' p sc cm w op run p' sc' cm' 0 0 M' c' d := by
  obtain ⟨g1, g2, g3, g4, g5, g6, g7, g8, g9, g10, g11, g12, g13⟩ := h
  obtain ⟨e, rfl⟩ : ∃ e', e = e' + 1 := ⟨e - 1, by omega⟩
  obtain ⟨w1, q, v, e1, e2, e3, e4, e5⟩ := hT
  subst e1
  have hw := g2.2.2.2.2.2.2.2.2.2.2.1
  have hp := g2.1.2.2.2.1
  have hn := g2.2.2.1
  refine ⟨g1, g2, g3, g4, g5, g6, g7, g8, g9, g10, ⟨by decide, fun h => absurd h (by decide)⟩, ?_, fun cd d1 _ => ?_⟩
  · rw [g12, EP_end (q := q) (v := v) g2.2.2.2.2.2.2.1 (by omega) (by rw [g5.2.2 w1 (by omega)]; exact e2) (by omega) (by omega) e3]
  · exact g13.cg (fun _ _ _ => rfl) (fun r r1 r2 => d1 r r1 r2 (fun h => absurd h.1 (by decide)))
/-- one more jump -/
theorem jmp_nx {b : Nat → Nat} {z n o : Nat} {S M S1 M1 S2 M2 S4 M4 : St} {p sc cm w op p1 sc1 cm1 q p3 sc3 cm3 a f c3 d3 : Nat} {run2 : Option (Int32 × St)} (i1 : p + 3 ≤ p1) (i2 : FrW o S S1) (i3 : FrV M M1) (i4 : Kep o sc cm w S M S1 M1) (i5 : cm < cm1) (i6 : sc1 + cm = sc + cm1) (i7 : sc1 + p ≤ sc + p1) (hsc : sc ≤ p + 32) (e2 : Ex 3 S1 S2) (la : LaF w M1 M2) (lo : ∀ r, r < cm → M2.1 65 r = M1.1 65 r) (hE : ∀ cd, (∀ r, cm ≤ r → r < cm1 → cd r = M2.1 65 r) → EB (S1.1 (o + 4)) cd sc sc1 cm cm1) (hq : q = 11 ∨ q = 12) (G : GotP b z n o (adC o sc1 (24 - q) 0 S2) (juM w q cm1 p1 M2) S4 (p1 + 1) (sc1 + 1) (cm1 + 1) (w + 1) op run2 p3 sc3 cm3 a f M4 c3 d3) : fX2_aimHere o S4 (nI sc1) = some (pI S4 (o + 4) sc1 (wd (24 - q) sc3)) ∧ p + 3 ≤ p3 ∧ LI b z n o (pI S4 (o + 4) sc1 (wd (24 - q) sc3)) M4 p3 sc3 cm3 (w + 1 + a) op ∧ FrW o S (pI S4 (o + 4) sc1 (wd (24 - q) sc3)) ∧ FrV M M4 ∧ Kep o sc cm w S M (pI S4 (o + 4) sc1 (wd (24 - q) sc3)) M4 ∧ cm < cm3 ∧ sc3 + cm = sc + cm3 ∧ sc3 + p ≤ sc + p3 ∧ PJ M4 (w + 1) a f 11 cm cm3 ∧ PJ M4 w 1 cm1 q cm cm3 ∧ (a = 1 → f ≠ cm1) ∧ ∀ cd, (∀ r, cm ≤ r → r < cm3 → ¬ (a = 1 ∧ r = f) → ¬ r = cm1 → cd r = M4.1 65 r) → (a = 1 → cd f = cw 11 cm3) → cd cm1 = cw q cm3 → EB ((pI S4 (o + 4) sc1 (wd (24 - q) sc3)).1 (o + 4)) cd sc sc3 cm cm3 := by
  obtain ⟨g1, ⟨hC, hM, hn, hLo, h7, h17, h18, h16, ho, hcm, hw, hsc3⟩, g3, g4, g5, g6, g7, g8, g9, g10, g11, g12, g13⟩ := G
  have hol := hLo
  unfold isL at hol
  have hp3 := hC.2.2.2.1
  have st2 : S2.1 (o + 4) = S1.1 (o + 4) := e2.2 (o + 4) (by omega)
  have js : S4.1 (o + 4) sc1 = wd (24 - q) 0 := by rw [g5.1 sc1 (by omega)]; exact adC_in _ _ _ _ _
  have m65 : M4.1 65 cm1 = cw q 0 := by rw [g5.2.1 cm1 (by omega)]; exact juM_in _ _ _ _ _
  have m66 : M4.1 66 w = cw q cm1 := by rw [g5.2.2 w (by omega)]; exact juM_w _ _ _ _ _
  have s4 : ∀ r, r < sc1 → S4.1 (o + 4) r = S1.1 (o + 4) r := fun r hr => by rw [g5.1 r (by omega), adC_lt _ (by omega), st2]
  have s5 : ∀ r, r ≠ sc1 → (pI S4 (o + 4) sc1 (wd (24 - q) sc3)).1 (o + 4) r = S4.1 (o + 4) r := fun r hr => pI_cell _ _ (by omega)
  have m4 : ∀ r, r < cm1 → M4.1 65 r = M2.1 65 r := fun r hr => by rw [g5.2.1 r (by omega), juM_65 _ (by omega)]
  have hf : a = 1 → cm1 + 1 ≤ f ∧ f < cm3 := fun h => ⟨(g11.2 h).2.1, (g11.2 h).2.2.1⟩
  refine ⟨aim2 h7 (by omega) (by omega) js (by omega), by omega, ⟨hC.oth (pI_row _ _ (by omega)) (pI_row _ _ (by omega)) (pI_row _ _ (by omega)), hM, hn, hLo, by rw [pI_row _ _ (by omega)]; exact h7, h17, h18, h16, ho, hcm, hw, hsc3⟩, (((i2.tr (FrW.ex (by omega) e2)).tr (adC_fr _ _ _ _ _)).tr g3).tr ⟨rfl, fun a _ h2 h3 => pI_row _ _ h3, fun k _ => by rw [pI_row _ _ (by omega)]⟩, ((i3.tr la.1).tr (juM_fr _ _ _ _ _)).tr g4, ⟨fun r hr => ?_, fun r hr => ?_, fun r hr => ?_⟩, by omega, by omega, by omega, ⟨g11.1, fun h => ?_⟩, ⟨by decide, fun _ => ⟨m66, by omega, by omega, m65⟩⟩, fun h => by have := hf h; omega, fun cd d1 d2 d3 => ?_⟩
  · rw [s5 r (by omega), s4 r (by omega), i4.1 r hr]
  · rw [m4 r (by omega), lo r hr, i4.2.1 r hr]
  · rw [g5.2.2 r (by omega), juM_66 _ (by omega), la.2.2.1, i4.2.2 r hr]
  · obtain ⟨y1, y2, y3, y4⟩ := g11.2 h
    exact ⟨y1, by omega, y3, y4⟩
  · have x1 := hE cd (fun r r1 r2 => by rw [d1 r r1 (by omega) (fun h => by have := hf h.1; omega) (by omega)]; exact m4 r r2)
    have y1 := g13 cd (fun r r1 r2 r3 => d1 r (by omega) r2 r3 (by omega)) d2
    exact EB.jmp (op := q) (x1.cg (fun r _ r2 => by rw [s5 r (by omega), s4 r r2]) (fun _ _ _ => rfl)) (y1.cg (fun r _ _ => s5 r (by omega)) (fun _ _ _ => rfl)) hq (pI_same _ _ _ _) d3
theorem part_loop {b : Nat → Nat} {z n o op k : Nat} {S M : St} {p sc cm w : Nat} {run : Option (Int32 × St)} (hF : TestP b z n o op) (hk : 3 * (6 - op) + 4 ≤ k) (hT : TopQ M w 12 13) (hsc0 : sc ≤ p + 32) : ∀ m f i S1 p1 sc1 cm1 a g M1 c1 d1, n ≤ p1 + m → 4 * i ≤ p1 → 100 ≤ f + i → GotP b z n o S M S1 p sc cm w op run p1 sc1 cm1 a g M1 c1 d1 → ∃ S', fX3_readPart_8 (fLR k) o f S1 (nI op) (nI i) = some S' ∧ (Flt b z n o S M S' run ∨ ∃ p' sc' cm' a f M' c' d, GotP b z n o S M S' p sc cm w op run p' sc' cm' a f M' c' d ∧ sg b n p' ≠ nI 38) := by
  intro m
  induction m with
  | zero =>
    intro f i S1 p1 sc1 cm1 a g M1 c1 d1 hm hi hf hG
    have hC := hG.2.1.1
    have hp1 := hC.2.2.2.1
    have hn := hG.2.1.2.2.1
    obtain ⟨f, rfl⟩ : ∃ f', f = f' + 1 := ⟨f - 1, by omega⟩
    have c : sg b n p1 ≠ nI 38 := by rw [sg_ge (by omega)]; decide
    refine ⟨S1, ?_, Or.inr ⟨p1, sc1, cm1, a, g, M1, c1, d1, hG, c⟩⟩
    show bX3_readPart_8 _ _ _ _ _ _ = _
    unfold bX3_readPart_8
    rw [yfine hC.2.2.2.2.2.2.2, bi_some, if_neg (show ¬ (1 : Int32) = 0 by decide), hC.2.2.2.2.2.2.1, if_neg (show ¬ sg b n p1 = 38 from c), ite_self]
  | succ m ih =>
    intro f i S1 p1 sc1 cm1 a g M1 c1 d1 hm hi hf hG
    have hG0 := hG
    obtain ⟨g1, ⟨hC, hM, hn, hLo, h7, h17, h18, h16, ho, hcm, hw, hsc⟩, g3, g4, g5, g6, g7, g8, g9, g10, g11, g12, g13⟩ := hG
    have hp1 := hC.2.2.2.1
    obtain ⟨f, rfl⟩ : ∃ f', f = f' + 1 := ⟨f - 1, by omega⟩
    by_cases c : sg b n p1 = nI 38
    · have hpn : p1 < n := sg_in (by rw [c]; decide)
      have ha := g11.1
      have hol := hLo
      unfold isL at hol
      obtain ⟨S2, t1, t2, t3⟩ := step0 hC hpn
      have l7 : S2.1 o 7 = nI sc1 := by rw [t2.2 o (by omega)]; exact h7
      have ec : fX3_readPart_8 (fLR k) o (f + 1) S1 (nI op) (nI i) = bv (fLR k 2 o (adC o sc1 13 0 S2) (nI op)) fun S4 => bv (fX2_aimHere o S4 (nI sc1)) fun S5 => fX3_readPart_8 (fLR k) o f S5 (nI op) (nI (i + 1)) := by
        have ead := add2 (kind := 13) (num := 0) l7 (by omega) (by decide) (by decide)
        have ead : fX2_addStep o S2 13 0 = _ := ead
        show bX3_readPart_8 _ _ _ _ _ _ = _
        unfold bX3_readPart_8
        rw [if_neg (show ¬ (240 : Int32) ≤ nI i by rw [li 240, nle (by decide) (by omega)]; omega), yfine hC.2.2.2.2.2.2.2, bi_some, if_neg (by decide), hC.2.2.2.2.2.2.1, if_pos (show sg b n p1 = 38 from c), t1, bv_some, ead, bi_some]
        simp only [bV_e, nI_1]
      obtain ⟨d1, rfl⟩ : ∃ x, d1 = x + 1 := ⟨d1 - 1, by omega⟩
      have hT1 : TopQ M1 w 12 13 := hT.cg (fun r hr => g5.2.2 r hr)
      obtain ⟨M2, u1, u2, u3, u4⟩ := land_and (cm0 := cm) h18 (by omega) h17 g11 (by omega) (by omega) hT1
      have mu2 := hM.la u2
      have m17 : M2.1 55 17 = nI cm1 := by rw [u2.2.2.2 17 (by decide)]; exact h17
      have em : C92 c1 (d1 + 1) M1 = fX12_readsCondition_40 c1 (juM w 11 cm1 p1 M2) := by
        have ej := jump12 (q := 11) u2.2.1 (by omega) m17 (by omega) mu2.2.2.2.2.1
        have ej : fX12_jumps M2 11 = _ := ej
        unfold C92
        show bX12_readsCondition_92 _ _ _ = _
        unfold bX12_readsCondition_92 fX12_readsCondition_180 fX12_readsCondition_195 fX12_readsCondition_215
        rw [here12 hM, bi_some, if_neg (show ¬ sg b n p1 = 41 by rw [c]; decide), here12 hM, bi_some, if_pos (show sg b n p1 = 38 from c), here12 hM, bi_some, if_neg (show ¬ sg b n p1 = 124 by rw [c]; decide), u1, bv_some, here12 mu2, bi_some, if_pos (show sg b n p1 = 38 from c), ej, bv_some]
      have hL2 : LI b z n o (adC o sc1 13 0 S2) (juM w 11 cm1 p1 M2) (p1 + 1) (sc1 + 1) (cm1 + 1) (w + 1) op := juM_LI t3 mu2 hn hLo h7 t2 m17 (by rw [u2.2.2.2 16 (by decide)]; exact h16) ho hcm (by omega) hsc hpn
      have tp2 : TopQ (juM w 11 cm1 p1 M2) (w + 1) 11 13 := ⟨w, 11, cm1, rfl, juM_w _ _ _ _ _, by omega, by decide, by decide⟩
      obtain ⟨S4, r1, r2⟩ := hF (adC o sc1 13 0 S2) (juM w 11 cm1 p1 M2) (p1 + 1) (sc1 + 1) (cm1 + 1) (w + 1) k c1 hL2 ⟨w, 11, cm1, rfl, juM_w _ _ _ _ _, by omega, by decide, by decide⟩ hk (by omega)
      rw [ec, r1, bv_some]
      rcases r2 with r2 | ⟨p3, sc3, cm3, M4, e, c3, d3, r2⟩
      · obtain ⟨S5, x1, x2⟩ := r2.aim hLo (show sc1 < 288 by omega)
        obtain ⟨f, rfl⟩ : ∃ f', f = f' + 1 := ⟨f - 1, by omega⟩
        rw [x1, bv_some, pa8n x2.ne]
        refine ⟨S5, rfl, Or.inl ?_⟩
        rw [g12, em]
        exact x2.pre ((g3.tr (FrW.ex (by omega) t2)).tr (adC_fr _ _ _ _ _)) ((g4.tr u2.1).tr (juM_fr _ _ _ _ _))
      · have r3 := r2.gp tp2
        obtain ⟨n0, n1, n2, n3, n4, n5, n6, n7, n8, n9, n10, n11, n12⟩ := jmp_nx (q := 11) g1 g3 g4 g5 g6 g7 g8 hsc0 t2 u2 (fun r hr => u3 r (fun h => by have := (g11.2 h.1).2.1; omega)) (fun cd d1 => g13 cd (fun r r1 r2 r3 => by rw [d1 r r1 r2]; exact u3 r r3) (fun h => by rw [d1 g (g11.2 h).2.1 (g11.2 h).2.2.1]; exact u4 h)) (Or.inl rfl) r3
        obtain ⟨q1, q2, q3, q4, q5, q6, q7, q8, q9, q10, q11, q12, q13⟩ := r3
        have hp3 := q2.1.2.2.2.1
        rw [n0, bv_some]
        exact ih f (i + 1) _ p3 sc3 cm3 1 cm1 M4 c3 d3 (by omega) (by omega) (by omega) ⟨n1, n2, n3, n4, n5, n6, n7, n8, q9, q10, n10, by rw [g12, em]; exact q12, fun cd k1 k2 => n12 cd (fun r r1 r2 _ r4 => k1 r r1 r2 (fun h => r4 h.2)) (fun h => absurd h (by decide)) (k2 rfl)⟩
    · refine ⟨S1, ?_, Or.inr ⟨p1, sc1, cm1, a, g, M1, c1, d1, hG0, c⟩⟩
      show bX3_readPart_8 _ _ _ _ _ _ = _
      unfold bX3_readPart_8
      rw [yfine hC.2.2.2.2.2.2.2, bi_some, if_neg (show ¬ (1 : Int32) = 0 by decide), hC.2.2.2.2.2.2.1, if_neg (show ¬ sg b n p1 = 38 from c), ite_self]
theorem part_sim {b : Nat → Nat} {z n o op : Nat} (hF : TestP b z n o op) : PartP b z n o op := by
  intro S M p sc cm w k c hL hT hk hc
  obtain ⟨k, rfl⟩ : ∃ k', k = k' + 1 := ⟨k - 1, by omega⟩
  obtain ⟨w1, q, v, e1, e2, e3, e4, e5⟩ := id hT
  obtain ⟨S1, r1, r2⟩ := hF S M p sc cm w k c hL ⟨w1, q, v, e1, e2, e3, by omega, e5⟩ (by omega) hc
  rw [fLR_1]
  unfold fX3_readPart
  rw [r1, bv_some]
  rcases r2 with r2 | ⟨p1, sc1, cm1, M1, e, c1, d1, r2⟩
  · exact ⟨S1, pa8n (f := 99) r2.ne _ _, Or.inl r2⟩
  · exact part_loop (k := k) hF (by omega) hT hL.2.2.2.2.2.2.2.2.2.2.2 n 100 0 S1 p1 sc1 cm1 0 0 M1 c1 d1 (by omega) (by omega) (by omega) (r2.gp ⟨w1, q, v, e1, e2, e3, by omega, e5⟩)
theorem cho_loop {b : Nat → Nat} {z n o op k : Nat} {S M : St} {p sc cm w : Nat} {run : Option (Int32 × St)} (hF : PartP b z n o op) (hk : 3 * (6 - op) + 5 ≤ k) (hT : TopQ M w 13 13) (hsc0 : sc ≤ p + 32) : ∀ m f i S1 p1 sc1 cm1 a g a2 g2 M1 c1 d1, n ≤ p1 + m → 4 * i ≤ p1 → 100 ≤ f + i → GotC b z n o S M S1 p sc cm w op run p1 sc1 cm1 a g a2 g2 M1 c1 d1 → sg b n p1 ≠ nI 38 → ∃ S', fX3_readChoice_8 (fLR k) o f S1 (nI op) (nI i) = some S' ∧ (Flt b z n o S M S' run ∨ ∃ p' sc' cm' a f a2 f2 M' c' d, GotC b z n o S M S' p sc cm w op run p' sc' cm' a f a2 f2 M' c' d ∧ sg b n p' ≠ nI 38 ∧ sg b n p' ≠ nI 124) := by
  intro m
  induction m with
  | zero =>
    intro f i S1 p1 sc1 cm1 a g a2 g2 M1 c1 d1 hm hi hf hG h38
    have hC := hG.2.1.1
    have hp1 := hC.2.2.2.1
    have hn := hG.2.1.2.2.1
    obtain ⟨f, rfl⟩ : ∃ f', f = f' + 1 := ⟨f - 1, by omega⟩
    have c : sg b n p1 ≠ nI 124 := by rw [sg_ge (by omega)]; decide
    refine ⟨S1, ?_, Or.inr ⟨p1, sc1, cm1, a, g, a2, g2, M1, c1, d1, hG, h38, c⟩⟩
    show bX3_readChoice_8 _ _ _ _ _ _ = _
    unfold bX3_readChoice_8
    rw [yfine hC.2.2.2.2.2.2.2, bi_some, if_neg (show ¬ (1 : Int32) = 0 by decide), hC.2.2.2.2.2.2.1, if_neg (show ¬ sg b n p1 = 124 from c), ite_self]
  | succ m ih =>
    intro f i S1 p1 sc1 cm1 a g a2 g2 M1 c1 d1 hm hi hf hG h38
    have hG0 := hG
    obtain ⟨g1, ⟨hC, hM, hn, hLo, h7, h17, h18, h16, ho, hcm, hw, hsc⟩, g3, g4, g5, g6, g7, g8, g9, g10, g11, g12, g13, g14, g15⟩ := hG
    have hp1 := hC.2.2.2.1
    obtain ⟨f, rfl⟩ : ∃ f', f = f' + 1 := ⟨f - 1, by omega⟩
    by_cases c : sg b n p1 = nI 124
    · have hpn : p1 < n := sg_in (by rw [c]; decide)
      have ha := g11.1
      have ha2 := g12.1
      have hol := hLo
      unfold isL at hol
      obtain ⟨S2, t1, t2, t3⟩ := step0 hC hpn
      have l7 : S2.1 o 7 = nI sc1 := by rw [t2.2 o (by omega)]; exact h7
      have ec : fX3_readChoice_8 (fLR k) o (f + 1) S1 (nI op) (nI i) = bv (fLR k 1 o (adC o sc1 12 0 S2) (nI op)) fun S4 => bv (fX2_aimHere o S4 (nI sc1)) fun S5 => fX3_readChoice_8 (fLR k) o f S5 (nI op) (nI (i + 1)) := by
        have ead := add2 (kind := 12) (num := 0) l7 (by omega) (by decide) (by decide)
        have ead : fX2_addStep o S2 12 0 = _ := ead
        show bX3_readChoice_8 _ _ _ _ _ _ = _
        unfold bX3_readChoice_8
        rw [if_neg (show ¬ (240 : Int32) ≤ nI i by rw [li 240, nle (by decide) (by omega)]; omega), yfine hC.2.2.2.2.2.2.2, bi_some, if_neg (by decide), hC.2.2.2.2.2.2.1, if_pos (show sg b n p1 = 124 from c), t1, bv_some, ead, bi_some]
        simp only [bV_e, nI_1]
      obtain ⟨d1, rfl⟩ : ∃ x, d1 = x + 1 := ⟨d1 - 1, by omega⟩
      have hT1 : TopQ M1 w 13 13 := hT.cg (fun r hr => g5.2.2 r hr)
      obtain ⟨M2, u1, u2, u3, u4, u5⟩ := land_all (cm0 := cm) h18 (by omega) h17 g11 g12 g13 (by omega) hT1
      have mu2 := hM.la u2
      have m17 : M2.1 55 17 = nI cm1 := by rw [u2.2.2.2 17 (by decide)]; exact h17
      have em : C92 c1 (d1 + 1) M1 = fX12_readsCondition_40 c1 (juM w 12 cm1 p1 M2) := by
        have ej := jump12 (q := 12) u2.2.1 (by omega) m17 (by omega) mu2.2.2.2.2.1
        have ej : fX12_jumps M2 12 = _ := ej
        unfold C92
        show bX12_readsCondition_92 _ _ _ = _
        unfold bX12_readsCondition_92 fX12_readsCondition_180 fX12_readsCondition_195 fX12_readsCondition_215
        rw [here12 hM, bi_some, if_neg (show ¬ sg b n p1 = 41 by rw [c]; decide), here12 hM, bi_some, if_neg (show ¬ sg b n p1 = 38 from h38), here12 hM, bi_some, if_pos (show sg b n p1 = 124 from c), here12 hM, bi_some, if_pos (show sg b n p1 = 124 from c), u1, bv_some, here12 mu2, bi_some, if_neg (show ¬ sg b n p1 = 38 from h38), ej, bv_some]
      have hL2 : LI b z n o (adC o sc1 12 0 S2) (juM w 12 cm1 p1 M2) (p1 + 1) (sc1 + 1) (cm1 + 1) (w + 1) op := juM_LI t3 mu2 hn hLo h7 t2 m17 (by rw [u2.2.2.2 16 (by decide)]; exact h16) ho hcm (by omega) hsc hpn
      obtain ⟨S4, r1, r2⟩ := hF (adC o sc1 12 0 S2) (juM w 12 cm1 p1 M2) (p1 + 1) (sc1 + 1) (cm1 + 1) (w + 1) k c1 hL2 ⟨w, 12, cm1, rfl, juM_w _ _ _ _ _, by omega, by decide, by decide⟩ hk (by omega)
      rw [ec, r1, bv_some]
      rcases r2 with r2 | ⟨p3, sc3, cm3, a3, f3, M4, c3, d3, r3, r4⟩
      · obtain ⟨S5, x1, x2⟩ := r2.aim hLo (show sc1 < 288 by omega)
        obtain ⟨f, rfl⟩ : ∃ f', f = f' + 1 := ⟨f - 1, by omega⟩
        rw [x1, bv_some, ch8n x2.ne]
        refine ⟨S5, rfl, Or.inl ?_⟩
        rw [g14, em]
        exact x2.pre ((g3.tr (FrW.ex (by omega) t2)).tr (adC_fr _ _ _ _ _)) ((g4.tr u2.1).tr (juM_fr _ _ _ _ _))
      · obtain ⟨n0, n1, n2, n3, n4, n5, n6, n7, n8, n9, n10, n11, n12⟩ := jmp_nx (q := 12) g1 g3 g4 g5 g6 g7 g8 hsc0 t2 u2 (fun r hr => u3 r (fun h => by have := (g11.2 h.1).2.1; omega) (fun h => by have := (g12.2 h.1).2.1; omega)) (fun cd d1 => g15 cd (fun r r1 r2 r3 r4 => by rw [d1 r r1 r2]; exact u3 r r3 r4) (fun h => by rw [d1 g (g11.2 h).2.1 (g11.2 h).2.2.1]; exact u4 h) (fun h => by rw [d1 g2 (g12.2 h).2.1 (g12.2 h).2.2.1]; exact u5 h)) (Or.inr rfl) r3
        obtain ⟨q1, q2, q3, q4, q5, q6, q7, q8, q9, q10, q11, q12, q13⟩ := r3
        have hp3 := q2.1.2.2.2.1
        rw [n0, bv_some]
        exact ih f (i + 1) _ p3 sc3 cm3 a3 f3 1 cm1 M4 c3 d3 (by omega) (by omega) (by omega) ⟨n1, n2, n3, n4, n5, n6, n7, n8, q9, q10, n9, n10, fun h _ => n11 h, by rw [g14, em]; exact q12, fun cd k1 k2 k3 => n12 cd (fun r r1 r2 r3 r4 => k1 r r1 r2 r3 (fun h => r4 h.2)) k2 (k3 rfl)⟩ r4
    · refine ⟨S1, ?_, Or.inr ⟨p1, sc1, cm1, a, g, a2, g2, M1, c1, d1, hG0, h38, c⟩⟩
      show bX3_readChoice_8 _ _ _ _ _ _ = _
      unfold bX3_readChoice_8
      rw [yfine hC.2.2.2.2.2.2.2, bi_some, if_neg (show ¬ (1 : Int32) = 0 by decide), hC.2.2.2.2.2.2.1, if_neg (show ¬ sg b n p1 = 124 from c), ite_self]
theorem cho_sim {b : Nat → Nat} {z n o op : Nat} (hF : PartP b z n o op) : ChoP b z n o op := by
  intro S M p sc cm w k c hL hT hk hc
  obtain ⟨k, rfl⟩ : ∃ k', k = k' + 1 := ⟨k - 1, by omega⟩
  obtain ⟨w1, q, v, e1, e2, e3, e4, e5⟩ := id hT
  obtain ⟨S1, r1, r2⟩ := hF S M p sc cm w k c hL ⟨w1, q, v, e1, e2, e3, by omega, e5⟩ (by omega) hc
  rw [fLR_0]
  unfold fX3_readChoice
  rw [r1, bv_some]
  rcases r2 with r2 | ⟨p1, sc1, cm1, a, f, M1, c1, d1, ⟨g1, g2, g3, g4, g5, g6, g7, g8, g9, g10, g11, g12, g13⟩, h38⟩
  · exact ⟨S1, ch8n (f := 99) r2.ne _ _, Or.inl r2⟩
  · exact cho_loop (k := k) hF (by omega) hT hL.2.2.2.2.2.2.2.2.2.2.2 n 100 0 S1 p1 sc1 cm1 a f 0 0 M1 c1 d1 (by omega) (by omega) (by omega) ⟨g1, g2, g3, g4, g5, g6, g7, g8, g9, g10, g11, ⟨by decide, fun h => absurd h (by decide)⟩, fun _ h => absurd h (by decide), g12, fun cd k1 k2 _ => g13 cd (fun r r1 r2 r3 => k1 r r1 r2 r3 (fun h => absurd h.1 (by decide))) k2⟩ h38
theorem cond_all (b : Nat → Nat) (z n o : Nat) : ∀ m op, op + m = 6 → TestP b z n o op ∧ ChoP b z n o op := by
  intro m
  induction m with
  | zero =>
    intro op h
    have t : TestP b z n o op := test_sim (fun w => by omega) (fun w => by omega)
    exact ⟨t, cho_sim (part_sim t)⟩
  | succ m ih =>
    intro op h
    have t : TestP b z n o op := test_sim (fun _ => (ih (op + 1) (by omega)).1) (fun _ => (ih (op + 1) (by omega)).2)
    exact ⟨t, cho_sim (part_sim t)⟩
