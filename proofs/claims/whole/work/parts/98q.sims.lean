-- a test
theorem opM_fr (w op q p : Nat) (M : St) : FrV M (opM w op q p M) := (((FrV.put _ (by unfold ltM; omega) _).tr (FrV.put _ (by unfold ltM; omega) _)).tr (FrV.put _ (by unfold ltM; omega) _)).tr (FrV.put _ (by unfold ltM; omega) _)
theorem opM_65 (w op q p : Nat) (M : St) : (opM w op q p M).1 65 = M.1 65 := by unfold opM; rw [pI_row _ _ (by decide), pI_row _ _ (by decide), pI_row _ _ (by decide), pI_row _ _ (by decide)]
theorem opM_in (w op q p : Nat) (M : St) : (opM w op q p M).1 66 w = cw q 0 := by unfold opM; rw [pI_row _ _ (by decide), pI_row _ _ (by decide), pI_same]
theorem opM_66 {w op q p r : Nat} (M : St) (h : r < w) : (opM w op q p M).1 66 r = M.1 66 r := by unfold opM; rw [pI_row _ _ (by decide), pI_row _ _ (by decide), pI_cell _ _ (by omega), pI_row _ _ (by decide)]
theorem opM_LI {b : Nat → Nat} {z n o p sc cm w op q : Nat} {S S1 M : St} (hL : LI b z n o S M p sc cm w op) (ho : op < 6) (hpn : p < n) (e : Ex 3 S S1) (hC : Cu b z n S1 (p + 1) 0) : LI b z n o S1 (opM w op q p M) (p + 1) sc cm (w + 1) (op + 1) := by
  obtain ⟨_, hM, hn, hLo, h7, h17, h18, h16, _, hcm, hw, hsc⟩ := hL
  have hol := hLo
  unfold isL at hol
  refine ⟨hC, ?_, hn, hLo, by rw [e.2 o (by omega)]; exact h7, ?_, ?_, ?_, by omega, by omega, by omega, by omega⟩
  · unfold opM
    exact (hM.oth (by rw [pI_row _ _ (by decide), pI_row _ _ (by decide), pI_row _ _ (by decide)]) (by rw [pI_cell _ _ (by decide), pI_row _ _ (by decide), pI_cell _ _ (by decide)]) (by rw [pI_cell _ _ (by decide), pI_row _ _ (by decide), pI_cell _ _ (by decide)]) : Mu b n (pI (pI (pI M 55 16 (nI (op + 1))) 66 w (cw q 0)) 55 18 (nI (w + 1))) p).mv (by omega)
  · unfold opM; rw [pI_cell _ _ (by decide), pI_cell _ _ (by decide), pI_row _ _ (by decide), pI_cell _ _ (by decide)]; exact h17
  · unfold opM; rw [pI_cell _ _ (by decide), pI_same]
  · unfold opM; rw [pI_cell _ _ (by decide), pI_cell _ _ (by decide), pI_row _ _ (by decide), pI_same]
theorem test_not {b : Nat → Nat} {z n o op : Nat} (hT : op < 6 → TestP b z n o (op + 1)) {S M : St} {p sc cm w k c : Nat} (hL : LI b z n o S M p sc cm w op) (hk : 3 * (6 - op) + 4 ≤ k + 1) (hc : 260 ≤ c + 1 + p) (c33 : sg b n p = nI 33) : ∃ S', fX3_readTest (fLR k) o S (nI op) = some S' ∧ (Flt b z n o S M S' (fX12_readsCondition_40 (c + 1) M) ∨ ∃ p' sc' cm' M' e c' d, GotT b z n o S M S' p sc cm w op (fX12_readsCondition_40 (c + 1) M) p' sc' cm' M' e c' d) := by
  obtain ⟨hC, hM, hn, hLo, h7, h17, h18, h16, ho, hcm, hw, hsc⟩ := id hL
  have hp := hC.2.2.2.1
  have hs := hC.2.2.2.2.2.2.1
  have h34 := hC.2.2.2.2.2.2.2
  have hol := hLo
  unfold isL at hol
  have hpn : p < n := sg_in (by rw [c33]; decide)
  have c33' : sg b n p = 33 := c33
  have em : fX12_readsCondition_40 (c + 1) M = bi (fX12_opens M (nI 10)) fun r2 S1 => if r2 = 0 then some (0, S1) else fX12_readsCondition_40 c S1 := by
    show bX12_readsCondition_40 _ _ = _
    unfold bX12_readsCondition_40 fX12_readsCondition_58 fX12_readsCondition_75
    rw [here12 hM, bi_some, if_pos c33', here12 hM, bi_some, if_pos c33']
    rfl
  have ec : fX3_readTest (fLR k) o S (nI op) = bi (fX3_opens S (nI op)) fun r5 S2 => if r5 = 0 then (fX3_readTest_52 (fLR k) o S2 (nI op) (sg b n p)) else (bv (fLR k 2 o S2 (nI (op + 1))) fun S3 => bi (fX2_addStep o S3 (nI 11) (nI 0)) fun r8 S4 => some S4) := by
    unfold fX3_readTest
    rw [yfine h34, bi_some, if_neg (by decide), hs, bV_e, if_pos c33', nI_1]
    rfl
  obtain ⟨op1, op2⟩ := opens3 hC hpn ho (by omega)
  rw [ec, em, opens12 h16 ho h18 (by omega) hM.2.2.2.2.1]
  by_cases c6 : op = 6
  · have hv : flt 5 p < 0 := flt_neg (by decide) (by decide) (by omega)
    have hf : (pI S 3 4 (flt 5 p)).1 3 4 ≠ 0 := by rw [pI_same]; exact ne_of_neg hv
    rw [op2 c6, bi_some, if_pos rfl, if_pos c6, bi_some, if_pos rfl]
    unfold fX3_readTest_52
    rw [if_neg (show ¬ sg b n p = (40 : Int32) by rw [c33]; decide), t86n hf]
    exact ⟨_, rfl, Or.inl (Flt.mk hv hC.put (FrW.ex (by omega) ((Ex.rf 3 S).put _ _)) ⟨sc, by omega, by rw [pI_row _ _ (by omega)]; exact h7⟩)⟩
  · obtain ⟨S1, s1, s2, s3⟩ := op1 (by omega)
    rw [s1, bi_some, if_neg (by decide), if_neg c6, bi_some, if_neg (by decide)]
    have hL1 := opM_LI (q := 10) hL (by omega) hpn s2 s3
    obtain ⟨S2, q1, q2⟩ := hT (by omega) S1 (opM w op 10 p M) (p + 1) sc cm (w + 1) k c hL1 ⟨w, 10, 0, rfl, opM_in _ _ _ _ _, by decide, by decide, by decide⟩ (by omega) (by omega)
    have fw1 : FrW o S S1 := FrW.ex (by omega) s2
    rw [q1, bv_some]
    rcases q2 with q2 | ⟨p2, sc2, cm2, M2, e, c2, d, g1, ⟨hC2, hM2, _, _, l7, l17, l18, l16, l6, lcm, lw, lsc⟩, g3, g4, g5, g6, g7, g8, g9, g10, g11, g12, g13⟩
    · obtain ⟨x, S3, _, x1, x2⟩ := q2.add hLo (nI 11) (nI 0)
      rw [x1, bi_some]
      exact ⟨S3, rfl, Or.inl (x2.pre fw1 (opM_fr _ _ _ _ _))⟩
    · have hp2 := hC2.2.2.2.1
      obtain ⟨e, rfl⟩ : ∃ e', e = e' + 1 := ⟨e - 1, by omega⟩
      have mk66 : M2.1 66 w = cw 10 0 := by rw [g5.2.2 w (by omega)]; exact opM_in _ _ _ _ _
      rw [add2 l7 (by omega) (by decide) (by decide), bi_some, g12, EP_not l18 (by omega) mk66 l17 (by omega) l16]
      have k65 : (ndM cm2 w op M2).1 65 = (noM cm2 10 0 M2).1 65 := by unfold ndM; rw [pI_row _ _ (by decide), pI_row _ _ (by decide)]
      have k66 : (ndM cm2 w op M2).1 66 = M2.1 66 := by unfold ndM; rw [pI_row _ _ (by decide), pI_row _ _ (by decide), noM_o _ (by decide) (by decide)]
      refine ⟨_, rfl, Or.inr ⟨p2, sc2 + 1, cm2 + 1, ndM cm2 w op M2, e, c2, d, by omega, ⟨hC2.oth (adC_3 _ (by omega) (by omega)) (adC_3 _ (by omega) (by omega)) (adC_3 _ (by omega) (by omega)), hM2.oth ?_ ?_ ?_, hn, hLo, adC_7 _ _ _ _ _, ?_, ?_, pI_same _ _ _ _, ho, by omega, by omega, by omega⟩, (fw1.tr g3).tr (adC_fr _ _ _ _ _), ((opM_fr _ _ _ _ _).tr g4).tr ((noM_fr _ _ _ _).tr ((FrV.put _ (by unfold ltM; omega) _).tr (FrV.put _ (by unfold ltM; omega) _))), ⟨fun q hq => ?_, fun q hq => ?_, fun q hq => ?_⟩, by omega, by omega, by omega, g9, g10, by omega, rfl, ?_⟩⟩
      · unfold ndM; rw [pI_row _ _ (by decide), pI_row _ _ (by decide), noM_o _ (by decide) (by decide)]
      · unfold ndM; rw [pI_cell _ _ (by decide), pI_cell _ _ (by decide), noM_55 _ (by decide)]
      · unfold ndM; rw [pI_cell _ _ (by decide), pI_cell _ _ (by decide), noM_55 _ (by decide)]
      · unfold ndM; rw [pI_cell _ _ (by decide), pI_cell _ _ (by decide)]; exact noM_17 _ _ _ _
      · unfold ndM; rw [pI_cell _ _ (by decide), pI_same]
      · rw [adC_lt _ (by omega), g5.1 q hq, s2.2 (o + 4) (by omega)]
      · rw [k65, noM_lt _ (by omega), g5.2.1 q hq, opM_65]
      · rw [k66, g5.2.2 q (by omega), opM_66 _ hq]
      · exact EB.not (g13.cg (fun q _ _ => adC_lt _ (by omega)) (fun q _ _ => by rw [k65, noM_lt _ (by omega)])) (adC_in _ _ _ _ _) (by rw [k65, noM_in])
theorem test_open {b : Nat → Nat} {z n o op : Nat} (hT : op < 6 → ChoP b z n o (op + 1)) {S M : St} {p sc cm w k c : Nat} (hL : LI b z n o S M p sc cm w op) (hTop : TopQ M w 10 13) (hk : 3 * (6 - op) + 4 ≤ k + 1) (hc : 260 ≤ c + 1 + p) (c40 : sg b n p = nI 40) : ∃ S', fX3_readTest (fLR k) o S (nI op) = some S' ∧ (Flt b z n o S M S' (fX12_readsCondition_40 (c + 1) M) ∨ ∃ p' sc' cm' M' e c' d, GotT b z n o S M S' p sc cm w op (fX12_readsCondition_40 (c + 1) M) p' sc' cm' M' e c' d) := by
  obtain ⟨hC, hM, hn, hLo, h7, h17, h18, h16, ho, hcm, hw, hsc⟩ := id hL
  have hp := hC.2.2.2.1
  have hs := hC.2.2.2.2.2.2.1
  have h34 := hC.2.2.2.2.2.2.2
  have hol := hLo
  unfold isL at hol
  have hpn : p < n := sg_in (by rw [c40]; decide)
  have c40' : sg b n p = 40 := c40
  have c33' : ¬ sg b n p = 33 := by rw [c40]; decide
  have em : fX12_readsCondition_40 (c + 1) M = bi (fX12_opens M (nI 13)) fun r2 S1 => if r2 = 0 then some (0, S1) else fX12_readsCondition_40 c S1 := by
    show bX12_readsCondition_40 _ _ = _
    unfold bX12_readsCondition_40 fX12_readsCondition_58 fX12_readsCondition_75
    rw [here12 hM, bi_some, if_neg c33', here12 hM, bi_some, if_pos c40', here12 hM, bi_some, if_neg c33']
    rfl
  have ec : fX3_readTest (fLR k) o S (nI op) = bi (fX3_opens S (nI op)) fun r2 S1 => if r2 = 0 then (fX3_readTest_86 (fLR k) o S1 (nI op)) else (bv (fLR k 0 o S1 (nI (op + 1))) fun S2 => bv (fX0_expect S2 (nI 41)) fun S3 => some S3) := by
    unfold fX3_readTest fX3_readTest_52
    rw [yfine h34, bi_some, if_neg (by decide), hs, bV_e, if_neg c33', if_pos c40', nI_1]
    rfl
  obtain ⟨op1, op2⟩ := opens3 hC hpn ho (by omega)
  rw [ec, em, opens12 h16 ho h18 (by omega) hM.2.2.2.2.1]
  by_cases c6 : op = 6
  · have hv : flt 5 p < 0 := flt_neg (by decide) (by decide) (by omega)
    have hf : (pI S 3 4 (flt 5 p)).1 3 4 ≠ 0 := by rw [pI_same]; exact ne_of_neg hv
    rw [op2 c6, bi_some, if_pos rfl, if_pos c6, bi_some, if_pos rfl, t86n hf]
    exact ⟨_, rfl, Or.inl (Flt.mk hv hC.put (FrW.ex (by omega) ((Ex.rf 3 S).put _ _)) ⟨sc, by omega, by rw [pI_row _ _ (by omega)]; exact h7⟩)⟩
  · obtain ⟨S1, s1, s2, s3⟩ := op1 (by omega)
    rw [s1, bi_some, if_neg (by decide), if_neg c6, bi_some, if_neg (by decide)]
    have hL1 := opM_LI (q := 13) hL (by omega) hpn s2 s3
    obtain ⟨S2, q1, q2⟩ := hT (by omega) S1 (opM w op 13 p M) (p + 1) sc cm (w + 1) k c hL1 ⟨w, 13, 0, rfl, opM_in _ _ _ _ _, by decide, by decide, by decide⟩ (by omega) (by omega)
    have fw1 : FrW o S S1 := FrW.ex (by omega) s2
    rw [q1, bv_some]
    rcases q2 with q2 | ⟨p2, sc2, cm2, a, f, a2, f2, M2, c2, d, ⟨g1, ⟨hC2, hM2, _, _, l7, l17, l18, l16, l6, lcm, lw, lsc⟩, g3, g4, g5, g6, g7, g8, g9, g10, g11, g12, g13, g14, g15⟩, h38, h124⟩
    · obtain ⟨S3, x1, x2⟩ := q2.exp hLo 41 (by decide)
      rw [x1, bv_some]
      exact ⟨S3, rfl, Or.inl (x2.pre fw1 (opM_fr _ _ _ _ _))⟩
    · have hp2 := hC2.2.2.2.1
      have ha := g11.1
      have ha2 := g12.1
      obtain ⟨d, rfl⟩ : ∃ d', d = d' + 1 := ⟨d - 1, by omega⟩
      obtain ⟨S3, e1, e2, e3⟩ := expect0 hC2 41 (by decide)
      rw [e1, bv_some, g14]
      have fw3 : FrW o S S3 := (fw1.tr g3).tr (FrW.ex (by omega) e2)
      by_cases c41 : sg b n p2 = nI 41
      · rw [if_pos c41] at e3
        obtain ⟨hp2n, e4⟩ := e3
        obtain ⟨w1, qq, vv, ew, _⟩ := hTop
        have tp : TopQ M2 (w + 1) 13 13 := ⟨w, 13, 0, rfl, by rw [g5.2.2 w (by omega)]; exact opM_in _ _ _ _ _, by decide, by decide, by decide⟩
        obtain ⟨M3, u1, u2, u3, u4, u5⟩ := land_all (w := w + 1) (a := a) (a2 := a2) (f := f) (f2 := f2) (cm0 := cm) (cm := cm2) l18 (by omega) l17 g11 g12 g13 (by omega) tp
        have x1 : nI (w + 1) - 1 = nI w := by rw [Int32.sub_eq_add_neg, pk_m1]
        have x2 : nI (op + 1) - 1 = nI op := by rw [Int32.sub_eq_add_neg, pk_m1]
        have y1 : (pI M3 55 18 (nI w)).1 55 16 = nI (op + 1) := by rw [pI_cell _ _ (by decide), u2.2.2.2 16 (by decide)]; exact l16
        have y2 : (pI (pI M3 55 18 (nI w)) 55 16 (nI op)).1 55 12 = nI p2 := by rw [pI_cell _ _ (by decide), pI_cell _ _ (by decide), u2.2.2.2 12 (by decide)]; exact hM2.2.2.2.2.1
        have y3 : (pI (pI (pI M3 55 18 (nI w)) 55 16 (nI op)) 55 12 (nI (p2 + 1))).1 55 18 = nI w := by rw [pI_cell _ _ (by decide), pI_cell _ _ (by decide), pI_same]
        have e92 : C92 c2 (d + 1) M2 = EP 100 c2 d (pI (pI (pI M3 55 18 (nI w)) 55 16 (nI op)) 55 12 (nI (p2 + 1))) := by
          unfold C92
          show bX12_readsCondition_92 _ _ _ = _
          unfold bX12_readsCondition_92
          rw [here12 hM2, bi_some, if_pos (show sg b n p2 = 41 from c41), u1, bv_some, u2.2.1, x1, bS_e, y1, x2, bS_e, y2, nI_1, bS_e, y3, if_neg (show ¬ nI w = 0 by rw [li 0, neq (by omega) (by decide)]; omega)]
          rfl
        rw [e92]
        have k65 : (pI (pI (pI M3 55 18 (nI w)) 55 16 (nI op)) 55 12 (nI (p2 + 1))).1 65 = M3.1 65 := by rw [pI_row _ _ (by decide), pI_row _ _ (by decide), pI_row _ _ (by decide)]
        have k66 : (pI (pI (pI M3 55 18 (nI w)) 55 16 (nI op)) 55 12 (nI (p2 + 1))).1 66 = M3.1 66 := by rw [pI_row _ _ (by decide), pI_row _ _ (by decide), pI_row _ _ (by decide)]
        have mu4 : Mu b n (pI (pI (pI M3 55 18 (nI w)) 55 16 (nI op)) 55 12 (nI (p2 + 1))) (p2 + 1) := ((hM2.la u2).oth (by rw [pI_row _ _ (by decide), pI_row _ _ (by decide)]) (by rw [pI_cell _ _ (by decide), pI_cell _ _ (by decide)]) (by rw [pI_cell _ _ (by decide), pI_cell _ _ (by decide)]) : Mu b n (pI (pI M3 55 18 (nI w)) 55 16 (nI op)) p2).mv (by omega)
        have st3 : S3.1 (o + 4) = S2.1 (o + 4) := e2.2 (o + 4) (by omega)
        refine ⟨S3, rfl, Or.inr ⟨p2 + 1, sc2, cm2, _, 100, c2, d, by omega, ⟨e4, mu4, hn, hLo, ?_, ?_, y3, ?_, ho, by omega, by omega, by omega⟩, fw3, (((opM_fr _ _ _ _ _).tr g4).tr u2.1).tr (((FrV.put _ (by unfold ltM; omega) _).tr (FrV.put _ (by unfold ltM; omega) _)).tr (FrV.put _ (by unfold ltM; omega) _)), ⟨fun q hq => ?_, fun q hq => ?_, fun q hq => ?_⟩, by omega, by omega, by omega, by omega, by omega, by omega, rfl, ?_⟩⟩
        · rw [e2.2 o (by omega)]; exact l7
        · rw [pI_cell _ _ (by decide), pI_cell _ _ (by decide), pI_cell _ _ (by decide), u2.2.2.2 17 (by decide)]; exact l17
        · rw [pI_cell _ _ (by decide), pI_same]
        · rw [st3, g5.1 q hq, s2.2 (o + 4) (by omega)]
        · rw [k65, u3 q (fun h => by have := (g11.2 h.1).2.1; omega) (fun h => by have := (g12.2 h.1).2.1; omega), g5.2.1 q hq, opM_65]
        · rw [k66, u2.2.2.1, g5.2.2 q (by omega), opM_66 _ hq]
        · rw [k65, st3]
          exact g15 (M3.1 65) (fun q _ _ q3 q4 => u3 q q3 q4) u4 u5
      · rw [if_neg c41, if_pos rfl] at e3
        have hv : flt 1 p2 < 0 := flt_neg (by decide) (by decide) (by omega)
        have e92 : C92 c2 (d + 1) M2 = some (0, pI M2 55 14 (flt 1 p2)) := by
          unfold C92
          show bX12_readsCondition_92 _ _ _ = _
          unfold bX12_readsCondition_92
          rw [here12 hM2, bi_some, if_neg (show ¬ sg b n p2 = 41 from c41), here12 hM2, bi_some, if_neg (show ¬ sg b n p2 = 38 from h38), here12 hM2, bi_some, if_neg (show ¬ sg b n p2 = 124 from h124), hM2.2.2.2.2.1, li 1, wrong12, bi_some, if_pos (Or.inl rfl)]
        rw [e92]
        exact ⟨S3, rfl, Or.inl ⟨⟨sc2, by omega, by rw [e2.2 o (by omega)]; exact l7⟩, _, p2, _, hv, e3, fw3, ((opM_fr _ _ _ _ _).tr g4).tr (FrV.put _ (by unfold ltM; omega) (flt 1 p2)), pI_same _ _ _ _, rfl⟩⟩
theorem test_cmp {b : Nat → Nat} {z n o op : Nat} {S M : St} {p sc cm w k c : Nat} (hL : LI b z n o S M p sc cm w op) (hTop : TopQ M w 10 13) (hk : 3 * (6 - op) + 4 ≤ k + 1) (hc : 260 ≤ c + 1 + p) (c33 : ¬ sg b n p = nI 33) (c40 : ¬ sg b n p = nI 40) : ∃ S', fX3_readTest (fLR k) o S (nI op) = some S' ∧ (Flt b z n o S M S' (fX12_readsCondition_40 (c + 1) M) ∨ ∃ p' sc' cm' M' e c' d, GotT b z n o S M S' p sc cm w op (fX12_readsCondition_40 (c + 1) M) p' sc' cm' M' e c' d) := by
  obtain ⟨hC, hM, hn, hLo, h7, h17, h18, h16, ho, hcm, hw, hsc⟩ := id hL
  have hp := hC.2.2.2.1
  have hs := hC.2.2.2.2.2.2.1
  have h34 := hC.2.2.2.2.2.2.2
  have hol := hLo
  unfold isL at hol
  have em : fX12_readsCondition_40 (c + 1) M = bi (fX12_readsCompared M) fun r6 S3 => if r6 = 0 then (some ((0 : Int32), S3)) else C92 c 260 S3 := by
    show bX12_readsCondition_40 _ _ = _
    unfold bX12_readsCondition_40
    rw [here12 hM, bi_some, if_neg (show ¬ sg b n p = 33 from c33), here12 hM, bi_some, if_neg (show ¬ sg b n p = 40 from c40)]
    rfl
  obtain ⟨k, rfl⟩ : ∃ k', k = k' + 3 := ⟨k - 3, by omega⟩
  have ec : fX3_readTest (fLR (k + 3)) o S (nI op) = bv (fLR (k + 3) 3 o S (nI op)) fun S2 => bi (fX3_comparisonOf S2 (S2.1 3 3)) fun r5 S3 => if r5 = (-1 : Int32) then (bv (fX0_failHere S3 (1 : Int32)) fun S7 => some S7) else (bv (fX0_step S3) fun S4 => bv (fLR (k + 3) 3 o S4 (nI op)) fun S5 => bi (fX2_addStep o S5 r5 (0 : Int32)) fun r9 S6 => some S6) := by
    unfold fX3_readTest fX3_readTest_52 fX3_readTest_86
    rw [yfine h34, bi_some, if_neg (by decide), hs, bV_e, if_neg (show ¬ sg b n p = 33 from c33), if_neg (show ¬ sg b n p = 40 from c40), yfine h34, bi_some, if_neg (by decide)]
  obtain ⟨S1, r1, r2⟩ := sum_top (k := k + 3) hL (hTop.ot (by decide) (by decide) (by omega) 1) (by omega)
  rw [ec, em, r1, bv_some]
  rcases r2 with r2 | ⟨p1, sc1, cm1, M1, ⟨t1, ⟨hC1, hM1, _, _, l7, l17, l18, l16, _, lcm, lw, lsc⟩, t3, t4, t5, t6, t7, t8, t9⟩, t10⟩
  · obtain ⟨S', x1, x2⟩ := cmpF (k := k) hLo r2 (nI op)
    refine ⟨S', x1, Or.inl ?_⟩
    obtain ⟨y0, v, p', M', y1, y2, y3, y4, y5, y6⟩ := x2
    refine ⟨y0, v, p', M', y1, y2, y3, y4, y5, ?_⟩
    unfold fX12_readsCompared
    rw [y6, bi_some, if_pos rfl, bi_some, if_pos rfl]
  · have hp1 := hC1.2.2.2.1
    rw [cmp3, bi_some, cmpM t10 hM1, hC1.2.2.2.2.2.2.1]
    by_cases cq : cmK (sg b n p1) = -1
    · have hv : flt 1 p1 < 0 := flt_neg (by decide) (by decide) (by omega)
      unfold fX12_readsCompared_52
      rw [cmK_n cq, if_pos cq, if_pos rfl, li 1, failH hC1, bv_some, hM1.2.2.2.2.1, wrong12, bi_some, if_pos (Or.inl rfl), bi_some, if_pos rfl]
      exact ⟨_, rfl, Or.inl ⟨⟨sc1, by omega, by rw [pI_row _ _ (by omega)]; exact l7⟩, _, p1, _, hv, hC1.put, t3.tr (FrW.ex (by omega) ((Ex.rf 3 S1).put _ _)), t4.tr (FrV.put _ (by unfold ltM; omega) (flt 1 p1)), pI_same _ _ _ _, rfl⟩⟩
    · obtain ⟨q, y1, y2, y3, y4, y5⟩ := cmK_y cq
      have hpn : p1 < n := sg_in y5
      obtain ⟨S2, s1, s2, s3⟩ := step0 hC1 hpn
      have mu2 : Mu b n (pI M1 55 12 (nI (p1 + 1))) (p1 + 1) := hM1.mv (by omega)
      have fv2 : FrV M1 (pI M1 55 12 (nI (p1 + 1))) := FrV.put _ (by unfold ltM; omega) _
      have hL2 : LI b z n o S2 (pI M1 55 12 (nI (p1 + 1))) (p1 + 1) sc1 cm1 w op := ⟨s3, mu2, hn, hLo, by rw [s2.2 o (by omega)]; exact l7, by rw [pI_cell _ _ (by decide)]; exact l17, by rw [pI_cell _ _ (by decide)]; exact l18, by rw [pI_cell _ _ (by decide)]; exact l16, ho, by omega, by omega, by omega⟩
      have tp2 : TopQ (pI M1 55 12 (nI (p1 + 1))) w 10 13 := hTop.cg (fun r hr => by rw [pI_row _ _ (by decide)]; exact t5.2.2 r hr)
      obtain ⟨S3, z1, z2⟩ := sum_top (k := k + 3) hL2 (tp2.ot (by decide) (by decide) (by omega) 1) (by omega)
      rw [if_neg cq, s1, bv_some, z1, bv_some, y3, y4]
      have e52 : fX12_readsCompared_52 M1 (nI q) = bi (fX12_readsSum (pI M1 55 12 (nI (p1 + 1)))) fun r2 S2 => if r2 = 0 then (some ((0 : Int32), S2)) else (bv (fX12_notes S2 (nI q) (nI 0)) fun S3 => bv (fX12_endsPiece S3) fun S4 => some ((1 : Int32), S4)) := by
        unfold fX12_readsCompared_52
        rw [if_neg (nm1 (by omega)), hM1.2.2.2.2.1, nI_1, bS_e]
        rfl
      rw [e52]
      have fw2 : FrW o S S2 := t3.tr (FrW.ex (by omega) s2)
      rcases z2 with z2 | ⟨p3, sc3, cm3, M3, ⟨v1, ⟨hC3, hM3, _, _, i7, i17, i18, i16, _, icm, iw, isc⟩, v3, v4, v5, v6, v7, v8, v9⟩, v10⟩
      · obtain ⟨s, S4, _, x1, x2⟩ := z2.add hLo (nI (q + 1)) 0
        rw [x1, bi_some]
        refine ⟨S4, rfl, Or.inl ?_⟩
        obtain ⟨y0, v, p', M', y1, y2, y3, y4, y5, y6⟩ := x2
        refine ⟨y0, v, p', M', y1, y2, fw2.tr y3, (t4.tr fv2).tr y4, y5, ?_⟩
        rw [y6, bi_some, if_pos rfl, bi_some, if_pos rfl]
      · have hp3 := hC3.2.2.2.1
        have ead := add2 (kind := q + 1) (num := 0) i7 (by omega) (by omega) (by decide)
        have ead : fX2_addStep o S3 (nI (q + 1)) 0 = _ := ead
        rw [ead, bi_some, v10, bi_some, if_neg (by decide), note12 i17 (by omega), bv_some, bibv]
        refine ⟨_, rfl, Or.inr ⟨p3, sc3 + 1, cm3 + 1, noM cm3 q 0 M3, 100, c, 260, by omega, ⟨hC3.oth (adC_3 _ (by omega) (by omega)) (adC_3 _ (by omega) (by omega)) (adC_3 _ (by omega) (by omega)), hM3.oth (noM_o _ (by decide) (by decide)) (noM_55 _ (by decide)) (noM_55 _ (by decide)), hn, hLo, adC_7 _ _ _ _ _, noM_17 _ _ _ _, by rw [noM_55 _ (by decide)]; exact i18, by rw [noM_55 _ (by decide)]; exact i16, ho, by omega, by omega, by omega⟩, (fw2.tr v3).tr (adC_fr _ _ _ _ _), ((t4.tr fv2).tr v4).tr (noM_fr _ _ _ _), ⟨fun r hr => ?_, fun r hr => ?_, fun r hr => ?_⟩, by omega, by omega, by omega, by omega, by omega, by omega, ?_, ?_⟩⟩
        · rw [adC_lt _ (by omega), v5.1 r (by omega), s2.2 (o + 4) (by omega), t5.1 r hr]
        · rw [noM_lt _ (by omega), v5.2.1 r (by omega), pI_row _ _ (by decide), t5.2.1 r hr]
        · rw [noM_o _ (by decide) (by decide), v5.2.2 r hr, pI_row _ _ (by decide), t5.2.2 r hr]
        · rfl
        · refine EB.cmp (m := 15 - 2 * op) (t9.cg (fun r _ _ => ?_) (fun r _ _ => ?_) (Nat.le_refl _)) (v9.cg (fun r _ _ => adC_lt _ (by omega)) (fun r _ _ => noM_lt _ (by omega)) (Nat.le_refl _)) (by omega) (adC_in _ _ _ _ _) (noM_in _ _ _ _) y1 y2
          · rw [adC_lt _ (by omega), v5.1 r (by omega), s2.2 (o + 4) (by omega)]
          · rw [noM_lt _ (by omega), v5.2.1 r (by omega), pI_row _ _ (by decide)]
theorem test_sim {b : Nat → Nat} {z n o op : Nat} (hT : op < 6 → TestP b z n o (op + 1)) (hCh : op < 6 → ChoP b z n o (op + 1)) : TestP b z n o op := by
  intro S M p sc cm w k c hL hTop hk hc
  obtain ⟨k, rfl⟩ : ∃ k', k = k' + 1 := ⟨k - 1, by omega⟩
  have hp := hL.1.2.2.2.1
  have hn := hL.2.2.1
  obtain ⟨c, rfl⟩ : ∃ c', c = c' + 1 := ⟨c - 1, by omega⟩
  rw [fLR_2]
  by_cases c33 : sg b n p = nI 33
  · exact test_not hT hL hk hc c33
  · by_cases c40 : sg b n p = nI 40
    · exact test_open hCh hL hTop hk hc c40
    · exact test_cmp hL hTop hk hc c33 c40
