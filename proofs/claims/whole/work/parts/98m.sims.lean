theorem hos1 {M : St} {w wt : Nat} (h18 : M.1 55 18 = nI wt) (hw : w < wt) (hwt : wt ≤ 260) (hc : M.1 66 w = cw 14 0) : ∀ m k f, k + m = w → m < f → fX12_hasOpenSum_2 f M (nI k) = some (1, M) := by
  intro m
  induction m with
  | zero =>
    intro k f h1 h2
    obtain ⟨f, rfl⟩ : ∃ f', f = f' + 1 := ⟨f - 1, by omega⟩
    have : k = w := by omega
    subst this
    show bX12_hasOpenSum_2 _ _ _ = _
    unfold bX12_hasOpenSum_2
    rw [h18, if_neg (show ¬ nI wt ≤ nI k by rw [nle (by omega) (by omega)]; omega), if_pos (inbT (by omega) (by decide)), nI_clamp (by omega), hc, cw_op (by decide) (by decide), if_pos (show nI 14 = 14 from rfl)]
  | succ m ih =>
    intro k f h1 h2
    obtain ⟨f, rfl⟩ : ∃ f', f = f' + 1 := ⟨f - 1, by omega⟩
    show bX12_hasOpenSum_2 _ _ _ = _
    unfold bX12_hasOpenSum_2
    rw [h18, if_neg (show ¬ nI wt ≤ nI k by rw [nle (by omega) (by omega)]; omega), if_pos (inbT (by omega) (by decide)), bV_e, nI_1, ih (k + 1) f (by omega) (by omega), ite_self]
theorem sgn256 : ∀ c, c < 256 → nI c = nI 43 ∨ nI c = nI 45 ∨ nI c = nI 42 ∨ nI c = nI 47 ∨ nI c = nI 37 ∨ (¬ nI c = 43 ∧ ¬ nI c = 45 ∧ ¬ nI c = 42 ∧ ¬ nI c = 47 ∧ ¬ nI c = 37) := by decide +kernel
theorem noSign {M : St} {s : Int32} (h : s ≠ nI 43 ∧ s ≠ nI 45 ∧ s ≠ nI 42 ∧ s ≠ nI 47 ∧ s ≠ nI 37) : fX12_sumSign M s = some (-1, M) := by
  unfold fX12_sumSign
  rw [if_neg (show ¬ s = 43 from h.1), if_neg (show ¬ s = 45 from h.2.1), if_neg (show ¬ s = 42 from h.2.2.1), if_neg (show ¬ s = 47 from h.2.2.2.1), if_neg (show ¬ s = 37 from h.2.2.2.2)]
theorem Flt.pre {b : Nat → Nat} {z n o : Nat} {S M S1 M1 S' : St} {run : Option (Int32 × St)} (h : Flt b z n o S1 M1 S' run) (e1 : FrW o S S1) (e2 : FrV M M1) : Flt b z n o S M S' run := by
  obtain ⟨a0, v, p', M', a1, a2, a3, a4, a5, a6⟩ := h
  exact ⟨a0, v, p', M', a1, a2, e1.tr a3, e2.tr a4, a5, a6⟩
theorem Flt.mk {b : Nat → Nat} {z n o p' : Nat} {S M S' : St} {v : Int32} (hv : v < 0) (hC : Cu b z n S' p' v) (e : FrW o S S') (h7 : ∃ s, s ≤ 288 ∧ S'.1 o 7 = nI s) : Flt b z n o S M S' (some (0, pI M 55 14 v)) := ⟨h7, v, p', pI M 55 14 v, hv, hC, e, FrV.put _ (by unfold ltM; omega) _, pI_same _ _ _ _, rfl⟩
theorem fac_sim {b : Nat → Nat} {z n o op : Nat} (hS : op < 6 → SumP b z n o (op + 1)) : FacP b z n o op := by
  intro S M p sc cm w k cf c bs hL hbs hbs2 hk hcf hc
  obtain ⟨k, rfl⟩ : ∃ k', k = k' + 1 := ⟨k - 1, by omega⟩
  have ho := hL.2.2.2.2.2.2.2.2.1
  obtain ⟨cf, rfl⟩ : ∃ cf', cf = cf' + 1 := ⟨cf - 1, by omega⟩
  obtain ⟨hC, hM, hn, hLo, h7, h17, h18, h16, _, hcm, hw, hsc⟩ := id hL
  have hb := hM.2.1
  have hp := hC.2.2.2.1
  have hs := hC.2.2.2.2.2.2.1
  have h34 := hC.2.2.2.2.2.2.2
  have hol := hLo
  unfold isL at hol
  rw [fLR_5]
  have ec : fX3_readFactor (fLR k) o S (nI op) = if facI (sg b n p) = -1 then (if sg b n p = nI 91 then (bi (fX3_opens S (nI op)) fun r6 S3 => if r6 = 0 then (some S3) else (bv (fLR k 3 o S3 (nI (op + 1))) fun S4 => bv (fX0_expect S4 (nI 93)) fun S5 => some S5)) else (bi (fX0_readNumber S (nI 5)) fun r10 S6 => bi (fX2_addStep o S6 (nI 1) r10) fun r12 S7 => some S7)) else (bi (fX2_addStep o S (nI 2) (facI (sg b n p))) fun r14 S8 => bv (fX0_step S8) fun S9 => some S9) := by
    unfold fX3_readFactor
    rw [fine0, bi_some, h34, if_neg (by decide), hs, lett3 hb, bi_some, hs, nI_1]
    rfl
  have em : fX12_readsFactor_0 (cf + 1) M = if sg b n p = nI 91 then (bi (fX12_opens M (nI 14)) fun r17 S10 => if r17 = 0 then (some ((0 : Int32), S10)) else (fX12_readsFactor_0 cf S10)) else (if dgB (sg b n p) = true then (bi (fX12_readsNumber M) fun r14 S8 => if r14 = 0 then (some ((0 : Int32), S8)) else (bv (fX12_notes S8 (nI 0) (S8.1 55 15)) fun S9 => some ((1 : Int32), S9))) else (if facI (sg b n p) = -1 then some (0, pI M 55 14 (flt 1 p)) else (bv (fX12_notes M (nI 1) (facI (sg b n p))) fun S5 => bS (pI S5 55 12 ((S5.1 55 12) + (1 : Int32))) fun S6 => some ((1 : Int32), S6)))) := by
    show bX12_readsFactor_0 _ _ = _
    unfold bX12_readsFactor_0
    rw [here12 hM, bi_some, isDig12 hM, bi_some, ite_b2i, here12 hM, bi_some, fac12, bi_some, hM.2.2.2.2.1, li 1, wrong12, bi_some, if_pos (Or.inl rfl), li 91, li 14]
    rfl
  rw [ec]
  unfold FS
  rw [em]
  by_cases c91 : sg b n p = nI 91
  · -- a bracket
    have hpn : p < n := sg_in (by rw [c91]; decide)
    have hfac : facI (sg b n p) = -1 := by rw [c91]; decide
    obtain ⟨op1, op2⟩ := opens3 hC hpn ho (by omega)
    rw [if_pos hfac, if_pos c91, if_pos c91, opens12 h16 ho h18 (by omega) hM.2.2.2.2.1]
    by_cases c6 : op = 6
    · have hv : flt 5 p < 0 := flt_neg (by decide) (by decide) (by omega)
      rw [op2 c6, bi_some, if_pos rfl, if_pos c6, bi_some, if_pos rfl, bi_some, if_pos rfl]
      exact ⟨_, rfl, Or.inl (Flt.mk hv hC.put (FrW.ex (by omega) ((Ex.rf 3 S).put _ _)) ⟨sc, by omega, by rw [pI_row _ _ (by omega)]; exact h7⟩)⟩
    · obtain ⟨S1, s1, s2, s3⟩ := op1 (by omega)
      rw [s1, bi_some, if_neg (by decide), if_neg c6, bi_some, if_neg (by decide)]
      have fw1 : FrW o S S1 := FrW.ex (by omega) s2
      have fv1 : FrV M (opM w op 14 p M) := (((FrV.put _ (by unfold ltM; omega) _).tr (FrV.put _ (by unfold ltM; omega) _)).tr (FrV.put _ (by unfold ltM; omega) _)).tr (FrV.put _ (by unfold ltM; omega) _)
      have r65 : (opM w op 14 p M).1 65 = M.1 65 := by unfold opM; rw [pI_row _ _ (by decide), pI_row _ _ (by decide), pI_row _ _ (by decide), pI_row _ _ (by decide)]
      have r66w : (opM w op 14 p M).1 66 w = cw 14 0 := by unfold opM; rw [pI_row _ _ (by decide), pI_row _ _ (by decide), pI_same]
      have r66 : ∀ q, q < w → (opM w op 14 p M).1 66 q = M.1 66 q := fun q hq => by unfold opM; rw [pI_row _ _ (by decide), pI_row _ _ (by decide), pI_cell _ _ (by omega), pI_row _ _ (by decide)]
      have mu1 : Mu b n (opM w op 14 p M) (p + 1) := by
        unfold opM
        exact (hM.oth (by rw [pI_row _ _ (by decide), pI_row _ _ (by decide), pI_row _ _ (by decide)]) (by rw [pI_cell _ _ (by decide), pI_row _ _ (by decide), pI_cell _ _ (by decide)]) (by rw [pI_cell _ _ (by decide), pI_row _ _ (by decide), pI_cell _ _ (by decide)]) : Mu b n (pI (pI (pI M 55 16 (nI (op + 1))) 66 w (cw 14 0)) 55 18 (nI (w + 1))) p).mv (by omega)
      have m17 : (opM w op 14 p M).1 55 17 = nI cm := by unfold opM; rw [pI_cell _ _ (by decide), pI_cell _ _ (by decide), pI_row _ _ (by decide), pI_cell _ _ (by decide)]; exact h17
      have m18 : (opM w op 14 p M).1 55 18 = nI (w + 1) := by unfold opM; rw [pI_cell _ _ (by decide), pI_same]
      have m16 : (opM w op 14 p M).1 55 16 = nI (op + 1) := by unfold opM; rw [pI_cell _ _ (by decide), pI_cell _ _ (by decide), pI_row _ _ (by decide), pI_same]
      have s7 : S1.1 o 7 = nI sc := by rw [s2.2 o (by omega)]; exact h7
      have hL1 : LI b z n o S1 (opM w op 14 p M) (p + 1) sc cm (w + 1) (op + 1) := ⟨s3, mu1, hn, hLo, s7, m17, m18, m16, by omega, by omega, by omega, by omega⟩
      obtain ⟨S2, q1, q2⟩ := hS (by omega) S1 (opM w op 14 p M) (p + 1) sc cm (w + 1) k cf c bs hL1 (Or.inr ⟨w, 14, 0, rfl, by omega, r66w, by decide, Or.inl ⟨by decide, by decide⟩⟩) (by omega) (by omega) (by omega) (by omega) (by omega)
      have eF : (bi (fX12_readsFactor_0 cf (opM w op 14 p M)) fun r S => if r = 0 then some (0, S) else fX12_readsSum_14 c S (nI bs)) = FS cf c (nI bs) (opM w op 14 p M) := rfl
      rw [q1, bv_some, eF]
      rcases q2 with ⟨⟨v7, v8, v9⟩, v, p', M', v1, v2, v3, v4, v5, v6⟩ | ⟨p2, sc2, cm2, a1, a2, t1, t2, M2, c2, ⟨g1, g2, g3, g4, g5, g6, g7, g8, g9, g10, g11, g12, g13⟩, g14⟩
      · obtain ⟨S3, p3, e1, e2, e3⟩ := expF (ne_of_neg v1) v2 93 (by decide)
        rw [e1, bv_some]
        exact ⟨S3, rfl, Or.inl ⟨⟨v7, v8, by rw [e2.2 o (by omega)]; exact v9⟩, v, p3, M', v1, e3, (fw1.tr v3).tr (FrW.ex (by omega) e2), fv1.tr v4, v5, v6⟩⟩
      · obtain ⟨hC2, hM2, _, _, l7, l17, l18, l16, l6, lcm, lw, lsc⟩ := g2
        have hp2 := hC2.2.2.2.1
        obtain ⟨S3, e1, e2, e3⟩ := expect0 hC2 93 (by decide)
        rw [e1, bv_some, g12]
        obtain ⟨c2, rfl⟩ : ∃ x, c2 = x + 1 := ⟨c2 - 1, by omega⟩
        have mk66 : M2.1 66 w = cw 14 0 := by rw [g5.2.2 w (by omega)]; exact r66w
        have ha1 := g6.1
        have ha2 := g7.1
        have hos : fX12_hasOpenSum M2 (nI bs) = some (1, M2) := hos1 (w := w) l18 (by omega) (by omega) mk66 (w - bs) bs 100 (by omega) (by omega)
        have e14 : fX12_readsSum_14 (c2 + 1) M2 (nI bs) = if sg b n p2 = nI 93 then (bv (fX12_closesSums M2 (1 : Int32)) fun S5 => bS (pI S5 55 18 ((S5.1 55 18) - (1 : Int32))) fun S6 => bS (pI S6 55 16 ((S6.1 55 16) - (1 : Int32))) fun S7 => bS (pI S7 55 12 ((S7.1 55 12) + (1 : Int32))) fun S8 => fX12_readsSum_14 c2 S8 (nI bs)) else some (0, pI M2 55 14 (flt 1 p2)) := by
          have e138 : fX12_readsSum_138 M2 (nI bs) = some (0, pI M2 55 14 (flt 1 p2)) := by
            unfold fX12_readsSum_138
            rw [hos, bi_some, if_neg (by decide), hM2.2.2.2.2.1, li 1, wrong12, bi_some, if_pos (Or.inl rfl)]
          show bX12_readsSum_14 _ _ _ = _
          unfold bX12_readsSum_14
          rw [here12 hM2, bi_some, noSign g14, bi_some, if_pos rfl, here12 hM2, bi_some, hos, bi_some, e138, if_neg (show ¬ (1 : Int32) = 0 by decide)]
          rfl
        rw [e14]
        have fw3 : FrW o S S3 := (fw1.tr g3).tr (FrW.ex (by omega) e2)
        by_cases c93 : sg b n p2 = nI 93
        · rw [if_pos c93] at e3
          obtain ⟨hp2n, e4⟩ := e3
          rw [if_pos c93]
          obtain ⟨M3, u1, ⟨u2, u3, u4, u5, u6⟩, u7, u8, u9⟩ := cls_all (w := w + 1) (cm := cm2) (a1 := a1) (a2 := a2) (s1 := t1) (s2 := t2) l18 (by omega) l17 (by omega) g6 g7 (Or.inr ⟨w, 14, 0, rfl, by omega, mk66, by decide, Or.inl ⟨by decide, by decide⟩⟩)
          have x1 : nI (w + 1) - 1 = nI w := by rw [Int32.sub_eq_add_neg, pk_m1]
          have x2 : nI (op + 1) - 1 = nI op := by rw [Int32.sub_eq_add_neg, pk_m1]
          have y1 : (pI M3 55 18 (nI w)).1 55 16 = nI (op + 1) := by rw [pI_cell _ _ (by decide), u6 16 (by decide) (by decide)]; exact l16
          have y2 : (pI (pI M3 55 18 (nI w)) 55 16 (nI op)).1 55 12 = nI p2 := by rw [pI_cell _ _ (by decide), pI_cell _ _ (by decide), u6 12 (by decide) (by decide)]; exact hM2.2.2.2.2.1
          rw [u1, bv_some, u4, x1, bS_e, y1, x2, bS_e, y2, nI_1, bS_e]
          have fv4 : FrV M (pI (pI (pI M3 55 18 (nI w)) 55 16 (nI op)) 55 12 (nI (p2 + 1))) := ((fv1.tr g4).tr u2).tr (((FrV.put _ (by unfold ltM; omega) _).tr (FrV.put _ (by unfold ltM; omega) _)).tr (FrV.put _ (by unfold ltM; omega) _))
          have k65 : (pI (pI (pI M3 55 18 (nI w)) 55 16 (nI op)) 55 12 (nI (p2 + 1))).1 65 = M3.1 65 := by rw [pI_row _ _ (by decide), pI_row _ _ (by decide), pI_row _ _ (by decide)]
          have k66 : (pI (pI (pI M3 55 18 (nI w)) 55 16 (nI op)) 55 12 (nI (p2 + 1))).1 66 = M3.1 66 := by rw [pI_row _ _ (by decide), pI_row _ _ (by decide), pI_row _ _ (by decide)]
          have mu4 : Mu b n (pI (pI (pI M3 55 18 (nI w)) 55 16 (nI op)) 55 12 (nI (p2 + 1))) (p2 + 1) := (hM2.oth (by rw [pI_row _ _ (by decide), pI_row _ _ (by decide)]; exact funext fun k => u2.2 64 k (by unfold ltM; omega)) (by rw [pI_cell _ _ (by decide), pI_cell _ _ (by decide), u6 12 (by decide) (by decide)]) (by rw [pI_cell _ _ (by decide), pI_cell _ _ (by decide), u6 13 (by decide) (by decide)]) : Mu b n (pI (pI M3 55 18 (nI w)) 55 16 (nI op)) p2).mv (by omega)
          have st3 : S3.1 (o + 4) = S2.1 (o + 4) := e2.2 (o + 4) (by omega)
          refine ⟨S3, rfl, Or.inr ⟨p2 + 1, sc2, cm2 + a1 + a2, _, c2, by omega, ⟨e4, mu4, hn, hLo, ?_, ?_, ?_, ?_, ho, by omega, by omega, by omega⟩, fw3, fv4, ⟨fun q hq => ?_, fun q hq => ?_, fun q hq => ?_⟩, ⟨by decide, fun w => absurd w (by decide)⟩, ⟨by decide, fun w => absurd w (by decide)⟩, by omega, by omega, by omega, by omega, rfl, fun cd d1 _ _ => ?_⟩⟩
          · rw [e2.2 o (by omega)]; exact l7
          · rw [pI_cell _ _ (by decide), pI_cell _ _ (by decide), pI_cell _ _ (by decide)]; exact u3
          · rw [pI_cell _ _ (by decide), pI_cell _ _ (by decide), pI_same]; rfl
          · rw [pI_cell _ _ (by decide), pI_same]
          · rw [st3, g5.1 q hq, s2.2 (o + 4) (by omega)]
          · rw [k65, u7 q (by omega), g5.2.1 q hq, r65]
          · rw [k66, u5, g5.2.2 q (by omega), r66 q hq]
          · rw [k65] at d1
            have := g13 cd (fun q q1 q2 => by rw [d1 q q1 (by omega), u7 q q2]) (fun w => by rw [d1 cm2 (by omega) (by omega)]; exact u8 w) (fun w => by rw [d1 (cm2 + a1) (by omega) (by omega)]; exact u9 w)
            rw [st3]
            exact this.cg (fun _ _ _ => rfl) (fun _ _ _ => rfl) (by omega)
        · rw [if_neg c93, if_pos rfl] at e3
          have hv : flt 1 p2 < 0 := flt_neg (by decide) (by decide) (by omega)
          rw [if_neg c93]
          refine ⟨S3, rfl, Or.inl ⟨⟨sc2, by omega, by rw [e2.2 o (by omega)]; exact l7⟩, _, p2, _, hv, e3, fw3, (fv1.tr g4).tr (FrV.put _ (by unfold ltM; omega) (flt 1 p2)), pI_same _ _ _ _, rfl⟩⟩
  · rw [if_neg c91, if_neg c91]
    by_cases cd : dgB (sg b n p) = true
    · -- a number
      have hpn := (dg_in hb cd).1
      have hfac : facI (sg b n p) = -1 := by
        rw [sg_lt hpn] at cd ⊢
        rcases fac256 (b p) (hb p) with w | ⟨w, _⟩
        · exact w
        · rw [w] at cd; cases cd
      obtain ⟨S1, a1, a2, a3⟩ := readNum0 hb (m := 5) (by decide) hC
      have en : num b n 5 p = ((dgs b n 5 p 0).1, (dgs b n 5 p 0).2.1, if (dgs b n 5 p 0).2.2 = true then 0 else flt 2 (dgs b n 5 p 0).1) := num_t cd
      obtain ⟨b1, b2, b3⟩ := dgs_bd (n := n) hb 5 p 0 hp (by decide)
      have hmv : p < (dgs b n 5 p 0).1 := dgs_mv (r := 4) (w := 0) cd hb hp (by decide)
      rw [en] at a2 a3
      have s7 : S1.1 o 7 = nI sc := by rw [a1.2 o (by omega)]; exact h7
      have ead := add2 (kind := 1) (num := (dgs b n 5 p 0).2.1) s7 (by omega) (by decide) (by omega)
      rw [if_pos hfac, a3, bi_some, if_pos cd]
      show ∃ S', (bi (fX2_addStep o S1 (nI 1) (nI (dgs b n 5 p 0).2.1)) fun r12 S7 => some S7) = some S' ∧ _
      rw [ead, bi_some]
      have m0 : Mu b n (pI M 55 15 0) p := hM.oth (pI_row _ _ (by decide)) (pI_cell _ _ (by decide)) (pI_cell _ _ (by decide))
      obtain ⟨M1, e1, e2, e3, e4⟩ := rn10 (fr := p) 5 p 0 100 (pI M 55 15 0) (Nat.le_refl _) rfl m0 (pI_same _ _ _ _) (by decide) (by decide)
      have e5 : fX12_readsNumber M = fX12_readsNumber_10 100 (pI M 55 15 0) (nI p) := by
        unfold fX12_readsNumber
        rw [bV_e, hM.2.2.2.2.1, bS_e]
      rw [e5, e4]
      have e55 := (E55.put M (show 15 = 12 ∨ 15 = 14 ∨ 15 = 15 by decide) 0).tr e1
      have fw : FrW o S (adC o sc 1 (dgs b n 5 p 0).2.1 S1) := (FrW.ex (by omega) a1).tr (adC_fr _ _ _ _ _)
      have hCa : ∀ v, Cu b z n S1 (dgs b n 5 p 0).1 v → Cu b z n (adC o sc 1 (dgs b n 5 p 0).2.1 S1) (dgs b n 5 p 0).1 v := fun v hv => hv.oth (adC_3 _ (by omega) (by omega)) (adC_3 _ (by omega) (by omega)) (adC_3 _ (by omega) (by omega))
      by_cases cg : (dgs b n 5 p 0).2.2 = true
      · rw [if_pos cg] at a2
        rw [if_pos cg, bi_some, if_neg (by decide), e3]
        have m17 : M1.1 55 17 = nI cm := by rw [e55.2 55 17 (by omega)]; exact h17
        rw [note12 m17 (by omega), bv_some, bi_some, if_neg (by decide)]
        have hC2 := hCa 0 a2
        have mu2 : Mu b n (noM cm 0 (dgs b n 5 p 0).2.1 M1) (dgs b n 5 p 0).1 := e2.oth (noM_o _ (by decide) (by decide)) (noM_55 _ (by decide)) (noM_55 _ (by decide))
        refine ⟨_, rfl, Or.inr ⟨(dgs b n 5 p 0).1, sc + 1, cm + 1, noM cm 0 (dgs b n 5 p 0).2.1 M1, c, hmv, ⟨hC2, mu2, hn, hLo, adC_7 _ _ _ _ _, noM_17 _ _ _ _, ?_, ?_, ho, by omega, by omega, by omega⟩, fw, (FrV.e55 e55).tr (noM_fr _ _ _ _), ⟨fun q hq => ?_, fun q hq => ?_, fun q hq => ?_⟩, ⟨by decide, fun w => absurd w (by decide)⟩, ⟨by decide, fun w => absurd w (by decide)⟩, by omega, by omega, by omega, by omega, rfl, fun cdd d1 _ _ => ?_⟩⟩
        · rw [noM_55 _ (by decide), e55.2 55 18 (by omega)]; exact h18
        · rw [noM_55 _ (by decide), e55.2 55 16 (by omega)]; exact h16
        · rw [adC_lt _ (by omega), a1.2 (o + 4) (by omega)]
        · rw [noM_lt _ (by omega), e55.2 65 q (by omega)]
        · rw [noM_o _ (by decide) (by decide), e55.2 66 q (by omega)]
        · exact (EA.num (v := (dgs b n 5 p 0).2.1) (adC_in _ _ _ _ _) (by rw [d1 cm (Nat.le_refl _) (by omega), noM_in]) (by omega)).cg (fun _ _ _ => rfl) (fun _ _ _ => rfl) (by omega)
      · rw [if_neg cg] at a2
        have hv : flt 2 (dgs b n 5 p 0).1 < 0 := flt_neg (by decide) (by decide) (by omega)
        rw [if_neg cg, bi_some, if_pos rfl, bi_some, if_pos rfl]
        refine ⟨_, rfl, Or.inl ⟨⟨sc + 1, by omega, adC_7 _ _ _ _ _⟩, _, _, _, hv, hCa _ a2, fw, (FrV.e55 e55).tr (FrV.put _ (by unfold ltM; omega) (flt 2 (dgs b n 5 p 0).1)), pI_same _ _ _ _, rfl⟩⟩
    · rw [if_neg cd]
      have cd' : dgB (sg b n p) = false := by simpa using cd
      by_cases cf1 : facI (sg b n p) = -1
      · -- no factor
        rw [if_pos cf1, if_pos cf1, bi_some, if_pos rfl]
        obtain ⟨S1, a1, a2, a3⟩ := readNum0 hb (m := 5) (by decide) hC
        rw [num_f cd'] at a2 a3
        have hv : flt 1 p < 0 := flt_neg (by decide) (by decide) (by omega)
        have s7 : S1.1 o 7 = nI sc := by rw [a1.2 o (by omega)]; exact h7
        have ead := add2 (kind := 1) (num := 0) s7 (by omega) (by decide) (by decide)
        rw [a3, bi_some]
        show ∃ S', (bi (fX2_addStep o S1 (nI 1) (nI 0)) fun r12 S7 => some S7) = some S' ∧ _
        rw [ead, bi_some]
        exact ⟨_, rfl, Or.inl (Flt.mk hv (a2.oth (adC_3 _ (by omega) (by omega)) (adC_3 _ (by omega) (by omega)) (adC_3 _ (by omega) (by omega))) ((FrW.ex (by omega) a1).tr (adC_fr _ _ _ _ _)) ⟨sc + 1, by omega, adC_7 _ _ _ _ _⟩)⟩
      · -- a letter
        have hpn : p < n := sg_in (fun w => cf1 (by rw [w]; exact fac_m1.1))
        obtain ⟨v, hv9, hv⟩ : ∃ v, v < 9 ∧ facI (sg b n p) = nI v := by
          rw [sg_lt hpn] at cf1 ⊢
          rcases fac256 (b p) (hb p) with w | ⟨_, _, w⟩
          · exact absurd w cf1
          · exact w
        have hvm : ¬ nI v = -1 := nm1 (by omega)
        rw [hv, if_neg hvm, if_neg hvm, add2 h7 (by omega) (by decide) (by omega), bi_some, note12 h17 (by omega), bv_some]
        have hCa : Cu b z n (adC o sc 2 v S) p 0 := hC.oth (adC_3 _ (by omega) (by omega)) (adC_3 _ (by omega) (by omega)) (adC_3 _ (by omega) (by omega))
        obtain ⟨S2, s1, s2, s3⟩ := step0 hCa hpn
        have m12 : (noM cm 1 v M).1 55 12 = nI p := by rw [noM_55 _ (by decide)]; exact hM.2.2.2.2.1
        rw [s1, bv_some, m12, nI_1, bS_e, bi_some, if_neg (by decide)]
        have mu1 : Mu b n (noM cm 1 v M) p := hM.oth (noM_o _ (by decide) (by decide)) (noM_55 _ (by decide)) (noM_55 _ (by decide))
        have st2 : S2.1 (o + 4) = (adC o sc 2 v S).1 (o + 4) := s2.2 (o + 4) (by omega)
        refine ⟨S2, rfl, Or.inr ⟨p + 1, sc + 1, cm + 1, pI (noM cm 1 v M) 55 12 (nI (p + 1)), c, by omega, ⟨s3, mu1.mv (by omega), hn, hLo, ?_, ?_, ?_, ?_, ho, by omega, by omega, by omega⟩, (adC_fr _ _ _ _ _).tr (FrW.ex (by omega) s2), (noM_fr _ _ _ _).tr (FrV.put _ (by unfold ltM; omega) _), ⟨fun q hq => ?_, fun q hq => ?_, fun q hq => ?_⟩, ⟨by decide, fun w => absurd w (by decide)⟩, ⟨by decide, fun w => absurd w (by decide)⟩, by omega, by omega, by omega, by omega, rfl, fun cdd d1 _ _ => ?_⟩⟩
        · rw [s2.2 o (by omega)]; exact adC_7 _ _ _ _ _
        · rw [pI_cell _ _ (by decide)]; exact noM_17 _ _ _ _
        · rw [pI_cell _ _ (by decide), noM_55 _ (by decide)]; exact h18
        · rw [pI_cell _ _ (by decide), noM_55 _ (by decide)]; exact h16
        · rw [st2, adC_lt _ (by omega)]
        · rw [pI_row _ _ (by decide), noM_lt _ (by omega)]
        · rw [pI_row _ _ (by decide), noM_o _ (by decide) (by decide)]
        · exact (EA.lett (v := v) (by rw [st2]; exact adC_in _ _ _ _ _) (by rw [d1 cm (Nat.le_refl _) (by omega), pI_row _ _ (by decide), noM_in]) hv9).cg (fun _ _ _ => rfl) (fun _ _ _ => rfl) (by omega)
