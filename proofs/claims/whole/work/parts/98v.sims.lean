-- law
theorem RuQ.law {o sc cm q : Nat} {S M : St} {codes : Nat → Int32} (h : RuQ o S M sc cm q) (hs : sc ≤ 288) (hc : cm ≤ 260) (hcd : ∀ t, t < cm → codes t = M.1 65 t) : S.1 (o + 1) q = M.1 67 q ∧ (∀ F, ∃ g, TestC (S.1 (o + 4)) (nI sc) (S.1 (o + 3) q) F g ∧ TestM codes (M.1 69 q) (M.1 70 q) F g) ∧ (S.1 (o + 1) q ≠ 120 → ∀ F, ∃ w, WorC (S.1 (o + 4)) (nI sc) (S.1 (o + 2) q) F w ∧ WorM codes (M.1 68 q) (M.1 69 q) F w) := by
  obtain ⟨a0, i, j, k, l, a1, a2, a3, a4, a5, a6, a7, a8⟩ := h
  have b1 := a4.1
  have b2 := a4.2.1
  refine ⟨a0, fun F => ?_, fun hx F => ?_⟩
  · rw [a1, a2, a3]
    exact fin_test (a4.cg (fun _ _ _ => rfl) (fun t _ t2 => hcd t (by omega))) a5 a6 hs (by omega) F
  · rw [a0] at hx
    obtain ⟨i0, j0, k0, c1, c2, c3, c4, c5⟩ := a8 hx
    rw [c1, c2, a2]
    exact fin_wor (c3.cg (fun _ _ _ => rfl) (fun t _ t2 => hcd t (by omega)) (Nat.le_refl _)) (by decide) c4 c5 hs (by omega) F
theorem Rel.newLaw {S M M' : St} (h : Rel S M) (hM : ∀ a k, ¬ (a = 55 ∧ k = 20) → ¬ (71 ≤ a ∧ a ≤ 75) → M'.1 a k = M.1 a k) (hL : LawR (S.1 (S.2.2 3 + 1)) (S.1 (S.2.2 3 + 2)) (S.1 (S.2.2 3 + 3)) (S.1 (S.2.2 3 + 4)) (S.1 (S.2.2 3) 6) (S.1 (S.2.2 3) 7) (M'.1 72) (M'.1 73) (M'.1 74) (M'.1 75) (M'.1 71) (M'.1 55 20)) : Rel (pR (pR S 2 (S.2.2 3)) 3 (S.2.2 2)) M' := by
  obtain ⟨a1, a2, a3, a4, a5, a6, a7, a8⟩ := h
  have hn : hN M' = hN M := by unfold hN; rw [hM 55 8 (by omega) (by omega)]
  have aM : AgC strM M M' := fun o k hp => hM o k (by unfold strM at hp; omega) (by unfold strM at hp; omega)
  refine ⟨a1.cg aM, a2.cg aM rfl rfl (AgC.rf _ _), a3.cg hn (fun _ _ => rfl) (fun j _ => hM 59 j (by omega) (by omega)), ?_, a5.cg (AgC.rf _ _) (fun o k hp => hM o k (by unfold kepM at hp; omega) (by unfold kepM at hp; omega)), a6.cg rfl (hM 55 11 (by omega) (by omega)) (fun _ _ => rfl) (fun j _ => hM 64 j (by omega) (by omega)), a7.cg (fun o h1 h2 k _ => hM o k (by omega) (by omega)), ?_⟩
  · rw [hn]
    exact a4.cg (fun _ _ => rfl) (fun _ _ => rfl) (fun k _ => hM 56 k (by omega) (by omega))
  · have e2 : (pR (pR S 2 (S.2.2 3)) 3 (S.2.2 2)).2.2 2 = S.2.2 3 := rfl
    have e3 : (pR (pR S 2 (S.2.2 3)) 3 (S.2.2 2)).2.2 3 = S.2.2 2 := rfl
    unfold RRul
    rw [e2, e3]
    exact ⟨a8.2.1, a8.1, fun w => a8.2.2.1 w.symm, hL⟩
theorem sim_law (S M : St) (x : Int32) (h : Rel S M) : ∃ v S1 M1, fX11_law S x = some (v, S1) ∧ fX12_law M x = some (v, M1) ∧ Rel S1 M1 := by
  obtain ⟨b, z, hz, hb, hT, hT2, hz2⟩ := h.tap
  have hti := h.2.2.2.2.2.2.2.1
  have hti1 := h.2.2.2.2.2.2.2.2.1
  unfold fX11_law fX12_law
  simp only [in12, bi_some, ite_b2i, rng2, i1, i240]
  by_cases hx : inR x 1 240 = true
  · obtain ⟨n, h1, h2, rfl⟩ := inR_natL (m := 1) (n := 240) hx (by decide)
    simp only [hx, if_true, holds7 hT hz (show n < 2 ^ 31 by omega), bi_some, ite_b2i, hz2, nle (show n < 2 ^ 31 by omega) (show z < 2 ^ 31 by omega)]
    by_cases hn : n ≤ z
    · rw [if_pos (show decide (n ≤ z) = true by simpa using hn), if_pos hn, if_pos hti1, begins12, bv_some]
      obtain ⟨S1, s1, s2, s3⟩ := start0 hT hn hz h1
      have hol := hti1
      unfold isL at hol
      generalize ho : S.2.2 3 = o at hti1 hol
      generalize hM5 : pI (pI (pI (pI M 55 12 0) 55 13 (nI n)) 55 17 0) 55 19 0 = M5
      have fM : FrN M M5 := by
        rw [← hM5]
        exact ((((FrN.put _ (by unfold lnM; omega) _).tr (FrN.put _ (by unfold lnM; omega) _)).tr (FrN.put _ (by unfold lnM; omega) _)).tr (FrN.put _ (by unfold lnM; omega) _))
      have hMu : Mu b n M5 0 := by
        rw [← hM5]
        refine ⟨fun j hj => ?_, hb, by omega, Nat.zero_le _, ?_, ?_⟩
        · rw [pI_row _ _ (by decide), pI_row _ _ (by decide), pI_row _ _ (by decide), pI_row _ _ (by decide)]; exact hT2 j hj
        · rw [pI_cell _ _ (by decide), pI_cell _ _ (by decide), pI_cell _ _ (by decide), pI_same]; rfl
        · rw [pI_cell _ _ (by decide), pI_cell _ _ (by decide), pI_same]
      have h17 : M5.1 55 17 = nI 0 := by rw [← hM5, pI_cell _ _ (by decide), pI_same]; rfl
      have h19 : M5.1 55 19 = nI 0 := by rw [← hM5, pI_same]; rfl
      have hC2 : Cu b z n (pI (pI S1 o 6 0) o 7 0) 0 0 := s3.oth (by rw [pI_row _ _ (by omega), pI_row _ _ (by omega)]) (by rw [pI_row _ _ (by omega), pI_row _ _ (by omega)]) (by rw [pI_row _ _ (by omega), pI_row _ _ (by omega)])
      have hI : RuI b z n o (pI (pI S1 o 6 0) o 7 0) M5 0 0 0 0 := ⟨hC2, hMu, h2, hti1, by rw [pI_cell _ _ (by omega), pI_same]; rfl, by decide, h19, by rw [pI_same]; rfl, h17, Nat.le_refl _, by decide, fun q hq => absurd hq (Nat.not_lt_zero _)⟩
      obtain ⟨S', o1, o2⟩ := llaw_loop 17 0 (pI (pI S1 o 6 0) o 7 0) M5 0 0 0 100 300 rfl (by decide) hI (by decide) (by decide)
      have hFr : FrO o S S' := ((FrO.ex s2).tr ((FrO.put _ (by omega) (by omega) _ _).tr (FrO.put _ (by omega) (by omega) _ _))).tr o1
      have ec : fX3_readLaw o S (nI n) = fX3_readLaw_17 o 100 (pI (pI S1 o 6 0) o 7 0) (nI 0) 1 := by
        unfold fX3_readLaw fX2_clear
        rw [s1, bv_some, bS_e, bS_e, bv_some]
        rfl
      rw [ec]
      rcases o2 with ⟨r, p, sc, cm, M', l1, l2, l3, l4⟩ | ⟨v, M', v1, v2, v3, v4, v5⟩
      · obtain ⟨_, _, _, _, k6, kr, k19, k7, k17, kcm, ksc, kQ⟩ := id l2
        have hp := l2.1.2.2.2.1
        have hR2 : Rel (pI S' 1 1 0) (pI M' 55 11 0) := h.lrd (by rw [ho]; exact hFr) (fM.tr l1)
        have f2 : (pI S' 1 1 0).2.2 2 = S.2.2 2 := by show S'.2.2 2 = _; rw [hFr.1]
        have f3 : (pI S' 1 1 0).2.2 3 = o := by show S'.2.2 3 = _; rw [hFr.1]; exact ho
        rw [l3, bi_some, clear7, bv_some, if_neg (show ¬ nI r < 0 from nI_pos (by omega)), l4, if_pos (by rw [f2]; exact hti), if_pos (by rw [f3]; exact hti1), bS_e, bS_e]
        have y19 : (pI M' 55 11 0).1 55 19 = nI r := by rw [pI_cell _ _ (by decide)]; exact k19
        obtain ⟨M3, c1, c2, c3, c4, c5⟩ := cp95 (cm := cm) (by omega) cm 0 300 (pI (pI M' 55 11 0) 55 20 (nI r)) (by omega) (by omega) (by rw [pI_cell _ _ (by decide), pI_cell _ _ (by decide)]; exact k17)
        obtain ⟨M4, d1, d2, d3, d4, d5⟩ := cp123 (r := r) kr r 0 300 M3 (by omega) (by omega) (by rw [c3 55 (by decide), pI_cell _ _ (by decide)]; exact y19)
        have em : fX12_law_71 M' 1 = some (nI r, M4) := by
          have c1 : fX12_law_95 300 (pI (pI M' 55 11 0) 55 20 (nI r)) 0 = _ := c1
          have d1 : fX12_law_123 300 M3 0 = _ := d1
          unfold fX12_law_71
          rw [bS_e, if_neg (by decide), y19, bS_e, c1, d1]
        rw [em]
        have hMM : ∀ a k, ¬ (a = 55 ∧ k = 20) → ¬ (71 ≤ a ∧ a ≤ 75) → M4.1 a k = (pI M' 55 11 0).1 a k := fun a k q1 q2 => by rw [d3 a (by omega), c3 a (by omega), pI_cell _ _ q1]
        refine ⟨nI r, _, M4, rfl, rfl, hR2.newLaw hMM ?_⟩
        rw [f3]
        have g1 : ∀ a, o ≤ a → (pI S' 1 1 0).1 a = S'.1 a := fun a ha => pI_row _ _ (by omega)
        rw [g1 (o + 1) (by omega), g1 (o + 2) (by omega), g1 (o + 3) (by omega), g1 (o + 4) (by omega), g1 o (by omega), k6, k7]
        refine ⟨r, kr, rfl, ?_, fun q hq => ?_⟩
        · rw [d3 55 (by omega), c3 55 (by decide), pI_same]
        · have e65 : ∀ t, t < cm → M4.1 71 t = M'.1 65 t := fun t ht => by rw [d3 71 (by omega), c5 t (Nat.zero_le _) ht, pI_row _ _ (by decide), pI_row _ _ (by decide)]
          have eR : ∀ a, 72 ≤ a → a ≤ 75 → M4.1 a q = M'.1 (a - 5) q := fun a q1 q2 => by rw [d5 a q1 q2 q (Nat.zero_le _) hq, c3 (a - 5) (by omega), pI_row _ _ (by omega), pI_row _ _ (by omega)]
          rw [eR 72 (by decide) (by decide), eR 73 (by decide) (by decide), eR 74 (by decide) (by decide), eR 75 (by decide) (by decide)]
          exact (kQ q hq).law (by omega) (by omega) e65
      · rw [v4, bi_some, clear7, bv_some, if_pos v1, v5]
        refine ⟨v, _, _, rfl, ?_, h.lrd (by rw [ho]; exact hFr) (fM.tr v2)⟩
        unfold fX12_law_71
        rw [bS_e, if_pos rfl, pI_cell _ _ (by decide), v3]
    · rw [if_neg (show ¬ decide (n ≤ z) = true by simpa using hn), if_neg hn]
      exact ⟨_, _, _, rfl, rfl, h⟩
  · simp only [hx, Bool.false_eq_true, if_false]
    exact ⟨_, _, _, rfl, rfl, h⟩
