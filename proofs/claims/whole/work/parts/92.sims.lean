theorem Rel.newStreet {S M S' M' S2 : St} (h : Rel S M) (hC : FrT (S.2.2 1) S S') (hM : FrM M M') (hD : Dr S' M' (S.2.2 1)) {L : Nat} (h40 : M'.1 55 40 = nI L) (hL : fX8_lookAround (S.2.2 1) S' = some S2) : ∃ S7 M7, (if isT ((pR (pR (pI S2 1 1 0) 0 ((pI S2 1 1 0).2.2 1)) 1 ((pI S2 1 1 0).2.2 0)).2.2 0) then bv (fX4_dropStrangers ((pR (pR (pI S2 1 1 0) 0 ((pI S2 1 1 0).2.2 1)) 1 ((pI S2 1 1 0).2.2 0)).2.2 0) (pR (pR (pI S2 1 1 0) 0 ((pI S2 1 1 0).2.2 1)) 1 ((pI S2 1 1 0).2.2 0))) fun S6 => bv (fX6_startAnew 19 S6) fun S7 => some (nI L, S7) else none) = some (nI L, S7) ∧ fX12_terrace_86 M' 1 = some (nI L, M7) ∧ Rel S7 M7 := by
  obtain ⟨a1, a2, a3, a4, a5, a6, a7, a8⟩ := h
  obtain ⟨d0, nh, nt, d1, d2, d3, d4, d5, d6, d7, d8⟩ := hD
  have hT := a2.1
  have hT1 := a2.2.1
  have hTn := a2.2.2.1
  have hTi := hT
  have hTi1 := hT1
  have hR := a8.1
  unfold isT at hT hT1
  unfold isL at hR
  generalize et0 : S.2.2 0 = t0 at *
  generalize et1 : S.2.2 1 = t1 at *
  have hDN : DrN S' t1 nh nt (fun i => gv (M'.1 78 i)) (fun i => gv (M'.1 79 i)) (fun i => gv (M'.1 80 i)) (fun i => gv (M'.1 81 i)) := by
    refine ⟨d1, d2, d3, d5, fun i hi q => ?_, fun i hi q => ?_⟩
    · rw [d7 i hi q]
      exact d0 78 (by decide) (by decide) i hi
    · obtain ⟨x1, x2, x3⟩ := d8 i hi q
      rw [x1, x2, x3]
      exact ⟨d0 79 (by decide) (by decide) i hi, d0 80 (by decide) (by decide) i hi, d0 81 (by decide) (by decide) i hi⟩
  obtain ⟨S2', b1, b2, b3, b4⟩ := look8 hDN
  rw [hL] at b4
  have e22 : S2' = S2 := (Option.some.inj b4).symm
  subst e22
  have r22 : S2'.2.2 = S.2.2 := by rw [b1.1, hC.1]
  have cS2 : ∀ o k, o ≠ 3 → ¬ (t1 ≤ o ∧ o ≤ t1 + 7) → S2'.1 o k = S.1 o k := fun o k h1 h2 => by rw [b1.2 o k (by omega) (by omega), hC.2 o h1 h2]
  -- the class's end
  have f0 : (pI S2' 1 1 0).2.2 0 = t0 := by show S2'.2.2 0 = _; rw [r22, et0]
  have f1 : (pI S2' 1 1 0).2.2 1 = t1 := by show S2'.2.2 1 = _; rw [r22, et1]
  rw [f0, f1]
  have g0 : (pR (pR (pI S2' 1 1 0) 0 t1) 1 t0).2.2 0 = t1 := rfl
  rw [g0, if_pos hTi1]
  have e7 : (pR (pR (pI S2' 1 1 0) 0 t1) 1 t0).1 t1 7 = nI nh := by
    show (pI S2' 1 1 0).1 t1 7 = nI nh
    rw [pI_row _ _ (by omega), b1.2 t1 7 (by omega) (by omega)]
    exact d3
  obtain ⟨S6, u1, u2, u3, u4⟩ := drop4 d1 (by omega) e7
  obtain ⟨S7, v1, v2, v3, v4, v5, v6, v7, v8⟩ := anew6 S6
  have cS5 : ∀ o k, ¬ (o = 1 ∧ k = 1) → (pR (pR (pI S2' 1 1 0) 0 t1) 1 t0).1 o k = S2'.1 o k := fun o k hk => pI_cell _ _ hk
  have cS7 : ∀ o k, o ≠ 19 → o ≠ 20 → o ≠ 9 → ¬ (o = 1 ∧ k = 1) → S7.1 o k = S2'.1 o k := fun o k h1 h2 h3 h4 => by rw [v2 o k h1 h2, u2 o k h3, cS5 o k h4]
  have r7 : S7.2.2 = (pR (pR (pI S2' 1 1 0) 0 t1) 1 t0).2.2 := by rw [v1, u1]
  have r70 : S7.2.2 0 = t1 := by rw [r7]; rfl
  have r71 : S7.2.2 1 = t0 := by rw [r7]; rfl
  have r72 : S7.2.2 2 = S.2.2 2 := by rw [r7]; show S2'.2.2 2 = _; rw [r22]
  have r73 : S7.2.2 3 = S.2.2 3 := by rw [r7]; show S2'.2.2 3 = _; rw [r22]
  -- the model's end
  have em : fX12_terrace_86 M' 1 = fX12_terrace_118 300 (pI (pI (pI M' 55 11 0) 55 8 (nI nh)) 55 9 (nI nt)) 0 := by
    unfold fX12_terrace_86
    rw [bS_e, if_neg (by decide), bS_e, bS_e, pI_cell _ _ (by decide), pI_cell _ _ (by decide), pI_cell _ _ (by decide), d4, d6]
  obtain ⟨M3, w1, w2, w3, w4, w5⟩ := copy118 (pI (pI (pI M' 55 11 0) 55 8 (nI nh)) 55 9 (nI nt))
  have e8 : (pI (pI (pI M3 56 16 (-1)) 56 17 0) 56 18 0).1 55 8 = nI nh := by
    rw [pI_row _ _ (by decide), pI_row _ _ (by decide), pI_row _ _ (by decide), w2 55 8 (by decide) (by omega), pI_cell _ _ (by decide), pI_same]
  obtain ⟨M7, x1, x2, x3, x4⟩ := drop12 e8
  have cM : ∀ o k, o ≠ 59 → o ≠ 56 → ¬ (60 ≤ o ∧ o ≤ 63) → ¬ (o = 55 ∧ (k = 8 ∨ k = 9 ∨ k = 11)) → M7.1 o k = M'.1 o k := fun o k h1 h2 h3 h4 => by
    rw [x2 o k h1, pI_row _ _ h2, pI_row _ _ h2, pI_row _ _ h2, w2 o k h2 h3, pI_cell _ _ (by omega), pI_cell _ _ (by omega), pI_cell _ _ (by omega)]
  have cM8 : M7.1 55 8 = nI nh := by rw [x2 55 8 (by decide)]; exact e8
  have cM9 : M7.1 55 9 = nI nt := by rw [x2 55 9 (by decide), pI_row _ _ (by decide), pI_row _ _ (by decide), pI_row _ _ (by decide), w2 55 9 (by decide) (by omega), pI_same]
  have cM11 : M7.1 55 11 = 0 := by rw [x2 55 11 (by decide), pI_row _ _ (by decide), pI_row _ _ (by decide), pI_row _ _ (by decide), w2 55 11 (by decide) (by omega), pI_cell _ _ (by decide), pI_cell _ _ (by decide), pI_same]
  have q78 : ∀ o k, 78 ≤ o → (pI (pI (pI M' 55 11 0) 55 8 (nI nh)) 55 9 (nI nt)).1 o k = M'.1 o k := fun o k ho => by rw [pI_row _ _ (by omega), pI_row _ _ (by omega), pI_row _ _ (by omega)]
  have c60 : ∀ j, j < 16 → M7.1 60 j = M'.1 78 j ∧ M7.1 61 j = M'.1 79 j ∧ M7.1 62 j = M'.1 80 j ∧ M7.1 63 j = M'.1 81 j := fun j hj => by
    obtain ⟨y1, y2, y3, y4, _⟩ := w3 j hj
    rw [q78 _ _ (by decide)] at y1 y2 y3 y4
    simp only [x2 60 j (by decide), x2 61 j (by decide), x2 62 j (by decide), x2 63 j (by decide), pI_row _ _ (show 60 ≠ 56 by decide), pI_row _ _ (show 61 ≠ 56 by decide), pI_row _ _ (show 62 ≠ 56 by decide), pI_row _ _ (show 63 ≠ 56 by decide)]
    exact ⟨y1, y2, y3, y4⟩
  have c56 : ∀ j, j < 16 → M7.1 56 j = 0 := fun j hj => by rw [x2 56 j (by decide), pI_cell _ _ (by omega), pI_cell _ _ (by omega), pI_cell _ _ (by omega)]; exact (w3 j hj).2.2.2.2
  have c5616 : M7.1 56 16 = -1 := by rw [x2 56 16 (by decide), pI_cell _ _ (by decide), pI_cell _ _ (by decide), pI_same]
  have c5617 : M7.1 56 17 = 0 := by rw [x2 56 17 (by decide), pI_cell _ _ (by decide), pI_same]
  have c5618 : M7.1 56 18 = 0 := by rw [x2 56 18 (by decide), pI_same]
  have c56k : ∀ k, 18 < k → M7.1 56 k = M.1 56 k := fun k hk => by
    rw [x2 56 k (by decide), pI_cell _ _ (by omega), pI_cell _ _ (by omega), pI_cell _ _ (by omega), w4 k (by omega), pI_row _ _ (by decide), pI_row _ _ (by decide), pI_row _ _ (by decide), hM.2 56 k (by unfold rdM; omega)]
  have c59 : ∀ j, (pI (pI (pI M3 56 16 (-1)) 56 17 0) 56 18 0).1 59 j = M.1 59 j := fun j => by
    rw [pI_row _ _ (by decide), pI_row _ _ (by decide), pI_row _ _ (by decide), w2 59 j (by decide) (by omega), pI_row _ _ (by decide), pI_row _ _ (by decide), pI_row _ _ (by decide), hM.2 59 j (by unfold rdM; omega)]
  have c40 : (pI (pI (pI M3 56 16 (-1)) 56 17 0) 56 18 0).1 55 40 = nI L := by
    rw [pI_row _ _ (by decide), pI_row _ _ (by decide), pI_row _ _ (by decide), w2 55 40 (by decide) (by omega), pI_cell _ _ (by decide), pI_cell _ _ (by decide), pI_cell _ _ (by decide)]
    exact h40
  have hn7 : hN M7 = nh := by unfold hN; rw [cM8, gv_nI (by omega)]
  have tn7 : tN M7 = nt := by unfold tN; rw [cM9, gv_nI (by omega)]
  have ev7 : ∀ i, i < 16 → evQ nh nt (fun i => gv (M'.1 78 i)) (fun i => gv (M'.1 79 i)) i = if nh.testBit i = true then everN M7 i else 0 := fun i hi => by
    unfold evQ everN
    rw [tn7, (c60 i hi).1]
    by_cases c : nh.testBit i = true
    · rw [if_pos c, if_pos c]
      exact setN_congr (fun p hp => by rw [(c60 p hp).2.1])
    · rw [if_neg c, if_neg c]
  have se7 : ∀ i, i < 16 → ∀ x, evQ nh nt (fun i => gv (M'.1 78 i)) (fun i => gv (M'.1 79 i)) i &&& thQn nt (fun i => gv (M'.1 80 i)) (fun i => gv (M'.1 81 i)) x = if nh.testBit i = true then seenN M7 i x else 0 := fun i hi x => by
    unfold evQ thQn
    by_cases c : nh.testBit i = true
    · rw [if_pos c, if_pos c, and_set]
      unfold seenN
      apply setN_congr
      intro p hp
      unfold seeB
      rw [tn7, (c60 i hi).1, (c60 p hp).2.1, (c60 p hp).2.2.1, (c60 p hp).2.2.2]
      cases nt.testBit p <;> simp
    · rw [if_neg c, if_neg c, Nat.zero_and]
  refine ⟨S7, M7, ?_, ?_, ?_⟩
  · rw [u4, bv_some, v8, bv_some]
  · rw [em, w5, x4, c40]
  · refine ⟨⟨⟨by rw [hn7]; exact cM8, by rw [hn7]; exact d1⟩, ⟨by rw [tn7]; exact cM9, by rw [tn7]; exact d2⟩, fun o h1 h2 i hi => ?_⟩, ⟨by rw [r70]; exact hTi1, by rw [r71]; exact hTi, by rw [r70, r71]; exact fun z => hTn z.symm, ?_, ?_, fun i hi q => ?_, fun i hi x hx => ?_, fun i hi => ?_⟩, fun j hj => ?_, ?_, ?_, ?_, ?_, ?_⟩
    · obtain ⟨y1, y2, y3, y4⟩ := c60 i hi
      have : o = 60 ∨ o = 61 ∨ o = 62 ∨ o = 63 := by omega
      rcases this with rfl | rfl | rfl | rfl
      · rw [y1]; exact d0 78 (by decide) (by decide) i hi
      · rw [y2]; exact d0 79 (by decide) (by decide) i hi
      · rw [y3]; exact d0 80 (by decide) (by decide) i hi
      · rw [y4]; exact d0 81 (by decide) (by decide) i hi
    · rw [r70, cS7 t1 7 (by omega) (by omega) (by omega) (by omega), b1.2 t1 7 (by omega) (by omega), cM8]; exact d3
    · rw [r70, cS7 t1 8 (by omega) (by omega) (by omega) (by omega), b1.2 t1 8 (by omega) (by omega), cM9]; exact d5
    · rw [hn7] at q
      rw [r70, cS7 (t1 + 1) i (by omega) (by omega) (by omega) (by omega), b1.2 (t1 + 1) i (by omega) (by omega), (c60 i hi).1]
      exact d7 i hi q
    · rw [r70, cS7 (t1 + 5) _ (by omega) (by omega) (by omega) (by omega), b3 i hi x hx, se7 i hi x, hn7]
    · rw [r70, cS7 (t1 + 6) _ (by omega) (by omega) (by omega) (by omega), b2 i hi, ev7 i hi, hn7]
    · have e9 : (pR (pR (pI S2' 1 1 0) 0 t1) 1 t0).1 9 j = M.1 59 j := by rw [cS5 9 j (by omega), cS2 9 j (by decide) (by omega)]; exact (a3 j hj).1
      rw [v2 9 j (by decide) (by decide), u3 j hj, x3 j hj, c59 j, e9, hn7]
      refine ⟨rfl, ?_⟩
      by_cases c : hoB (nI nh) (M.1 59 j) = true
      · rw [if_pos c]; exact told_of d1 c
      · rw [if_neg c]; exact Or.inl rfl
    · obtain ⟨_, _, _, _, z5, z6⟩ := a4
      have c19 : ∀ k, 3 < k → S7.1 19 k = S.1 19 k := fun k hk => by rw [v6 k hk, u2 19 k (by decide), cS5 19 k (by omega), cS2 19 k (by decide) (by omega)]
      refine ⟨fun i hi => ?_, ?_, ?_, ?_, ?_, ?_⟩
      · rw [v7 i hi, c56 i hi]; exact ⟨rfl, ⟨0, Nat.zero_le _, rfl⟩, fun _ => rfl⟩
      · rw [v3, c5616]; exact ⟨rfl, Or.inl rfl⟩
      · rw [v4, c5617]; exact ⟨rfl, 0, Nat.zero_le _, rfl⟩
      · rw [v5, c5618]; exact ⟨rfl, 0, Nat.zero_le _, rfl⟩
      · rw [c19 4 (by decide), c56k 19 (by decide)]; exact z5
      · rw [c19 5 (by decide), c56k 20 (by decide)]; exact z6
    · refine a5.cg (fun o k hp => ?_) (fun o k hp => ?_)
      · unfold kepC at hp
        rw [cS7 o k (by omega) (by omega) (by omega) (by omega), cS2 o k (by omega) (by omega)]
      · unfold kepM at hp
        rw [cM o k (by omega) (by omega) (by omega) (by omega), hM.2 o k (by unfold rdM; omega)]
    · refine ⟨⟨0, by decide, ?_, cM11⟩, fun j hj => ?_⟩
      · rw [v2 1 1 (by decide) (by decide), u2 1 1 (by decide)]
        show (pI S2' 1 1 0).1 1 1 = 0
        exact pI_same _ _ _ _
      · rw [cS7 2 j (by decide) (by decide) (by decide) (by omega), cS2 2 j (by decide) (by omega), cM 64 j (by decide) (by decide) (by omega) (by omega), hM.2 64 j (by unfold rdM; omega)]
        exact a6.2 j hj
    · exact d0.cg (fun o h1 h2 k _ => cM o k (by omega) (by omega) (by omega) (by omega))
    · refine a8.cg r72 r73 (fun o k hp => ?_) (fun o k hp => ?_)
      · unfold rulC at hp
        rw [cS7 o k (by omega) (by omega) (by omega) (by omega), cS2 o k (by omega) (by omega)]
      · unfold rulM at hp
        rw [cM o k (by omega) (by omega) (by omega) (by omega), hM.2 o k (by unfold rdM; omega)]
theorem begins12 (M : St) (x : Int32) : fX12_beginsText M x = some (pI (pI (pI (pI M 55 12 0) 55 13 x) 55 17 0) 55 19 0) := rfl
theorem start0 {b : Nat → Nat} {z n : Nat} {S : St} (hT : TapS b z S) (hn : n ≤ z) (hz : z ≤ 260) (h1 : 1 ≤ n) : ∃ S', fX0_start S (nI n) = some S' ∧ Ex 3 S S' ∧ Cu b z n S' 0 0 := by
  have t1 : TapS b z (pI (pI S 3 1 (nI n)) 3 2 0) := ⟨by rw [pI_row _ _ (by decide), pI_row _ _ (by decide)]; exact hT.1, fun j hj => by rw [pI_row _ _ (by decide), pI_row _ _ (by decide)]; exact hT.2 j hj⟩
  have e : fX0_start S (nI n) = some (pI (pI (pI (pI S 3 1 (nI n)) 3 2 0) 3 3 (nI (b 0))) 3 4 0) := by
    have hy : fX7_byteAt (pI (pI S 3 1 (nI n)) 3 2 0) 0 = some (nI (b 0), pI (pI S 3 1 (nI n)) 3 2 0) := byte7 (j := 0) t1 hz (by omega)
    unfold fX0_start
    rw [bS_e, bS_e, hy, bi_some, bS_e, bS_e]
  refine ⟨_, e, ((((Ex.rf 3 S).put _ _).put _ _).put _ _).put _ _, ⟨?_, fun j hj => ?_⟩, hn, hz, Nat.zero_le _, ?_, ?_, ?_, pI_same _ _ _ _⟩
  · rw [pI_row _ _ (by decide), pI_row _ _ (by decide)]; exact t1.1
  · rw [pI_row _ _ (by decide), pI_row _ _ (by decide)]; exact t1.2 j hj
  · rw [pI_cell _ _ (by decide), pI_cell _ _ (by decide), pI_cell _ _ (by decide), pI_same]
  · rw [pI_cell _ _ (by decide), pI_cell _ _ (by decide), pI_same]; rfl
  · rw [pI_cell _ _ (by decide), pI_same, sg_lt (by omega)]
theorem sim_terrace (S M : St) (x : Int32) (h : Rel S M) : ∃ v S1 M1, fX11_terrace S x = some (v, S1) ∧ fX12_terrace M x = some (v, M1) ∧ Rel S1 M1 := by
  obtain ⟨b, z, hz, hb, hT, hT2, hz2⟩ := h.tap
  have hti := h.2.1.1
  have hti1 := h.2.1.2.1
  unfold fX11_terrace fX12_terrace
  simp only [in12, bi_some, ite_b2i, rng2, i1, i200]
  by_cases hx : inR x 1 200 = true
  · obtain ⟨n, h1, h2, rfl⟩ := inR_natL (m := 1) (n := 200) hx (by decide)
    simp only [hx, if_true, holds7 hT hz (show n < 2 ^ 31 by omega), bi_some, ite_b2i, hz2, nle (show n < 2 ^ 31 by omega) (show z < 2 ^ 31 by omega)]
    by_cases hn : n ≤ z
    · rw [if_pos (show decide (n ≤ z) = true by simpa using hn), if_pos hn, if_pos hti1, begins12, bv_some, bS_e, bS_e, bS_e]
      obtain ⟨S1, s1, s2, s3⟩ := start0 hT hn hz h1
      have ht : 3 < S.2.2 1 := by unfold isT at hti1; omega
      have hht : S.2.2 1 ≠ 3 := by omega
      generalize hM5 : pI (pI (pI (pI (pI (pI (pI M 55 12 0) 55 13 (nI n)) 55 17 0) 55 19 0) 55 38 0) 55 39 0) 55 40 0 = M5
      have fM : FrM M M5 := by
        rw [← hM5]
        exact (((((((FrM.put _ (by unfold rdM; omega) _).tr (FrM.put _ (by unfold rdM; omega) _)).tr (FrM.put _ (by unfold rdM; omega) _)).tr (FrM.put _ (by unfold rdM; omega) _)).tr (FrM.put _ (by unfold rdM; omega) _)).tr (FrM.put _ (by unfold rdM; omega) _)).tr (FrM.put _ (by unfold rdM; omega) _))
      have hMu : Mu b n M5 0 := by
        rw [← hM5]
        refine ⟨fun j hj => ?_, hb, by omega, Nat.zero_le _, ?_, ?_⟩
        · rw [pI_row _ _ (by decide), pI_row _ _ (by decide), pI_row _ _ (by decide), pI_row _ _ (by decide), pI_row _ _ (by decide), pI_row _ _ (by decide), pI_row _ _ (by decide)]; exact hT2 j hj
        · rw [pI_cell _ _ (by decide), pI_cell _ _ (by decide), pI_cell _ _ (by decide), pI_cell _ _ (by decide), pI_cell _ _ (by decide), pI_cell _ _ (by decide), pI_same]; rfl
        · rw [pI_cell _ _ (by decide), pI_cell _ _ (by decide), pI_cell _ _ (by decide), pI_cell _ _ (by decide), pI_cell _ _ (by decide), pI_same]
      have h38 : M5.1 55 38 = nI 0 := by rw [← hM5, pI_cell _ _ (by decide), pI_cell _ _ (by decide), pI_same]; rfl
      have h39 : M5.1 55 39 = nI 0 := by rw [← hM5, pI_cell _ _ (by decide), pI_same]; rfl
      have h40 : M5.1 55 40 = nI 0 := by rw [← hM5, pI_same]; rfl
      have hNew : RNew M5 := h.2.2.2.2.2.2.1.cg (fun o h1 h2 k _ => by rw [← hM5, pI_row _ _ (by omega), pI_row _ _ (by omega), pI_row _ _ (by omega), pI_row _ _ (by omega), pI_row _ _ (by omega), pI_row _ _ (by omega), pI_row _ _ (by omega)])
      have hz0 : ∀ i, (0 : Nat).testBit i = true → False := fun i q => by rw [Nat.zero_testBit] at q; cases q
      have hC2 : Cu b z n (pI (pI S1 (S.2.2 1) 7 0) (S.2.2 1) 8 0) 0 0 := s3.oth (by rw [pI_row _ _ (by omega), pI_row _ _ (by omega)]) (by rw [pI_row _ _ (by omega), pI_row _ _ (by omega)]) (by rw [pI_row _ _ (by omega), pI_row _ _ (by omega)])
      have hD : Dr (pI (pI S1 (S.2.2 1) 7 0) (S.2.2 1) 8 0) M5 (S.2.2 1) := ⟨hNew, 0, 0, by decide, by decide, by rw [pI_cell _ _ (by omega), pI_same]; rfl, h38, pI_same _ _ _ _, h39, fun i _ q => (hz0 i q).elim, fun i _ q => (hz0 i q).elim⟩
      obtain ⟨S', M', o1, o2, o3⟩ := terr_loop (b := b) (z := z) (n := n) ht 33 0 (pI (pI S1 (S.2.2 1) 7 0) (S.2.2 1) 8 0) M5 0 100 300 rfl (by decide) hC2 hMu hD h40 (by decide) (by decide)
      have hFr : FrT (S.2.2 1) S S' := ((FrT.ex s2).tr ((FrT.put _ (by omega) (by omega) _ _).tr (FrT.put _ (by omega) (by omega) _ _))).tr o1
      have hFm : FrM M M' := fM.tr o2
      have ec : fX9_readTerrace (S.2.2 1) S (nI n) = fX9_readTerrace_17 (S.2.2 1) 100 (pI (pI S1 (S.2.2 1) 7 0) (S.2.2 1) 8 0) (nI 0) 1 := by
        unfold fX9_readTerrace fX8_clear
        rw [s1, bv_some, bS_e, bS_e, bv_some]
        rfl
      rw [ec]
      rcases o3 with ⟨L, l1, l2, l3, l4, l5⟩ | ⟨v, v1, v2, v3, v4, v5⟩
      · obtain ⟨d0, nh, nt, d1, d2, d3, d4, d5, d6, d7, d8⟩ := id l2
        have hDN : DrN S' (S.2.2 1) nh nt (fun i => gv (M'.1 78 i)) (fun i => gv (M'.1 79 i)) (fun i => gv (M'.1 80 i)) (fun i => gv (M'.1 81 i)) := by
          refine ⟨d1, d2, d3, d5, fun i hi q => ?_, fun i hi q => ?_⟩
          · rw [d7 i hi q]
            exact d0 78 (by decide) (by decide) i hi
          · obtain ⟨x1, x2, x3⟩ := d8 i hi q
            rw [x1, x2, x3]
            exact ⟨d0 79 (by decide) (by decide) i hi, d0 80 (by decide) (by decide) i hi, d0 81 (by decide) (by decide) i hi⟩
        obtain ⟨S2, b1, b2, b3, b4⟩ := look8 hDN
        rw [l4, b4, bv_some, bi_some, clear7, bv_some, if_neg (show ¬ nI L < 0 from nI_pos (by omega))]
        have f0 : (pI S2 1 1 0).2.2 0 = S.2.2 0 := by show S2.2.2 0 = _; rw [b1.1, hFr.1]
        have f1 : (pI S2 1 1 0).2.2 1 = S.2.2 1 := by show S2.2.2 1 = _; rw [b1.1, hFr.1]
        obtain ⟨S7, M7, y1, y2, y3⟩ := h.newStreet hFr hFm l2 l3 b4
        refine ⟨nI L, S7, M7, ?_, ?_, y3⟩
        · rw [if_pos (by rw [f0]; exact hti), if_pos (by rw [f1]; exact hti1), bS_e, bS_e]
          exact y1
        · rw [l5]
          exact y2
      · rw [v4, bi_some, clear7, bv_some, if_pos v1, v5]
        refine ⟨v, _, _, rfl, ?_, h.read hFr hFm v2⟩
        unfold fX12_terrace_86
        rw [bS_e, if_pos rfl, pI_cell _ _ (by decide), v3]
    · rw [if_neg (show ¬ decide (n ≤ z) = true by simpa using hn), if_neg hn]
      exact ⟨_, _, _, rfl, rfl, h⟩
  · simp only [hx, Bool.false_eq_true, if_false]
    exact ⟨_, _, _, rfl, rfl, h⟩
