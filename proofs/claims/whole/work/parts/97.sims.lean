-- rota
theorem Rel.rotaAll {S M S' M' : St} (h : Rel S M) (hC : S'.2.2 = S.2.2) (cS : ∀ o k, o ≠ 9 → S'.1 o k = S.1 o k) (cM : ∀ o k, o ≠ 59 → M'.1 o k = M.1 o k) (hR : RRot S' M') : Rel S' M' := by
  obtain ⟨a1, a2, a3, a4, a5, a6, a7, a8⟩ := h
  have hT := a2.1
  have hL := a8.1
  unfold isT at hT
  unfold isL at hL
  have hn : hN M' = hN M := by unfold hN; rw [cM 55 8 (by decide)]
  have aM : AgC strM M M' := fun o k hp => cM o k (by unfold strM at hp; omega)
  refine ⟨a1.cg aM, a2.cg aM (by rw [hC]) (by rw [hC]) (fun o k hp => cS o k (by unfold strC at hp; omega)), hR, ?_, a5.cg (fun o k hp => cS o k (by unfold kepC at hp; omega)) (fun o k hp => cM o k (by unfold kepM at hp; omega)), a6.cg (cS 1 1 (by decide)) (cM 55 11 (by decide)) (fun j _ => cS 2 j (by decide)) (fun j _ => cM 64 j (by decide)), a7.cg (fun o h1 h2 k _ => cM o k (by omega)), a8.cg (by rw [hC]) (by rw [hC]) (fun o k hp => cS o k (by unfold rulC at hp; omega)) (fun o k hp => cM o k (by unfold rulM at hp; omega))⟩
  rw [hn]
  exact a4.cg (fun k _ => cS 20 k (by decide)) (fun k _ => cS 19 k (by decide)) (fun k _ => cM 56 k (by decide))
theorem give95 (t : Nat) {S : St} {l : Nat} (hl : l ≤ 12) (h : S.1 5 2 = nI l) : ∃ S', Ex 9 S S' ∧ (∀ j, j < 12 → S'.1 9 j = if j < l then S.1 6 j else -1) ∧ fX5_readRota_95 t 100 S 0 = some (nI l, S') := by
  have key := loop_inv (F := fun f S i => fX5_readRota_95 t f S (nI i)) (fun i S' => Ex 9 S S' ∧ ∀ j, j < i → S'.1 9 j = if j < l then S.1 6 j else -1) (fun S' => some (nI l, S')) 12 (fun f S' i hi hq => by
      obtain ⟨q1, q2⟩ := hq
      have e5 : S'.1 5 2 = nI l := by rw [q1.2 5 (by decide)]; exact h
      refine ⟨pI S' 9 i (if i < l then S.1 6 i else -1), ?_, q1.put _ _, fun j hj => ?_⟩
      · show bX5_readRota_95 _ _ _ _ = _
        unfold bX5_readRota_95 fX5_readRota_125
        rw [li 12, if_neg (by rw [nle (by decide) (by omega)]; omega), e5]
        by_cases c : i < l
        · rw [if_pos c, if_neg (show ¬ nI l ≤ nI i by rw [nle (by omega) (by omega)]; omega), if_pos (inbT hi (by decide)), nI_clamp (by omega), q1.2 6 (by decide), give4 hi, bv_some, bV_e, nI_1]
        · rw [if_neg c, if_pos (show nI l ≤ nI i by rw [nle (by omega) (by omega)]; omega), give4 hi, bv_some, bV_e, nI_1]
      · by_cases e : j = i
        · subst e; rw [pI_same]
        · rw [pI_cell _ _ (by omega)]; exact q2 j (by omega)) (fun f S' hq => by
      have e5 : S'.1 5 2 = nI l := by rw [hq.1.2 5 (by decide)]; exact h
      show bX5_readRota_95 t _ _ _ = _
      unfold bX5_readRota_95
      rw [if_pos (by decide), e5]) 12 100 S 0 rfl (by decide) ⟨Ex.rf _ _, fun j hj => absurd hj (Nat.not_lt_zero _)⟩
  obtain ⟨S', ⟨k1, k2⟩, k3⟩ := key
  exact ⟨S', k1, k2, k3⟩
theorem give103 {M : St} {l : Nat} (hl : l ≤ 12) (h : M.1 55 46 = nI l) : ∃ M', Ex 59 M M' ∧ (∀ j, j < 12 → M'.1 59 j = if j < l then M.1 82 j else -1) ∧ fX12_rota_103 100 M 0 = some (nI l, M') := by
  have key := loop_inv (F := fun f S i => fX12_rota_103 f S (nI i)) (fun i S' => Ex 59 M S' ∧ ∀ j, j < i → S'.1 59 j = if j < l then M.1 82 j else -1) (fun S' => some (nI l, S')) 12 (fun f S' i hi hq => by
      obtain ⟨q1, q2⟩ := hq
      have e5 : S'.1 55 46 = nI l := by rw [q1.2 55 (by decide)]; exact h
      refine ⟨pI S' 59 i (if i < l then M.1 82 i else -1), ?_, q1.put _ _, fun j hj => ?_⟩
      · show bX12_rota_103 _ _ _ = _
        unfold bX12_rota_103
        rw [li 12, if_neg (by rw [nle (by decide) (by omega)]; omega), e5]
        by_cases c : i < l
        · rw [if_pos c, if_neg (show ¬ nI l ≤ nI i by rw [nle (by omega) (by omega)]; omega), if_pos (inbT hi (by decide)), if_pos (inbT hi (by decide)), nI_clamp (by omega), q1.2 82 (by decide), bS_e, bV_e, nI_1]
        · rw [if_neg c, if_pos (show nI l ≤ nI i by rw [nle (by omega) (by omega)]; omega), if_pos (inbT hi (by decide)), nI_clamp (by omega), bS_e, bV_e, nI_1]
      · by_cases e : j = i
        · subst e; rw [pI_same]
        · rw [pI_cell _ _ (by omega)]; exact q2 j (by omega)) (fun f S' hq => by
      have e5 : S'.1 55 46 = nI l := by rw [hq.1.2 55 (by decide)]; exact h
      show bX12_rota_103 _ _ _ = _
      unfold bX12_rota_103
      rw [if_pos (by decide), e5]) 12 100 M 0 rfl (by decide) ⟨Ex.rf _ _, fun j hj => absurd hj (Nat.not_lt_zero _)⟩
  obtain ⟨S', ⟨k1, k2⟩, k3⟩ := key
  exact ⟨S', k1, k2, k3⟩
theorem told_st {M : St} {nh l i : Nat} (h8 : M.1 55 8 = nI nh) (hl : l ≤ 12) (h : M.1 55 46 = nI l) (hi : i < l) (hs : ¬ strN nh (M.1 82 i)) (f : Nat) : fX12_areTold_2 (f + 1) M (nI i) = fX12_areTold_2 f M (nI (i + 1)) := by
  show bX12_areTold_2 _ _ _ = _
  unfold bX12_areTold_2
  rw [h, if_neg (show ¬ nI l ≤ nI i by rw [nle (by omega) (by omega)]; omega), if_pos (inbT (by omega) (by decide)), nI_clamp (by omega)]
  by_cases c : M.1 82 i = -1
  · rw [if_pos c, bV_e, nI_1]
  · have hb : hoB (nI nh) (M.1 82 i) = true := by
      cases q : hoB (nI nh) (M.1 82 i) with
      | true => rfl
      | false => exact absurd ⟨c, q⟩ hs
    rw [if_neg c, if_pos (inbT (by omega) (by decide)), isHouse12, bi_some, h8, hb, b2i_t, if_neg (by decide), bV_e, nI_1]
theorem told_none {M : St} {nh l : Nat} (h8 : M.1 55 8 = nI nh) (hl : l ≤ 12) (h : M.1 55 46 = nI l) (hs : ∀ j, j < l → ¬ strN nh (M.1 82 j)) : fX12_areTold M = some (1, M) := by
  have : ∀ m i f, i + m = l → m < f → fX12_areTold_2 f M (nI i) = some (1, M) := by
    intro m
    induction m with
    | zero =>
      intro i f h1 h2
      obtain ⟨f, rfl⟩ : ∃ f', f = f' + 1 := ⟨f - 1, by omega⟩
      show bX12_areTold_2 _ _ _ = _
      unfold bX12_areTold_2
      rw [h, if_pos (show nI l ≤ nI i by rw [nle (by omega) (by omega)]; omega)]
    | succ m ih =>
      intro i f h1 h2
      obtain ⟨f, rfl⟩ : ∃ f', f = f' + 1 := ⟨f - 1, by omega⟩
      rw [told_st h8 hl h (by omega) (hs i (by omega))]
      exact ih (i + 1) f (by omega) (by omega)
  exact this l 0 100 (by omega) (by omega)
theorem told_str {M : St} {nh l j q : Nat} (h8 : M.1 55 8 = nI nh) (hl : l ≤ 12) (h : M.1 55 46 = nI l) (hj : j < l) (hs : strN nh (M.1 82 j)) (hb : ∀ i, i < j → ¬ strN nh (M.1 82 i)) (hq : M.1 83 j = nI q) : fX12_areTold M = some (0, pI M 55 14 (flt 7 q)) := by
  have : ∀ m i f, i + m = j → m < f → fX12_areTold_2 f M (nI i) = some (0, pI M 55 14 (flt 7 q)) := by
    intro m
    induction m with
    | zero =>
      intro i f h1 h2
      obtain ⟨f, rfl⟩ : ∃ f', f = f' + 1 := ⟨f - 1, by omega⟩
      have : i = j := by omega
      subst this
      show bX12_areTold_2 _ _ _ = _
      unfold bX12_areTold_2
      rw [h, if_neg (show ¬ nI l ≤ nI i by rw [nle (by omega) (by omega)]; omega), if_pos (inbT (by omega) (by decide)), nI_clamp (by omega), if_neg hs.1, if_pos (inbT (by omega) (by decide)), isHouse12, bi_some, h8, hs.2, b2i_f, if_pos rfl, if_pos (inbT (by omega) (by decide)), hq, li 7, wrong12, bi_some, if_pos (Or.inl rfl)]
    | succ m ih =>
      intro i f h1 h2
      obtain ⟨f, rfl⟩ : ∃ f', f = f' + 1 := ⟨f - 1, by omega⟩
      rw [told_st h8 hl h (by omega) (hb i (by omega))]
      exact ih (i + 1) f (by omega) (by omega)
  exact this j 0 100 (by omega) (by omega)
theorem r74n {t : Nat} {S : St} {v : Int32} (hv : v ≠ 0) (h : S.1 3 4 = v) : fX5_readRota_74 t S = some (v, S) := by
  have : decide (v = 0) = false := by simpa using hv
  unfold fX5_readRota_74
  rw [fine0, bi_some, h, this, b2i_f, if_pos rfl]
theorem r53n {t : Nat} {S : St} {v : Int32} (hv : v ≠ 0) (h : S.1 3 4 = v) : fX5_readRota_53 t S = some (v, S) := by
  unfold fX5_readRota_53
  rw [fail0n (by rw [h]; exact hv), bv_some, r74n hv h, ite_self]
theorem FrR.eqC {S M S' : St} (h : Rel S M) (e : FrR S S') : EqC S S' := by
  refine ⟨by rw [e.1], fun o k hc => ?_⟩
  have hT := h.2.1.1
  have hL := h.2.2.2.2.2.2.2.1
  unfold isT at hT
  unfold isL at hL
  unfold coreC at hc
  rw [e.2 o (by omega) (by omega) (by omega)]
theorem FrQ.clr {M M' : St} (e : FrQ M M') : EqM (pI M 55 11 0) (pI M' 55 11 0) := fun o k hc => by
  by_cases c : o = 55 ∧ k = 11
  · obtain ⟨rfl, rfl⟩ := c
    rw [pI_same, pI_same]
  · rw [pI_cell _ _ c, pI_cell _ _ c, e.2 o k (by unfold coreM at hc; unfold rqM; omega)]
theorem sim_rota (S M : St) (x : Int32) (h : Rel S M) : ∃ v S1 M1, fX11_rota S x = some (v, S1) ∧ fX12_rota M x = some (v, M1) ∧ Rel S1 M1 := by
  obtain ⟨b, z, hz, hb, hT, hT2, hz2⟩ := h.tap
  have hti := h.2.1.1
  unfold fX11_rota fX12_rota
  simp only [in12, bi_some, ite_b2i, rng2, i1, i60]
  by_cases hx : inR x 1 60 = true
  · obtain ⟨n, h1, h2, rfl⟩ := inR_natL (m := 1) (n := 60) hx (by decide)
    simp only [hx, if_true, holds7 hT hz (show n < 2 ^ 31 by omega), bi_some, ite_b2i, hz2, nle (show n < 2 ^ 31 by omega) (show z < 2 ^ 31 by omega)]
    by_cases hn : n ≤ z
    · rw [if_pos (show decide (n ≤ z) = true by simpa using hn), if_pos hn, if_pos hti, begins12, bv_some, bS_e, bS_e]
      obtain ⟨S1, s1, s2, s3⟩ := start0 hT hn hz h1
      have ht : 6 < S.2.2 0 := by unfold isT at hti; omega
      generalize hM5 : pI (pI (pI (pI (pI (pI M 55 12 0) 55 13 (nI n)) 55 17 0) 55 19 0) 55 46 0) 55 47 0 = M5
      have fM : FrQ M M5 := by
        rw [← hM5]
        exact (((((FrQ.put _ (by unfold rqM; omega) _).tr (FrQ.put _ (by unfold rqM; omega) _)).tr (FrQ.put _ (by unfold rqM; omega) _)).tr (FrQ.put _ (by unfold rqM; omega) _)).tr (FrQ.put _ (by unfold rqM; omega) _)).tr (FrQ.put _ (by unfold rqM; omega) _)
      have hMu : Mu b n M5 0 := by
        rw [← hM5]
        refine ⟨fun j hj => ?_, hb, by omega, Nat.zero_le _, ?_, ?_⟩
        · rw [pI_row _ _ (by decide), pI_row _ _ (by decide), pI_row _ _ (by decide), pI_row _ _ (by decide), pI_row _ _ (by decide), pI_row _ _ (by decide)]; exact hT2 j hj
        · rw [pI_cell _ _ (by decide), pI_cell _ _ (by decide), pI_cell _ _ (by decide), pI_cell _ _ (by decide), pI_cell _ _ (by decide), pI_same]; rfl
        · rw [pI_cell _ _ (by decide), pI_cell _ _ (by decide), pI_cell _ _ (by decide), pI_cell _ _ (by decide), pI_same]
      have h46 : M5.1 55 46 = nI 0 := by rw [← hM5, pI_cell _ _ (by decide), pI_same]; rfl
      have h47 : M5.1 55 47 = nI 0 := by rw [← hM5, pI_same]; rfl
      have h8 : M5.1 55 8 = nI (hN M) := by rw [fM.2 55 8 (by unfold rqM; omega)]; exact h.1.1.1
      have hC3 : Cu b z n (pI (pI S1 5 2 0) 5 3 (-1)) 0 0 := s3.oth (by rw [pI_row _ _ (by decide), pI_row _ _ (by decide)]) (by rw [pI_row _ _ (by decide), pI_row _ _ (by decide)]) (by rw [pI_row _ _ (by decide), pI_row _ _ (by decide)])
      have h7 : (pI (pI S1 5 2 0) 5 3 (-1)).1 (S.2.2 0) 7 = nI (hN M) := by
        rw [pI_row _ _ (by omega), pI_row _ _ (by omega), s2.2 _ (by omega)]
        exact (h.2.1.2.2.2.1).trans h.1.1.1
      have hI : RtI b z n (S.2.2 0) (hN M) (pI (pI S1 5 2 0) 5 3 (-1)) M5 0 0 0 := ⟨hC3, hMu, by omega, h.1.1.2, h7, h8, ⟨by decide, by rw [pI_cell _ _ (by decide), pI_same]; rfl, h46, fun j hj => absurd hj (Nat.not_lt_zero _), Or.inl ⟨pI_same _ _ _ _, fun j hj => absurd hj (Nat.not_lt_zero _)⟩⟩, h47⟩
      obtain ⟨S4, o1, o2, o3⟩ := turns_all ht (pI (pI S1 5 2 0) 5 3 (-1)) M5 0 0 12 100 100 hI (by decide) (by decide) (by decide)
      have fr4 : FrR S S4 := (FrR.ex s2).tr (((FrR.put _ (by decide) _ _).tr (FrR.put _ (by decide) _ _)).tr o2)
      have eS : (bi (fX12_readsTurn M5) fun r5 S5 => fX12_rota_40 100 S5 r5) = ST 100 100 M5 := rfl
      have eC : fX5_readRota (S.2.2 0) S (nI n) = bi (fX0_fine S4) fun r4 S5 => if r4 = 0 then (fX5_readRota_53 (S.2.2 0) S5) else (if (S5.1 3 3) = (-1 : Int32) then (fX5_readRota_53 (S.2.2 0) S5) else (bv (fX0_failHere S5 (1 : Int32)) fun S6 => fX5_readRota_53 (S.2.2 0) S6)) := by
        have o1' : fRR 12 0 (S.2.2 0) (pI (pI S1 5 2 0) 5 3 (-1)) 0 = some S4 := o1
        unfold fX5_readRota
        rw [s1, bv_some, bS_e, bS_e, o1', bv_some]
      have mbad : ∀ (M' : St) (v : Int32), M'.1 55 14 = v → fX12_rota_70 M' 0 = some (v, pI M' 55 11 0) := fun M' v e => by
        unfold fX12_rota_70 fX12_rota_85 fX12_rota_86
        rw [if_pos rfl, bS_e, if_pos rfl, pI_cell _ _ (by decide), e]
      rw [eC, eS, fine0, bi_some]
      rcases o3 with ⟨v, p', M', v1, v2, v3, v4, v5⟩ | ⟨p', l, M', c', g', y0, y1, y2, y3, y4, y5, y6, y7, y8⟩
      · have h34 := v2.2.2.2.2.2.2.2
        have hdv : decide (v = 0) = false := by
          have := ne_of_neg v1
          simpa using this
        rw [h34, hdv, b2i_f, if_pos rfl, r53n (ne_of_neg v1) h34, bi_some, clear7, bv_some, v5, mbad M' v v4]
        exact ⟨v, _, _, rfl, rfl, h.done (FrR.eqC h fr4) (fM.tr v3).clr⟩
      · have h34 := y3.1.2.2.2.2.2.2.2
        have h33 := y3.1.2.2.2.2.2.2.1
        have hp' := y3.1.2.2.2.1
        obtain ⟨c', rfl⟩ : ∃ w, c' = w + 1 := ⟨c' - 1, by omega⟩
        obtain ⟨g', rfl⟩ : ∃ w, g' = w + 1 := ⟨g' - 1, by omega⟩
        have hD := y3.2.2.2.2.2.2.1
        have hl12 := hD.1
        have e241 : fX12_readsTurn_241 (c' + 1) M' = some (1, M') := by
          show bX12_readsTurn_241 _ _ = _
          unfold bX12_readsTurn_241
          rw [here12 y3.2.1, bi_some, y3.2.2.2.2.2.2.2, if_pos (show nI 0 ≤ 0 by decide)]
          by_cases w : sg b n p' = 41
          · rw [if_pos w]
          · rw [if_neg w]
        have eAO : AO (g' + 1) (c' + 1) M' = if p' < n then ST g' 100 M' else fX12_rota_70 M' 1 := by
          unfold AO
          rw [e241, bi_some]
          show bX12_rota_40 (fX12_rota_40 g') M' 1 = _
          unfold bX12_rota_40 fX12_rota_62
          rw [if_neg (by decide), y3.2.1.2.2.2.2.1, y3.2.1.2.2.2.2.2, y3.2.2.2.2.2.2.2, if_pos (show nI 0 ≤ 0 by decide)]
          by_cases w : p' < n
          · rw [if_pos w, if_pos (show nI p' < nI n by rw [nlt (by omega) (by omega)]; exact w)]
            rfl
          · rw [if_neg w, if_neg (show ¬ nI p' < nI n by rw [nlt (by omega) (by omega)]; exact w)]
        rw [h34, if_neg (by decide), h33, y8, eAO]
        rcases y0 with y0 | y0
        · have hge : ¬ p' < n := by
            intro w
            rw [sg_lt w] at y0
            exact absurd y0 (nm1 (by have := hb p'; omega))
          rw [if_pos y0, if_neg hge]
          have e70 : fX12_rota_70 M' 1 = bi (fX12_areTold M') fun r2 S1 => if r2 = 0 then (fX12_rota_85 S1) else (fX12_rota_86 S1 (1 : Int32)) := by
            unfold fX12_rota_70
            rw [if_neg (by decide)]
          have h8' : M'.1 55 8 = nI (hN M) := y3.2.2.2.2.2.1
          obtain ⟨d0, d1, d2, d3, d4⟩ := hD
          rw [e70]
          rcases d4 with ⟨k1, k2⟩ | ⟨j, q, k1, k2, k3, k4, k5, k6⟩
          · -- all are told
            obtain ⟨S5, u1, u2, u3⟩ := give95 (S.2.2 0) hl12 d1
            have d2' : (pI M' 55 11 0).1 55 46 = nI l := by rw [pI_cell _ _ (by decide)]; exact d2
            obtain ⟨M6, w1, w2, w3⟩ := give103 hl12 d2'
            have e53 : fX5_readRota_53 (S.2.2 0) S4 = some (nI l, S5) := by
              unfold fX5_readRota_53 fX5_readRota_74
              rw [if_pos k1, fine0, bi_some, h34, if_neg (by decide)]
              exact u3
            rw [e53, bi_some, clear7, bv_some, told_none h8' hl12 d2 k2, bi_some, if_neg (by decide)]
            unfold fX12_rota_86
            rw [bS_e, if_neg (by decide), w3]
            have hr : Rel (pI S4 1 1 0) (pI M' 55 11 0) := h.done (FrR.eqC h fr4) (fM.tr y4).clr
            have hnM : hN M6 = hN M := by
              unfold hN
              rw [w1.2 55 (by decide), pI_cell _ _ (by decide), (fM.tr y4).2 55 8 (by unfold rqM; omega)]
            refine ⟨nI l, _, _, rfl, rfl, hr.rotaAll (by show S5.2.2 = S4.2.2; rw [u1.1]) (fun o k ho => ?_) (fun o k ho => by rw [w1.2 o ho]) (fun j hj => ?_)⟩
            · by_cases e11 : o = 1 ∧ k = 1
              · obtain ⟨rfl, rfl⟩ := e11
                rw [pI_same, pI_same]
              · rw [pI_cell _ _ e11, pI_cell _ _ e11, u1.2 o ho]
            · rw [pI_row _ _ (by decide), u2 j hj, w2 j hj, hnM]
              by_cases c1 : j < l
              · rw [if_pos c1, if_pos c1, pI_row _ _ (by decide), d3 j c1]
                refine ⟨rfl, ?_⟩
                by_cases c2 : M'.1 82 j = -1
                · exact Or.inl c2
                · have hb2 : hoB (nI (hN M)) (M'.1 82 j) = true := by
                    cases w : hoB (nI (hN M)) (M'.1 82 j) with
                    | true => rfl
                    | false => exact absurd ⟨c2, w⟩ (k2 j c1)
                  exact told_of h.1.1.2 hb2
              · rw [if_neg c1, if_neg c1]
                exact ⟨rfl, Or.inl rfl⟩
          · have hv : flt 7 q < 0 := flt_neg (by decide) (by decide) k2
            have e53 : fX5_readRota_53 (S.2.2 0) S4 = some (flt 7 q, pI S4 3 4 (flt 7 q)) := by
              unfold fX5_readRota_53
              rw [k5, if_neg (nm1 (by omega)), li 7, fail0 y3.1, bv_some, r74n (ne_of_neg hv) (pI_same _ _ _ _)]
            rw [e53, bi_some, clear7, bv_some, told_str h8' hl12 d2 k1 k3 k4 k6, bi_some, if_pos rfl]
            unfold fX12_rota_85 fX12_rota_86
            rw [bS_e, if_pos rfl, pI_cell _ _ (by decide), pI_same]
            exact ⟨flt 7 q, _, _, rfl, rfl, h.done (FrR.eqC h (fr4.tr (FrR.put _ (by decide) _ _))) ((fM.tr y4).tr (FrQ.put _ (by unfold rqM; omega) _)).clr⟩
        · have hpn : p' < n := sg_in (by rw [y0]; decide)
          have hv : flt 1 p' < 0 := flt_neg (by decide) (by decide) (by omega)
          obtain ⟨M9, z1, z2, z3⟩ := ST_bad (g := g') (c := 100) y3.2.1 hD.2.2.1 hl12 (by omega) (by decide) (Or.inr y0)
          rw [if_neg (by rw [y0]; decide), li 1, failH y3.1, bv_some, r53n (ne_of_neg hv) (pI_same _ _ _ _), bi_some, clear7, bv_some, if_pos hpn, z3, mbad M9 _ z2]
          exact ⟨flt 1 p', _, _, rfl, rfl, h.done (FrR.eqC h (fr4.tr (FrR.put _ (by decide) _ _))) ((fM.tr y4).tr z1).clr⟩
    · rw [if_neg (show ¬ decide (n ≤ z) = true by simpa using hn), if_neg hn]
      exact ⟨_, _, _, rfl, rfl, h⟩
  · simp only [hx, Bool.false_eq_true, if_false]
    exact ⟨_, _, _, rfl, rfl, h⟩
