theorem RtI.adv {b : Nat → Nat} {z n t nh : Nat} {S M S' M' : St} {p l d q e l' : Nat} (h : RtI b z n t nh S M p l d) (hC : Cu b z n S' q 0) (hM : Mu b n M' q) (e7 : S'.1 t 7 = S.1 t 7) (e8 : M'.1 55 8 = M.1 55 8) (hD : DrL nh S' M' l') (e47 : M'.1 55 47 = nI e) : RtI b z n t nh S' M' q l' e := ⟨hC, hM, h.2.2.1, h.2.2.2.1, by rw [e7]; exact h.2.2.2.2.1, by rw [e8]; exact h.2.2.2.2.2.1, hD, e47⟩
theorem round4 {b : Nat → Nat} {n p d l tm fi : Nat} {M : St} (hM : Mu b n M p) (h40 : sg b n p = nI 40) (hd : d ≤ 2) (h47 : M.1 55 47 = nI d) (hfi : M.1 55 48 = nI fi) (htm : M.1 55 49 = nI tm) (hl : M.1 55 46 = nI l) (c : Nat) : fX12_readsTurn_4 (c + 1) M = if d = 2 then some (0, pI M 55 14 (flt 5 p)) else bv (fX12_readsTimes (pI (pI (pI (pI (pI M 84 d (nI fi)) 85 d (nI l)) 86 d (nI tm)) 55 47 (nI (d + 1))) 55 12 (nI (p + 1)))) fun S9 => fX12_readsTurn_4 c S9 := by
  have hp := hM.2.2.2.2.1
  show bX12_readsTurn_4 _ _ = _
  unfold bX12_readsTurn_4
  rw [here12 hM, bi_some, li 40, if_pos h40, h47]
  by_cases e : d = 2
  · rw [if_pos e, if_pos (show nI d = (2 : Int32) by rw [e]; rfl), hp, li 5, wrong12, bi_some, if_pos (Or.inl rfl)]
  · have g1 : (pI M 84 d (nI fi)).1 55 47 = nI d := by rw [pI_row _ _ (by decide)]; exact h47
    have g2 : (pI M 84 d (nI fi)).1 55 46 = nI l := by rw [pI_row _ _ (by decide)]; exact hl
    have g3 : (pI (pI M 84 d (nI fi)) 85 d (nI l)).1 55 47 = nI d := by rw [pI_row _ _ (by decide)]; exact g1
    have g4 : (pI (pI M 84 d (nI fi)) 85 d (nI l)).1 55 49 = nI tm := by rw [pI_row _ _ (by decide), pI_row _ _ (by decide)]; exact htm
    have g5 : (pI (pI (pI M 84 d (nI fi)) 85 d (nI l)) 86 d (nI tm)).1 55 47 = nI d := by rw [pI_row _ _ (by decide)]; exact g3
    have g6 : (pI (pI (pI (pI M 84 d (nI fi)) 85 d (nI l)) 86 d (nI tm)) 55 47 (nI (d + 1))).1 55 12 = nI p := by rw [pI_cell _ _ (by decide), pI_row _ _ (by decide), pI_row _ _ (by decide), pI_row _ _ (by decide)]; exact hp
    rw [if_neg e, if_neg (show ¬ nI d = (2 : Int32) by rw [li 2, neq (by omega) (by decide)]; exact e), if_pos (inbT (by omega) (by decide)), nI_clamp (by omega), hfi, bS_e, g1, if_pos (inbT (by omega) (by decide)), nI_clamp (by omega), g2, bS_e, g3, if_pos (inbT (by omega) (by decide)), nI_clamp (by omega), g4, bS_e, g5, nI_1, bS_e, g6, nI_1, bS_e]
theorem pop241 {b : Nat → Nat} {n p d l tm fi : Nat} {M : St} (hM : Mu b n M p) (h41 : sg b n p = nI 41) (hd : d < 2) (h47 : M.1 55 47 = nI (d + 1)) (h84 : M.1 84 d = nI fi) (h85 : M.1 85 d = nI l) (h86 : M.1 86 d = nI tm) (c : Nat) : fX12_readsTurn_241 (c + 1) M = bi (fX12_repeats (pI (pI M 55 12 (nI (p + 1))) 55 47 (nI d)) (nI l) (nI tm) (nI fi)) fun r7 S4 => if r7 = 0 then (some ((0 : Int32), S4)) else (fX12_readsTurn_241 c S4) := by
  have hp := hM.2.2.2.2.1
  have g1 : (pI M 55 12 (nI (p + 1))).1 55 47 = nI (d + 1) := by rw [pI_cell _ _ (by decide)]; exact h47
  have g2 : nI (d + 1) - 1 = nI d := by rw [Int32.sub_eq_add_neg, pk_m1]
  show bX12_readsTurn_241 _ _ = _
  unfold bX12_readsTurn_241
  rw [here12 hM, bi_some, li 41, if_pos h41, h47, if_neg (show ¬ nI (d + 1) ≤ 0 by rw [li 0, nle (by omega) (by decide)]; omega), hp, nI_1, bS_e, g1, g2, bS_e, pI_same, if_pos (inbT hd (by decide)), if_pos (inbT hd (by decide)), if_pos (inbT hd (by decide)), nI_clamp (by omega)]
  simp only [pI_row _ _ (show 84 ≠ 55 by decide), pI_row _ _ (show 85 ≠ 55 by decide), pI_row _ _ (show 86 ≠ 55 by decide), h84, h85, h86]
theorem one_of_turns {b : Nat → Nat} {z n t nh d : Nat} (ht : 6 < t) (hd : d ≤ 2) (hT : d < 2 → TurnsP b z n t nh (d + 1)) : OneP b z n t nh d := by
  intro S M p l k c g hI hk hc hg
  obtain ⟨k, rfl⟩ : ∃ k', k = k' + 2 := ⟨k - 2, by omega⟩
  obtain ⟨c, rfl⟩ : ∃ c', c = c' + 1 := ⟨c - 1, by omega⟩
  have hn60 := hI.2.2.1
  have hp := hI.1.2.2.2.1
  have hb := hI.2.1.2.1
  obtain ⟨S1, M1, p1, tm, t1, t2, t3, t4, t5, t6, t7, t8, t9, t10, t11, t12⟩ := times t hI.1 hI.2.1
  have hp1 := t5.2.2.2.1
  have hl12 := hI.2.2.2.2.2.2.1.1
  have hI1 : RtI b z n t nh S1 M1 p1 l d := hI.adv t5 t8 (by rw [t4.2 t (by omega)]) (t12 55 8 (by omega)) ((hI.2.2.2.2.2.2.1.cl t4).md (t12 55 46 (by omega)) (funext fun k => t12 82 k (by omega)) (funext fun k => t12 83 k (by omega))) (by rw [t12 55 47 (by omega)]; exact hI.2.2.2.2.2.2.2)
  have f1 : FrR S S1 := FrR.ex t4
  have q1 : FrQ M M1 := ⟨t11, fun o k hk => t12 o k (fun w => hk (by unfold rqM; omega))⟩
  have sk1 : StkE 2 M M1 := fun o i h1 h2 h3 => t12 o i (by omega)
  have hg0 : 0 < g := by omega
  have eST : ST g (c + 1) M = bi (fX12_readsTurn_4 (c + 1) M1) fun r S => fX12_rota_40 g S r := by
    unfold ST
    rw [t7, bv_some]
  have h52 := hI1.2.2.2.2.2.2.1.2.1
  have h46 := hI1.2.2.2.2.2.2.1.2.2.1
  rw [fRR_1, t6, eST]
  -- a fault that both find
  have bad : ∀ (S2 : St) (M2 : St) (q : Nat) (v : Int32), v < 0 → FrR S S2 → FrQ M M2 → Cu b z n S2 q v → OutP b z n t nh S M S2 p l d (bi (some ((0 : Int32), pI M2 55 14 v)) fun r S => fX12_rota_40 g S r) (fun _ => True) := fun S2 M2 q v hv a1 a2 a3 => ⟨a1, Or.inl ⟨v, q, pI M2 55 14 v, hv, a3, a2.tr (FrQ.put _ (by unfold rqM; omega) _), pI_same _ _ _ _, by rw [bi_some, r40_0 hg0]⟩⟩
  unfold fX5_readOne_54
  rw [h52, bV_e, t5.2.2.2.2.2.2.1, li 40]
  by_cases c40 : sg b n p1 = nI 40
  · have hpn : p1 < n := sg_in (by rw [c40]; decide)
    rw [if_pos c40, round4 t8 c40 hd hI1.2.2.2.2.2.2.2 t9 t10 h46, fRR_2]
    unfold fX5_readRound
    by_cases e : d = 2
    · have hv : flt 5 p1 < 0 := flt_neg (by decide) (by decide) (by omega)
      rw [if_pos e, if_neg (show ¬ nI d < (2 : Int32) by rw [e]; decide), li 5, failH t5, bv_some, bv_some, r87n (ne_of_neg hv) (pI_same _ _ _ _)]
      exact ⟨_, rfl, bad _ M1 p1 _ hv (f1.tr (FrR.put _ (by decide) _ _)) q1 t5.put⟩
    · have hd2 : d < 2 := by omega
      obtain ⟨S2, s1, s2, s3⟩ := step0 t5 hpn
      rw [if_neg e, if_pos (show nI d < (2 : Int32) by rw [li 2, nlt (by omega) (by decide)]; exact hd2), s1, bv_some, nI_1]
      generalize hM8 : pI (pI (pI (pI (pI M1 84 d (nI p)) 85 d (nI l)) 86 d (nI tm)) 55 47 (nI (d + 1))) 55 12 (nI (p1 + 1)) = M8
      have q8 : FrQ M1 M8 := by
        rw [← hM8]
        exact ((((FrQ.put _ (by unfold rqM; omega) _).tr (FrQ.put _ (by unfold rqM; omega) _)).tr (FrQ.put _ (by unfold rqM; omega) _)).tr (FrQ.put _ (by unfold rqM; omega) _)).tr (FrQ.put _ (by unfold rqM; omega) _)
      have sk8 : StkE d M1 M8 := by
        rw [← hM8]
        exact ((((StkE.put _ _ (by omega) _).tr (StkE.put _ _ (by omega) _)).tr (StkE.put _ _ (by omega) _)).tr (StkE.put _ _ (by omega) _)).tr (StkE.put _ _ (by omega) _)
      have m84 : M8.1 84 d = nI p := by rw [← hM8, pI_row _ _ (by decide), pI_row _ _ (by decide), pI_row _ _ (by decide), pI_row _ _ (by decide), pI_same]
      have m85 : M8.1 85 d = nI l := by rw [← hM8, pI_row _ _ (by decide), pI_row _ _ (by decide), pI_row _ _ (by decide), pI_same]
      have m86 : M8.1 86 d = nI tm := by rw [← hM8, pI_row _ _ (by decide), pI_row _ _ (by decide), pI_same]
      have mu8 : Mu b n M8 (p1 + 1) := by
        rw [← hM8]
        exact (t8.oth (by rw [pI_row _ _ (by decide), pI_row _ _ (by decide), pI_row _ _ (by decide), pI_row _ _ (by decide)]) (by rw [pI_cell _ _ (by decide), pI_row _ _ (by decide), pI_row _ _ (by decide), pI_row _ _ (by decide)]) (by rw [pI_cell _ _ (by decide), pI_row _ _ (by decide), pI_row _ _ (by decide), pI_row _ _ (by decide)]) : Mu b n (pI (pI (pI (pI M1 84 d (nI p)) 85 d (nI l)) 86 d (nI tm)) 55 47 (nI (d + 1))) p1).mv (by omega)
      have r82 : M8.1 82 = M1.1 82 := by rw [← hM8, pI_row _ _ (by decide), pI_row _ _ (by decide), pI_row _ _ (by decide), pI_row _ _ (by decide), pI_row _ _ (by decide)]
      have r83 : M8.1 83 = M1.1 83 := by rw [← hM8, pI_row _ _ (by decide), pI_row _ _ (by decide), pI_row _ _ (by decide), pI_row _ _ (by decide), pI_row _ _ (by decide)]
      have r46 : M8.1 55 46 = M1.1 55 46 := by rw [← hM8, pI_cell _ _ (by decide), pI_cell _ _ (by decide), pI_row _ _ (by decide), pI_row _ _ (by decide), pI_row _ _ (by decide)]
      have r47 : M8.1 55 47 = nI (d + 1) := by rw [← hM8, pI_cell _ _ (by decide), pI_same]
      have hI8 : RtI b z n t nh S2 M8 (p1 + 1) l (d + 1) := hI1.adv s3 mu8 (by rw [s2.2 t (by omega)]) (q8.2 55 8 (by unfold rqM; omega)) ((hI1.2.2.2.2.2.2.1.cl s2).md r46 r82 r83) r47
      obtain ⟨S3, o1, o2, o3⟩ := hT hd2 S2 M8 (p1 + 1) l k c g hI8 (by omega) (by omega) (by omega)
      have fr3 : FrR S S3 := (f1.tr (FrR.ex s2)).tr o2
      rw [o1, bv_some, fine0, bi_some]
      have eR : (bi (bv (fX12_readsTimes M8) fun S9 => fX12_readsTurn_4 c S9) fun r S => fX12_rota_40 g S r) = ST g c M8 := rfl
      rw [eR]
      rcases o3 with ⟨v, p', M', v1, v2, v3, v4, v5⟩ | ⟨p2, l2, M2, c2, g2, y0, y1, y2, y3, y4, y5, y6, y7, y8⟩
      · have h34 := v2.2.2.2.2.2.2.2
        have hdv : decide (v = 0) = false := by
          have := ne_of_neg v1
          simpa using this
        rw [h34, hdv, b2i_f, if_pos rfl, bv_some, r87n (ne_of_neg v1) h34]
        exact ⟨S3, rfl, fr3, Or.inl ⟨v, p', M', v1, v2, (q1.tr q8).tr v3, v4, v5⟩⟩
      · have h34 := y3.1.2.2.2.2.2.2.2
        have hp2 := y3.1.2.2.2.1
        obtain ⟨S4, a1, a2, a3⟩ := expect0 y3.1 41 (by decide)
        rw [h34, if_neg (by decide), li 41, a1, bv_some, bv_some, y8]
        rcases y0 with y0 | y0
        · -- the text ends inside the round
          have hv : flt 1 p2 < 0 := flt_neg (by decide) (by decide) (by omega)
          have hn2 : n ≤ p2 := by
            rcases Nat.lt_or_ge p2 n with w | w
            · rw [sg_lt w] at y0
              exact absurd y0 (nm1 (by have := hb p2; omega))
            · exact w
          rw [if_neg (by rw [y0]; decide), if_pos rfl] at a3
          rw [r87n (ne_of_neg hv) a3.2.2.2.2.2.2.2]
          obtain ⟨c2, rfl⟩ : ∃ x, c2 = x + 1 := ⟨c2 - 1, by omega⟩
          obtain ⟨g2, rfl⟩ : ∃ x, g2 = x + 1 := ⟨g2 - 1, by omega⟩
          have e1 : fX12_readsTurn_241 (c2 + 1) M2 = some (1, M2) := by
            show bX12_readsTurn_241 _ _ = _
            unfold bX12_readsTurn_241
            rw [here12 y3.2.1, bi_some, li 41, if_neg (by rw [y0]; decide)]
          have e2 : AO (g2 + 1) (c2 + 1) M2 = ST g2 100 M2 := by
            unfold AO
            rw [e1, bi_some]
            show bX12_rota_40 (fX12_rota_40 g2) M2 1 = _
            unfold bX12_rota_40 fX12_rota_62
            rw [if_neg (by decide), y3.2.1.2.2.2.2.1, y3.2.1.2.2.2.2.2, if_neg (show ¬ nI p2 < nI n by rw [nlt (by omega) (by omega)]; omega), y3.2.2.2.2.2.2.2, if_neg (show ¬ nI (d + 1) ≤ 0 by rw [li 0, nle (by omega) (by decide)]; omega)]
            rfl
          obtain ⟨M9, z1, z2, z3⟩ := ST_bad (g := g2) (c := 100) y3.2.1 y3.2.2.2.2.2.2.1.2.2.1 y3.2.2.2.2.2.2.1.1 (by omega) (by decide) (Or.inl y0)
          refine ⟨S4, rfl, fr3.tr (FrR.ex a2), Or.inl ⟨_, p2, M9, hv, a3, ((q1.tr q8).tr y4).tr z1, z2, ?_⟩⟩
          rw [e2, z3]
        · rw [if_pos y0] at a3
          obtain ⟨hp2n, a4⟩ := a3
          obtain ⟨c2, rfl⟩ : ∃ x, c2 = x + 1 := ⟨c2 - 1, by omega⟩
          have mu3 : Mu b n (pI (pI M2 55 12 (nI (p2 + 1))) 55 47 (nI d)) (p2 + 1) := (y3.2.1.mv (q := p2 + 1) (by omega)).oth (by rw [pI_row _ _ (by decide)]) (by rw [pI_cell _ _ (by decide)]) (by rw [pI_cell _ _ (by decide)])
          have hI3 : RtI b z n t nh S4 (pI (pI M2 55 12 (nI (p2 + 1))) 55 47 (nI d)) (p2 + 1) l2 d := y3.adv a4 mu3 (by rw [a2.2 t (by omega)]) (by rw [pI_cell _ _ (by decide), pI_cell _ _ (by decide)]) ((y3.2.2.2.2.2.2.1.cl a2).md (by rw [pI_cell _ _ (by decide), pI_cell _ _ (by decide)]) (by rw [pI_row _ _ (by decide), pI_row _ _ (by decide)]) (by rw [pI_row _ _ (by decide), pI_row _ _ (by decide)])) (pI_same _ _ _ _)
          have ep := pop241 (l := l) (tm := tm) (fi := p) y3.2.1 y0 hd2 y3.2.2.2.2.2.2.2 (by rw [y5 84 d (by decide) (by decide) (by omega)]; exact m84) (by rw [y5 85 d (by decide) (by decide) (by omega)]; exact m85) (by rw [y5 86 d (by decide) (by decide) (by omega)]; exact m86) c2
          have q3 : FrQ M2 (pI (pI M2 55 12 (nI (p2 + 1))) 55 47 (nI d)) := (FrQ.put _ (by unfold rqM; omega) _).tr (FrQ.put _ (by unfold rqM; omega) _)
          have sk3 : StkE d M2 (pI (pI M2 55 12 (nI (p2 + 1))) 55 47 (nI d)) := (StkE.put _ _ (by omega) _).tr (StkE.put _ _ (by omega) _)
          unfold AO
          rw [ep]
          rcases rep87 (fi := p) (fRR (k + 1)) ht hI3 y2 t1 t2 with ⟨S5, M5, l5, w1, w2, w3, w4, w5, w6, w7⟩ | ⟨w2, w3⟩
          · rw [w2, w3, bi_some, if_neg (by decide)]
            refine ⟨S5, rfl, (fr3.tr (FrR.ex a2)).tr w5, Or.inr ⟨p2 + 1, l5, M5, c2, g2, trivial, by omega, by omega, w4, (((q1.tr q8).tr y4).tr q3).tr w6, ?_, by omega, by omega, rfl⟩⟩
            exact ((((sk1.le (by omega)).tr sk8).tr (y5.le (by omega))).tr sk3).tr (w7.le (by omega))
          · have hv : flt 6 p < 0 := flt_neg (by decide) (by decide) (by omega)
            rw [w2, w3, bi_some, if_pos rfl, bi_some]
            refine ⟨_, rfl, (fr3.tr (FrR.ex a2)).tr (FrR.put _ (by decide) _ _), Or.inl ⟨flt 6 p, p2 + 1, _, hv, a4.put, (((q1.tr q8).tr y4).tr q3).tr (FrQ.put _ (by unfold rqM; omega) _), pI_same _ _ _ _, r40_0 (by omega) _⟩⟩
  · rw [if_neg c40, holdC hb t5 hI1.2.2.2.1 hI1.2.2.2.2.1 h52 hl12 ht, holdM t8 c40 t9 t10 h46 hl12 t1 t2]
    by_cases cs : hsQ (sg b n p1) = true ∨ sg b n p1 = nI 45
    · have hpn : p1 < n := sg_in (fun w => by
        rw [w] at cs
        exact absurd cs (by decide))
      have hv : flt 6 p < 0 := flt_neg (by decide) (by decide) (by omega)
      rw [if_pos cs, if_pos cs]
      by_cases c12 : l < 12
      · rw [if_pos c12]
        obtain ⟨ad1, ad2⟩ := adS_fr (nh := nh) S1 (hdV b n p1) p1 l
        obtain ⟨am1, am2⟩ := adM_fr M1 (hdV b n p1) p1 l
        have hCa : Cu b z n (adS nh S1 (hdV b n p1) p1 l) p1 0 := t5.oth (ad1.2 1 (by decide) (by decide) (by decide)) (ad1.2 2 (by decide) (by decide) (by decide)) ad2
        obtain ⟨S2, s1, s2, s3⟩ := step0 hCa hpn
        have mu2 : Mu b n (adM M1 (hdV b n p1) p1 l) (p1 + 1) := by
          unfold adM
          exact ((t8.oth (by rw [pI_row _ _ (by decide), pI_row _ _ (by decide)]) (by rw [pI_row _ _ (by decide), pI_row _ _ (by decide)]) (by rw [pI_row _ _ (by decide), pI_row _ _ (by decide)]) : Mu b n (pI (pI M1 82 l (hdV b n p1)) 83 l (nI p1)) p1).mv (q := p1 + 1) (by omega)).oth (by rw [pI_row _ _ (by decide)]) (by rw [pI_cell _ _ (by decide)]) (by rw [pI_cell _ _ (by decide)])
        have hI2 : RtI b z n t nh S2 (adM M1 (hdV b n p1) p1 l) (p1 + 1) (l + 1) d := hI1.adv s3 mu2 (by rw [s2.2 t (by omega), ad1.2 t (by omega) (by omega) (by omega)]) (am1.2 55 8 (by unfold rqM; omega)) ((hI1.2.2.2.2.2.2.1.add c12 (by omega)).cl s2) (by unfold adM; rw [pI_cell _ _ (by decide), pI_cell _ _ (by decide), pI_row _ _ (by decide), pI_row _ _ (by decide)]; exact hI1.2.2.2.2.2.2.2)
        rw [s1, bv_some, bv_some]
        have fr2 : FrR S S2 := (f1.tr ad1).tr (FrR.ex s2)
        by_cases c13 : l + tm ≤ 12
        · rw [if_pos c13]
          rcases rep87 (fi := p) (st := l) (fRR (k + 1)) ht hI2 (by omega) t1 t2 with ⟨S5, M5, l5, w1, w2, w3, w4, w5, w6, w7⟩ | ⟨w2, w3⟩
          · rw [w2, w3, bi_some, if_neg (by decide)]
            refine ⟨S5, rfl, fr2.tr w5, Or.inr ⟨p1 + 1, l5, M5, 100, g, trivial, by omega, by omega, w4, (q1.tr am1).tr w6, ((sk1.le (by omega)).tr (am2.le (by omega))).tr (w7.le (by omega)), by omega, by omega, rfl⟩⟩
          · rw [w2, w3, bi_some, if_pos rfl]
            exact ⟨_, rfl, bad _ _ (p1 + 1) _ hv (fr2.tr (FrR.put _ (by decide) _ _)) (q1.tr am1) s3.put⟩
        · rw [if_neg c13, r87 s3.2.2.2.2.2.2.2, repC _ hI2.2.2.2.2.2.2.1 (by omega) t2, if_neg (show ¬ l + (l + 1 - l) * tm ≤ 12 by rw [Nat.add_sub_cancel_left, Nat.one_mul]; exact c13), li 6, fail0 s3, bv_some]
          exact ⟨_, rfl, bad _ _ (p1 + 1) _ hv (fr2.tr (FrR.put _ (by decide) _ _)) q1 s3.put⟩
      · rw [if_neg c12, if_neg (show ¬ l + tm ≤ 12 by omega), li 6, fail0 t5, bv_some, bv_some, r87n (ne_of_neg hv) (pI_same _ _ _ _)]
        exact ⟨_, rfl, bad _ _ p1 _ hv (f1.tr (FrR.put _ (by decide) _ _)) q1 t5.put⟩
    · have hv : flt 1 p1 < 0 := flt_neg (by decide) (by decide) (by omega)
      rw [if_neg cs, if_neg cs, li 1, failH t5, bv_some, bv_some, r87n (ne_of_neg hv) (pI_same _ _ _ _)]
      exact ⟨_, rfl, bad _ _ p1 _ hv (f1.tr (FrR.put _ (by decide) _ _)) q1 t5.put⟩
theorem turns_all {b : Nat → Nat} {z n t nh : Nat} (ht : 6 < t) : TurnsP b z n t nh 0 := by
  have o2 := one_of_turns (b := b) (z := z) (n := n) (nh := nh) ht (Nat.le_refl 2) (fun h => absurd h (by decide))
  have t2 := turns_of_one (Nat.le_refl 2) o2
  have o1 := one_of_turns (d := 1) ht (by decide) (fun _ => t2)
  have t1 := turns_of_one (d := 1) (by decide) o1
  have o0 := one_of_turns (d := 0) ht (by decide) (fun _ => t1)
  exact turns_of_one (d := 0) (by decide) o0
