-- lines and the whole text of a terrace
theorem LnO.pre {b : Nat → Nat} {z n t : Nat} {S M S1 M1 S' M' : St} {L : Int32} {r : Bool} (h : LnO b z n t S1 M1 S' M' L r) (e1 : Ex 3 S S1) (e2 : E55 M M1) : LnO b z n t S M S' M' L r := ⟨(FrT.ex e1).tr h.1, (FrM.e55 e2).tr h.2.1, h.2.2⟩
theorem LnO.bad {b : Nat → Nat} {z n t p' : Nat} {S M S' : St} {L v : Int32} (hv : v < 0) (hR : RNew M) (e1 : Ex 3 S S') (hC : Cu b z n S' p' v) : LnO b z n t S M S' (pI M 55 14 v) L false := by
  refine ⟨FrT.ex e1, FrM.put _ (by unfold rdM; omega) _, ?_⟩
  rw [if_neg (by decide)]
  exact ⟨p', v, hv, hC, pI_same _ _ _ _, hR.p55 _ _⟩
theorem h40e {M M' : St} {L : Int32} (h : M.1 55 40 = L) (e : E55 M M') : M'.1 55 40 = L := by rw [e.2 55 40 (by omega)]; exact h
theorem uT2b_s {b : Nat → Nat} {z n t p h nh nt w1 w2 : Nat} {S M : St} {L : Int32} (hh : h < 16) (hC : Cu b z n S p 0) (hM : Mu b n M p) (hD : TwI S M t nh nt h w1 w2 2) (ht : 3 < t) (h40 : M.1 55 40 = L) : ∃ S' M' r, LnO b z n t S M S' M' L r ∧ tT2b t (nI h) (nI w1) (nI w2) S = some S' ∧ uT2b h M = some (b2i r, M') := by
  have hp := hC.2.2.2.1
  have hn := hM.2.2.1
  obtain ⟨S1, a1, a2, a3⟩ := expect0 hC 45 (by decide)
  unfold tT2b uT2b
  rw [li 45, a1, bv_some, takes12 hM]
  by_cases c : sg b n p = nI 45
  · rw [if_pos c] at a3
    obtain ⟨S', M', r, g1, g2, g3⟩ := uT3_s hh a3.2 (hM.mv (q := p + 1) (by omega)) ((hD.cl ht a2).md (tk_e55 M (p + 1))) ht (h40e h40 (tk_e55 M _))
    refine ⟨S', M', r, g1.pre a2 (tk_e55 M _), g2, ?_⟩
    rw [if_pos c, bi_some, if_neg (by decide)]
    exact g3
  · rw [if_neg c, if_pos rfl] at a3
    have hv : flt 1 p < 0 := flt_neg (by decide) (by decide) (by omega)
    refine ⟨S1, _, false, LnO.bad hv hD.1 a2 a3, tT3_f _ _ _ (ne_of_neg hv) a3, ?_⟩
    rw [if_neg c, bi_some, if_pos rfl]
    rfl
theorem uT2_s {b : Nat → Nat} {z n t p h nh nt w1 : Nat} {S M : St} {L : Int32} (hh : h < 16) (hC : Cu b z n S p 0) (hM : Mu b n M p) (hD : TwI S M t nh nt h w1 0 1) (ht : 3 < t) (h40 : M.1 55 40 = L) : ∃ S' M' r, LnO b z n t S M S' M' L r ∧ tT2 t (nI h) (nI w1) S = some S' ∧ uT2 h M = some (b2i r, M') := by
  have hb := hM.2.1
  have hp := hC.2.2.2.1
  have hn := hM.2.2.1
  obtain ⟨S1, a1, a2, a3⟩ := readWay0 hb hC
  obtain ⟨M1, c1, c2, c3⟩ := within12 hM
  have hT := (hD.cl ht a1).md c1
  unfold tT2 uT2
  rw [a3, bi_some, c3, bi_some, if_pos (inbT hh (by decide)), nI_clamp (by omega), bS_e]
  unfold WyM at c2
  by_cases e : (way b n p).2.2 = 0
  · rw [if_pos e] at c2
    rw [e] at a2
    have ed : decide ((way b n p).2.2 = 0) = true := by simpa using e
    obtain ⟨g1, g2, g3⟩ := c2
    have m2 : Mu b n (pI M1 80 h (nI (way b n p).2.1)) (way b n p).1 := g1.oth (pI_row _ _ (by decide)) (by rw [pI_row _ _ (by decide)]) (by rw [pI_row _ _ (by decide)])
    obtain ⟨S', M', r, k1, k2, k3⟩ := uT2b_s hh a2 m2 (hT.w2 g3) ht (L := L) (by rw [pI_row _ _ (by decide)]; exact h40e h40 c1)
    refine ⟨S', M', r, ⟨(FrT.ex a1).tr k1.1, (FrM.e55 c1).tr ((FrM.put _ (by unfold rdM; omega) _).tr k1.2.1), k1.2.2⟩, k2, ?_⟩
    rw [ed, b2i_t, if_neg (by decide), g2]
    exact k3
  · rw [if_neg e] at c2
    have ed : decide ((way b n p).2.2 = 0) = false := by simpa using e
    obtain ⟨S', p', k1, k2, k3⟩ := tT2b_f (t := t) (nI h) (nI w1) (nI (way b n p).2.1) e a2
    refine ⟨S', M1, false, ⟨FrT.ex (a1.tr k2), FrM.e55 c1, ?_⟩, k1, ?_⟩
    · rw [if_neg (by decide)]
      exact ⟨p', _, way_neg hb hp hn e, k3, c2, hT.1⟩
    · rw [ed, b2i_f, if_pos rfl]
theorem uT1b_s {b : Nat → Nat} {z n t p h nh nt w1 : Nat} {S M : St} {L : Int32} (hh : h < 16) (hC : Cu b z n S p 0) (hM : Mu b n M p) (hD : TwI S M t nh nt h w1 0 1) (ht : 3 < t) (h40 : M.1 55 40 = L) : ∃ S' M' r, LnO b z n t S M S' M' L r ∧ tT1b t (nI h) (nI w1) S = some S' ∧ uT1b h M = some (b2i r, M') := by
  have hp := hC.2.2.2.1
  have hn := hM.2.2.1
  obtain ⟨S1, a1, a2, a3⟩ := expect0 hC 64 (by decide)
  unfold tT1b uT1b
  rw [li 64, a1, bv_some, takes12 hM]
  by_cases c : sg b n p = nI 64
  · rw [if_pos c] at a3
    obtain ⟨S', M', r, g1, g2, g3⟩ := uT2_s hh a3.2 (hM.mv (q := p + 1) (by omega)) ((hD.cl ht a2).md (tk_e55 M (p + 1))) ht (h40e h40 (tk_e55 M _))
    refine ⟨S', M', r, g1.pre a2 (tk_e55 M _), g2, ?_⟩
    rw [if_pos c, bi_some, if_neg (by decide)]
    exact g3
  · rw [if_neg c, if_pos rfl] at a3
    have hv : flt 1 p < 0 := flt_neg (by decide) (by decide) (by omega)
    obtain ⟨S', p', k1, k2, k3⟩ := tT2_f (t := t) (nI h) (nI w1) (ne_of_neg hv) a3
    refine ⟨S', _, false, LnO.bad hv hD.1 (a2.tr k2) k3, k1, ?_⟩
    rw [if_neg c, bi_some, if_pos rfl]
    rfl
theorem thing_sim {b : Nat → Nat} {z n t p h : Nat} {S M : St} {L : Int32} (hh : h < 16) (hC : Cu b z n S p 0) (hM : Mu b n M p) (hD : Dr S M t) (ht : 3 < t) (h40 : M.1 55 40 = L) : ∃ S' M' r, LnO b z n t S M S' M' L r ∧ fX9_readThing t S (nI h) = some S' ∧ uT1 h M = some (b2i r, M') := by
  have hb := hM.2.1
  have hp := hC.2.2.2.1
  have hn := hM.2.2.1
  obtain ⟨d0, nh, nt, d1, d2, d3, d4, d5, d6, d7, d8⟩ := hD
  have hD : TwI S M t nh nt h 0 0 0 := ⟨d0, d1, d2, d3, d4, d5, d6, d7, fun i hi _ q => d8 i hi q, fun k => absurd k (by decide), fun k => absurd k (by decide)⟩
  obtain ⟨S1, a1, a2, a3⟩ := readWay0 hb hC
  obtain ⟨M1, c1, c2, c3⟩ := within12 hM
  have hT := (hD.cl ht a1).md c1
  rw [tT0]
  unfold uT1
  rw [a3, bi_some, c3, bi_some, if_pos (inbT hh (by decide)), nI_clamp (by omega), bS_e]
  unfold WyM at c2
  by_cases e : (way b n p).2.2 = 0
  · rw [if_pos e] at c2
    rw [e] at a2
    have ed : decide ((way b n p).2.2 = 0) = true := by simpa using e
    obtain ⟨g1, g2, g3⟩ := c2
    have m2 : Mu b n (pI M1 79 h (nI (way b n p).2.1)) (way b n p).1 := g1.oth (pI_row _ _ (by decide)) (by rw [pI_row _ _ (by decide)]) (by rw [pI_row _ _ (by decide)])
    obtain ⟨S', M', r, k1, k2, k3⟩ := uT1b_s hh a2 m2 (hT.w1 g3) ht (L := L) (by rw [pI_row _ _ (by decide)]; exact h40e h40 c1)
    refine ⟨S', M', r, ⟨(FrT.ex a1).tr k1.1, (FrM.e55 c1).tr ((FrM.put _ (by unfold rdM; omega) _).tr k1.2.1), k1.2.2⟩, k2, ?_⟩
    rw [ed, b2i_t, if_neg (by decide), g2]
    exact k3
  · rw [if_neg e] at c2
    have ed : decide ((way b n p).2.2 = 0) = false := by simpa using e
    obtain ⟨S', p', k1, k2, k3⟩ := tT1b_f (t := t) (nI h) (nI (way b n p).2.1) e a2
    refine ⟨S', M1, false, ⟨FrT.ex (a1.tr k2), FrM.e55 c1, ?_⟩, k1, ?_⟩
    · rw [if_neg (by decide)]
      exact ⟨p', _, way_neg hb hp hn e, k3, c2, hT.1⟩
    · rw [ed, b2i_f, if_pos rfl]
def hsQ (x : Int32) : Bool := inR x 97 112
def thQ (x : Int32) : Bool := inR x 65 80
theorem rLine9 (t : Nat) (S : St) (x : Int32) : fX9_readLine t S x = (if hsQ (S.1 3 3) = true then fX9_readLine_67 t S x (S.1 3 3) 1 else if thQ (S.1 3 3) = true then fX9_readLine_67 t S x (S.1 3 3) 0 else bv (fX0_failHere S 1) fun S1 => some S1) := by
  unfold fX9_readLine fX9_readLine_24 fX9_readLine_25 fX9_readLine_43 fX9_readLine_44 hsQ thQ
  simp only [bV_e, rng2]
  have e1 : (97 : Int32).toInt = 97 := by decide
  have e2 : (112 : Int32).toInt = 112 := by decide
  have e3 : (65 : Int32).toInt = 65 := by decide
  have e4 : (80 : Int32).toInt = 80 := by decide
  rw [e1, e2, e3, e4]
  by_cases c1 : inR (S.1 3 3) 97 112 = true
  · simp [c1]
  · by_cases c2 : inR (S.1 3 3) 65 80 = true
    · simp [c1, c2]
    · simp [c1, c2]
theorem inQ1 : ∀ c, c < 256 → inR (nI c - 97) 0 15 = hsQ (nI c) ∧ inR (nI c - 65) 0 15 = thQ (nI c) := by decide +kernel
theorem inQm : inR ((-1 : Int32) - 97) 0 15 = hsQ (-1) ∧ inR ((-1 : Int32) - 65) 0 15 = thQ (-1) := by decide
theorem inQ {b : Nat → Nat} (hb : ∀ j, b j < 256) (n p : Nat) : inR (sg b n p - 97) 0 15 = hsQ (sg b n p) ∧ inR (sg b n p - 65) 0 15 = thQ (sg b n p) := by
  rcases Nat.lt_or_ge p n with y | y
  · rw [sg_lt y]; exact inQ1 _ (hb p)
  · rw [sg_ge y]; exact inQm
theorem Q_in {b : Nat → Nat} (hb : ∀ j, b j < 256) {n p : Nat} {lo hi : Nat} (h1 : 1 ≤ lo) (h : inR (sg b n p) lo hi = true) : p < n ∧ lo ≤ b p ∧ b p ≤ hi := by
  have hp : p < n := sg_in (fun e => by
    rw [e, inR_t, im1] at h
    omega)
  have := hb p
  rw [sg_lt hp, inR_t, nI_toInt (by omega)] at h
  omega
theorem rdH12 (M : St) (h : Nat) : fX12_readsHouse M (nI h) = bi (fX12_has M (M.1 55 38) (nI h)) fun r2 S1 => if r2 = 0 then (bS (pI S1 55 12 ((S1.1 55 12) + (1 : Int32))) fun S2 => bi (fX12_readsWithin S2) fun r4 S3 => if r4 = 0 then (some ((0 : Int32), S3)) else (if inb (nI h) 16 = true then bS (pI S3 78 ((nI h).toNatClampNeg) (S3.1 55 15)) fun S4 => bS (pI S4 55 38 ((S4.1 55 38) ||| ((1 : Int32) <<< (nI h &&& 31)))) fun S5 => some ((1 : Int32), S5) else none)) else (bi (fX12_wrongAt S1 (6 : Int32) (S1.1 55 12)) fun r7 S6 => if r7 = 0 ∨ r7 = 1 then some (r7, S6) else none) := rfl
theorem rdT12 (M : St) (h : Nat) : fX12_readsThing M (nI h) = bi (fX12_has M (M.1 55 39) (nI h)) fun r2 S1 => if r2 = 0 then (bS (pI S1 55 12 ((S1.1 55 12) + (1 : Int32))) fun S2 => uT1 h S2) else (bi (fX12_wrongAt S1 (6 : Int32) (S1.1 55 12)) fun r7 S6 => if r7 = 0 ∨ r7 = 1 then some (r7, S6) else none) := rfl
theorem Dr.e55 {S M M' : St} {t : Nat} (a : Dr S M t) (e : E55 M M') : Dr S M' t := by
  obtain ⟨d0, nh, nt, d1, d2, d3, d4, d5, d6, d7, d8⟩ := a
  refine ⟨d0.e55 e, nh, nt, d1, d2, d3, ?_, d5, ?_, fun i hi q => ?_, fun i hi q => ?_⟩
  · rw [e.2 55 38 (by omega)]; exact d4
  · rw [e.2 55 39 (by omega)]; exact d6
  · rw [e.2 78 i (by omega)]; exact d7 i hi q
  · rw [e.2 79 i (by omega), e.2 80 i (by omega), e.2 81 i (by omega)]; exact d8 i hi q
theorem Dr.p40 {S M : St} {t : Nat} (a : Dr S M t) (v : Int32) : Dr S (pI M 55 40 v) t := by
  obtain ⟨d0, nh, nt, d1, d2, d3, d4, d5, d6, d7, d8⟩ := a
  refine ⟨d0.p55 _ _, nh, nt, d1, d2, d3, ?_, d5, ?_, fun i hi q => ?_, fun i hi q => ?_⟩
  · rw [pI_cell _ _ (by decide)]; exact d4
  · rw [pI_cell _ _ (by decide)]; exact d6
  · rw [pI_row _ _ (by decide)]; exact d7 i hi q
  · rw [pI_row _ _ (by decide), pI_row _ _ (by decide), pI_row _ _ (by decide)]; exact d8 i hi q
theorem Dr.cl {S S' M : St} {t : Nat} (a : Dr S M t) (ht : 3 < t) (e : Ex 3 S S') : Dr S' M t := by
  unfold Dr
  rw [e.2 t (by omega), e.2 (t + 1) (by omega), e.2 (t + 2) (by omega), e.2 (t + 3) (by omega), e.2 (t + 4) (by omega)]
  exact a
theorem line_sim {b : Nat → Nat} {z n t p L : Nat} {S M : St} (hC : Cu b z n S p 0) (hM : Mu b n M p) (hD : Dr S M t) (ht : 3 < t) (h40 : M.1 55 40 = nI L) (hL : L ≤ 32) : ∃ S' M' r, LnO b z n t S M S' M' (nI (L + 1)) r ∧ (r = true → L < 32) ∧ fX9_readLine t S (nI L) = some S' ∧ fX12_readsLine M = some (b2i r, M') := by
  have hb := hM.2.1
  have hp := hC.2.2.2.1
  have hn := hM.2.2.1
  have hp2 := hM.2.2.2.2.1
  have hs := hC.2.2.2.2.2.2.1
  obtain ⟨q1, q2⟩ := inQ hb n p
  have em : fX12_readsLine M = (if hsQ (sg b n p) = true then fX12_readsLine_48 M (sg b n p - 97) (sg b n p - 65) 1 else if thQ (sg b n p) = true then fX12_readsLine_48 M (sg b n p - 97) (sg b n p - 65) 0 else some (0, pI M 55 14 (flt 1 p))) := by
    unfold fX12_readsLine
    simp only [here12 hM, bi_some, bV_e, in12, i0, i15, q1, q2, ite_b2i, hp2, li 1, wrong12]
    cases c1 : hsQ (sg b n p) with
    | true => simp only [if_true, b2i_t, li 1]
    | false => cases c2 : thQ (sg b n p) <;> simp only [Bool.false_eq_true, if_false, if_true, b2i_f, true_or]
  rw [em, rLine9, hs]
  -- what both do once the line's sign is good
  have bad4 : ∀ c : Int32, L = 32 → ∀ x4 : Int32, ∃ S' M', LnO b z n t S M S' M' (nI (L + 1)) false ∧ fX9_readLine_67 t S (nI L) c x4 = some S' ∧ ∀ y1 y2 y3, fX12_readsLine_48 M y1 y2 y3 = some (b2i false, M') := by
    intro c e x4
    have hv : flt 4 p < 0 := flt_neg (by decide) (by decide) (by omega)
    refine ⟨pI S 3 4 (flt 4 p), pI M 55 14 (flt 4 p), LnO.bad hv hD.1 ((Ex.rf 3 S).put _ _) hC.put, ?_, fun y1 y2 y3 => ?_⟩
    · unfold fX9_readLine_67
      rw [e, if_neg (by decide), li 4, failH hC, bv_some]
    · unfold fX12_readsLine_48
      rw [h40, e, if_pos (by decide), hp2, li 4, wrong12, bi_some, if_pos (Or.inl rfl)]
      rfl
  have bad6 : LnO b z n t S (pI M 55 40 (nI (L + 1))) (pI S 3 4 (flt 6 p)) (pI (pI M 55 40 (nI (L + 1))) 55 14 (flt 6 p)) (nI (L + 1)) false := LnO.bad (flt_neg (by decide) (by decide) (by omega)) (hD.1.p55 _ _) ((Ex.rf 3 S).put _ _) hC.put
  have fr40 : FrM M (pI M 55 40 (nI (L + 1))) := FrM.put _ (by unfold rdM; omega) _
  have hM1 : Mu b n (pI M 55 40 (nI (L + 1))) p := hM.oth (pI_row _ _ (by decide)) (pI_cell _ _ (by decide)) (pI_cell _ _ (by decide))
  have c40 : L < 32 → ¬ nI L = (32 : Int32) := fun h e => by
    rw [li 32, neq (by omega) (by decide)] at e
    omega
  cases c1 : hsQ (sg b n p) with
  | true =>
    obtain ⟨k1, k2, k3⟩ := Q_in hb (lo := 97) (hi := 112) (by decide) c1
    rw [if_pos rfl, if_pos rfl]
    by_cases e : L = 32
    · obtain ⟨S', M', g1, g2, g3⟩ := bad4 (sg b n p) e 1
      exact ⟨S', M', false, g1, (fun z => by cases z), g2, g3 _ _ _⟩
    · have x1 : sg b n p - 97 = nI (b p - 97) := by rw [sg_lt k1, li 97, pk_sub (by omega)]
      obtain ⟨d0, nh, nt, d1, d2, d3, d4, d5, d6, d7, d8⟩ := id hD
      have hh : b p - 97 < 16 := by omega
      have ec : fX9_readLine_67 t S (nI L) (sg b n p) 1 = (if nh.testBit (b p - 97) = true then bv (fX0_failHere S 6) fun S1 => some S1 else bv (fX0_step S) fun S1 => bv (fX9_readHouse t S1 (nI (b p - 97))) fun S3 => some S3) := by
        unfold fX9_readLine_67 fX9_readLine_126 fX9_readLine_114
        rw [if_pos (show nI L < (32 : Int32) by rw [li 32, nlt (by omega) (by decide)]; omega), if_neg (by decide), x1, hasHouse8, bi_some, hoN8 d1 d3 hh, ite_b2i]
        simp only [show ¬ (1 : Int32) = 0 by decide, if_false]
      have em2 : fX12_readsLine_48 M (sg b n p - 97) (sg b n p - 65) 1 = (bi (fX12_readsHouse (pI M 55 40 (nI (L + 1))) (nI (b p - 97))) fun r5 S3 => if r5 = 0 ∨ r5 = 1 then some (r5, S3) else none) := by
        unfold fX12_readsLine_48
        rw [h40, if_neg (c40 (by omega)), nI_1, bS_e, if_neg (by decide), x1]
      have e38 : (pI M 55 40 (nI (L + 1))).1 55 38 = nI nh := by rw [pI_cell _ _ (by decide)]; exact d4
      rw [ec, em2, rdH12, e38, has12, bi_some, hsB_nI (show nh < 2 ^ 31 by omega) (show b p - 97 < 32 by omega), ite_b2i]
      cases c3 : nh.testBit (b p - 97) with
      | true =>
        rw [if_pos rfl, if_pos rfl, li 6, failH hC, bv_some, hM1.2.2.2.2.1, wrong12, bi_some, if_pos (Or.inl rfl), bi_some, if_pos (Or.inl rfl)]
        exact ⟨_, _, false, ⟨bad6.1, fr40.tr bad6.2.1, bad6.2.2⟩, (fun z => by cases z), rfl, rfl⟩
      | false =>
        obtain ⟨S1, s1, s2, s3⟩ := step0 hC k1
        rw [if_neg (by decide), if_neg (by decide), s1, bv_some, hM1.2.2.2.2.1, nI_1, bS_e]
        obtain ⟨S', M', r, g1, g2, g3⟩ := house_sim (L := nI (L + 1)) hh s3 (hM1.mv (q := p + 1) (by omega)) ((hD.p40 (nI (L + 1))).cl ht s2 |>.e55 (tk_e55 _ (p + 1))) ht (by rw [pI_cell _ _ (by decide), pI_same])
        rw [g2, bv_some, g3, bi_some, if_pos (b2i_01 _)]
        refine ⟨S', M', r, ?_, fun _ => by omega, rfl, rfl⟩
        have := g1.pre s2 (tk_e55 (pI M 55 40 (nI (L + 1))) (p + 1))
        exact ⟨this.1, fr40.tr this.2.1, this.2.2⟩
  | false =>
    simp only [Bool.false_eq_true, if_false]
    cases c2 : thQ (sg b n p) with
    | false =>
      have hv : flt 1 p < 0 := flt_neg (by decide) (by decide) (by omega)
      simp only [Bool.false_eq_true, if_false]
      rw [li 1, failH hC, bv_some]
      exact ⟨_, _, false, LnO.bad hv hD.1 ((Ex.rf 3 S).put _ _) hC.put, (fun z => by cases z), rfl, rfl⟩
    | true =>
      obtain ⟨k1, k2, k3⟩ := Q_in hb (lo := 65) (hi := 80) (by decide) c2
      rw [if_pos rfl, if_pos rfl]
      by_cases e : L = 32
      · obtain ⟨S', M', g1, g2, g3⟩ := bad4 (sg b n p) e 0
        exact ⟨S', M', false, g1, (fun z => by cases z), g2, g3 _ _ _⟩
      · have x1 : sg b n p - 65 = nI (b p - 65) := by rw [sg_lt k1, li 65, pk_sub (by omega)]
        obtain ⟨d0, nh, nt, d1, d2, d3, d4, d5, d6, d7, d8⟩ := id hD
        have hh : b p - 65 < 16 := by omega
        have hT8 : fX8_hasThing t S (nI (b p - 65)) = some (b2i (nt.testBit (b p - 65)), S) := by rw [hasThing8, hoN8 d2 d5 hh]
        have ec : fX9_readLine_67 t S (nI L) (sg b n p) 0 = (if nt.testBit (b p - 65) = true then bv (fX0_failHere S 6) fun S1 => some S1 else bv (fX0_step S) fun S1 => bv (fX9_readThing t S1 (nI (b p - 65))) fun S3 => some S3) := by
          unfold fX9_readLine_67 fX9_readLine_126 fX9_readLine_114
          rw [if_pos (show nI L < (32 : Int32) by rw [li 32, nlt (by omega) (by decide)]; omega), if_pos rfl, x1, hT8, bi_some, ite_b2i]
          simp only [if_true]
        have em2 : fX12_readsLine_48 M (sg b n p - 97) (sg b n p - 65) 0 = (bi (fX12_readsThing (pI M 55 40 (nI (L + 1))) (nI (b p - 65))) fun r5 S3 => if r5 = 0 ∨ r5 = 1 then some (r5, S3) else none) := by
          unfold fX12_readsLine_48
          rw [h40, if_neg (c40 (by omega)), nI_1, bS_e, if_pos rfl, x1]
        have e39 : (pI M 55 40 (nI (L + 1))).1 55 39 = nI nt := by rw [pI_cell _ _ (by decide)]; exact d6
        rw [ec, em2, rdT12, e39, has12, bi_some, hsB_nI (show nt < 2 ^ 31 by omega) (show b p - 65 < 32 by omega), ite_b2i]
        cases c3 : nt.testBit (b p - 65) with
        | true =>
          rw [if_pos rfl, if_pos rfl, li 6, failH hC, bv_some, hM1.2.2.2.2.1, wrong12, bi_some, if_pos (Or.inl rfl), bi_some, if_pos (Or.inl rfl)]
          exact ⟨_, _, false, ⟨bad6.1, fr40.tr bad6.2.1, bad6.2.2⟩, (fun z => by cases z), rfl, rfl⟩
        | false =>
          obtain ⟨S1, s1, s2, s3⟩ := step0 hC k1
          rw [if_neg (by decide), if_neg (by decide), s1, bv_some, hM1.2.2.2.2.1, nI_1, bS_e]
          obtain ⟨S', M', r, g1, g2, g3⟩ := thing_sim (L := nI (L + 1)) hh s3 (hM1.mv (q := p + 1) (by omega)) ((hD.p40 (nI (L + 1))).cl ht s2 |>.e55 (tk_e55 _ (p + 1))) ht (by rw [pI_cell _ _ (by decide), pI_same])
          rw [g2, bv_some, g3, bi_some, if_pos (b2i_01 _)]
          refine ⟨S', M', r, ?_, fun _ => by omega, rfl, rfl⟩
          have := g1.pre s2 (tk_e55 (pI M 55 40 (nI (L + 1))) (p + 1))
          exact ⟨this.1, fr40.tr this.2.1, this.2.2⟩
