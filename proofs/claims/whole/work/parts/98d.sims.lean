-- a turn, a day, days
def lookM (M : St) (t dr : Int32) : Option St := bV ((M.1 56 16)) fun v4 => if v4 = (-1 : Int32) then (some M) else (bv (fX12_feels M v4 t dr) fun S3 => bi (fX12_seenBy S3 v4 t) fun r7 S4 => if inb ((0 : Int32) + v4) 21 = true then bi (fX12_bits S4 r7) fun r10 S5 => bi (fX12_bits S5 (S5.1 56 17)) fun r12 S6 => bi (fX12_byLaw S6 (106 : Int32) (99 : Int32) (r10 + r12)) fun r14 S7 => bi (fX12_min S7 (99999 : Int32) ((S4.1 56 (((0 : Int32) + v4).toNatClampNeg)) + r14)) fun r16 S8 => if inb ((0 : Int32) + v4) 21 = true then bS (pI S8 56 (((0 : Int32) + v4).toNatClampNeg) r16) fun S9 => if r7 = 0 then (some S9) else (bS (pI S9 56 17 r7) fun S10 => some S10) else none else none)
theorem look_sim {S0 M0 S M : St} {o c0 cn t : Nat} {dr : Int32} (h0 : Rel S0 M0) (ho : o = 19 ∨ o = 21) (hI : DyI S0 M0 o c0 S M cn) (ht : t < 12) (hdr : dr = M.1 56 20 - M.1 56 20 / 10 * 10) : ∃ S' M', fX6_lookThrough o (S0.2.2 0) (S0.2.2 2) S (nI t) = some S' ∧ lookM M (nI t) dr = some M' ∧ DyI S0 M0 o c0 S' M' cn ∧ M'.1 56 19 = M.1 56 19 := by
  obtain ⟨b1, b2, b3, b4, b5, b6⟩ := hI.base h0 ho
  obtain ⟨d1, d2, d3, d4, d5, d6⟩ := hI
  obtain ⟨s1, ⟨s2, s2'⟩, ⟨s3, br, s3', s3''⟩, ⟨s4, s4'⟩, ⟨s5, s5'⟩, ⟨s6, s6'⟩⟩ := id d3
  have hT := h0.2.1.1
  have hL := h0.2.2.2.2.2.2.2.1
  unfold isT at hT
  unfold isL at hL
  have er0 : S.2.2 0 = S0.2.2 0 := by rw [b6]
  have er2 : S.2.2 2 = S0.2.2 2 := by rw [b6]
  have hne : o ≠ S0.2.2 2 + 5 := by omega
  unfold fX6_lookThrough lookM
  rw [bV_e, s2]
  rcases s2' with e | ⟨h, hh, e, hb⟩
  · rw [e, if_pos (by decide), if_pos rfl]
    exact ⟨S, M, rfl, rfl, ⟨d1, d2, d3, d4, d5, d6⟩, rfl⟩
  · rw [e, if_neg (show ¬ nI h < 0 from nI_pos (by omega)), if_pos (show nI h < (16 : Int32) by rw [li 16, nlt (by omega) (by decide)]; exact hh), if_neg (nm1 (by omega))]
    have sl := seenN_lt M h t
    have hv := view8R b1 b2 hh ht (by rw [b5]; exact hb)
    rw [er0] at hv
    have ef := feel12 b1 hh ht s3'' (by omega) hdr
    have et := tell6 (S := S) (o := o) (r := S0.2.2 2) (h := nI h) (t := nI t) hne (s3.trans s3'') (by omega) sl
    rw [s2, s4, s5, s6] at et
    generalize hF : Flv (M.1 56 16) (nI (pcN br 16)) (M.1 56 18) (M.1 56 19) (M.1 56 20) (nI h) (nI t) (seenN M h t) = F at ef et
    have so2 : ∀ k, (lpA S (S0.2.2 2 + 5) F 9).1 o k = S.1 o k := fun k => by rw [lpA_out S F hne]
    have so2' : (lpA S (S0.2.2 2 + 5) F 9).1 (o + 1) = S.1 (o + 1) := lpA_out S F (by omega)
    have mo : (lpA M 77 F 9).1 56 = M.1 56 := lpA_out M F (by decide)
    have ivs : IvS (lpA M 77 F 9) := b1.cg (fun a k hp => by rw [lpA_out M F (by unfold strM at hp; omega)])
    have sns : seenN (lpA M 77 F 9) h t = seenN M h t := seenN_cg (fun a k hp => by rw [lpA_out M F (by unfold strM at hp; omega)]) h t
    have hR2 : RRul (lpA S (S0.2.2 2 + 5) F 9) (lpA M 77 F 9) := b3.cg rfl rfl (fun a k hp => by rw [lpA_out S F (by unfold rulC at hp; rw [er2] at hp; omega)]) (fun a k hp => by rw [lpA_out M F (by unfold rulM at hp; omega)])
    have er2' : (lpA S (S0.2.2 2 + 5) F 9).2.2 2 = S0.2.2 2 := er2
    have hpl : pcN (seenN M h t) 16 + pcN br 16 ≤ 32 := by
      have := pcN_le (seenN M h t) 16
      have := pcN_le br 16
      omega
    obtain ⟨w, S4, M3, y1, y2, y3, y4, y5⟩ := law_w hR2 F (fun k hk => by rw [er2']; exact lpA_in S F hk) (fun k hk => lpA_in M F hk) (x := 106) (d := nI (pcN (seenN M h t) 16 + pcN br 16)) (by decide) (y := 99) (by decide) (by decide)
    rw [er2'] at y1 y2
    have y1' : fX2_worthOf (S0.2.2 2) (lpA S (S0.2.2 2 + 5) F 9) 106 99 (nI (pcN (seenN M h t) 16 + pcN br 16)) = some (w, S4) := y1
    have y3' : fX12_byLaw (lpA M 77 F 9) 106 99 (nI (pcN (seenN M h t) 16 + pcN br 16)) = some (w, M3) := y3
    obtain ⟨v, hv9, hw⟩ : ∃ v, v ≤ 99 ∧ w = nI v := by
      rcases y5 with e | e
      · exact ⟨_, by omega, e⟩
      · exact e
    subst hw
    obtain ⟨j1, ⟨jv, j2, j3⟩, j4⟩ := s1 h hh
    have e1 : (if nI jv + nI v < (99999 : Int32) then nI jv + nI v else (99999 : Int32)) = nI (min (jv + v) 99999) := by
      rw [nI_add, li 99999, nI_mn (by omega) (by omega)]
    have e2 : (if nI jv + nI v ≤ (99999 : Int32) then nI jv + nI v else (99999 : Int32)) = nI (min (jv + v) 99999) := by
      rw [nI_add, li 99999, nI_mn2 (by omega) (by omega), Nat.min_comm]
    have m356 : M3.1 56 = M.1 56 := by
      funext k
      rw [y4.2 56 k (by decide), mo]
    have m350 : M3.1 55 50 = nI cn := by rw [y4.2 55 50 (by decide), lpA_out M F (by decide)]; exact d4
    have so4 : S4.1 o = S.1 o := by
      funext k
      rw [y2.2 o k (by omega) (by omega), so2]
    have so4' : S4.1 (o + 1) = S.1 (o + 1) := by
      funext k
      rw [y2.2 (o + 1) k (by omega) (by omega), so2']
    have hS1 : S.1 o 1 = nI h := s2.trans e
    have ih16 : inb (nI h) 16 = true := inbT hh (by decide)
    have ih21 : inb (nI h) 21 = true := inbT (by omega) (by decide)
    -- the two runs
    have ec : fX6_lookThrough o (S0.2.2 0) (S0.2.2 2) S (nI t) = if nI (seenN M h t) = 0 then some (pI S4 (o + 1) h (nI (min (jv + v) 99999))) else some (pI (pI S4 (o + 1) h (nI (min (jv + v) 99999))) o 2 (nI (seenN M h t))) := by
      unfold fX6_lookThrough
      rw [hS1, if_neg (show ¬ nI h < 0 from nI_pos (by omega)), if_pos (show nI h < (16 : Int32) by rw [li 16, nlt (by omega) (by decide)]; exact hh), hv, bi_some, hS1, et, bv_some, bitCount6 _ sl, bi_some, so2, s3, s3'', bitCount6 _ (by omega), bi_some, nI_add, bV_e, so2, hS1, if_pos ih16, y1', bi_some, if_pos ih16, nI_clamp (by omega), so2', j1, j3, e1, bS_e, bS_e]
    have em : (bv (fX12_feels M (nI h) (nI t) dr) fun S3 => bi (fX12_seenBy S3 (nI h) (nI t)) fun r7 S4 => if inb ((0 : Int32) + nI h) 21 = true then bi (fX12_bits S4 r7) fun r10 S5 => bi (fX12_bits S5 (S5.1 56 17)) fun r12 S6 => bi (fX12_byLaw S6 (106 : Int32) (99 : Int32) (r10 + r12)) fun r14 S7 => bi (fX12_min S7 (99999 : Int32) ((S4.1 56 (((0 : Int32) + nI h).toNatClampNeg)) + r14)) fun r16 S8 => if inb ((0 : Int32) + nI h) 21 = true then bS (pI S8 56 (((0 : Int32) + nI h).toNatClampNeg) r16) fun S9 => if r7 = 0 then (some S9) else (bS (pI S9 56 17 r7) fun S10 => some S10) else none else none) = if nI (seenN M h t) = 0 then some (pI M3 56 h (nI (min (jv + v) 99999))) else some (pI (pI M3 56 h (nI (min (jv + v) 99999))) 56 17 (nI (seenN M h t))) := by
      rw [ef, bv_some, seenBy12 ivs hh (by omega), bi_some, sns, za, if_pos ih21, bits12 _ sl, bi_some, mo, s3'', bits12 _ (by omega), bi_some, nI_add, y3', bi_some, min12, bi_some, if_pos ih21, nI_clamp (by omega), j3, e2, bS_e, bS_e]
    have ec' : fX6_lookThrough o (S0.2.2 0) (S0.2.2 2) S (nI t) = _ := ec
    unfold fX6_lookThrough at ec'
    rw [s2, e, if_neg (show ¬ nI h < 0 from nI_pos (by omega)), if_pos (show nI h < (16 : Int32) by rw [li 16, nlt (by omega) (by decide)]; exact hh)] at ec'
    rw [ec', em]
    have base : DyI S0 M0 o c0 (pI S4 (o + 1) h (nI (min (jv + v) 99999))) (pI M3 56 h (nI (min (jv + v) 99999))) cn := by
      refine ⟨(d1.tr ((FrD.lp _ _ S F 9).tr y2.d)).tr (FrD.put _ (Or.inr rfl) _ _), (d2.tr ((FrE.lp M F 9).tr y4.e)).tr (FrE.put _ _ _), ⟨fun i hi => ?_, ?_, ?_, ?_, ?_, ?_⟩, ?_, ?_, d6⟩
      · by_cases ei : i = h
        · subst ei
          rw [pI_same, pI_same]
          exact ⟨rfl, ⟨_, by omega, rfl⟩, fun w => by rw [hb] at w; cases w⟩
        · rw [pI_cell _ _ (by omega), pI_cell _ _ (by omega), so4', m356]
          exact s1 i hi
      · rw [pI_row _ _ (by omega), pI_cell _ _ (by omega), so4, m356]; exact ⟨s2, Or.inr ⟨h, hh, e, hb⟩⟩
      · rw [pI_row _ _ (by omega), pI_cell _ _ (by omega), so4, m356]; exact ⟨s3, br, s3', s3''⟩
      · rw [pI_row _ _ (by omega), pI_cell _ _ (by omega), so4, m356]; exact ⟨s4, s4'⟩
      · rw [pI_row _ _ (by omega), pI_cell _ _ (by omega), so4, m356]; exact ⟨s5, s5'⟩
      · rw [pI_row _ _ (by omega), pI_cell _ _ (by omega), so4, m356]; exact ⟨s6, s6'⟩
      · rw [pI_row _ _ (by decide)]; exact m350
      · rw [pI_cell _ _ (by omega), m356]; exact d5
    by_cases c : nI (seenN M h t) = 0
    · rw [if_pos c, if_pos c]
      exact ⟨_, _, rfl, rfl, base, by rw [pI_cell _ _ (by omega), m356]⟩
    · rw [if_neg c, if_neg c]
      have e19 : (pI M3 56 h (nI (min (jv + v) 99999))).1 56 19 = M.1 56 19 := by rw [pI_cell _ _ (by omega), m356]
      generalize pI S4 (o + 1) h (nI (min (jv + v) 99999)) = S5 at base ⊢
      generalize pI M3 56 h (nI (min (jv + v) 99999)) = M5 at base e19 ⊢
      obtain ⟨k1, k2, ⟨z1, z2, z3, z4, z5, z6⟩, k4, k5, k6⟩ := base
      refine ⟨_, _, rfl, rfl, ⟨k1.tr (FrD.put _ (Or.inl rfl) _ _), k2.tr (FrE.put _ _ _), ⟨fun i hi => ?_, ?_, ?_, ?_, ?_, ?_⟩, ?_, ?_, k6⟩, ?_⟩
      · rw [pI_row _ _ (by omega), pI_cell _ _ (by omega)]; exact z1 i hi
      · rw [pI_cell _ _ (by omega), pI_cell _ _ (by omega)]; exact z2
      · rw [pI_same, pI_same]; exact ⟨rfl, _, by omega, rfl⟩
      · rw [pI_cell _ _ (by omega), pI_cell _ _ (by omega)]; exact z4
      · rw [pI_cell _ _ (by omega), pI_cell _ _ (by omega)]; exact z5
      · rw [pI_cell _ _ (by omega), pI_cell _ _ (by omega)]; exact z6
      · rw [pI_row _ _ (by decide)]; exact k4
      · rw [pI_cell _ _ (by omega)]; exact k5
      · rw [pI_cell _ _ (by omega)]; exact e19
def nxL (x : Int32) : Int32 := (((25173 : Int32) * x) + (13849 : Int32)) - (((25173 : Int32) * x) + (13849 : Int32)) / (65536 : Int32) * (65536 : Int32)
theorem nxL_n {x : Nat} (h : x ≤ 65535) : nxL (nI x) = nI ((25173 * x + 13849) % 65536) := by
  unfold nxL
  rw [li 25173, pk_mul, li 13849, nI_add, li 65536, rem_nI (by omega) (by decide) (by decide)]
theorem turn_sim {S0 M0 S M : St} {o c0 cn t : Nat} (h0 : Rel S0 M0) (ho : o = 19 ∨ o = 21) (hI : DyI S0 M0 o c0 S M cn) (ht : t < 12) (hne : M0.1 59 t ≠ -1) : ∃ S' M' cn', (bS (pI S o 5 (nxL (S.1 o 5))) fun S3 => bv (fX6_carry o (S0.2.2 0) (S0.2.2 2) S3 (M0.1 59 t) (nI t)) fun S4 => fX6_lookThrough o (S0.2.2 0) (S0.2.2 2) S4 (nI t)) = some S' ∧ fX12_turnGoes M (nI t) = some M' ∧ DyI S0 M0 o c0 S' M' cn' ∧ M'.1 56 19 = M.1 56 19 := by
  obtain ⟨b1, b2, b3, b4, b5, b6⟩ := hI.base h0 ho
  obtain ⟨d1, d2, ⟨s1, s2, s3, s4, s5, ⟨s6, lo, l1, l2⟩⟩, d4, d5, d6⟩ := id hI
  have hT := h0.2.1.1
  have hL := h0.2.2.2.2.2.2.2.1
  unfold isT at hT
  unfold isL at hL
  obtain ⟨h, hh, e59, hb⟩ : ∃ h, h < 16 ∧ M0.1 59 t = nI h ∧ (hN M0).testBit h = true := by
    rcases (h0.2.2.1 t ht).2 with e | e
    · exact absurd e hne
    · exact e
  have hm : (25173 * lo + 13849) % 65536 < 65536 := Nat.mod_lt _ (by decide)
  have hI1 : DyI S0 M0 o c0 (pI S o 5 (nxL (S.1 o 5))) (pI M 56 20 (nxL (M.1 56 20))) cn := by
    refine ⟨d1.tr (FrD.put _ (Or.inl rfl) _ _), d2.tr (FrE.put _ _ _), ⟨fun i hi => ?_, ?_, ?_, ?_, ?_, ?_⟩, ?_, ?_, d6⟩
    · rw [pI_row _ _ (by omega), pI_cell _ _ (by omega)]; exact s1 i hi
    · rw [pI_cell _ _ (by omega), pI_cell _ _ (by omega)]; exact s2
    · rw [pI_cell _ _ (by omega), pI_cell _ _ (by omega)]; exact s3
    · rw [pI_cell _ _ (by omega), pI_cell _ _ (by omega)]; exact s4
    · rw [pI_cell _ _ (by omega), pI_cell _ _ (by omega)]; exact s5
    · rw [pI_same, pI_same, s6, l2, nxL_n l1]; exact ⟨rfl, _, by omega, rfl⟩
    · rw [pI_row _ _ (by decide)]; exact d4
    · rw [pI_cell _ _ (by omega)]; exact d5
  obtain ⟨S2, M2, cn2, x1, x2, x3, x4, x5⟩ := carry_sim (dr := nxL (M.1 56 20) - nxL (M.1 56 20) / 10 * 10) h0 ho hI1 hh hb ht (by rw [pI_same])
  obtain ⟨S3, M3, y1, y2, y3, y4⟩ := look_sim (dr := nxL (M.1 56 20) - nxL (M.1 56 20) / 10 * 10) h0 ho x3 ht (by rw [x4, pI_same])
  refine ⟨S3, M3, cn2, ?_, ?_, y3, by rw [y4, x5, pI_cell _ _ (by omega)]⟩
  · rw [bS_e, e59, x1, bv_some, y1]
  · have e59' : (pI M 56 20 (nxL (M.1 56 20))).1 59 t = nI h := by rw [pI_row _ _ (by decide), (b4 t ht).2]; exact e59
    have eu : fX12_turnGoes M (nI t) = bS (pI M 56 20 (nxL (M.1 56 20))) fun S1 => bV (((S1.1 56 20) - (S1.1 56 20) / (10 : Int32) * (10 : Int32))) fun v1 => if inb (nI t) 12 = true then bv (fX12_isCarried S1 (S1.1 59 ((nI t).toNatClampNeg)) (nI t) v1) fun S2 => lookM S2 (nI t) v1 else none := rfl
    rw [eu, bS_e, bV_e, if_pos (inbT ht (by decide)), nI_clamp (by omega), e59', pI_same, x2, bv_some, y2]
theorem bv_id (o : Option St) : (bv o fun S => some S) = o := by cases o <;> rfl
theorem day_sim {S0 M0 : St} {o c0 : Nat} (h0 : Rel S0 M0) (ho : o = 19 ∨ o = 21) (rc : St → Int32 → Int32 → Option St) (x y : Int32) : ∀ m j f g S M cn, j + m = 12 → m < f → m < g → DyI S0 M0 o c0 S M cn → (∃ dy, dy < 9999 ∧ M.1 56 19 = nI dy) → ∃ S' M' cn' dy, fX6_liveDays_22 o (S0.2.2 0) (S0.2.2 2) rc f S x y (nI j) = rc S' x (y + 1) ∧ fX12_dayGoes_2 g M (nI j) = some M' ∧ DyI S0 M0 o c0 S' M' cn' ∧ dy ≤ 9999 ∧ M'.1 56 19 = nI dy := by
  intro m
  induction m with
  | zero =>
    intro j f g S M cn h1 h2 h3 hI hdy
    obtain ⟨f, rfl⟩ : ∃ f', f = f' + 1 := ⟨f - 1, by omega⟩
    obtain ⟨g, rfl⟩ : ∃ g', g = g' + 1 := ⟨g - 1, by omega⟩
    obtain ⟨dy, e1, e2⟩ := hdy
    have : j = 12 := by omega
    subst this
    obtain ⟨d1, d2, ⟨s1, s2, s3, s4, ⟨s5, s5'⟩, s6⟩, d4, d5, d6⟩ := hI
    refine ⟨pI S o 4 (nI (dy + 1)), pI M 56 19 (nI (dy + 1)), cn, dy + 1, ?_, ?_, ⟨d1.tr (FrD.put _ (Or.inl rfl) _ _), d2.tr (FrE.put _ _ _), ⟨fun i hi => ?_, ?_, ?_, ?_, ?_, ?_⟩, ?_, ?_, d6⟩, by omega, pI_same _ _ _ _⟩
    · show bX6_liveDays_22 _ _ _ _ _ _ _ _ _ = _
      unfold bX6_liveDays_22
      rw [if_pos (by decide), s5, e2, nI_1, bS_e, bV_e]
    · show bX12_dayGoes_2 _ _ _ = _
      unfold bX12_dayGoes_2
      rw [if_pos (by decide), e2, nI_1, bS_e]
    · rw [pI_row _ _ (by omega), pI_cell _ _ (by omega)]; exact s1 i hi
    · rw [pI_cell _ _ (by omega), pI_cell _ _ (by omega)]; exact s2
    · rw [pI_cell _ _ (by omega), pI_cell _ _ (by omega)]; exact s3
    · rw [pI_cell _ _ (by omega), pI_cell _ _ (by omega)]; exact s4
    · rw [pI_same, pI_same]; exact ⟨rfl, _, by omega, rfl⟩
    · rw [pI_cell _ _ (by omega), pI_cell _ _ (by omega)]; exact s6
    · rw [pI_row _ _ (by decide)]; exact d4
    · rw [pI_cell _ _ (by omega)]; exact d5
  | succ m ih =>
    intro j f g S M cn h1 h2 h3 hI hdy
    obtain ⟨f, rfl⟩ : ∃ f', f = f' + 1 := ⟨f - 1, by omega⟩
    obtain ⟨g, rfl⟩ : ∃ g', g = g' + 1 := ⟨g - 1, by omega⟩
    have hj : j < 12 := by omega
    obtain ⟨b1, b2, b3, b4, b5, b6⟩ := hI.base h0 ho
    have e9 : S.1 9 j = M0.1 59 j := (b4 j hj).1.trans (b4 j hj).2
    have eM : fX12_dayGoes_2 (g + 1) M (nI j) = if M0.1 59 j = -1 then fX12_dayGoes_2 g M (nI (j + 1)) else bv (fX12_turnGoes M (nI j)) fun S2 => fX12_dayGoes_2 g S2 (nI (j + 1)) := by
      show bX12_dayGoes_2 _ _ _ = _
      unfold bX12_dayGoes_2
      rw [li 12, if_neg (by rw [nle (by decide) (by omega)]; omega), if_pos (inbT hj (by decide)), nI_clamp (by omega), (b4 j hj).2, bV_e, nI_1]
      rfl
    have eC : fX6_liveDays_22 o (S0.2.2 0) (S0.2.2 2) rc (f + 1) S x y (nI j) = if M0.1 59 j = -1 then fX6_liveDays_22 o (S0.2.2 0) (S0.2.2 2) rc f S x y (nI (j + 1)) else (bS (pI S o 5 (nxL (S.1 o 5))) fun S3 => bv (fX6_carry o (S0.2.2 0) (S0.2.2 2) S3 (M0.1 59 j) (nI j)) fun S4 => bv (fX6_lookThrough o (S0.2.2 0) (S0.2.2 2) S4 (nI j)) fun S5 => fX6_liveDays_22 o (S0.2.2 0) (S0.2.2 2) rc f S5 x y (nI (j + 1))) := by
      show bX6_liveDays_22 _ _ _ _ _ _ _ _ _ = _
      unfold bX6_liveDays_22
      rw [li 12, if_neg (by rw [nle (by decide) (by omega)]; omega), holder4 hj, bi_some, e9, bV_e, nI_1]
      rfl
    by_cases c : M0.1 59 j = -1
    · rw [eC, eM, if_pos c, if_pos c]
      exact ih (j + 1) f g S M cn (by omega) (by omega) (by omega) hI hdy
    · obtain ⟨S', M', cn', x1, x2, x3, x4⟩ := turn_sim h0 ho hI hj c
      rw [eC, eM, if_neg c, if_neg c, x2, bv_some]
      have e3 : (bS (pI S o 5 (nxL (S.1 o 5))) fun S3 => bv (fX6_carry o (S0.2.2 0) (S0.2.2 2) S3 (M0.1 59 j) (nI j)) fun S4 => bv (fX6_lookThrough o (S0.2.2 0) (S0.2.2 2) S4 (nI j)) fun S5 => fX6_liveDays_22 o (S0.2.2 0) (S0.2.2 2) rc f S5 x y (nI (j + 1))) = fX6_liveDays_22 o (S0.2.2 0) (S0.2.2 2) rc f S' x y (nI (j + 1)) := by
        rw [bS_e] at x1 ⊢
        cases q : fX6_carry o (S0.2.2 0) (S0.2.2 2) (pI S o 5 (nxL (S.1 o 5))) (M0.1 59 j) (nI j) with
        | none =>
          rw [q] at x1
          cases x1
        | some S4 =>
          rw [q, bv_some] at x1
          rw [bv_some, x1, bv_some]
      rw [e3]
      have hd' : ∃ dy, dy < 9999 ∧ M'.1 56 19 = nI dy := by rw [x4]; exact hdy
      exact ih (j + 1) f g S' M' cn' (by omega) (by omega) (by omega) x3 hd'
theorem days_loop {S0 M0 : St} {o c0 n : Nat} (h0 : Rel S0 M0) (ho : o = 19 ∨ o = 21) (hn : n ≤ 100) : ∀ m i f g S M cn, i + m = n → m < f → m < g → DyI S0 M0 o c0 S M cn → ∃ S' M' cn', fX6_liveDays_3 o (S0.2.2 0) (S0.2.2 2) f S (nI n) (nI i) = some S' ∧ fX12_daysGo_7 g M (nI n) (nI i) = some M' ∧ DyI S0 M0 o c0 S' M' cn' := by
  intro m
  induction m with
  | zero =>
    intro i f g S M cn h1 h2 h3 hI
    obtain ⟨f, rfl⟩ : ∃ f', f = f' + 1 := ⟨f - 1, by omega⟩
    obtain ⟨g, rfl⟩ : ∃ g', g = g' + 1 := ⟨g - 1, by omega⟩
    refine ⟨S, M, cn, ?_, ?_, hI⟩
    · show bX6_liveDays_3 _ _ _ _ _ _ _ = _
      unfold bX6_liveDays_3
      rw [if_pos (by rw [nle (by omega) (by omega)]; omega)]
    · show bX12_daysGo_7 _ _ _ _ = _
      unfold bX12_daysGo_7
      rw [if_pos (by rw [nle (by omega) (by omega)]; omega)]
  | succ m ih =>
    intro i f g S M cn h1 h2 h3 hI
    obtain ⟨f, rfl⟩ : ∃ f', f = f' + 1 := ⟨f - 1, by omega⟩
    obtain ⟨g, rfl⟩ : ∃ g', g = g' + 1 := ⟨g - 1, by omega⟩
    obtain ⟨s5, dy, s5', s5''⟩ := hI.2.2.1.2.2.2.2.1
    have eC : fX6_liveDays_3 o (S0.2.2 0) (S0.2.2 2) (f + 1) S (nI n) (nI i) = if 9999 ≤ dy then some S else fX6_liveDays_22 o (S0.2.2 0) (S0.2.2 2) (fX6_liveDays_3 o (S0.2.2 0) (S0.2.2 2) f) 100 S (nI n) (nI i) 0 := by
      show bX6_liveDays_3 _ _ _ _ _ _ _ = _
      unfold bX6_liveDays_3
      rw [if_neg (by rw [nle (by omega) (by omega)]; omega), s5, s5'']
      by_cases c : 9999 ≤ dy
      · rw [if_pos c, if_pos (show (9999 : Int32) ≤ nI dy by rw [li 9999, nle (by decide) (by omega)]; exact c)]
      · rw [if_neg c, if_neg (show ¬ (9999 : Int32) ≤ nI dy by rw [li 9999, nle (by decide) (by omega)]; exact c)]
    have eM : fX12_daysGo_7 (g + 1) M (nI n) (nI i) = if 9999 ≤ dy then some M else bv (fX12_dayGoes M) fun S1 => fX12_daysGo_7 g S1 (nI n) (nI (i + 1)) := by
      show bX12_daysGo_7 _ _ _ _ = _
      unfold bX12_daysGo_7
      rw [if_neg (by rw [nle (by omega) (by omega)]; omega), s5'']
      by_cases c : 9999 ≤ dy
      · rw [if_pos c, if_pos (show (9999 : Int32) ≤ nI dy by rw [li 9999, nle (by decide) (by omega)]; exact c)]
      · rw [if_neg c, if_neg (show ¬ (9999 : Int32) ≤ nI dy by rw [li 9999, nle (by decide) (by omega)]; exact c)]
        simp only [bV_e, nI_1]
    rw [eC, eM]
    by_cases c : 9999 ≤ dy
    · rw [if_pos c, if_pos c]
      exact ⟨S, M, cn, rfl, rfl, hI⟩
    · obtain ⟨S', M', cn', _, x1, x2, x3, _, _⟩ := day_sim h0 ho (fX6_liveDays_3 o (S0.2.2 0) (S0.2.2 2) f) (nI n) (nI i) 12 0 100 100 S M cn (by decide) (by decide) (by decide) hI ⟨dy, by omega, s5''⟩
      have x1 : fX6_liveDays_22 o (S0.2.2 0) (S0.2.2 2) (fX6_liveDays_3 o (S0.2.2 0) (S0.2.2 2) f) 100 S (nI n) (nI i) 0 = _ := x1
      have x2 : fX12_dayGoes M = some M' := x2
      rw [if_neg c, if_neg c, x1, x2, bv_some, nI_1]
      exact ih (i + 1) f g S' M' cn' (by omega) (by omega) (by omega) x3
theorem days_sim {S M : St} {o n : Nat} (h : Rel S M) (ho : o = 19 ∨ o = 21) (hR : RSta S M o 56 (hN M)) (hn : n ≤ 100) : ∃ S' M' c0 cn, fX6_liveDays o (S.2.2 0) (S.2.2 2) S (nI n) = some S' ∧ fX12_daysGo M (nI n) = some M' ∧ M.1 56 18 = nI c0 ∧ DyI S M o c0 S' M' cn := by
  obtain ⟨c0, c1, c2⟩ := hR.2.2.2.1.2
  have hI : DyI S M o c0 S (pI M 55 50 0) 0 := ⟨FrD.rf _ _ _, FrE.p50 _ _, hR.row rfl rfl (by rw [pI_row _ _ (by decide)]), pI_same _ _ _ _, by rw [pI_row _ _ (by decide)]; exact c2, by omega⟩
  obtain ⟨S', M', cn, x1, x2, x3⟩ := days_loop h ho hn n 0 200 200 S (pI M 55 50 0) 0 (by omega) (by omega) (by omega) hI
  refine ⟨S', M', c0, cn, x1, ?_, c2, x3⟩
  unfold fX12_daysGo
  rw [bS_e]
  exact x2
theorem Rel.lived {S M S' M' : St} (h : Rel S M) (hC : FrD 19 (S.2.2 2) S S') (hM : FrE M M') (hR : RSta S' M' 19 56 (hN M)) : Rel S' M' := by
  have hI : DyI S M 19 0 S' M' 0 → True := fun _ => trivial
  obtain ⟨a1, a2, a3, a4, a5, a6, a7, a8⟩ := id h
  have hT := a2.1
  have hL := a8.1
  unfold isT at hT
  unfold isL at hL
  have s2 : S'.2.2 = S.2.2 := by rw [hC.1]
  have cS := hC.2
  have cM := hM.2
  have aM : AgC strM M M' := fun a k hp => cM a k (by unfold strM at hp; omega) (by unfold strM at hp; omega) (by unfold strM at hp; omega) (by unfold strM at hp; omega)
  refine ⟨a1.cg aM, a2.cg aM (by rw [s2]) (by rw [s2]) (fun a k hp => cS a k (by unfold strC at hp; omega) (by unfold strC at hp; omega) (by unfold strC at hp; omega) (by unfold strC at hp; omega) (by unfold strC at hp; omega)), a3.cg (hN_cg aM) (fun j _ => cS 9 j (by omega) (by omega) (by omega) (by omega) (by omega)) (fun j _ => cM 59 j (by decide) (by decide) (by decide) (by omega)), by rw [hN_cg aM]; exact hR, a5.cg (fun a k hp => cS a k (by unfold kepC at hp; omega) (by unfold kepC at hp; omega) (by unfold kepC at hp; omega) (by unfold kepC at hp; omega) (by unfold kepC at hp; omega)) (fun a k hp => cM a k (by unfold kepM at hp; omega) (by unfold kepM at hp; omega) (by unfold kepM at hp; omega) (by unfold kepM at hp; omega)), a6.cg (cS 1 1 (by omega) (by omega) (by omega) (by omega) (by omega)) (cM 55 11 (by decide) (by decide) (by decide) (by omega)) (fun j _ => cS 2 j (by omega) (by omega) (by omega) (by omega) (by omega)) (fun j _ => cM 64 j (by decide) (by decide) (by decide) (by omega)), a7.cg (fun a h1 h2 k _ => cM a k (by omega) (by omega) (by omega) (by omega)), a8.cg (by rw [s2]) (by rw [s2]) (fun a k hp => cS a k (by unfold rulC at hp; omega) (by unfold rulC at hp; omega) (by unfold rulC at hp; omega) (by unfold rulC at hp; omega) (by unfold rulC at hp; omega)) (fun a k hp => cM a k (by unfold rulM at hp; omega) (by unfold rulM at hp; omega) (by unfold rulM at hp; omega) (by unfold rulM at hp; omega))⟩
theorem sim_days (S M : St) (x : Int32) (h : Rel S M) : ∃ v S1 M1, fX11_days S x = some (v, S1) ∧ fX12_days M x = some (v, M1) ∧ Rel S1 M1 := by
  have hti := h.2.1.1
  have hli := h.2.2.2.2.2.2.2.1
  unfold fX11_days fX12_days
  rw [in12, bi_some, ite_b2i, i1, i100]
  by_cases hx : inR x 1 100 = true
  · obtain ⟨n, h1, h2, rfl⟩ := inR_natL (m := 1) (n := 100) hx (by decide)
    obtain ⟨S', M', c0, cn, x1, x2, x3, x4⟩ := days_sim h (Or.inl rfl) h.2.2.2.1 h2
    obtain ⟨d1, d2, d3, d4, d5, d6⟩ := x4
    rw [if_pos hx, if_neg (show ¬ nI n < (1 : Int32) by rw [li 1, nlt (by omega) (by decide)]; omega), if_pos (show nI n ≤ (100 : Int32) by rw [li 100, nle (by omega) (by decide)]; exact h2), bV_e, if_pos hti, if_pos hli, x1, bv_some, x2, bv_some]
    have e1 : S'.1 19 3 - S.1 19 3 = M'.1 55 50 := by
      rw [d3.2.2.2.1.1, h.2.2.2.1.2.2.2.1.1, x3, d4, d5, pk_sub (by omega), Nat.add_sub_cancel_left]
    rw [e1]
    exact ⟨_, _, _, rfl, rfl, h.lived d1 d2 d3⟩
  · rw [if_neg hx]
    rw [inR_t] at hx
    by_cases c : x < 1
    · rw [if_pos c]
      exact ⟨_, _, _, rfl, rfl, h⟩
    · rw [if_neg c, if_neg (by
        rw [Ile, i100]
        rw [Ilt, i1] at c
        omega)]
      exact ⟨_, _, _, rfl, rfl, h⟩
