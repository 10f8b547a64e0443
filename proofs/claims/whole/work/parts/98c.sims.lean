-- days
def FrD (o r : Nat) (S S' : St) : Prop := S'.2 = S.2 ∧ ∀ a k, a ≠ o → a ≠ o + 1 → ¬ (a = r ∧ (k = 8 ∨ k = 9 ∨ k = 10)) → a ≠ r + 5 → a ≠ r + 6 → S'.1 a k = S.1 a k
def FrE (M M' : St) : Prop := M'.2 = M.2 ∧ ∀ a k, a ≠ 56 → a ≠ 76 → a ≠ 77 → ¬ (a = 55 ∧ k = 50) → M'.1 a k = M.1 a k
theorem FrD.rf (o r : Nat) (S : St) : FrD o r S S := ⟨rfl, fun _ _ _ _ _ _ _ => rfl⟩
theorem FrD.tr {o r : Nat} {S S1 S2 : St} (h : FrD o r S S1) (h2 : FrD o r S1 S2) : FrD o r S S2 := ⟨h2.1.trans h.1, fun a k x1 x2 x3 x4 x5 => (h2.2 a k x1 x2 x3 x4 x5).trans (h.2 a k x1 x2 x3 x4 x5)⟩
theorem FrE.rf (M : St) : FrE M M := ⟨rfl, fun _ _ _ _ _ _ => rfl⟩
theorem FrE.tr {M M1 M2 : St} (h : FrE M M1) (h2 : FrE M1 M2) : FrE M M2 := ⟨h2.1.trans h.1, fun a k x1 x2 x3 x4 => (h2.2 a k x1 x2 x3 x4).trans (h.2 a k x1 x2 x3 x4)⟩
theorem FrL.d {o r : Nat} {S S' : St} (h : FrL r S S') : FrD o r S S' := ⟨h.1, fun a k _ _ x3 _ x5 => h.2 a k x3 x5⟩
theorem FrK.e {M M' : St} (h : FrK M M') : FrE M M' := ⟨h.1, fun a k _ x2 _ _ => h.2 a k x2⟩
theorem FrD.lp (o r : Nat) (S : St) (F : Nat → Int32) (n : Nat) : FrD o r S (lpA S (r + 5) F n) := ⟨rfl, fun a k _ _ _ x4 _ => by rw [lpA_out S F x4]⟩
theorem FrE.lp (M : St) (F : Nat → Int32) (n : Nat) : FrE M (lpA M 77 F n) := ⟨rfl, fun a k _ _ x3 _ => by rw [lpA_out M F x3]⟩
theorem FrD.put {o r a : Nat} (S : St) (h : a = o ∨ a = o + 1) (k : Nat) (v : Int32) : FrD o r S (pI S a k v) := ⟨rfl, fun b j x1 x2 _ _ _ => by rw [pI_row S v (by omega)]⟩
theorem FrE.put (M : St) (k : Nat) (v : Int32) : FrE M (pI M 56 k v) := ⟨rfl, fun b j x1 _ _ _ => by rw [pI_row M v x1]⟩
theorem FrE.p50 (M : St) (v : Int32) : FrE M (pI M 55 50 v) := ⟨rfl, fun b j _ _ _ x4 => pI_cell M v x4⟩
/-- the days' state, while they go -/
def DyI (S0 M0 : St) (o c0 : Nat) (S M : St) (cn : Nat) : Prop := FrD o (S0.2.2 2) S0 S ∧ FrE M0 M ∧ RSta S M o 56 (hN M0) ∧ M.1 55 50 = nI cn ∧ M.1 56 18 = nI (c0 + cn) ∧ c0 + cn ≤ 9999
theorem DyI.base {S0 M0 S M : St} {o c0 cn : Nat} (h0 : Rel S0 M0) (ho : o = 19 ∨ o = 21) (h : DyI S0 M0 o c0 S M cn) : IvS M ∧ RStr S M ∧ RRul S M ∧ (∀ j, j < 12 → S.1 9 j = M.1 59 j ∧ M.1 59 j = M0.1 59 j) ∧ hN M = hN M0 ∧ S.2.2 = S0.2.2 := by
  obtain ⟨a1, a2, a3, a4, a5, a6, a7, a8⟩ := h0
  obtain ⟨d1, d2, _⟩ := h
  have hT := a2.1
  have hL := a8.1
  unfold isT at hT
  unfold isL at hL
  have s2 : S.2.2 = S0.2.2 := by rw [d1.1]
  have cS : ∀ a k, a ≠ o → a ≠ o + 1 → ¬ (a = S0.2.2 2 ∧ (k = 8 ∨ k = 9 ∨ k = 10)) → a ≠ S0.2.2 2 + 5 → a ≠ S0.2.2 2 + 6 → S.1 a k = S0.1 a k := d1.2
  have cM := d2.2
  have aM : AgC strM M0 M := fun a k hp => cM a k (by unfold strM at hp; omega) (by unfold strM at hp; omega) (by unfold strM at hp; omega) (by unfold strM at hp; omega)
  refine ⟨a1.cg aM, a2.cg aM (by rw [s2]) (by rw [s2]) (fun a k hp => cS a k (by unfold strC at hp; omega) (by unfold strC at hp; omega) (by unfold strC at hp; omega) (by unfold strC at hp; omega) (by unfold strC at hp; omega)), a8.cg (by rw [s2]) (by rw [s2]) (fun a k hp => cS a k (by unfold rulC at hp; omega) (by unfold rulC at hp; omega) (by unfold rulC at hp; omega) (by unfold rulC at hp; omega) (by unfold rulC at hp; omega)) (fun a k hp => cM a k (by unfold rulM at hp; omega) (by unfold rulM at hp; omega) (by unfold rulM at hp; omega) (by unfold rulM at hp; omega)), fun j hj => ?_, hN_cg aM, s2⟩
  rw [cS 9 j (by omega) (by omega) (by omega) (by omega) (by omega), cM 59 j (by decide) (by decide) (by decide) (by omega)]
  exact ⟨(a3 j hj).1, rfl⟩
theorem view8R {S M : St} (h1 : IvS M) (h2 : RStr S M) {a t : Nat} (ha : a < 16) (ht : t < 12) (hb : (hN M).testBit a = true) : fX8_view (S.2.2 0) S (nI a) (nI t) = some (nI (seenN M a t), S) := by
  unfold fX8_view fX8_view_29
  have e7 : S.1 (S.2.2 0) 7 = nI (hN M) := h2.2.2.2.1.trans h1.1.1
  rw [hasHouse8, bi_some, hoN8 h1.1.2 e7 ha, hb, b2i_t, if_neg (by decide), isTurn11, bi_some, tu_nI ht, b2i_t, if_neg (by decide)]
  have hm : nI a * (12 : Int32) + nI t = nI (a * 12 + t) := by rw [li 12, pk_mul, nI_add]
  rw [hm, if_pos (inbT (by omega) (by decide)), nI_clamp (by omega), h2.2.2.2.2.2.2.1 a ha t ht, if_pos hb]
/-- only the window's cells of the two states' rows -/
theorem RSta.row {S M S' M' : St} {o hs : Nat} (a : RSta S M o 56 hs) (h1 : S'.1 o = S.1 o) (h2 : S'.1 (o + 1) = S.1 (o + 1)) (h3 : M'.1 56 = M.1 56) : RSta S' M' o 56 hs := by
  unfold RSta
  rw [h1, h2, h3]
  exact a
theorem carry_sim {S0 M0 S M : St} {o c0 cn h t : Nat} {dr : Int32} (h0 : Rel S0 M0) (ho : o = 19 ∨ o = 21) (hI : DyI S0 M0 o c0 S M cn) (hh : h < 16) (hb : (hN M0).testBit h = true) (ht : t < 12) (hdr : dr = M.1 56 20 - M.1 56 20 / 10 * 10) : ∃ S' M' cn', fX6_carry o (S0.2.2 0) (S0.2.2 2) S (nI h) (nI t) = some S' ∧ fX12_isCarried M (nI h) (nI t) dr = some M' ∧ DyI S0 M0 o c0 S' M' cn' ∧ M'.1 56 20 = M.1 56 20 ∧ M'.1 56 19 = M.1 56 19 := by
  obtain ⟨b1, b2, b3, b4, b5, b6⟩ := hI.base h0 ho
  obtain ⟨d1, d2, d3, d4, d5, d6⟩ := hI
  obtain ⟨s1, ⟨s2, s2'⟩, ⟨s3, br, s3', s3''⟩, ⟨s4, cr, s4', s4''⟩, ⟨s5, s5'⟩, ⟨s6, s6'⟩⟩ := id d3
  have hT := h0.2.1.1
  have hL := h0.2.2.2.2.2.2.2.1
  have hLi := hL
  unfold isT at hT
  unfold isL at hL
  have er0 : S.2.2 0 = S0.2.2 0 := by rw [b6]
  have er2 : S.2.2 2 = S0.2.2 2 := by rw [b6]
  have hne : o ≠ S0.2.2 2 + 5 := by omega
  have sl := seenN_lt M h t
  have hv := view8R b1 b2 hh ht (by rw [b5]; exact hb)
  rw [er0] at hv
  have ef := feel12 b1 hh ht s3'' (by omega) hdr
  have et := tell6 (S := S) (o := o) (r := S0.2.2 2) (h := nI h) (t := nI t) hne (s3.trans s3'') (by omega) sl
  rw [s2, s4, s5, s6] at et
  generalize hF : Flv (M.1 56 16) (nI (pcN br 16)) (M.1 56 18) (M.1 56 19) (M.1 56 20) (nI h) (nI t) (seenN M h t) = F at ef et
  unfold fX12_isCarried
  rw [ef, bv_some]
  -- the rules, over the told letters
  have hR2 : RRul (lpA S (S0.2.2 2 + 5) F 9) (lpA M 77 F 9) := b3.cg rfl rfl (fun a k hp => by rw [lpA_out S F (by unfold rulC at hp; rw [er2] at hp; omega)]) (fun a k hp => by rw [lpA_out M F (by unfold rulM at hp; omega)])
  have er2' : (lpA S (S0.2.2 2 + 5) F 9).2.2 2 = S0.2.2 2 := er2
  obtain ⟨H, S3, M2, x1, x2, x3, x4⟩ := law_x hR2 F (fun k hk => by rw [er2']; exact lpA_in S F hk) (fun k hk => lpA_in M F hk)
  rw [er2'] at x1 x2
  rw [x3, bi_some]
  have m56 : M2.1 56 = M.1 56 := by
    funext k
    rw [x4.2 56 k (by decide), lpA_out M F (by decide)]
  have fM2 : FrE M M2 := (FrE.lp M F 9).tr x4.e
  have so3 : S3.1 o = S.1 o := by
    funext k
    rw [x2.2 o k (by omega) (by omega), lpA_out S F hne]
  have so3' : S3.1 (o + 1) = S.1 (o + 1) := by
    funext k
    rw [x2.2 (o + 1) k (by omega) (by omega), lpA_out S F (by omega)]
  have fS3 : FrD o (S0.2.2 2) S S3 := (FrD.lp _ _ S F 9).tr x2.d
  have m50 : M2.1 55 50 = nI cn := by rw [x4.2 55 50 (by decide), lpA_out M F (by decide)]; exact d4
  unfold fX6_carry
  by_cases cw : S.1 o 1 = nI h
  · rw [if_pos cw]
    refine ⟨S, M2, cn, rfl, ?_, ⟨d1, d2.tr fM2, d3.row rfl rfl m56, m50, by rw [m56]; exact d5, d6⟩, by rw [m56], by rw [m56]⟩
    rw [m56, ← s2, if_pos cw]
    cases H
    · rw [b2i_f, if_pos rfl]
    · rw [b2i_t, if_neg (by decide)]
  · rw [if_neg cw, hv, bi_some, et, bv_some, x1, bi_some]
    cases H with
    | true =>
      rw [b2i_t, if_neg (by decide), if_neg (by decide)]
      exact ⟨S3, M2, cn, rfl, rfl, ⟨d1.tr fS3, d2.tr fM2, d3.row so3 so3' m56, m50, by rw [m56]; exact d5, d6⟩, by rw [m56], by rw [m56]⟩
    | false =>
      rw [b2i_f, if_pos rfl, if_pos rfl, m56, if_neg (show ¬ M.1 56 16 = nI h by rw [← s2]; exact cw)]
      have hR3 : RRul S3 M2 := hR2.cg (by rw [x2.1]) (by rw [x2.1]) (fun a k hp => x2.2 a k (by unfold rulC at hp; rw [er2'] at hp; omega) (by unfold rulC at hp; rw [er2'] at hp; omega)) (fun a k hp => x4.2 a k (by unfold rulM at hp; omega))
      have er3 : S3.2.2 2 = S0.2.2 2 := by rw [x2.1]; exact er2
      obtain ⟨w, S4, M3, y1, y2, y3, y4, y5⟩ := law_w hR3 F (fun k hk => by rw [er3, x2.2 _ k (by omega) (by omega)]; exact lpA_in S F hk) (fun k hk => by rw [x4.2 77 k (by decide)]; exact lpA_in M F hk) (x := 99) (d := 0) (by decide) (y := 9) (by decide) (by decide)
      rw [er3] at y1 y2
      obtain ⟨v, hv9, hw⟩ : ∃ v, v ≤ 9 ∧ w = nI v := by
        rcases y5 with e | e
        · exact ⟨0, by decide, e⟩
        · exact e
      subst hw
      have hcr : c0 + cn = cr := (neq (by omega) (by omega)).mp (d5.symm.trans s4'')
      have m356 : M3.1 56 = M.1 56 := by
        funext k
        rw [y4.2 56 k (by decide), m56]
      have m350 : M3.1 55 50 = nI cn := by rw [y4.2 55 50 (by decide)]; exact m50
      have so4 : S4.1 o = S.1 o := by
        funext k
        rw [y2.2 o k (by omega) (by omega), so3]
      have so4' : S4.1 (o + 1) = S.1 (o + 1) := by
        funext k
        rw [y2.2 (o + 1) k (by omega) (by omega), so3']
      have y1' : fX2_worthOf (S0.2.2 2) S3 99 9 0 = some (nI v, S4) := y1
      have y3' : fX12_byLaw M2 99 9 0 = some (nI v, M3) := y3
      have e1 : (if nI cr + nI v < (9999 : Int32) then nI cr + nI v else (9999 : Int32)) = nI (min (cr + v) 9999) := by
        rw [nI_add, li 9999, nI_mn (by omega) (by omega)]
      have e2 : (if (9999 : Int32) - nI cr ≤ nI v then (9999 : Int32) - nI cr else nI v) = nI (min v (9999 - cr)) := by
        rw [li 9999, pk_sub (by omega), nI_mn2 (by omega) (by omega)]
      have hmin : min (cr + v) 9999 = cr + min v (9999 - cr) := by omega
      rw [y1', bi_some, y3', bi_some, so3, s4, s4'', e1, bS_e, bS_e, min12, bi_some, m356, s4'', e2, bS_e, nI_add, pI_row _ _ (show 55 ≠ 56 by decide), m350, nI_add, bS_e, bS_e]
      refine ⟨_, _, cn + min v (9999 - cr), rfl, rfl, ⟨?_, ?_, ?_, ?_, ?_, by omega⟩, ?_, ?_⟩
      · exact (d1.tr fS3).tr ((y2.d.tr (FrD.put _ (Or.inl rfl) _ _)).tr (FrD.put _ (Or.inl rfl) _ _))
      · exact (d2.tr fM2).tr (((y4.e.tr (FrE.put _ _ _)).tr (FrE.p50 _ _)).tr (FrE.put _ _ _))
      · refine ⟨fun i hi => ?_, ?_, ?_, ?_, ?_, ?_⟩
        · rw [pI_row _ _ (by omega), pI_row _ _ (by omega), so4', pI_cell _ _ (by omega), pI_row _ _ (by decide), pI_cell _ _ (by omega), m356]
          exact s1 i hi
        · rw [pI_same, pI_same]
          exact ⟨rfl, Or.inr ⟨h, hh, rfl, hb⟩⟩
        · rw [pI_cell _ _ (by omega), pI_cell _ _ (by omega), so4, pI_cell _ _ (by omega), pI_row _ _ (by decide), pI_cell _ _ (by omega), m356]
          exact ⟨s3, br, s3', s3''⟩
        · rw [pI_cell _ _ (by omega), pI_same, pI_cell _ _ (by omega), pI_row _ _ (by decide), pI_same, hmin]
          exact ⟨rfl, _, by omega, rfl⟩
        · rw [pI_cell _ _ (by omega), pI_cell _ _ (by omega), so4, pI_cell _ _ (by omega), pI_row _ _ (by decide), pI_cell _ _ (by omega), m356]
          exact ⟨s5, s5'⟩
        · rw [pI_cell _ _ (by omega), pI_cell _ _ (by omega), so4, pI_cell _ _ (by omega), pI_row _ _ (by decide), pI_cell _ _ (by omega), m356]
          exact ⟨s6, s6'⟩
      · rw [pI_row _ _ (by decide), pI_same]
      · rw [pI_cell _ _ (by omega), pI_row _ _ (by decide), pI_same, ← hcr, Nat.add_assoc]
      · rw [pI_cell _ _ (by omega), pI_row _ _ (by decide), pI_cell _ _ (by omega), m356]
      · rw [pI_cell _ _ (by omega), pI_row _ _ (by decide), pI_cell _ _ (by omega), m356]
