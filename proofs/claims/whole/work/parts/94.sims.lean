-- a holder of the rota's text
def AO (g c : Nat) (M : St) : Option (Int32 × St) := bi (fX12_readsTurn_241 c M) fun r S => fX12_rota_40 g S r
def ST (g c : Nat) (M : St) : Option (Int32 × St) := bi (bv (fX12_readsTimes M) fun S1 => fX12_readsTurn_4 c S1) fun r S => fX12_rota_40 g S r
theorem r40_0 {g : Nat} (hg : 0 < g) (M : St) : fX12_rota_40 g M 0 = fX12_rota_70 M 0 := by
  obtain ⟨g, rfl⟩ : ∃ g', g = g' + 1 := ⟨g - 1, by omega⟩
  show bX12_rota_40 _ _ _ = _
  unfold bX12_rota_40
  rw [if_pos rfl]
def spS (nh : Nat) (S : St) (hv : Int32) (q : Nat) : St := if (hv ≠ -1 ∧ hoB (nI nh) hv = false) ∧ S.1 5 3 = -1 then pI S 5 3 (nI q) else S
def adS (nh : Nat) (S : St) (hv : Int32) (q l : Nat) : St := pI (pI (spS nh S hv q) 6 l hv) 5 2 (nI (l + 1))
def adM (M : St) (hv : Int32) (q l : Nat) : St := pI (pI (pI (pI M 82 l hv) 83 l (nI q)) 55 12 (nI (q + 1))) 55 46 (nI (l + 1))
theorem spS_row {nh : Nat} {S : St} {hv : Int32} {q o : Nat} (h : o ≠ 5) : (spS nh S hv q).1 o = S.1 o := by
  unfold spS
  by_cases c : (hv ≠ -1 ∧ hoB (nI nh) hv = false) ∧ S.1 5 3 = -1
  · rw [if_pos c, pI_row _ _ h]
  · rw [if_neg c]
theorem spS_ref {nh : Nat} {S : St} {hv : Int32} {q : Nat} : (spS nh S hv q).2 = S.2 := by
  unfold spS
  by_cases c : (hv ≠ -1 ∧ hoB (nI nh) hv = false) ∧ S.1 5 3 = -1
  · rw [if_pos c]; rfl
  · rw [if_neg c]
theorem DrL.add {nh : Nat} {S M : St} {l q : Nat} {hv : Int32} (h : DrL nh S M l) (hl : l < 12) (hq : q < 261) : DrL nh (adS nh S hv q l) (adM M hv q l) (l + 1) := by
  obtain ⟨d0, d1, d2, d3, d4⟩ := h
  have m82 : ∀ j, (adM M hv q l).1 82 j = if j = l then hv else M.1 82 j := fun j => by
    unfold adM
    rw [pI_row _ _ (by decide), pI_row _ _ (by decide), pI_row _ _ (by decide)]
    by_cases e : j = l
    · subst e; rw [pI_same, if_pos rfl]
    · rw [pI_cell _ _ (by omega), if_neg e]
  have m83 : ∀ j, (adM M hv q l).1 83 j = if j = l then nI q else M.1 83 j := fun j => by
    unfold adM
    rw [pI_row _ _ (by decide), pI_row _ _ (by decide)]
    by_cases e : j = l
    · subst e; rw [pI_same, if_pos rfl]
    · rw [pI_cell _ _ (by omega), pI_row _ _ (by decide), if_neg e]
  have s53 : (adS nh S hv q l).1 5 3 = if (hv ≠ -1 ∧ hoB (nI nh) hv = false) ∧ S.1 5 3 = -1 then nI q else S.1 5 3 := by
    unfold adS
    rw [pI_cell _ _ (by decide), pI_row _ _ (by decide)]
    unfold spS
    by_cases c : (hv ≠ -1 ∧ hoB (nI nh) hv = false) ∧ S.1 5 3 = -1
    · rw [if_pos c, if_pos c, pI_same]
    · rw [if_neg c, if_neg c]
  refine ⟨hl, pI_same _ _ _ _, pI_same _ _ _ _, fun j hj => ?_, ?_⟩
  · rw [m82]
    unfold adS
    rw [pI_row _ _ (by decide)]
    by_cases e : j = l
    · subst e; rw [pI_same, if_pos rfl]
    · rw [pI_cell _ _ (by omega), spS_row (by decide), if_neg e]
      exact d3 j (by omega)
  · rw [s53]
    simp only [m82, m83]
    rcases d4 with ⟨k1, k2⟩ | ⟨j, r, k1, k2, k3, k4, k5, k6⟩
    · by_cases c : strN nh hv
      · refine Or.inr ⟨l, q, by omega, hq, by rw [if_pos rfl]; exact c, fun i hi => by rw [if_neg (by omega)]; exact k2 i hi, by rw [if_pos ⟨c, k1⟩], by rw [if_pos rfl]⟩
      · refine Or.inl ⟨by rw [if_neg (fun w => c w.1)]; exact k1, fun j hj => ?_⟩
        by_cases e : j = l
        · rw [if_pos e]; exact c
        · rw [if_neg e]; exact k2 j (by omega)
    · refine Or.inr ⟨j, r, by omega, k2, by rw [if_neg (by omega)]; exact k3, fun i hi => by rw [if_neg (by omega)]; exact k4 i hi, ?_, by rw [if_neg (by omega)]; exact k6⟩
      rw [if_neg (fun w => by rw [k5] at w; exact nm1 (by omega) w.2)]
      exact k5
theorem adS_fr {nh : Nat} (S : St) (hv : Int32) (q l : Nat) : FrR S (adS nh S hv q l) ∧ (adS nh S hv q l).1 3 = S.1 3 := by
  unfold adS
  refine ⟨⟨spS_ref, fun o h1 h2 h3 => ?_⟩, ?_⟩
  · rw [pI_row _ _ h2, pI_row _ _ h3, spS_row h2]
  · rw [pI_row _ _ (by decide), pI_row _ _ (by decide), spS_row (by decide)]
theorem adM_fr (M : St) (hv : Int32) (q l : Nat) : FrQ M (adM M hv q l) ∧ StkE 2 M (adM M hv q l) := by
  unfold adM
  exact ⟨(((FrQ.put _ (by unfold rqM; omega) _).tr (FrQ.put _ (by unfold rqM; omega) _)).tr (FrQ.put _ (by unfold rqM; omega) _)).tr (FrQ.put _ (by unfold rqM; omega) _), (((StkE.put _ _ (by omega) _).tr (StkE.put _ _ (by omega) _)).tr (StkE.put _ _ (by omega) _)).tr (StkE.put _ _ (by omega) _)⟩
/-- the value a holder's sign tells -/
def hdV (b : Nat → Nat) (n p : Nat) : Int32 := if hsQ (sg b n p) = true then nI (b p - 97) else -1
theorem inH1 : ∀ c, c < 256 → inR (nI c - 97) (-1) 15 = (hsQ (nI c) || decide (c = 96)) := by decide +kernel
theorem hsQ45 : hsQ (nI 45) = false := by decide
theorem holdC {b : Nat → Nat} {z n t nh p l : Nat} {S : St} {x : Int32} (hb : ∀ j, b j < 256) (hC : Cu b z n S p 0) (hh : nh < 65536) (h7 : S.1 t 7 = nI nh) (hl : S.1 5 2 = nI l) (hl12 : l ≤ 12) (ht : 6 < t) : fX5_readHolder t S x = if (hsQ (sg b n p) = true ∨ sg b n p = nI 45) then (if l < 12 then bv (fX0_step (adS nh S (hdV b n p) p l)) fun S3 => some S3 else bv (fX0_fail S 6 x) fun S3 => some S3) else bv (fX0_failHere S 1) fun S1 => some S1 := by
  have hs := hC.2.2.2.2.2.2.1
  have e12 : ∀ A B : Option St, (if nI l < (12 : Int32) then A else B) = if l < 12 then A else B := fun A B => by
    by_cases c : l < 12
    · rw [if_pos c, if_pos (by rw [li 12, nlt (by omega) (by decide)]; exact c)]
    · rw [if_neg c, if_neg (by rw [li 12, nlt (by omega) (by decide)]; exact c)]
  have e127 : ∀ (S' : St) (v : Int32), l < 12 → S'.1 5 2 = nI l → fX5_readHolder_127 t S' (nI l) v = bv (fX0_step (pI (pI S' 6 l v) 5 2 (nI (l + 1)))) fun S3 => some S3 := fun S' v h1 h2 => by
    unfold fX5_readHolder_127
    rw [if_pos (inbT h1 (by decide)), nI_clamp (by omega), bS_e, pI_row _ _ (by decide), h2, nI_1, bS_e]
  have u1 : fX5_readHolder t S x = if hsQ (sg b n p) = true then fX5_readHolder_49 t S x (sg b n p) 1 else if sg b n p = nI 45 then fX5_readHolder_49 t S x (sg b n p) 0 else bv (fX0_failHere S 1) fun S1 => some S1 := by
    unfold fX5_readHolder fX5_readHolder_24 fX5_readHolder_25 hsQ
    have e1 : (97 : Int32).toInt = 97 := by decide
    have e2 : (112 : Int32).toInt = 112 := by decide
    rw [hs, bV_e, rng2, e1, e2, li 45]
    by_cases c : inR (sg b n p) 97 112 = true
    · rw [if_pos c, if_pos c, if_neg (by decide)]
    · rw [if_neg c, if_neg c, if_pos rfl]
  rw [u1]
  cases c : hsQ (sg b n p) with
  | true =>
    rw [if_pos rfl, if_pos (Or.inl rfl)]
    obtain ⟨k1, k2, k3⟩ := Q_in hb (lo := 97) (hi := 112) (by decide) c
    have x1 : sg b n p - 97 = nI (b p - 97) := by rw [sg_lt k1, li 97, pk_sub (by omega)]
    have hvv : hdV b n p = nI (b p - 97) := by unfold hdV; rw [c, if_pos rfl]
    unfold fX5_readHolder_49
    rw [hl, e12]
    by_cases c2 : l < 12
    · rw [if_pos c2, if_pos c2, if_neg (by decide), x1, hasHouse8, bi_some, h7, hvv]
      have hne : nI (b p - 97) ≠ -1 := nm1 (by omega)
      have f106 : ∀ S' : St, S'.1 5 2 = nI l → fX5_readHolder_106 t S' (sg b n p) 1 = bv (fX0_step (pI (pI S' 6 l (nI (b p - 97))) 5 2 (nI (l + 1)))) fun S3 => some S3 := fun S' h2 => by
        unfold fX5_readHolder_106
        rw [if_neg (by decide), h2, x1, e127 S' _ c2 h2]
      rw [hC.2.2.2.2.2.1, bS_e, f106 S hl, f106 (pI S 5 3 (nI p)) (by rw [pI_cell _ _ (by decide)]; exact hl)]
      unfold adS spS
      cases q : hoB (nI nh) (nI (b p - 97)) with
      | true =>
        rw [b2i_t, if_neg (by decide), if_neg (fun w => by cases w.1.2)]
      | false =>
        rw [b2i_f, if_pos rfl]
        by_cases c3 : S.1 5 3 = -1
        · rw [if_pos c3, if_pos ⟨⟨hne, rfl⟩, c3⟩]
        · rw [if_neg c3, if_neg (fun w => c3 w.2)]
    · rw [if_neg c2, if_neg c2]
  | false =>
    rw [if_neg (by decide)]
    have hvv : hdV b n p = -1 := by unfold hdV; rw [c, if_neg (by decide)]
    by_cases c4 : sg b n p = nI 45
    · rw [if_pos c4, if_pos (Or.inr c4)]
      unfold fX5_readHolder_49
      rw [hl, e12]
      by_cases c2 : l < 12
      · rw [if_pos c2, if_pos c2, if_pos rfl, hvv]
        unfold fX5_readHolder_106
        rw [if_pos rfl, hl, e127 S _ c2 hl]
        unfold adS spS
        rw [if_neg (fun w => w.1.1 rfl)]
      · rw [if_neg c2, if_neg c2]
    · rw [if_neg c4, if_neg (fun w => by
        rcases w with w | w
        · cases w
        · exact c4 w)]
theorem holdM {b : Nat → Nat} {n p l tm fi : Nat} {M : St} (hM : Mu b n M p) (h40 : sg b n p ≠ nI 40) (hfi : M.1 55 48 = nI fi) (htm : M.1 55 49 = nI tm) (hl : M.1 55 46 = nI l) (hl12 : l ≤ 12) (h1 : 1 ≤ tm) (h9 : tm ≤ 9) (c : Nat) : fX12_readsTurn_4 (c + 1) M = if (hsQ (sg b n p) = true ∨ sg b n p = nI 45) then (if l + tm ≤ 12 then (bi (fX12_repeats (adM M (hdV b n p) p l) (nI l) (nI tm) (nI fi)) fun r4 S5 => if r4 = 0 then (some ((0 : Int32), S5)) else (fX12_readsTurn_241 100 S5)) else some (0, pI M 55 14 (flt 6 fi))) else some (0, pI M 55 14 (flt 1 p)) := by
  have hb := hM.2.1
  have hp := hM.2.2.2.2.1
  have e152 : fX12_readsTurn_152 M = some (0, pI M 55 14 (flt 1 p)) := by
    unfold fX12_readsTurn_152
    rw [hp, li 1, wrong12, bi_some, if_pos (Or.inl rfl)]
  have e162 : ∀ v : Int32, fX12_readsTurn_162 M (nI fi) (nI tm) v = if l + tm ≤ 12 then (bi (fX12_repeats (adM M v p l) (nI l) (nI tm) (nI fi)) fun r4 S5 => if r4 = 0 then (some ((0 : Int32), S5)) else (fX12_readsTurn_241 100 S5)) else some (0, pI M 55 14 (flt 6 fi)) := fun v => by
    unfold fX12_readsTurn_162
    rw [hl, nI_add]
    by_cases q : l + tm ≤ 12
    · have hl2 : l < 12 := by omega
      have f1 : (pI M 82 l v).1 55 46 = nI l := by rw [pI_row _ _ (by decide)]; exact hl
      have f2 : (pI M 82 l v).1 55 12 = nI p := by rw [pI_row _ _ (by decide)]; exact hp
      have f3 : (pI (pI M 82 l v) 83 l (nI p)).1 55 12 = nI p := by rw [pI_row _ _ (by decide)]; exact f2
      have f4 : (pI (pI (pI M 82 l v) 83 l (nI p)) 55 12 (nI (p + 1))).1 55 46 = nI l := by rw [pI_cell _ _ (by decide), pI_row _ _ (by decide)]; exact f1
      have f5 : (pI (pI (pI (pI M 82 l v) 83 l (nI p)) 55 12 (nI (p + 1))) 55 46 (nI (l + 1))).1 55 46 = nI (l + 1) := pI_same _ _ _ _
      rw [if_pos q, if_pos (show nI (l + tm) ≤ (12 : Int32) by rw [li 12, nle (by omega) (by decide)]; exact q), if_pos (inbT hl2 (by decide)), nI_clamp (by omega), bS_e, f1, if_pos (inbT hl2 (by decide)), f2, nI_clamp (by omega), bS_e, f3, nI_1, bS_e, f4, nI_1, bS_e, f5, Int32.sub_eq_add_neg, pk_m1]
      rfl
    · rw [if_neg q, if_neg (show ¬ nI (l + tm) ≤ (12 : Int32) by rw [li 12, nle (by omega) (by decide)]; exact q), li 6, wrong12, bi_some, if_pos (Or.inl rfl)]
  show bX12_readsTurn_4 _ _ = _
  unfold bX12_readsTurn_4
  rw [here12 hM, bi_some, li 40, if_neg h40, hfi, htm, bV_e, bV_e, here12 hM, bi_some, li 45, here12 hM, bi_some]
  unfold fX12_readsTurn_127
  rw [in12, bi_some, in12, bi_some, here12 hM, bi_some, bi_some, li 45, e162, e162, e152]
  have e15 : (15 : Int32).toInt = 15 := by decide
  rw [im1, e15]
  by_cases c4 : sg b n p = nI 45
  · have hq : hsQ (sg b n p) = false := by rw [c4]; decide
    have hvv : hdV b n p = -1 := by unfold hdV; rw [hq, if_neg (by decide)]
    rw [if_pos c4, if_pos (Or.inr c4), show inR (-1) (-1) 15 = true by decide, b2i_t, if_neg (by decide), if_pos rfl, if_pos c4, hvv]
  · rw [if_neg c4]
    have hin : inR (sg b n p - 97) (-1) 15 = true → hsQ (sg b n p) = true ∨ sg b n p - 97 = -1 := by
      rcases Nat.lt_or_ge p n with y | y
      · rw [sg_lt y, inH1 _ (hb p)]
        intro w
        rw [Bool.or_eq_true] at w
        rcases w with w | w
        · exact Or.inl w
        · have : b p = 96 := by simpa using w
          rw [this]
          exact Or.inr (by decide)
      · rw [sg_ge y]
        intro w
        exact absurd w (by decide)
    cases q : hsQ (sg b n p) with
    | true =>
      obtain ⟨k1, k2, k3⟩ := Q_in hb (lo := 97) (hi := 112) (by decide) q
      have x1 : sg b n p - 97 = nI (b p - 97) := by rw [sg_lt k1, li 97, pk_sub (by omega)]
      have hvv : hdV b n p = nI (b p - 97) := by unfold hdV; rw [q, if_pos rfl]
      have hi : inR (sg b n p - 97) (-1) 15 = true := by rw [x1, inR_t, nI_toInt (by omega)]; omega
      rw [hi, b2i_t, if_neg (by decide), if_neg (by rw [x1]; exact nm1 (by omega)), if_pos (Or.inl rfl), hvv, x1]
    | false =>
      rw [if_neg (show ¬ (false = true ∨ sg b n p = nI 45) from fun w => by
        rcases w with w | w
        · cases w
        · exact c4 w)]
      cases w : inR (sg b n p - 97) (-1) 15 with
      | false => rw [b2i_f, if_pos rfl]
      | true =>
        rcases hin w with y | y
        · rw [q] at y; cases y
        · rw [b2i_t, if_neg (by decide), if_pos y, if_neg c4]
