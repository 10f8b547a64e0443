theorem fiN_cg {k1 k2 : Nat → Int32} {hq : Nat → Bool} {x : Int32} : ∀ m i, (∀ q, i ≤ q → q < i + m → k1 q = k2 q) → fiN k1 hq x m i = fiN k2 hq x m i
  | 0, _, _ => rfl
  | m + 1, i, h => by
    rw [fiN, fiN, h i (by omega) (by omega), fiN_cg m (i + 1) (fun q h1 h2 => h q (by omega) (by omega))]
theorem law_hq {S M : St} (hR : RRul S M) (F : Nat → Int32) : ∃ (nr : Nat) (hq : Nat → Bool) (wq : Nat → Int32), nr ≤ 16 ∧ S.1 (S.2.2 2) 6 = nI nr ∧ M.1 55 20 = nI nr ∧ (∀ q, q < nr → S.1 (S.2.2 2 + 1) q = M.1 72 q) ∧ (∀ q, q < nr → TestC (S.1 (S.2.2 2 + 4)) (S.1 (S.2.2 2) 7) (S.1 (S.2.2 2 + 3) q) F (hq q)) ∧ (∀ q, q < nr → TestM (M.1 71) (M.1 74 q) (M.1 75 q) F (hq q)) ∧ (∀ q, q < nr → S.1 (S.2.2 2 + 1) q ≠ 120 → WorC (S.1 (S.2.2 2 + 4)) (S.1 (S.2.2 2) 7) (S.1 (S.2.2 2 + 2) q) F (wq q)) ∧ (∀ q, q < nr → S.1 (S.2.2 2 + 1) q ≠ 120 → WorM (M.1 71) (M.1 73 q) (M.1 74 q) F (wq q)) := by
  obtain ⟨_, _, _, nr, h1, h2, h3, h4⟩ := hR
  refine ⟨nr, fun q => if h : q < nr then Classical.choose ((h4 q h).2.1 F) else false, fun q => if h : q < nr ∧ S.1 (S.2.2 2 + 1) q ≠ 120 then Classical.choose ((h4 q h.1).2.2 h.2 F) else 0, h1, h2, h3, fun q hq => (h4 q hq).1, fun q hq => ?_, fun q hq => ?_, fun q hq hk => ?_, fun q hq hk => ?_⟩
  · show TestC _ _ _ _ (if h : q < nr then _ else _)
    rw [dif_pos hq]
    exact (Classical.choose_spec ((h4 q hq).2.1 F)).1
  · show TestM _ _ _ _ (if h : q < nr then _ else _)
    rw [dif_pos hq]
    exact (Classical.choose_spec ((h4 q hq).2.1 F)).2
  · show WorC _ _ _ _ (if h : q < nr ∧ S.1 (S.2.2 2 + 1) q ≠ 120 then _ else _)
    rw [dif_pos ⟨hq, hk⟩]
    exact (Classical.choose_spec ((h4 q hq).2.2 hk F)).1
  · show WorM _ _ _ _ (if h : q < nr ∧ S.1 (S.2.2 2 + 1) q ≠ 120 then _ else _)
    rw [dif_pos ⟨hq, hk⟩]
    exact (Classical.choose_spec ((h4 q hq).2.2 hk F)).2
theorem law_x {S M : St} (hR : RRul S M) (F : Nat → Int32) (hS : ∀ k, k < 9 → S.1 (S.2.2 2 + 5) k = F k) (hM : ∀ k, k < 9 → M.1 77 k = F k) : ∃ (H : Bool) (S' M' : St), fX2_leavesIt (S.2.2 2) S = some (b2i H, S') ∧ FrL (S.2.2 2) S S' ∧ fX12_holdsAny M 120 = some (b2i H, M') ∧ FrK M M' := by
  obtain ⟨nr, hq, wq, a1, a2, a3, a4, a5, a6, _, _⟩ := law_hq hR F
  obtain ⟨S', b1, b2⟩ := first2 hR.1 a1 a2 hS a5 120 nr 0 100 S (by omega) (by omega) (FrL.rf _ _)
  obtain ⟨M', c1, c2⟩ := any12 a1 a3 hM a6 120 nr 0 100 M (by omega) (by omega) (FrK.rf _)
  have b2 : fX2_firstRule (S.2.2 2) S 120 = _ := b2
  have c2 : fX12_holdsAny M 120 = _ := c2
  rw [← fiN_cg nr 0 (fun q _ h => a4 q (by omega))] at c2
  by_cases e : fiN (S.1 (S.2.2 2 + 1)) hq 120 nr 0 = -1
  · refine ⟨false, S', M', ?_, b1, ?_, c1⟩
    · unfold fX2_leavesIt
      rw [b2, bi_some, if_pos e]
      rfl
    · rw [c2, if_pos e]
      rfl
  · refine ⟨true, S', M', ?_, b1, ?_, c1⟩
    · unfold fX2_leavesIt
      rw [b2, bi_some, if_neg e]
      rfl
    · rw [c2, if_neg e]
      rfl
theorem law_w {S M : St} (hR : RRul S M) (F : Nat → Int32) (hS : ∀ k, k < 9 → S.1 (S.2.2 2 + 5) k = F k) (hM : ∀ k, k < 9 → M.1 77 k = F k) {x d : Int32} (hx : x ≠ 120) {y : Nat} (hy : 0 < y) (hy2 : y < 2 ^ 31) : ∃ (w : Int32) (S' M' : St), fX2_worthOf (S.2.2 2) S x (nI y) d = some (w, S') ∧ FrL (S.2.2 2) S S' ∧ fX12_byLaw M x (nI y) d = some (w, M') ∧ FrK M M' ∧ (w = d ∨ ∃ v, v ≤ y ∧ w = nI v) := by
  obtain ⟨nr, hq, wq, a1, a2, a3, a4, a5, a6, a7, a8⟩ := law_hq hR F
  obtain ⟨S', b1, b2⟩ := first2 hR.1 a1 a2 hS a5 x nr 0 100 S (by omega) (by omega) (FrL.rf _ _)
  obtain ⟨M', c1, c2⟩ := by12 a1 a3 hM a6 x (nI y) d (fun q h hk => a8 q h (by rw [a4 q h, hk]; exact hx)) nr 0 100 M (by omega) (by omega) (FrK.rf _)
  have b2 : fX2_firstRule (S.2.2 2) S x = _ := b2
  have c2 : fX12_byLaw M x (nI y) d = _ := c2
  rw [← fiN_cg nr 0 (fun q _ h => a4 q (by omega))] at c2
  unfold fX2_worthOf
  rw [b2, bi_some, c2]
  rcases fiN_c (S.1 (S.2.2 2 + 1)) hq x nr 0 with e | ⟨q, e1, e2, e3, e4⟩
  · rw [if_pos e, if_pos e]
    exact ⟨d, S', M', rfl, b1, rfl, c1, Or.inl rfl⟩
  · have hqn : q < nr := by omega
    rw [e3, if_neg (nm1 (by omega)), if_neg (nm1 (by omega)), nI_clamp (by omega), if_pos (inbT (by omega) (by decide))]
    have r2 := b1.row (a := S.2.2 2 + 2) (by omega) (by omega)
    have r4 := b1.row (a := S.2.2 2 + 4) (by omega) (by omega)
    have r5 := b1.row (a := S.2.2 2 + 5) (by omega) (by omega)
    obtain ⟨S2, v1, v2, v3⟩ := a7 q hqn (by rw [e4]; exact hx) (S.2.2 2) S' hR.1 r4 (b1.2 _ 7 (by omega) (by omega)) (fun k hk => by rw [r5]; exact hS k hk)
    obtain ⟨v, u1, u2⟩ := clamp_n (wq q) hy2
    refine ⟨clampI (wq q) (nI y), S2, M', ?_, b1.tr v2, rfl, c1, Or.inr ⟨v, u1, u2⟩⟩
    rw [r2, v1, bv_some]
    have hy0 : (0 : Int32) < nI y := by rw [li 0, nlt (by decide) hy2]; exact hy
    by_cases c : S2.1 (S.2.2 2) 10 = 0
    · rw [if_pos c] at v3
      rw [if_pos c, clamp_e hy0, v3]
    · rw [if_neg c] at v3
      rw [if_neg c, v3]
      unfold clampI
      rw [if_pos (by decide), if_pos (show (0 : Int32) ≤ nI y from nI_pos' hy2)]
-- what the law is told
def Flv (w br cr dy lo h t : Int32) (sn : Nat) : Nat → Int32 := fun k => if k = 0 then h else if k = 1 then (if w = -1 then 16 else w) else if k = 2 then t else if k = 3 then (if w = -1 then 0 else ab (h - w)) else if k = 4 then nI (pcN sn 16) else if k = 5 then br else if k = 6 then cr - cr / 100 * 100 else if k = 7 then dy - dy / 100 * 100 else lo - lo / 10 * 10
theorem setL {r k : Nat} (S : St) (hk : k < 9) (v : Int32) : fX2_setLetter r S (nI k) v = some (pI S (r + 5) k v) := by
  unfold fX2_setLetter
  rw [if_neg (show ¬ nI k < 0 from nI_pos (by omega)), if_neg (show ¬ (9 : Int32) ≤ nI k by rw [li 9, nle (by decide) (by omega)]; omega), if_pos (inbT hk (by decide)), nI_clamp (by omega), bS_e]
theorem setLF {r k : Nat} (S : St) (F : Nat → Int32) (hk : k < 9) {v : Int32} (hv : v = F k) : fX2_setLetter r (lpA S (r + 5) F k) (nI k) v = some (lpA S (r + 5) F (k + 1)) := by
  rw [setL _ hk, hv, lpA_put]
theorem tell6 {S : St} {o r br sn : Nat} {h t : Int32} (ho : o ≠ r + 5) (hbr : S.1 o 2 = nI br) (hb : br < 65536) (hs : sn < 65536) : fX6_tellLaw o r S h t (nI sn) = some (lpA S (r + 5) (Flv (S.1 o 1) (nI (pcN br 16)) (S.1 o 3) (S.1 o 4) (S.1 o 5) h t sn) 9) := by
  generalize hF : Flv (S.1 o 1) (nI (pcN br 16)) (S.1 o 3) (S.1 o 4) (S.1 o 5) h t sn = F
  have ro : ∀ n k, (lpA S (r + 5) F n).1 o k = S.1 o k := fun n k => by rw [lpA_out S F ho]
  have e0 : fX2_setLetter r S 0 h = some (lpA S (r + 5) F 1) := by
    have := setLF (r := r) (k := 0) S F (by decide) (v := h) (by rw [← hF]; rfl)
    rw [lpA_0] at this
    exact this
  have e1 : fX2_setLetter r (lpA S (r + 5) F 1) 1 (if S.1 o 1 = -1 then 16 else S.1 o 1) = some (lpA S (r + 5) F 2) := setLF S F (by decide) (by rw [← hF]; rfl)
  have e2 : fX2_setLetter r (lpA S (r + 5) F 2) 2 t = some (lpA S (r + 5) F 3) := setLF S F (by decide) (by rw [← hF]; rfl)
  have e3 : fX2_setLetter r (lpA S (r + 5) F 3) 3 (if S.1 o 1 = -1 then 0 else ab (h - S.1 o 1)) = some (lpA S (r + 5) F 4) := setLF S F (by decide) (by rw [← hF]; rfl)
  have e4 : fX2_setLetter r (lpA S (r + 5) F 4) 4 (nI (pcN sn 16)) = some (lpA S (r + 5) F 5) := setLF S F (by decide) (by rw [← hF]; rfl)
  have e5 : fX2_setLetter r (lpA S (r + 5) F 5) 5 (nI (pcN br 16)) = some (lpA S (r + 5) F 6) := setLF S F (by decide) (by rw [← hF]; rfl)
  have e6 : fX2_setLetter r (lpA S (r + 5) F 6) 6 (S.1 o 3 - S.1 o 3 / 100 * 100) = some (lpA S (r + 5) F 7) := setLF S F (by decide) (by rw [← hF]; rfl)
  have e7 : fX2_setLetter r (lpA S (r + 5) F 7) 7 (S.1 o 4 - S.1 o 4 / 100 * 100) = some (lpA S (r + 5) F 8) := setLF S F (by decide) (by rw [← hF]; rfl)
  have e8 : fX2_setLetter r (lpA S (r + 5) F 8) 8 (S.1 o 5 - S.1 o 5 / 10 * 10) = some (lpA S (r + 5) F 9) := setLF S F (by decide) (by rw [← hF]; rfl)
  have t57 : fX6_tellLaw_57 o r (lpA S (r + 5) F 3) (nI sn) 3 (if S.1 o 1 = -1 then 0 else ab (h - S.1 o 1)) = some (lpA S (r + 5) F 9) := by
    unfold fX6_tellLaw_57
    rw [e3, bv_some, bitCount6 _ hs, bi_some, e4, bv_some, ro, hbr, bitCount6 _ hb, bi_some, e5, bv_some, ro, e6, bv_some, ro, e7, bv_some, ro, e8, bv_some]
  have t25 : fX6_tellLaw_25 o r (lpA S (r + 5) F 1) h t (nI sn) 1 (if S.1 o 1 = -1 then 16 else S.1 o 1) = some (lpA S (r + 5) F 9) := by
    unfold fX6_tellLaw_25
    rw [e1, bv_some, e2, bv_some, ro, ab_u]
    by_cases c : S.1 o 1 = -1
    · rw [if_pos c] at t57 ⊢
      exact t57
    · rw [if_neg c] at t57 ⊢
      exact t57
  unfold fX6_tellLaw
  rw [e0, bv_some, ro]
  by_cases c : S.1 o 1 = -1
  · rw [if_pos c] at t25 ⊢
    exact t25
  · rw [if_neg c] at t25 ⊢
    exact t25
theorem feel12 {M : St} {br h t : Nat} {dr : Int32} (hM : IvS M) (hh : h < 16) (ht : t < 12) (hbr : M.1 56 17 = nI br) (hb : br < 65536) (hdr : dr = M.1 56 20 - M.1 56 20 / 10 * 10) : fX12_feels M (nI h) (nI t) dr = some (lpA M 77 (Flv (M.1 56 16) (nI (pcN br 16)) (M.1 56 18) (M.1 56 19) (M.1 56 20) (nI h) (nI t) (seenN M h t)) 9) := by
  generalize hF : Flv (M.1 56 16) (nI (pcN br 16)) (M.1 56 18) (M.1 56 19) (M.1 56 20) (nI h) (nI t) (seenN M h t) = F
  have ro : ∀ n k, (lpA M 77 F n).1 56 k = M.1 56 k := fun n k => by rw [lpA_out M F (by decide)]
  have pt : ∀ n v, v = F n → pI (lpA M 77 F n) 77 n v = lpA M 77 F (n + 1) := fun n v e => by rw [e, lpA_put]
  have p0 : pI M 77 0 (nI h) = lpA M 77 F 1 := by
    have := pt 0 (nI h) (by rw [← hF]; rfl)
    rw [lpA_0] at this
    exact this
  have ivs : ∀ n, IvS (lpA M 77 F n) := fun n => hM.cg (fun o k hp => by rw [lpA_out M F (by unfold strM at hp; omega)])
  have sns : ∀ n, seenN (lpA M 77 F n) h t = seenN M h t := fun n => seenN_cg (fun o k hp => by rw [lpA_out M F (by unfold strM at hp; omega)]) h t
  have p1 : pI (lpA M 77 F 1) 77 1 (if M.1 56 16 = -1 then 16 else M.1 56 16) = lpA M 77 F 2 := pt 1 _ (by rw [← hF]; rfl)
  have p2 : pI (lpA M 77 F 2) 77 2 (nI t) = lpA M 77 F 3 := pt 2 _ (by rw [← hF]; rfl)
  have p3 : pI (lpA M 77 F 3) 77 3 (if M.1 56 16 = -1 then 0 else ab (nI h - M.1 56 16)) = lpA M 77 F 4 := pt 3 _ (by rw [← hF]; rfl)
  have p4 : pI (lpA M 77 F 4) 77 4 (nI (pcN (seenN M h t) 16)) = lpA M 77 F 5 := pt 4 _ (by rw [← hF]; rfl)
  have p5 : pI (lpA M 77 F 5) 77 5 (nI (pcN br 16)) = lpA M 77 F 6 := pt 5 _ (by rw [← hF]; rfl)
  have p6 : pI (lpA M 77 F 6) 77 6 (M.1 56 18 - M.1 56 18 / 100 * 100) = lpA M 77 F 7 := pt 6 _ (by rw [← hF]; rfl)
  have p7 : pI (lpA M 77 F 7) 77 7 (M.1 56 19 - M.1 56 19 / 100 * 100) = lpA M 77 F 8 := pt 7 _ (by rw [← hF]; rfl)
  have p8 : pI (lpA M 77 F 8) 77 8 dr = lpA M 77 F 9 := pt 8 _ (by rw [← hF, hdr]; rfl)
  have sl := seenN_lt M h t
  have f75 : fX12_feels_75 (lpA M 77 F 3) (nI h) (nI t) dr 3 (if M.1 56 16 = -1 then 0 else ab (nI h - M.1 56 16)) = some (lpA M 77 F 9) := by
    unfold fX12_feels_75
    rw [li 3, if_pos (inbT (show 3 < 9 by decide) (by decide)), nI_clamp (by decide), p3, bS_e, seenBy12 (ivs 4) hh (by omega), bi_some, sns, bits12 _ sl, bi_some, p4, bS_e, ro, hbr, bits12 _ hb, bi_some, p5, bS_e, ro, p6, bS_e, ro, p7, bS_e, p8, bS_e]
  have f35 : fX12_feels_35 (lpA M 77 F 1) (nI h) (nI t) dr 1 (if M.1 56 16 = -1 then 16 else M.1 56 16) = some (lpA M 77 F 9) := by
    unfold fX12_feels_35
    rw [if_pos (show inb (1 : Int32) 9 = true by decide), show (1 : Int32).toNatClampNeg = 1 by decide, p1, bS_e, p2, bS_e, ro, size12, bi_some]
    by_cases c : M.1 56 16 = -1
    · rw [if_pos c] at f75 ⊢
      exact f75
    · rw [if_neg c] at f75 ⊢
      exact f75
  unfold fX12_feels
  rw [p0, bS_e, ro]
  by_cases c : M.1 56 16 = -1
  · rw [if_pos c] at f35 ⊢
    exact f35
  · rw [if_neg c] at f35 ⊢
    exact f35
