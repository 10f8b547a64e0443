-- products and sums
theorem addF {o s : Nat} {S : St} (hs : s ≤ 288) (h7 : S.1 o 7 = nI s) (x y : Int32) : ∃ S', fX2_addStep o S x y = some (nI s, S') ∧ FrW o S S' ∧ (∃ s', s' ≤ 288 ∧ S'.1 o 7 = nI s') ∧ ∀ a, a ≠ o → a ≠ o + 4 → S'.1 a = S.1 a := by
  unfold fX2_addStep
  rw [h7, bV_e]
  by_cases c : 288 ≤ s
  · rw [if_pos (show (288 : Int32) ≤ nI s by rw [li 288, nle (by decide) (by omega)]; exact c)]
    exact ⟨S, rfl, FrW.rf o S, ⟨s, hs, h7⟩, fun _ _ _ => rfl⟩
  · rw [if_neg (show ¬ (288 : Int32) ≤ nI s by rw [li 288, nle (by decide) (by omega)]; exact c), if_pos (inbT (by omega) (by decide)), nI_clamp (by omega), bS_e, pI_row _ _ (by omega), h7, nI_1, bS_e]
    exact ⟨_, rfl, ⟨rfl, fun a _ h2 h3 => by rw [pI_row _ _ h2, pI_row _ _ h3], fun k hk => by rw [pI_cell _ _ (by omega), pI_row _ _ (by omega)]⟩, ⟨s + 1, by omega, pI_same _ _ _ _⟩, fun a h1 h2 => by rw [pI_row _ _ h1, pI_row _ _ h2]⟩
theorem Flt.ne {b : Nat → Nat} {z n o : Nat} {S M S' : St} {run : Option (Int32 × St)} (h : Flt b z n o S M S' run) : S'.1 3 4 ≠ 0 := by
  obtain ⟨_, v, p', M', a1, a2, _⟩ := h
  rw [a2.2.2.2.2.2.2.2]
  exact ne_of_neg a1
theorem Flt.add {b : Nat → Nat} {z n o : Nat} {S M S' : St} {run : Option (Int32 × St)} (hL : isL o) (h : Flt b z n o S M S' run) (x y : Int32) : ∃ s S2, s ≤ 288 ∧ fX2_addStep o S' x y = some (nI s, S2) ∧ Flt b z n o S M S2 run := by
  obtain ⟨⟨s, s1, s2⟩, v, p', M', a1, a2, a3, a4, a5, a6⟩ := h
  obtain ⟨S2, b1, b2, b3, b4⟩ := addF s1 s2 x y
  unfold isL at hL
  exact ⟨s, S2, s1, b1, b3, v, p', M', a1, a2.oth (b4 1 (by omega) (by omega)) (b4 2 (by omega) (by omega)) (b4 3 (by omega) (by omega)), a3.tr b2, a4, a5, a6⟩
def prK (x : Int32) : Int32 := if x = 42 then 5 else (if x = 47 then 6 else (if x = 37 then 7 else -1))
def suK (x : Int32) : Int32 := if x = 43 then 3 else (if x = 45 then 4 else -1)
theorem prod3 (S : St) (x : Int32) : fX3_productOf S x = some (prK x, S) := by
  unfold fX3_productOf prK
  simp only [som_ite]
theorem sum3 (S : St) (x : Int32) : fX3_sumOf S x = some (suK x, S) := by
  unfold fX3_sumOf suK
  simp only [som_ite]
theorem prK_y {x : Int32} (h : ¬ prK x = -1) : ∃ s, 4 ≤ s ∧ s ≤ 6 ∧ prK x = nI (s + 1) ∧ (∀ M, fX12_sumSign M x = some (nI s, M)) ∧ x ≠ -1 := by
  by_cases c1 : x = 42
  · subst c1
    exact ⟨4, by decide, by decide, by decide, fun M => by unfold fX12_sumSign; rw [if_neg (by decide), if_neg (by decide), if_pos rfl]; rfl, by decide⟩
  · by_cases c2 : x = 47
    · subst c2
      exact ⟨5, by decide, by decide, by decide, fun M => by unfold fX12_sumSign; rw [if_neg (by decide), if_neg (by decide), if_neg (by decide), if_pos rfl]; rfl, by decide⟩
    · by_cases c3 : x = 37
      · subst c3
        exact ⟨6, by decide, by decide, by decide, fun M => by unfold fX12_sumSign; rw [if_neg (by decide), if_neg (by decide), if_neg (by decide), if_neg (by decide), if_pos rfl]; rfl, by decide⟩
      · exfalso
        apply h
        unfold prK
        rw [if_neg c1, if_neg c2, if_neg c3]
theorem prK_n {x : Int32} (h : prK x = -1) : x ≠ nI 42 ∧ x ≠ nI 47 ∧ x ≠ nI 37 := by
  refine ⟨fun e => ?_, fun e => ?_, fun e => ?_⟩ <;> (rw [e] at h; exact absurd h (by decide))
theorem suK_y {x : Int32} (h : ¬ suK x = -1) : ∃ s, 2 ≤ s ∧ s ≤ 3 ∧ suK x = nI (s + 1) ∧ (∀ M, fX12_sumSign M x = some (nI s, M)) ∧ x ≠ -1 := by
  by_cases c1 : x = 43
  · subst c1
    exact ⟨2, by decide, by decide, by decide, fun M => by unfold fX12_sumSign; rw [if_pos rfl]; rfl, by decide⟩
  · by_cases c2 : x = 45
    · subst c2
      exact ⟨3, by decide, by decide, by decide, fun M => by unfold fX12_sumSign; rw [if_neg (by decide), if_pos rfl]; rfl, by decide⟩
    · exfalso
      apply h
      unfold suK
      rw [if_neg c1, if_neg c2]
theorem suK_n {x : Int32} (h : suK x = -1) : x ≠ nI 43 ∧ x ≠ nI 45 := by
  refine ⟨fun e => ?_, fun e => ?_⟩ <;> (rw [e] at h; exact absurd h (by decide))
theorem kK_m1 : prK (-1) = -1 ∧ suK (-1) = -1 := by decide
theorem tm20n {rg : Nat → Nat → St → Int32 → Option St} {o f : Nat} {S : St} (h : S.1 3 4 ≠ 0) (x k i : Int32) : fX3_readTerm_20 rg o (f + 1) S x k i = some S := by
  show bX3_readTerm_20 _ _ _ _ _ _ _ = _
  unfold bX3_readTerm_20
  rw [fine0, bi_some, show decide (S.1 3 4 = 0) = false by simpa using h, b2i_f, if_pos rfl, ite_self]
theorem sm20n {rg : Nat → Nat → St → Int32 → Option St} {o f : Nat} {S : St} (h : S.1 3 4 ≠ 0) (x k i : Int32) : fX3_readSum_20 rg o (f + 1) S x k i = some S := by
  show bX3_readSum_20 _ _ _ _ _ _ _ = _
  unfold bX3_readSum_20
  rw [fine0, bi_some, show decide (S.1 3 4 = 0) = false by simpa using h, b2i_f, if_pos rfl, ite_self]
def puM (w s p : Nat) (M : St) : St := pI (pI (pI M 66 w (cw s 0)) 55 18 (nI (w + 1))) 55 12 (nI (p + 1))
theorem push38 {c s w p : Nat} {M M2 : St} {x bs : Int32} (h : fX12_closesSums M x = some M2) (h18 : M2.1 55 18 = nI w) (hw : w < 260) (h12 : M2.1 55 12 = nI p) : fX12_readsSum_38 (fX12_readsSum_14 c) M bs (nI s) x = FS 100 c bs (puM w s p M2) := by
  have e : (1048576 : Int32) * nI s = cw s 0 := by rw [li 1048576, pk_mul]; rfl
  have g2 : (pI M2 66 w (cw s 0)).1 55 18 = nI w := by rw [pI_row _ _ (by decide)]; exact h18
  have g3 : (pI (pI M2 66 w (cw s 0)) 55 18 (nI (w + 1))).1 55 12 = nI p := by rw [pI_cell _ _ (by decide), pI_row _ _ (by decide)]; exact h12
  unfold fX12_readsSum_38
  rw [h, bv_some, h18, if_pos (inbT hw (by decide)), nI_clamp (by omega), e, bS_e, g2, nI_1, bS_e, g3, nI_1, bS_e]
  rfl
theorem puM_fr (w s p : Nat) (M : St) : FrV M (puM w s p M) := ((FrV.put _ (by unfold ltM; omega) _).tr (FrV.put _ (by unfold ltM; omega) _)).tr (FrV.put _ (by unfold ltM; omega) _)
theorem puM_65 (w s p : Nat) (M : St) : (puM w s p M).1 65 = M.1 65 := by unfold puM; rw [pI_row _ _ (by decide), pI_row _ _ (by decide), pI_row _ _ (by decide)]
theorem puM_64 (w s p : Nat) (M : St) : (puM w s p M).1 64 = M.1 64 := by unfold puM; rw [pI_row _ _ (by decide), pI_row _ _ (by decide), pI_row _ _ (by decide)]
theorem puM_in (w s p : Nat) (M : St) : (puM w s p M).1 66 w = cw s 0 := by unfold puM; rw [pI_row _ _ (by decide), pI_row _ _ (by decide), pI_same]
theorem puM_66 {w s p q : Nat} (M : St) (h : q ≠ w) : (puM w s p M).1 66 q = M.1 66 q := by unfold puM; rw [pI_row _ _ (by decide), pI_row _ _ (by decide), pI_cell _ _ (by omega)]
theorem puM_18 (w s p : Nat) (M : St) : (puM w s p M).1 55 18 = nI (w + 1) := by unfold puM; rw [pI_cell _ _ (by decide), pI_same]
theorem puM_55 {w s p k : Nat} (M : St) (h : k ≠ 18) (h2 : k ≠ 12) : (puM w s p M).1 55 k = M.1 55 k := by unfold puM; rw [pI_cell _ _ (by omega), pI_cell _ _ (by omega), pI_row _ _ (by decide)]
theorem puM_mu {b : Nat → Nat} {n w s p : Nat} {M : St} (h : Mu b n M p) (hp : p < n) : Mu b n (puM w s p M) (p + 1) := (h.oth (M' := pI (pI M 66 w (cw s 0)) 55 18 (nI (w + 1))) (by rw [pI_row _ _ (by decide), pI_row _ _ (by decide)]) (by rw [pI_cell _ _ (by decide), pI_row _ _ (by decide)]) (by rw [pI_cell _ _ (by decide), pI_row _ _ (by decide)])).mv (by omega)
theorem Mu.cl {b : Nat → Nat} {n p cm w : Nat} {M M' : St} (h : Mu b n M p) (e : ClF cm w M M') : Mu b n M' p := h.oth (funext fun k => e.1.2 64 k (by unfold ltM; omega)) (e.2.2.2.2 12 (by decide) (by decide)) (e.2.2.2.2 13 (by decide) (by decide))
/-- one more op -/
theorem Got.nx {b : Nat → Nat} {z n o : Nat} {S M S1 M1 S2 M3 S3 M4 : St} {p sc cm w op m m' p1 sc1 cm1 a1 a2 s1 s2 c1 p3 sc3 cm3 a s3 c3 s : Nat} {x : Int32} {run run2 : Option (Int32 × St)} (hG : Got b z n o S M S1 p sc cm w op m x run p1 sc1 cm1 a1 a2 s1 s2 M1 c1) (hmm : m = m' + 1) (hm : 1 ≤ m') (hs : 2 ≤ s) (hs2 : s ≤ 6) (e2 : Ex 3 S1 S2) (e3 : FrV M1 M3) (k1 : ∀ q, q < cm1 → M3.1 65 q = M1.1 65 q) (k2 : a1 = 1 → M3.1 65 cm1 = cw s1 0) (k3 : a2 = 1 → M3.1 65 (cm1 + a1) = cw s2 0) (k4 : ∀ q, q < w → M3.1 66 q = M1.1 66 q) (k5 : M3.1 66 w = cw s 0) (hG2 : Got b z n o S2 M3 S3 (p1 + 1) sc1 (cm1 + a1 + a2) (w + 1) op m' x run2 p3 sc3 cm3 a 0 s3 0 M4 c3) (er : run = run2) : p < p3 ∧ LI b z n o (adC o sc3 (s + 1) 0 S3) M4 p3 (sc3 + 1) cm3 (w + 1 + a) op ∧ FrW o S (adC o sc3 (s + 1) 0 S3) ∧ FrV M M4 ∧ Kep o sc cm w S M (adC o sc3 (s + 1) 0 S3) M4 ∧ cm ≤ cm3 ∧ sc3 + 1 + cm = sc + cm3 + a + 1 ∧ sc3 + 1 + p ≤ sc + p3 ∧ 260 ≤ c3 + p3 ∧ run = fX12_readsSum_14 c3 M4 x ∧ M4.1 66 w = cw s 0 ∧ ∀ cd, (∀ q, cm ≤ q → q < cm3 → cd q = M4.1 65 q) → (a = 1 → cd cm3 = cw s3 0) → cd (cm3 + a) = cw s 0 → EA ((adC o sc3 (s + 1) 0 S3).1 (o + 4)) cd sc (sc3 + 1) cm (cm3 + a + 1) m := by
  obtain ⟨g1, ⟨hC, hM, hn, hLo, h7, h17, h18, h16, ho, hcm, hw, hsc⟩, g3, g4, g5, g6, g7, g8, g9, g10, g11, g12, g13⟩ := hG
  obtain ⟨q1, ⟨iC, iM, _, _, i7, i17, i18, i16, _, icm, iw, isc⟩, q3, q4, q5, q6, q7, q8, q9, q10, q11, q12, q13⟩ := hG2
  have ha1 := g6.1
  have ha2 := g7.1
  have ha := q6.1
  have hol := hLo
  unfold isL at hol
  have st2 : S2.1 (o + 4) = S1.1 (o + 4) := e2.2 (o + 4) (by omega)
  refine ⟨by omega, ⟨iC.oth (adC_3 _ (by omega) (by omega)) (adC_3 _ (by omega) (by omega)) (adC_3 _ (by omega) (by omega)), iM, hn, hLo, adC_7 _ _ _ _ _, i17, i18, i16, ho, by omega, by omega, by omega⟩, ((g3.tr (FrW.ex (by omega) e2)).tr q3).tr (adC_fr _ _ _ _ _), (g4.tr e3).tr q4, ⟨fun q hq => ?_, fun q hq => ?_, fun q hq => ?_⟩, by omega, by omega, by omega, q11, er.trans q12, by rw [q5.2.2 w (by omega)]; exact k5, fun cd d1 d2 d3 => ?_⟩
  · rw [adC_lt _ (by omega), q5.1 q (by omega), st2, g5.1 q hq]
  · rw [q5.2.1 q (by omega), k1 q (by omega), g5.2.1 q hq]
  · rw [q5.2.2 q (by omega), k4 q hq, g5.2.2 q hq]
  · have x1 := g13 cd (fun q u v => by rw [d1 q u (by omega), q5.2.1 q (by omega), k1 q v]) (fun h => by rw [d1 cm1 (by omega) (by omega), q5.2.1 cm1 (by omega)]; exact k2 h) (fun h => by rw [d1 (cm1 + a1) (by omega) (by omega), q5.2.1 (cm1 + a1) (by omega)]; exact k3 h)
    have y1 := q13 cd (fun q u v => d1 q (by omega) v) d2 (fun h => absurd h (by decide))
    subst hmm
    exact EA.bin (x1.cg (fun q u v => by rw [adC_lt _ (by omega), q5.1 q (by omega), st2]) (fun _ _ _ => rfl) (Nat.le_refl _)) (y1.cg (fun q u v => adC_lt _ (by omega)) (fun _ _ _ => rfl) (Nat.le_refl _)) (adC_in _ _ _ _ _) d3 hs hs2 hm
theorem term_loop {b : Nat → Nat} {z n o op k bs : Nat} {S M : St} {p sc cm w : Nat} {run : Option (Int32 × St)} (hF : FacP b z n o op) (hk : 3 * (6 - op) + 1 ≤ k) (hO : OTx M w 0) (hbs : bs ≤ w) (hbs2 : w ≤ bs + 3 * op + 1) : ∀ m f i S1 p1 sc1 cm1 a1 s1 M1 c1, n ≤ p1 + m → i ≤ p1 → 260 ≤ f + i → Got b z n o S M S1 p sc cm w op (14 - 2 * op) (nI bs) run p1 sc1 cm1 a1 0 s1 0 M1 c1 → ∃ S', fX3_readTerm_20 (fLR k) o f S1 (nI op) (prK (sg b n p1)) (nI i) = some S' ∧ (Flt b z n o S M S' run ∨ ∃ p' sc' cm' a1 s1 M' c', Got b z n o S M S' p sc cm w op (14 - 2 * op) (nI bs) run p' sc' cm' a1 0 s1 0 M' c' ∧ prK (sg b n p') = -1) := by
  intro m
  induction m with
  | zero =>
    intro f i S1 p1 sc1 cm1 a1 s1 M1 c1 hm hi hf hG
    have hp1 := hG.2.1.1.2.2.2.1
    have hn := hG.2.1.2.2.1
    obtain ⟨f, rfl⟩ : ∃ f', f = f' + 1 := ⟨f - 1, by omega⟩
    have c : prK (sg b n p1) = -1 := by rw [sg_ge (by omega)]; exact kK_m1.1
    refine ⟨S1, ?_, Or.inr ⟨p1, sc1, cm1, a1, s1, M1, c1, hG, c⟩⟩
    show bX3_readTerm_20 _ _ _ _ _ _ _ = _
    unfold bX3_readTerm_20
    rw [fine0, bi_some, c, if_pos rfl, ite_self, ite_self]
  | succ m ih =>
    intro f i S1 p1 sc1 cm1 a1 s1 M1 c1 hm hi hf hG
    have hG0 := hG
    obtain ⟨g1, ⟨hC, hM, hn, hLo, h7, h17, h18, h16, ho, hcm, hw, hsc⟩, g3, g4, g5, g6, g7, g8, g9, g10, g11, g12, g13⟩ := hG
    have hp1 := hC.2.2.2.1
    obtain ⟨f, rfl⟩ : ∃ f', f = f' + 1 := ⟨f - 1, by omega⟩
    by_cases c : prK (sg b n p1) = -1
    · refine ⟨S1, ?_, Or.inr ⟨p1, sc1, cm1, a1, s1, M1, c1, hG0, c⟩⟩
      show bX3_readTerm_20 _ _ _ _ _ _ _ = _
      unfold bX3_readTerm_20
      rw [fine0, bi_some, c, if_pos rfl, ite_self, ite_self]
    · obtain ⟨s, y1, y2, y3, y4, y5⟩ := prK_y c
      have hpn : p1 < n := sg_in y5
      have ha1 := g6.1
      have hol := hLo
      unfold isL at hol
      obtain ⟨S2, t1, t2, t3⟩ := step0 hC hpn
      have ec : fX3_readTerm_20 (fLR k) o (f + 1) S1 (nI op) (prK (sg b n p1)) (nI i) = bv (fLR k 5 o S2 (nI op)) fun S3 => bi (fX2_addStep o S3 (nI (s + 1)) (nI 0)) fun r6 S4 => fX3_readTerm_20 (fLR k) o f S4 (nI op) (prK (S4.1 3 3)) (nI (i + 1)) := by
        show bX3_readTerm_20 _ _ _ _ _ _ _ = _
        unfold bX3_readTerm_20
        rw [if_neg (show ¬ (240 : Int32) ≤ nI i by rw [li 240, nle (by decide) (by omega)]; omega), fine0, bi_some, hC.2.2.2.2.2.2.2, if_neg (show ¬ b2i (decide ((0 : Int32) = 0)) = 0 by decide), if_neg c, t1, bv_some, y3]
        simp only [prod3, bi_some, bV_e, nI_1]
        rfl
      obtain ⟨c1, rfl⟩ : ∃ x, c1 = x + 1 := ⟨c1 - 1, by omega⟩
      obtain ⟨M2, u1, u2, u3, u4⟩ := cls_pro (w := w) (cm := cm1) (a1 := a1) (s1 := s1) h18 (by omega) h17 (by omega) g6 (hO.cg (fun q hq => g5.2.2 q hq))
      have mu2 := hM.cl u2
      have em : fX12_readsSum_14 (c1 + 1) M1 (nI bs) = FS 100 c1 (nI bs) (puM w s p1 M2) := by
        show bX12_readsSum_14 _ _ _ = _
        unfold bX12_readsSum_14
        rw [here12 hM, bi_some, y4, bi_some, if_neg (nm1 (by omega)), if_pos (show (4 : Int32) ≤ nI s by rw [li 4, nle (by decide) (by omega)]; exact y1)]
        exact push38 u1 u2.2.2.1 (by omega) mu2.2.2.2.2.1
      have hL2 : LI b z n o S2 (puM w s p1 M2) (p1 + 1) sc1 (cm1 + a1) (w + 1) op := ⟨t3, puM_mu mu2 hpn, hn, hLo, by rw [t2.2 o (by omega)]; exact h7, by rw [puM_55 _ (by decide) (by decide)]; exact u2.2.1, puM_18 _ _ _ _, by rw [puM_55 _ (by decide) (by decide), u2.2.2.2.2 16 (by decide) (by decide)]; exact h16, ho, by omega, by omega, by omega⟩
      obtain ⟨S3, r1, r2⟩ := hF S2 (puM w s p1 M2) (p1 + 1) sc1 (cm1 + a1) (w + 1) k 100 c1 bs hL2 (by omega) (by omega) hk (by omega) (by omega)
      rw [ec, r1, bv_some]
      rcases r2 with r2 | ⟨p3, sc3, cm3, M4, c3, r2⟩
      · obtain ⟨x, S4, _, x1, x2⟩ := r2.add hLo (nI (s + 1)) (nI 0)
        obtain ⟨f, rfl⟩ : ∃ f', f = f' + 1 := ⟨f - 1, by omega⟩
        rw [x1, bi_some, tm20n x2.ne]
        refine ⟨S4, rfl, Or.inl ?_⟩
        rw [g12, em]
        exact x2.pre (g3.tr (FrW.ex (by omega) t2)) ((g4.tr u2.1).tr (puM_fr _ _ _ _))
      · have hl := r2.2.1
        have q1 := r2.1
        have hp3 := hl.1.2.2.2.1
        have hsc3 := hl.2.2.2.2.2.2.2.2.2.2.2
        rw [add2 hl.2.2.2.2.1 (by omega) (by omega) (by decide), bi_some]
        have e3 : (adC o sc3 (s + 1) 0 S3).1 3 3 = sg b n p3 := by rw [adC_3 _ (by omega) (by omega)]; exact hl.1.2.2.2.2.2.2.1
        obtain ⟨n1, n2, n3, n4, n5, n6, n7, n8, n9, n10, n11, n12⟩ := hG0.nx (m' := 13 - 2 * op) (by omega) (by omega) (show 2 ≤ s by omega) y2 t2 (u2.1.tr (puM_fr w s p1 M2)) (fun q hq => by rw [puM_65]; exact u3 q hq) (fun h => by rw [puM_65]; exact u4 h) (fun h => absurd h (by decide)) (fun q hq => by rw [puM_66 _ (by omega), u2.2.2.2.1]) (puM_in _ _ _ _) r2 (g12.trans em)
        rw [e3]
        exact ih f (i + 1) _ p3 (sc3 + 1) cm3 1 s M4 c3 (by omega) (by omega) (by omega) ⟨n1, n2, n3, n4, n5, ⟨by decide, fun _ => ⟨y1, y2, n11⟩⟩, ⟨by decide, fun h => absurd h (by decide)⟩, n6, n7, n8, n9, n10, fun cd d1 d2 _ => n12 cd d1 (fun h => absurd h (by decide)) (d2 rfl)⟩
def TermP (b : Nat → Nat) (z n o op : Nat) : Prop := ∀ S M p sc cm w k cf c bs, LI b z n o S M p sc cm w op → OTx M w 0 → bs ≤ w → w ≤ bs + 3 * op + 1 → 3 * (6 - op) + 2 ≤ k → 100 ≤ cf + op → 260 ≤ c + p → ∃ S', fLR k 4 o S (nI op) = some S' ∧ (Flt b z n o S M S' (FS cf c (nI bs) M) ∨ ∃ p' sc' cm' a1 s1 M' c', Got b z n o S M S' p sc cm w op (14 - 2 * op) (nI bs) (FS cf c (nI bs) M) p' sc' cm' a1 0 s1 0 M' c' ∧ prK (sg b n p') = -1)
theorem term_sim {b : Nat → Nat} {z n o op : Nat} (hF : FacP b z n o op) : TermP b z n o op := by
  intro S M p sc cm w k cf c bs hL hO hbs hbs2 hk hcf hc
  obtain ⟨k, rfl⟩ : ∃ k', k = k' + 1 := ⟨k - 1, by omega⟩
  obtain ⟨S1, r1, r2⟩ := hF S M p sc cm w k cf c bs hL hbs (by omega) (by omega) hcf hc
  rw [fLR_4]
  unfold fX3_readTerm
  rw [r1, bv_some, prod3, bi_some]
  rcases r2 with r2 | ⟨p1, sc1, cm1, M1, c1, r2⟩
  · exact ⟨S1, tm20n (f := 259) r2.ne _ _ _, Or.inl r2⟩
  · rw [r2.2.1.1.2.2.2.2.2.2.1]
    obtain ⟨g1, g2, g3, g4, g5, g6, g7, g8, g9, g10, g11, g12, g13⟩ := r2
    exact term_loop (k := k) hF (by omega) hO hbs hbs2 n 260 0 S1 p1 sc1 cm1 0 0 M1 c1 (by omega) (by omega) (by omega) ⟨g1, g2, g3, g4, g5, g6, g7, g8, g9, g10, g11, g12, fun cd d1 d2 d3 => (g13 cd d1 d2 d3).cg (fun _ _ _ => rfl) (fun _ _ _ => rfl) (by omega)⟩
theorem OTx.to0 {M : St} {w : Nat} (h : OTx M w 1) : OTx M w 0 := by
  rcases h with h | ⟨w1, q, v, e1, e2, e3, e4, e5⟩
  · exact Or.inl h
  · refine Or.inr ⟨w1, q, v, e1, e2, e3, e4, Or.inl ?_⟩
    rcases e5 with e5 | e5
    · exact e5
    · exact absurd e5.1 (by decide)
theorem lsum_loop {b : Nat → Nat} {z n o op k bs : Nat} {S M : St} {p sc cm w : Nat} {run : Option (Int32 × St)} (hF : TermP b z n o op) (hk : 3 * (6 - op) + 2 ≤ k) (hcm0 : cm ≤ p) (hO : OTx M w 1) (hbs : bs ≤ w) (hbs2 : w ≤ bs + 3 * op) : ∀ m f i S1 p1 sc1 cm1 a1 a2 s1 s2 M1 c1, n ≤ p1 + m → i ≤ p1 → 260 ≤ f + i → Got b z n o S M S1 p sc cm w op (15 - 2 * op) (nI bs) run p1 sc1 cm1 a1 a2 s1 s2 M1 c1 → prK (sg b n p1) = -1 → ∃ S', fX3_readSum_20 (fLR k) o f S1 (nI op) (suK (sg b n p1)) (nI i) = some S' ∧ (Flt b z n o S M S' run ∨ ∃ p' sc' cm' a1 a2 s1 s2 M' c', Got b z n o S M S' p sc cm w op (15 - 2 * op) (nI bs) run p' sc' cm' a1 a2 s1 s2 M' c' ∧ prK (sg b n p') = -1 ∧ suK (sg b n p') = -1) := by
  intro m
  induction m with
  | zero =>
    intro f i S1 p1 sc1 cm1 a1 a2 s1 s2 M1 c1 hm hi hf hG hpr
    have hp1 := hG.2.1.1.2.2.2.1
    have hn := hG.2.1.2.2.1
    obtain ⟨f, rfl⟩ : ∃ f', f = f' + 1 := ⟨f - 1, by omega⟩
    have c : suK (sg b n p1) = -1 := by rw [sg_ge (by omega)]; exact kK_m1.2
    refine ⟨S1, ?_, Or.inr ⟨p1, sc1, cm1, a1, a2, s1, s2, M1, c1, hG, hpr, c⟩⟩
    show bX3_readSum_20 _ _ _ _ _ _ _ = _
    unfold bX3_readSum_20
    rw [fine0, bi_some, c, if_pos rfl, ite_self, ite_self]
  | succ m ih =>
    intro f i S1 p1 sc1 cm1 a1 a2 s1 s2 M1 c1 hm hi hf hG hpr
    have hG0 := hG
    obtain ⟨g1, ⟨hC, hM, hn, hLo, h7, h17, h18, h16, ho, hcm, hw, hsc⟩, g3, g4, g5, g6, g7, g8, g9, g10, g11, g12, g13⟩ := hG
    have hp1 := hC.2.2.2.1
    obtain ⟨f, rfl⟩ : ∃ f', f = f' + 1 := ⟨f - 1, by omega⟩
    by_cases c : suK (sg b n p1) = -1
    · refine ⟨S1, ?_, Or.inr ⟨p1, sc1, cm1, a1, a2, s1, s2, M1, c1, hG0, hpr, c⟩⟩
      show bX3_readSum_20 _ _ _ _ _ _ _ = _
      unfold bX3_readSum_20
      rw [fine0, bi_some, c, if_pos rfl, ite_self, ite_self]
    · obtain ⟨s, y1, y2, y3, y4, y5⟩ := suK_y c
      have hpn : p1 < n := sg_in y5
      have ha1 := g6.1
      have ha2 := g7.1
      have hol := hLo
      unfold isL at hol
      obtain ⟨S2, t1, t2, t3⟩ := step0 hC hpn
      have ec : fX3_readSum_20 (fLR k) o (f + 1) S1 (nI op) (suK (sg b n p1)) (nI i) = bv (fLR k 4 o S2 (nI op)) fun S3 => bi (fX2_addStep o S3 (nI (s + 1)) (nI 0)) fun r6 S4 => fX3_readSum_20 (fLR k) o f S4 (nI op) (suK (S4.1 3 3)) (nI (i + 1)) := by
        show bX3_readSum_20 _ _ _ _ _ _ _ = _
        unfold bX3_readSum_20
        rw [if_neg (show ¬ (240 : Int32) ≤ nI i by rw [li 240, nle (by decide) (by omega)]; omega), fine0, bi_some, hC.2.2.2.2.2.2.2, if_neg (show ¬ b2i (decide ((0 : Int32) = 0)) = 0 by decide), if_neg c, t1, bv_some, y3]
        simp only [sum3, bi_some, bV_e, nI_1]
        rfl
      obtain ⟨c1, rfl⟩ : ∃ x, c1 = x + 1 := ⟨c1 - 1, by omega⟩
      obtain ⟨M2, u1, u2, u3, u4, u5⟩ := cls_all (w := w) (cm := cm1) (a1 := a1) (a2 := a2) (s1 := s1) (s2 := s2) h18 (by omega) h17 (by omega) g6 g7 (hO.cg (fun q hq => g5.2.2 q hq))
      have mu2 := hM.cl u2
      have em : fX12_readsSum_14 (c1 + 1) M1 (nI bs) = FS 100 c1 (nI bs) (puM w s p1 M2) := by
        show bX12_readsSum_14 _ _ _ = _
        unfold bX12_readsSum_14
        rw [here12 hM, bi_some, y4, bi_some, if_neg (nm1 (by omega)), if_neg (show ¬ (4 : Int32) ≤ nI s by rw [li 4, nle (by decide) (by omega)]; omega)]
        exact push38 u1 u2.2.2.1 (by omega) mu2.2.2.2.2.1
      have hL2 : LI b z n o S2 (puM w s p1 M2) (p1 + 1) sc1 (cm1 + a1 + a2) (w + 1) op := ⟨t3, puM_mu mu2 hpn, hn, hLo, by rw [t2.2 o (by omega)]; exact h7, by rw [puM_55 _ (by decide) (by decide)]; exact u2.2.1, puM_18 _ _ _ _, by rw [puM_55 _ (by decide) (by decide), u2.2.2.2.2 16 (by decide) (by decide)]; exact h16, ho, by omega, by omega, by omega⟩
      obtain ⟨S3, r1, r2⟩ := hF S2 (puM w s p1 M2) (p1 + 1) sc1 (cm1 + a1 + a2) (w + 1) k 100 c1 bs hL2 (Or.inr ⟨w, s, 0, rfl, by omega, puM_in _ _ _ _, by decide, Or.inr ⟨rfl, by omega⟩⟩) (by omega) (by omega) hk (by omega) (by omega)
      rw [ec, r1, bv_some]
      rcases r2 with r2 | ⟨p3, sc3, cm3, a, s3, M4, c3, r2, hpr3⟩
      · obtain ⟨x, S4, _, x1, x2⟩ := r2.add hLo (nI (s + 1)) (nI 0)
        obtain ⟨f, rfl⟩ : ∃ f', f = f' + 1 := ⟨f - 1, by omega⟩
        rw [x1, bi_some, sm20n x2.ne]
        refine ⟨S4, rfl, Or.inl ?_⟩
        rw [g12, em]
        exact x2.pre (g3.tr (FrW.ex (by omega) t2)) ((g4.tr u2.1).tr (puM_fr _ _ _ _))
      · have hl := r2.2.1
        have q1 := r2.1
        have hp3 := hl.1.2.2.2.1
        have hsc3 := hl.2.2.2.2.2.2.2.2.2.2.2
        rw [add2 hl.2.2.2.2.1 (by omega) (by omega) (by decide), bi_some]
        have e3 : (adC o sc3 (s + 1) 0 S3).1 3 3 = sg b n p3 := by rw [adC_3 _ (by omega) (by omega)]; exact hl.1.2.2.2.2.2.2.1
        obtain ⟨n1, n2, n3, n4, n5, n6, n7, n8, n9, n10, n11, n12⟩ := hG0.nx (m' := 14 - 2 * op) (by omega) (by omega) (show 2 ≤ s by omega) (by omega) t2 (u2.1.tr (puM_fr w s p1 M2)) (fun q hq => by rw [puM_65]; exact u3 q hq) (fun h => by rw [puM_65]; exact u4 h) (fun h => by rw [puM_65]; exact u5 h) (fun q hq => by rw [puM_66 _ (by omega), u2.2.2.2.1]) (puM_in _ _ _ _) r2 (g12.trans em)
        rw [e3]
        exact ih f (i + 1) _ p3 (sc3 + 1) cm3 a 1 s3 s M4 c3 (by omega) (by omega) (by omega) ⟨n1, n2, n3, n4, n5, r2.2.2.2.2.2.1, ⟨by decide, fun _ => ⟨y1, y2, n11⟩⟩, n6, n7, n8, n9, n10, fun cd d1 d2 d3 => n12 cd d1 d2 (d3 rfl)⟩ hpr3
theorem sum_sim {b : Nat → Nat} {z n o op : Nat} (hF : TermP b z n o op) : SumP b z n o op := by
  intro S M p sc cm w k cf c bs hL hO hbs hbs2 hk hcf hc
  obtain ⟨k, rfl⟩ : ∃ k', k = k' + 1 := ⟨k - 1, by omega⟩
  obtain ⟨S1, r1, r2⟩ := hF S M p sc cm w k cf c bs hL hO.to0 hbs (by omega) (by omega) hcf hc
  rw [fLR_3]
  unfold fX3_readSum
  rw [r1, bv_some, sum3, bi_some]
  rcases r2 with r2 | ⟨p1, sc1, cm1, a1, s1, M1, c1, r2, r3⟩
  · exact ⟨S1, sm20n (f := 259) r2.ne _ _ _, Or.inl r2⟩
  · rw [r2.2.1.1.2.2.2.2.2.2.1]
    obtain ⟨g1, g2, g3, g4, g5, g6, g7, g8, g9, g10, g11, g12, g13⟩ := r2
    obtain ⟨S', e1, e2⟩ := lsum_loop (k := k) hF (by omega) hL.2.2.2.2.2.2.2.2.2.1 hO hbs hbs2 n 260 0 S1 p1 sc1 cm1 a1 0 s1 0 M1 c1 (by omega) (by omega) (by omega) ⟨g1, g2, g3, g4, g5, g6, g7, g8, g9, g10, g11, g12, fun cd d1 d2 d3 => (g13 cd d1 d2 d3).cg (fun _ _ _ => rfl) (fun _ _ _ => rfl) (by omega)⟩ r3
    refine ⟨S', e1, ?_⟩
    rcases e2 with e2 | ⟨p', sc', cm', a1, a2, s1, s2, M', c', e2, e3, e4⟩
    · exact Or.inl e2
    · exact Or.inr ⟨p', sc', cm', a1, a2, s1, s2, M', c', e2, (suK_n e4).1, (suK_n e4).2, (prK_n e3).1, (prK_n e3).2.1, (prK_n e3).2.2⟩
theorem sum_all (b : Nat → Nat) (z n o : Nat) : ∀ m op, op + m = 6 → SumP b z n o op := by
  intro m
  induction m with
  | zero => intro op h; exact sum_sim (term_sim (fac_sim (fun w => by omega)))
  | succ m ih => intro op h; exact sum_sim (term_sim (fac_sim (fun _ => ih (op + 1) (by omega))))
