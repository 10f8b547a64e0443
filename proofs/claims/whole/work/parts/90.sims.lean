-- the text of a terrace to its end
theorem pass0 (S : St) : fX0_passesSemicolon S = (if S.1 3 4 = 0 then (if S.1 3 3 = -1 then some (0, S) else bv (fX0_expect S 59) fun S2 => some (b2i (decide (S2.1 3 4 = 0)), S2)) else some (0, S)) := by
  unfold fX0_passesSemicolon
  rw [fine0, bi_some, ite_b2i]
  by_cases c : S.1 3 4 = 0
  · have : decide (S.1 3 4 = 0) = true := by simpa using c
    rw [this, if_pos rfl, if_pos c]
    by_cases c2 : S.1 3 3 = -1
    · rw [if_pos c2, if_pos c2]
    · rw [if_neg c2, if_neg c2]
      congr 1
      funext S2
      rw [fine0, bi_some, if_pos (b2i_01 _)]
  · have : decide (S.1 3 4 = 0) = false := by simpa using c
    rw [this, if_neg (by decide), if_neg c]
def TeO (b : Nat → Nat) (z n t f g L : Nat) (S M S' M' : St) : Prop := FrT t S S' ∧ FrM M M' ∧ ((∃ L', L' ≤ 33 ∧ Dr S' M' t ∧ M'.1 55 40 = nI L' ∧ fX9_readTerrace_17 t f S (nI L) 1 = (bv (fX8_lookAround t S') fun S2 => some (nI L', S2)) ∧ (bi (fX12_readsLine M) fun r S6 => fX12_terrace_46 g S6 r) = fX12_terrace_86 M' 1) ∨ (∃ v, v < 0 ∧ RNew M' ∧ M'.1 55 14 = v ∧ fX9_readTerrace_17 t f S (nI L) 1 = some (v, S') ∧ (bi (fX12_readsLine M) fun r S6 => fX12_terrace_46 g S6 r) = fX12_terrace_86 M' 0))
theorem t49n {t : Nat} {S : St} {v x : Int32} (hv : v ≠ 0) (h : S.1 3 4 = v) : fX9_readTerrace_49 t S x = some (v, S) := by
  have : decide (v = 0) = false := by simpa using hv
  unfold fX9_readTerrace_49
  rw [fine0, bi_some, h, this, b2i_f, if_pos rfl]
theorem t49 {t : Nat} {S : St} {x : Int32} (h : S.1 3 4 = 0) : fX9_readTerrace_49 t S x = bv (fX8_lookAround t S) fun S2 => some (x, S2) := by
  unfold fX9_readTerrace_49
  rw [fine0, bi_some, h, if_neg (by decide)]
theorem t17e (t f : Nat) (S : St) (x : Int32) : fX9_readTerrace_17 t (f + 1) S x 0 = fX9_readTerrace_49 t S x := by
  show bX9_readTerrace_17 _ _ _ _ _ = _
  unfold bX9_readTerrace_17
  rw [if_pos rfl]
theorem m46e (g : Nat) (M : St) : fX12_terrace_46 (g + 1) M 0 = fX12_terrace_86 M 0 := by
  show bX12_terrace_46 _ _ _ = _
  unfold bX12_terrace_46
  rw [if_pos rfl]
theorem terr_loop {b : Nat → Nat} {z n t : Nat} (ht : 3 < t) : ∀ k L S M p f g, L + k = 33 → 0 < k → Cu b z n S p 0 → Mu b n M p → Dr S M t → M.1 55 40 = nI L → k < f → k < g → ∃ S' M', TeO b z n t f g L S M S' M' := by
  intro k
  induction k with
  | zero => intro L S M p f g _ h; omega
  | succ k ih =>
    intro L S M p f g hk _ hC hM hD h40 hf hg
    obtain ⟨f, rfl⟩ : ∃ f', f = f' + 2 := ⟨f - 2, by omega⟩
    obtain ⟨g, rfl⟩ : ∃ g', g = g' + 1 := ⟨g - 1, by omega⟩
    obtain ⟨S1, M1, r, l1, l2, l3, l4⟩ := line_sim hC hM hD ht h40 (by omega)
    obtain ⟨l5, l6, l7⟩ := l1
    have ec : fX9_readTerrace_17 t (f + 2) S (nI L) 1 = bi (fX0_passesSemicolon S1) fun r4 S2 => fX9_readTerrace_17 t (f + 1) S2 (nI (L + 1)) r4 := by
      show bX9_readTerrace_17 t (fX9_readTerrace_17 t (f + 1)) S (nI L) 1 = _
      unfold bX9_readTerrace_17
      rw [if_neg (by decide), if_neg (show ¬ (32 : Int32) < nI L by rw [li 32, nlt (by decide) (by omega)]; omega), l3, bv_some, bV_e, nI_1]
    have em : (bi (fX12_readsLine M) fun r S6 => fX12_terrace_46 (g + 1) S6 r) = fX12_terrace_46 (g + 1) M1 (b2i r) := by rw [l4, bi_some]
    unfold TeO
    rw [ec, em, pass0]
    cases r with
    | false =>
      rw [if_neg (by decide)] at l7
      obtain ⟨p', v, v1, v2, v3, v4⟩ := l7
      have hv := ne_of_neg v1
      have h34 := v2.2.2.2.2.2.2.2
      refine ⟨S1, M1, l5, l6, Or.inr ⟨v, v1, v4, v3, ?_, ?_⟩⟩
      · rw [if_neg (by rw [h34]; exact hv), bi_some, t17e, t49n hv h34]
      · exact m46e g M1
    | true =>
      rw [if_pos rfl] at l7
      obtain ⟨p', v2, v3, v4, v5⟩ := l7
      have h34 := v2.2.2.2.2.2.2.2
      have h33 := v2.2.2.2.2.2.2.1
      have hp' := v2.2.2.2.1
      have hn := v3.2.2.1
      have m1 : fX12_terrace_46 (g + 1) M1 (b2i true) = (if n ≤ p' then fX12_terrace_86 M1 1 else bi (fX12_takes M1 (59 : Int32)) fun r2 S1 => if r2 = 0 then (fX12_terrace_81 (fX12_terrace_46 g) S1) else (bi (fX12_readsLine S1) fun r4 S2 => if r4 = 0 then (fX12_terrace_81 (fX12_terrace_46 g) S2) else (fX12_terrace_46 g S2 (1 : Int32)))) := by
        show bX12_terrace_46 _ _ _ = _
        unfold bX12_terrace_46
        rw [b2i_t, if_neg (by decide), v3.2.2.2.2.1, v3.2.2.2.2.2]
        by_cases c : n ≤ p'
        · rw [if_pos c, if_pos (show nI n ≤ nI p' by rw [nle (by omega) (by omega)]; exact c)]
        · rw [if_neg c, if_neg (show ¬ nI n ≤ nI p' by rw [nle (by omega) (by omega)]; exact c)]
      rw [m1, if_pos h34, h33]
      rcases Nat.lt_or_ge p' n with y | y
      · have hs : sg b n p' ≠ -1 := by rw [sg_lt y]; exact nm1 (by have := v3.2.1 p'; omega)
        rw [if_neg hs, if_neg (show ¬ n ≤ p' by omega), takes12 v3]
        obtain ⟨S2, a1, a2, a3⟩ := expect0 v2 59 (by decide)
        rw [li 59, a1, bv_some]
        by_cases c : sg b n p' = nI 59
        · rw [if_pos c] at a3
          rw [if_pos c, bi_some, bi_some, a3.2.2.2.2.2.2.2.2, if_neg (show ¬ (1 : Int32) = 0 by decide)]
          have hM2 : Mu b n (pI M1 55 12 (nI (p' + 1))) (p' + 1) := v3.mv (by omega)
          have hD2 : Dr S2 (pI M1 55 12 (nI (p' + 1))) t := (v4.cl ht a2).e55 (tk_e55 _ _)
          have h42 : (pI M1 55 12 (nI (p' + 1))).1 55 40 = nI (L + 1) := h40e v5 (tk_e55 _ _)
          obtain ⟨S', M', q1, q2, q3⟩ := ih (L + 1) S2 (pI M1 55 12 (nI (p' + 1))) (p' + 1) (f + 1) g (by omega) (by have := l2 rfl; omega) a3.2 hM2 hD2 h42 (by omega) (by omega)
          have e2 : (bi (fX12_readsLine (pI M1 55 12 (nI (p' + 1)))) fun r4 S2 => if r4 = 0 then (fX12_terrace_81 (fX12_terrace_46 g) S2) else (fX12_terrace_46 g S2 (1 : Int32))) = (bi (fX12_readsLine (pI M1 55 12 (nI (p' + 1)))) fun r S6 => fX12_terrace_46 g S6 r) := by
            obtain ⟨_, M3, r3, _, _, _, y4⟩ := line_sim a3.2 hM2 hD2 ht h42 (by have := l2 rfl; omega)
            rw [y4, bi_some, bi_some]
            cases r3
            · rw [b2i_f, if_pos rfl]; rfl
            · rw [b2i_t, if_neg (by decide)]
          rw [e2]
          refine ⟨S', M', (l5.tr (FrT.ex a2)).tr q1, (l6.tr (FrM.e55 (tk_e55 _ _))).tr q2, ?_⟩
          exact q3
        · rw [if_neg c, if_pos rfl] at a3
          have hv : flt 1 p' < 0 := flt_neg (by decide) (by decide) (by omega)
          have h344 := a3.2.2.2.2.2.2.2
          have hdf : decide (flt 1 p' = 0) = false := by
            have := ne_of_neg hv
            simpa using this
          rw [if_neg c, bi_some, bi_some, h344, hdf, b2i_f, if_pos rfl]
          refine ⟨S2, pI M1 55 14 (flt 1 p'), l5.tr (FrT.ex a2), l6.tr (FrM.e55 (tk_e55f _ _)), Or.inr ⟨flt 1 p', hv, v4.1.p55 _ _, pI_same _ _ _ _, ?_, ?_⟩⟩
          · rw [t17e, t49n (ne_of_neg hv) h344]
          · obtain ⟨g, rfl⟩ : ∃ g', g = g' + 1 := ⟨g - 1, by omega⟩
            exact m46e g _
      · rw [sg_ge y, if_pos rfl, if_pos y, bi_some]
        refine ⟨S1, M1, l5, l6, Or.inl ⟨L + 1, by omega, v4, v5, ?_, rfl⟩⟩
        rw [t17e, t49 h34]
-- looking around
def DrN (S : St) (t nh nt : Nat) (fa si fr un : Nat → Nat) : Prop := nh < 65536 ∧ nt < 65536 ∧ S.1 t 7 = nI nh ∧ S.1 t 8 = nI nt ∧ (∀ h, h < 16 → nh.testBit h = true → S.1 (t + 1) h = nI (fa h) ∧ fa h < 12) ∧ ∀ p, p < 16 → nt.testBit p = true → (S.1 (t + 2) p = nI (si p) ∧ si p < 12) ∧ (S.1 (t + 3) p = nI (fr p) ∧ fr p < 12) ∧ (S.1 (t + 4) p = nI (un p) ∧ un p < 12)
theorem DrN.cg {S S' : St} {t nh nt : Nat} {fa si fr un : Nat → Nat} (h : DrN S t nh nt fa si fr un) (e : ∀ o k, o ≠ t + 5 → o ≠ t + 6 → S'.1 o k = S.1 o k) : DrN S' t nh nt fa si fr un := by
  obtain ⟨h1, h2, h3, h4, h5, h6⟩ := h
  refine ⟨h1, h2, ?_, ?_, fun i hi q => ?_, fun i hi q => ?_⟩
  · rw [e _ _ (by omega) (by omega)]; exact h3
  · rw [e _ _ (by omega) (by omega)]; exact h4
  · rw [e _ _ (by omega) (by omega)]; exact h5 i hi q
  · rw [e _ _ (by omega) (by omega), e _ _ (by omega) (by omega), e _ _ (by omega) (by omega)]; exact h6 i hi q
theorem bef12 : ∀ f, f < 12 → ∀ s, s < 12 → besB f s = (decide (ab (nI f - nI s) ≤ 1) || decide (ab (nI f - nI s) = 11)) := by decide +kernel
theorem isBef8 {S : St} {t h p f s : Nat} (hh : h < 16) (hp : p < 16) (e1 : S.1 (t + 1) h = nI f) (e2 : S.1 (t + 2) p = nI s) (hf : f < 12) (hs : s < 12) : fX8_isBefore t S (nI h) (nI p) = some (b2i (besB f s), S) := by
  unfold fX8_isBefore
  rw [if_pos (inbT hh (by decide)), if_pos (inbT hp (by decide)), nI_clamp (by omega), nI_clamp (by omega), e1, e2, ab_u, bV_e, bef12 f hf s hs]
  by_cases c1 : ab (nI f - nI s) ≤ 1
  · simp [c1, b2i]
  · by_cases c2 : ab (nI f - nI s) = 11 <;> simp [c1, c2, b2i]
theorem isThe8 {S : St} {t p a c x : Nat} (hp : p < 16) (hx : x < 12) (e1 : S.1 (t + 3) p = nI a) (e2 : S.1 (t + 4) p = nI c) (ha : a < 12) (hc : c < 12) : fX8_isThere t S (nI p) (nI x) = some (b2i (thenB a c x), S) := by
  unfold fX8_isThere fX8_isThere_15 fX8_isThere_31 thenB
  simp only [inbT hp (show 16 < 2 ^ 31 by decide), if_true, nI_clamp (show p < 2 ^ 31 by omega), e1, e2, nlt (show x < 2 ^ 31 by omega) (show a < 2 ^ 31 by omega), nlt (show c < 2 ^ 31 by omega) (show x < 2 ^ 31 by omega), nlt (show c < 2 ^ 31 by omega) (show a < 2 ^ 31 by omega)]
  by_cases c1 : c < a
  · by_cases c2 : x < a
    · have q2 : ¬ a ≤ x := by omega
      by_cases c3 : c < x <;> simp [c1, c2, c3, q2, b2i]
    · have q2 : a ≤ x := by omega
      by_cases c3 : c < x <;> simp [c1, c2, c3, q2, b2i]
  · by_cases c2 : x < a
    · have q2 : ¬ a ≤ x := by omega
      by_cases c3 : c < x <;> simp [c1, c2, c3, q2, b2i]
    · have q2 : a ≤ x := by omega
      by_cases c3 : c < x
      · have q3 : ¬ x ≤ c := by omega
        simp [c1, c2, c3, q2, q3, b2i]
      · have q3 : x ≤ c := by omega
        simp [c1, c2, c3, q2, q3, b2i]
theorem before8 {S : St} {t nh nt h : Nat} {fa si fr un : Nat → Nat} (hD : DrN S t nh nt fa si fr un) (hh : h < 16) (hb : nh.testBit h = true) : fX8_thingsBefore t S (nI h) = some (nI (setN (fun p => nt.testBit p && besB (fa h) (si p)) 16), S) := by
  obtain ⟨h1, h2, h3, h4, h5, h6⟩ := hD
  unfold fX8_thingsBefore
  refine set_loop (F := fun k x i => fX8_thingsBefore_4 t k S (nI h) x (nI i)) _ 16 (by decide) (fun x => some (x, S)) (fun k x i hi => ?_) (fun k x => ?_) (by decide)
  · show bX8_thingsBefore_4 _ _ _ _ _ _ = _
    unfold bX8_thingsBefore_4
    rw [li 16, if_neg (by rw [nle (by decide) (by omega)]; omega), hasThing8, bi_some, hoN8 h2 h4 hi]
    simp only [ite_b2i, bV_e, nI_1]
    by_cases c : nt.testBit i = true
    · rw [isBef8 hh hi (h5 h hh hb).1 (h6 i hi c).1.1 (h5 h hh hb).2 (h6 i hi c).1.2, bi_some]
      simp only [ite_b2i]
      by_cases c2 : besB (fa h) (si i) = true <;> simp [c, c2]
    · simp [c]
  · show bX8_thingsBefore_4 _ _ _ _ _ _ = _
    unfold bX8_thingsBefore_4
    rw [if_pos (by decide)]
theorem there8 {S : St} {t nh nt x : Nat} {fa si fr un : Nat → Nat} (hD : DrN S t nh nt fa si fr un) (hx : x < 12) : fX8_thingsThere t S (nI x) = some (nI (setN (fun p => nt.testBit p && thenB (fr p) (un p) x) 16), S) := by
  obtain ⟨h1, h2, h3, h4, h5, h6⟩ := hD
  unfold fX8_thingsThere
  refine set_loop (F := fun k y i => fX8_thingsThere_4 t k S (nI x) y (nI i)) _ 16 (by decide) (fun x => some (x, S)) (fun k y i hi => ?_) (fun k y => ?_) (by decide)
  · show bX8_thingsThere_4 _ _ _ _ _ _ = _
    unfold bX8_thingsThere_4
    rw [li 16, if_neg (by rw [nle (by decide) (by omega)]; omega), hasThing8, bi_some, hoN8 h2 h4 hi]
    simp only [ite_b2i, bV_e, nI_1]
    by_cases c : nt.testBit i = true
    · rw [isThe8 hi hx (h6 i hi c).2.1.1 (h6 i hi c).2.2.1 (h6 i hi c).2.1.2 (h6 i hi c).2.2.2, bi_some]
      simp only [ite_b2i]
      by_cases c2 : thenB (fr i) (un i) x = true <;> simp [c, c2]
    · simp [c]
  · show bX8_thingsThere_4 _ _ _ _ _ _ = _
    unfold bX8_thingsThere_4
    rw [if_pos (by decide)]
def evQ (nh nt : Nat) (fa si : Nat → Nat) (h : Nat) : Nat := if nh.testBit h = true then setN (fun p => nt.testBit p && besB (fa h) (si p)) 16 else 0
def thQn (nt : Nat) (fr un : Nat → Nat) (x : Nat) : Nat := setN (fun p => nt.testBit p && thenB (fr p) (un p) x) 16
def AtL (t : Nat) (S S' : St) : Prop := S'.2 = S.2 ∧ ∀ o k, o ≠ t + 5 → o ≠ t + 6 → S'.1 o k = S.1 o k
theorem look8 {S0 : St} {t nh nt : Nat} {fa si fr un : Nat → Nat} (hD : DrN S0 t nh nt fa si fr un) : ∃ S', AtL t S0 S' ∧ (∀ h, h < 16 → S'.1 (t + 6) h = nI (evQ nh nt fa si h)) ∧ (∀ h, h < 16 → ∀ x, x < 12 → S'.1 (t + 5) (h * 12 + x) = nI (evQ nh nt fa si h &&& thQn nt fr un x)) ∧ fX8_lookAround t S0 = some S' := by
  have k1 := loop_inv (F := fun f S i => fX8_lookAround_2 t f S (nI i)) (fun i S => AtL t S0 S ∧ ∀ h, h < i → S.1 (t + 6) h = nI (evQ nh nt fa si h)) (fun S => fX8_lookAround_39 t 100 S 0) 16 (fun f S i hi hq => by
      obtain ⟨⟨q1, q2⟩, q3⟩ := hq
      have hD1 := hD.cg q2
      refine ⟨pI S (t + 6) i (nI (evQ nh nt fa si i)), ?_, ⟨q1, fun o k a c => (congrFun (pI_row S _ c) k).trans (q2 o k a c)⟩, fun h hh => ?_⟩
      · show bX8_lookAround_2 _ _ _ _ = _
        unfold bX8_lookAround_2
        rw [li 16, if_neg (by rw [nle (by decide) (by omega)]; omega), hasHouse8, bi_some, hoN8 hD1.1 hD1.2.2.1 hi, ite_b2i]
        unfold evQ
        by_cases c : nh.testBit i = true
        · rw [if_pos c, if_pos c, before8 hD1 hi c, bi_some, if_pos (inbT hi (by decide)), nI_clamp (by omega), bS_e, bV_e, nI_1]
        · rw [if_neg c, if_neg c, if_pos (inbT hi (by decide)), nI_clamp (by omega), bS_e, bV_e, nI_1]
          rfl
      · by_cases e : h = i
        · subst e; rw [pI_same]
        · rw [pI_cell _ _ (by omega)]; exact q3 h (by omega)) (fun f S hq => by
      show bX8_lookAround_2 _ _ _ _ = _
      unfold bX8_lookAround_2
      rw [if_pos (by decide)]) 16 100 S0 0 rfl (by decide) ⟨⟨rfl, fun _ _ _ _ => rfl⟩, fun h hh => absurd hh (Nat.not_lt_zero _)⟩
  obtain ⟨S1, ⟨a1, a2⟩, a3⟩ := k1
  have k2 := loop_inv (F := fun f S x => fX8_lookAround_39 t f S (nI x)) (fun x S => AtL t S0 S ∧ (∀ h, h < 16 → S.1 (t + 6) h = nI (evQ nh nt fa si h)) ∧ ∀ h, h < 16 → ∀ y, y < x → S.1 (t + 5) (h * 12 + y) = nI (evQ nh nt fa si h &&& thQn nt fr un y)) (fun S => some S) 12 (fun f S x hx hq => by
      obtain ⟨⟨q1, q2⟩, q3, q4⟩ := hq
      have hD1 := hD.cg q2
      have k3 := loop_inv (F := fun f' S i => fX8_lookAround_53 t (fX8_lookAround_39 t f) f' S (nI x) (nI (thQn nt fr un x)) (nI i)) (fun i S => AtL t S0 S ∧ (∀ h, h < 16 → S.1 (t + 6) h = nI (evQ nh nt fa si h)) ∧ (∀ h, h < 16 → ∀ y, y < x → S.1 (t + 5) (h * 12 + y) = nI (evQ nh nt fa si h &&& thQn nt fr un y)) ∧ ∀ h, h < i → S.1 (t + 5) (h * 12 + x) = nI (evQ nh nt fa si h &&& thQn nt fr un x)) (fun S => fX8_lookAround_39 t f S (nI (x + 1))) 16 (fun f' S i hi hr => by
          obtain ⟨⟨r1, r2⟩, r3, r4, r5⟩ := hr
          have ix : nI i * 12 + nI x = nI (i * 12 + x) := by rw [li 12, pk_mul, nI_add]
          refine ⟨pI S (t + 5) (i * 12 + x) (nI (evQ nh nt fa si i &&& thQn nt fr un x)), ?_, ⟨r1, fun o k a c => (congrFun (pI_row S _ a) k).trans (r2 o k a c)⟩, fun h hh => ?_, fun h hh y hy => ?_, fun h hh => ?_⟩
          · show bX8_lookAround_53 t _ _ _ _ _ _ = _
            unfold bX8_lookAround_53
            rw [li 16, if_neg (by rw [nle (by decide) (by omega)]; omega), if_pos (inbT hi (by decide)), ix, if_pos (inbT (by omega) (by decide)), nI_clamp (by omega), nI_clamp (by omega), r3 i hi, and_nI, bS_e, bV_e, nI_1]
          · rw [pI_row _ _ (by omega)]; exact r3 h hh
          · rw [pI_cell _ _ (by omega)]; exact r4 h hh y hy
          · by_cases e : h = i
            · subst e; rw [pI_same]
            · rw [pI_cell _ _ (by omega)]; exact r5 h (by omega)) (fun f' S hr => by
          show bX8_lookAround_53 t _ _ _ _ _ _ = _
          unfold bX8_lookAround_53
          rw [if_pos (by decide), bV_e, nI_1]) 16 100 S 0 rfl (by decide) ⟨⟨q1, q2⟩, q3, q4, fun h hh => absurd hh (Nat.not_lt_zero _)⟩
      obtain ⟨S2, ⟨b1, b2, b3, b4⟩, b5⟩ := k3
      refine ⟨S2, ?_, b1, b2, fun h hh y hy => ?_⟩
      · show bX8_lookAround_39 _ _ _ _ = _
        unfold bX8_lookAround_39
        rw [li 12, if_neg (by rw [nle (by decide) (by omega)]; omega), there8 hD1 hx, bi_some]
        exact b5
      · by_cases e : y = x
        · subst e; exact b4 h hh
        · exact b3 h hh y (by omega)) (fun f S hq => by
      show bX8_lookAround_39 _ _ _ _ = _
      unfold bX8_lookAround_39
      rw [if_pos (by decide)]) 12 100 S1 0 rfl (by decide) ⟨a1, a2, fun h _ y hy => absurd hy (Nat.not_lt_zero _)⟩
  obtain ⟨S2, ⟨c1, c2, c3⟩, c4⟩ := k2
  exact ⟨S2, c1, c2, c3, a3.trans c4⟩
