-- jumps land
def laM (f q cm w : Nat) (M : St) : St := pI (pI M 65 f (cw q cm)) 55 18 (nI w)
theorem la_step {g cm w q f : Nat} {M : St} {x : Int32} (h18 : M.1 55 18 = nI (w + 1)) (hw : w < 260) (hc : M.1 66 w = cw q f) (hf : f < 260) (h65 : M.1 65 f = cw q 0) (h17 : M.1 55 17 = nI cm) (hq : q = 11 ∨ (q = 12 ∧ x ≠ 0)) : fX12_lands_0 (g + 1) M x = fX12_lands_0 g (laM f q cm w M) x := by
  have hq16 : q < 16 := by omega
  have ht := top12 h18 hw hc hq16 (show f < 1048576 by omega)
  have e1 : nI (w + 1) - 1 = nI w := by rw [Int32.sub_eq_add_neg, pk_m1]
  have e2 : (1048576 : Int32) * nI q + nI cm = cw q cm := by rw [li 1048576, pk_mul, nI_add]; rfl
  have e3 : (pI M 65 f (cw q cm)).1 55 18 = nI (w + 1) := by rw [pI_row _ _ (by decide)]; exact h18
  have e22 : fX12_lands_22 (fX12_lands_0 g) M x = fX12_lands_0 g (laM f q cm w M) x := by
    unfold fX12_lands_22
    rw [h18, e1, if_pos (inbT hw (by decide)), nI_clamp (by omega), hc, cw_v hq16 (show f < 1048576 by omega), bV_e, if_pos (inbT hf (by decide)), if_pos (inbT hf (by decide)), nI_clamp (by omega), h65, cw_op hq16 (by decide), h17, e2, bS_e, e3, e1, bS_e]
    rfl
  show bX12_lands_0 _ _ _ = _
  unfold bX12_lands_0
  rw [ht, bi_some, e22]
  rcases hq with rfl | ⟨rfl, hx⟩
  · rw [if_pos (show nI 11 = 11 from rfl)]
  · rw [if_neg (show ¬ nI 12 = 11 by decide), if_neg hx, ht, bi_some, if_pos (show nI 12 = 12 from rfl), e22]
theorem la_stop {g w q v : Nat} {M : St} {x : Int32} (h18 : M.1 55 18 = nI (w + 1)) (hw : w < 260) (hc : M.1 66 w = cw q v) (hv : v < 1048576) (hq : q = 13 ∨ (q = 12 ∧ x = 0)) : fX12_lands_0 (g + 1) M x = some M := by
  have ht := top12 h18 hw hc (by omega) hv
  show bX12_lands_0 _ _ _ = _
  unfold bX12_lands_0
  rw [ht, bi_some, ht, bi_some]
  rcases hq with rfl | ⟨rfl, hx⟩
  · rw [if_neg (show ¬ nI 13 = 11 by decide), if_neg (show ¬ nI 13 = 12 by decide), ite_self]
  · rw [if_neg (show ¬ nI 12 = 11 by decide), if_pos hx]
def LaF (w : Nat) (M M' : St) : Prop := FrV M M' ∧ M'.1 55 18 = nI w ∧ M'.1 66 = M.1 66 ∧ ∀ k, k ≠ 18 → M'.1 55 k = M.1 55 k
theorem Mu.la {b : Nat → Nat} {n p w : Nat} {M M' : St} (h : Mu b n M p) (e : LaF w M M') : Mu b n M' p := h.oth (funext fun k => e.1.2 64 k (by unfold ltM; omega)) (e.2.2.2 12 (by decide)) (e.2.2.2 13 (by decide))
theorem land1 {g cm cm0 cm1 w a f q : Nat} {M : St} {x : Int32} (h18 : M.1 55 18 = nI (w + a)) (hw : w < 260) (h17 : M.1 55 17 = nI cm) (hp : PJ M w a f q cm0 cm1) (hcm : cm1 ≤ 260) (hq : q = 11 ∨ (q = 12 ∧ x ≠ 0)) : ∃ M', fX12_lands_0 (g + a) M x = fX12_lands_0 g M' x ∧ LaF w M M' ∧ (∀ r, ¬ (a = 1 ∧ r = f) → M'.1 65 r = M.1 65 r) ∧ (a = 1 → M'.1 65 f = cw q cm) := by
  have ha := hp.1
  by_cases c : a = 1
  · subst c
    obtain ⟨p1, p2, p3, p4⟩ := hp.2 rfl
    refine ⟨laM f q cm w M, la_step h18 hw p1 (by omega) p4 h17 hq, ⟨(FrV.put _ (by unfold ltM; omega) _).tr (FrV.put _ (by unfold ltM; omega) _), pI_same _ _ _ _, ?_, fun k h1 => ?_⟩, fun r hr => ?_, fun _ => ?_⟩
    · unfold laM; rw [pI_row _ _ (by decide), pI_row _ _ (by decide)]
    · unfold laM; rw [pI_cell _ _ (by omega), pI_row _ _ (by decide)]
    · unfold laM; rw [pI_row _ _ (by decide), pI_cell _ _ (by omega)]
    · unfold laM; rw [pI_row _ _ (by decide), pI_same]
  · have e : a = 0 := by omega
    subst e
    exact ⟨M, rfl, ⟨FrV.rf M, h18, rfl, fun _ _ => rfl⟩, fun _ _ => rfl, fun h => absurd h (by decide)⟩
/-- at & -/
theorem land_and {cm cm0 w a f : Nat} {M : St} (h18 : M.1 55 18 = nI (w + a)) (hw : w ≤ 260) (h17 : M.1 55 17 = nI cm) (hp : PJ M w a f 11 cm0 cm) (hcm : cm ≤ 260) (hw2 : w < 260) (hT : TopQ M w 12 13) : ∃ M', fX12_lands M 0 = some M' ∧ LaF w M M' ∧ (∀ r, ¬ (a = 1 ∧ r = f) → M'.1 65 r = M.1 65 r) ∧ (a = 1 → M'.1 65 f = cw 11 cm) := by
  have ha := hp.1
  obtain ⟨M1, x1, x2, x3, x4⟩ := land1 (g := 100 - a) (x := 0) h18 hw2 h17 hp hcm (Or.inl rfl)
  obtain ⟨w1, q, v, e1, e2, e3, e4, e5⟩ := hT
  subst e1
  refine ⟨M1, ?_, x2, x3, x4⟩
  unfold fX12_lands
  rw [show 100 - a + a = 100 by omega] at x1
  obtain ⟨g, hg⟩ : ∃ g, 100 - a = g + 1 := ⟨99 - a, by omega⟩
  rw [x1, hg]
  exact la_stop (q := q) (v := v) x2.2.1 (by omega) (by rw [x2.2.2.1]; exact e2) e3 (by
    rcases (show q = 12 ∨ q = 13 by omega) with h | h
    · exact Or.inr ⟨h, rfl⟩
    · exact Or.inl h)
/-- at | and at ) -/
theorem land_all {cm cm0 w a f a2 f2 : Nat} {M : St} (h18 : M.1 55 18 = nI (w + a2 + a)) (hw : w < 250) (h17 : M.1 55 17 = nI cm) (hp : PJ M (w + a2) a f 11 cm0 cm) (hp2 : PJ M w a2 f2 12 cm0 cm) (hne : a = 1 → a2 = 1 → f ≠ f2) (hcm : cm ≤ 260) (hT : TopQ M w 13 13) : ∃ M', fX12_lands M 1 = some M' ∧ LaF w M M' ∧ (∀ r, ¬ (a = 1 ∧ r = f) → ¬ (a2 = 1 ∧ r = f2) → M'.1 65 r = M.1 65 r) ∧ (a = 1 → M'.1 65 f = cw 11 cm) ∧ (a2 = 1 → M'.1 65 f2 = cw 12 cm) := by
  have ha := hp.1
  have ha2 := hp2.1
  obtain ⟨M1, x1, x2, x3, x4⟩ := land1 (g := 100 - a) (x := 1) h18 (by omega) h17 hp hcm (Or.inl rfl)
  have hp2' : PJ M1 w a2 f2 12 cm0 cm := ⟨ha2, fun h => by
    obtain ⟨y1, y2, y3, y4⟩ := hp2.2 h
    exact ⟨by rw [x2.2.2.1]; exact y1, y2, y3, by rw [x3 f2 (fun t => hne t.1 h t.2.symm)]; exact y4⟩⟩
  obtain ⟨M2, y1, y2, y3, y4⟩ := land1 (g := 100 - a - a2) (x := 1) x2.2.1 (by omega) (by rw [x2.2.2.2 17 (by decide)]; exact h17) hp2' hcm (Or.inr ⟨rfl, by decide⟩)
  obtain ⟨w1, q, v, e1, e2, e3, e4, e5⟩ := hT
  subst e1
  refine ⟨M2, ?_, ⟨x2.1.tr y2.1, y2.2.1, y2.2.2.1.trans x2.2.2.1, fun k hk => (y2.2.2.2 k hk).trans (x2.2.2.2 k hk)⟩, fun r h1 h2 => (y3 r h2).trans (x3 r h1), fun h => ?_, y4⟩
  · unfold fX12_lands
    rw [show 100 - a + a = 100 by omega] at x1
    rw [show 100 - a - a2 + a2 = 100 - a by omega] at y1
    obtain ⟨g, hg⟩ : ∃ g, 100 - a - a2 = g + 1 := ⟨99 - a - a2, by omega⟩
    rw [x1, y1, hg]
    exact la_stop (q := q) (v := v) y2.2.1 (by omega) (by rw [y2.2.2.1, x2.2.2.1]; exact e2) e3 (by omega)
  · rw [y3 f (fun t => hne h t.1 t.2)]
    exact x4 h
-- faults on the way
theorem fLR_2 (k o : Nat) (S : St) (x : Int32) : fLR (k + 1) 2 o S x = fX3_readTest (fLR k) o S x := by
  rw [fLR]
  show (if (2 : Nat) = 0 then fX3_readChoice (fLR k) o S x else if (2 : Nat) = 1 then fX3_readPart (fLR k) o S x else if (2 : Nat) = 2 then fX3_readTest (fLR k) o S x else if (2 : Nat) = 3 then fX3_readSum (fLR k) o S x else if (2 : Nat) = 4 then fX3_readTerm (fLR k) o S x else if (2 : Nat) = 5 then fX3_readFactor (fLR k) o S x else none) = _
  rw [if_neg (by decide), if_neg (by decide), if_pos rfl]
theorem fLR_1 (k o : Nat) (S : St) (x : Int32) : fLR (k + 1) 1 o S x = fX3_readPart (fLR k) o S x := by
  rw [fLR]
  show (if (1 : Nat) = 0 then fX3_readChoice (fLR k) o S x else if (1 : Nat) = 1 then fX3_readPart (fLR k) o S x else if (1 : Nat) = 2 then fX3_readTest (fLR k) o S x else if (1 : Nat) = 3 then fX3_readSum (fLR k) o S x else if (1 : Nat) = 4 then fX3_readTerm (fLR k) o S x else if (1 : Nat) = 5 then fX3_readFactor (fLR k) o S x else none) = _
  rw [if_neg (by decide), if_pos rfl]
theorem fLR_0 (k o : Nat) (S : St) (x : Int32) : fLR (k + 1) 0 o S x = fX3_readChoice (fLR k) o S x := by
  rw [fLR]
  show (if (0 : Nat) = 0 then fX3_readChoice (fLR k) o S x else if (0 : Nat) = 1 then fX3_readPart (fLR k) o S x else if (0 : Nat) = 2 then fX3_readTest (fLR k) o S x else if (0 : Nat) = 3 then fX3_readSum (fLR k) o S x else if (0 : Nat) = 4 then fX3_readTerm (fLR k) o S x else if (0 : Nat) = 5 then fX3_readFactor (fLR k) o S x else none) = _
  rw [if_pos rfl]
theorem nfine {S : St} (h : S.1 3 4 ≠ 0) : fX0_fine S = some (0, S) := by
  rw [fine0, show decide (S.1 3 4 = 0) = false by simpa using h, b2i_f]
theorem yfine {S : St} (h : S.1 3 4 = 0) : fX0_fine S = some (1, S) := by
  rw [fine0, show decide (S.1 3 4 = 0) = true by simpa using h, b2i_t]
theorem facN {k o : Nat} {S : St} (h : S.1 3 4 ≠ 0) (x : Int32) : fLR (k + 1) 5 o S x = some S := by
  rw [fLR_5]
  unfold fX3_readFactor
  rw [nfine h, bi_some, if_pos rfl]
theorem trmN {k o : Nat} {S : St} (h : S.1 3 4 ≠ 0) (x : Int32) : fLR (k + 2) 4 o S x = some S := by
  rw [fLR_4]
  unfold fX3_readTerm
  rw [facN h, bv_some, prod3, bi_some]
  exact tm20n (f := 259) h _ _ _
theorem lsumN {k o : Nat} {S : St} (h : S.1 3 4 ≠ 0) (x : Int32) : fLR (k + 3) 3 o S x = some S := by
  rw [fLR_3]
  unfold fX3_readSum
  rw [trmN h, bv_some, sum3, bi_some]
  exact sm20n (f := 259) h _ _ _
theorem tstN {k o : Nat} {S : St} (h : S.1 3 4 ≠ 0) (x : Int32) : fLR (k + 1) 2 o S x = some S := by
  rw [fLR_2]
  unfold fX3_readTest
  rw [nfine h, bi_some, if_pos rfl]
theorem pa8n {rg : Nat → Nat → St → Int32 → Option St} {o f : Nat} {S : St} (h : S.1 3 4 ≠ 0) (x i : Int32) : fX3_readPart_8 rg o (f + 1) S x i = some S := by
  show bX3_readPart_8 _ _ _ _ _ _ = _
  unfold bX3_readPart_8
  rw [nfine h, bi_some, if_pos rfl, ite_self]
theorem ch8n {rg : Nat → Nat → St → Int32 → Option St} {o f : Nat} {S : St} (h : S.1 3 4 ≠ 0) (x i : Int32) : fX3_readChoice_8 rg o (f + 1) S x i = some S := by
  show bX3_readChoice_8 _ _ _ _ _ _ = _
  unfold bX3_readChoice_8
  rw [nfine h, bi_some, if_pos rfl, ite_self]
theorem parN {k o : Nat} {S : St} (h : S.1 3 4 ≠ 0) (x : Int32) : fLR (k + 2) 1 o S x = some S := by
  rw [fLR_1]
  unfold fX3_readPart
  rw [tstN h, bv_some]
  exact pa8n (f := 99) h _ _
theorem choN {k o : Nat} {S : St} (h : S.1 3 4 ≠ 0) (x : Int32) : fLR (k + 3) 0 o S x = some S := by
  rw [fLR_0]
  unfold fX3_readChoice
  rw [parN h, bv_some]
  exact ch8n (f := 99) h _ _
theorem t86n {rg : Nat → Nat → St → Int32 → Option St} {o : Nat} {S : St} (h : S.1 3 4 ≠ 0) (x : Int32) : fX3_readTest_86 rg o S x = some S := by
  unfold fX3_readTest_86
  rw [nfine h, bi_some, if_pos rfl]
def cmK (x : Int32) : Int32 := if x = 60 then 8 else (if x = 62 then 9 else (if x = 61 then 10 else -1))
def cmQ (x : Int32) : Int32 := if x = 60 then 7 else (if x = 62 then 8 else (if x = 61 then 9 else -1))
theorem cmp3 (S : St) (x : Int32) : fX3_comparisonOf S x = some (cmK x, S) := by
  unfold fX3_comparisonOf cmK
  simp only [som_ite]
theorem cmK_y {x : Int32} (h : ¬ cmK x = -1) : ∃ q, 7 ≤ q ∧ q ≤ 9 ∧ cmK x = nI (q + 1) ∧ cmQ x = nI q ∧ x ≠ -1 := by
  by_cases c1 : x = 60
  · subst c1; exact ⟨7, by decide⟩
  · by_cases c2 : x = 62
    · subst c2; exact ⟨8, by decide⟩
    · by_cases c3 : x = 61
      · subst c3; exact ⟨9, by decide⟩
      · exfalso
        apply h
        unfold cmK
        rw [if_neg c1, if_neg c2, if_neg c3]
theorem cmK_n {x : Int32} (h : cmK x = -1) : cmQ x = -1 := by
  by_cases c1 : x = 60
  · subst c1; exact absurd h (by decide)
  · by_cases c2 : x = 62
    · subst c2; exact absurd h (by decide)
    · by_cases c3 : x = 61
      · subst c3; exact absurd h (by decide)
      · unfold cmQ
        rw [if_neg c1, if_neg c2, if_neg c3]
theorem cmpM {b : Nat → Nat} {n p : Nat} {M M1 : St} (hs : fX12_readsSum M = some (1, M1)) (hM : Mu b n M1 p) : fX12_readsCompared M = fX12_readsCompared_52 M1 (cmQ (sg b n p)) := by
  unfold fX12_readsCompared cmQ
  rw [hs, bi_some, if_neg (by decide)]
  simp only [here12 hM, bi_some]
  by_cases c1 : sg b n p = 60
  · rw [if_pos c1, if_pos c1]
  · rw [if_neg c1, if_neg c1]
    by_cases c2 : sg b n p = 62
    · rw [if_pos c2, if_pos c2]
    · rw [if_neg c2, if_neg c2]
      by_cases c3 : sg b n p = 61
      · rw [if_pos c3, if_pos c3]
      · rw [if_neg c3, if_neg c3]
theorem bibv {α : Type} (x : Option St) (g : Int32 → St → Option α) : bi (bv x fun S => some ((1 : Int32), S)) g = bv x fun S => g 1 S := by
  cases x <;> rfl
theorem Flt.ex {b : Nat → Nat} {z n o : Nat} {S M S1 : St} {run : Option (Int32 × St)} (hL : isL o) (h : Flt b z n o S M S1 run) {S2 : St} {p : Nat} (e : Ex 3 S1 S2) (hC : Cu b z n S2 p (S1.1 3 4)) : Flt b z n o S M S2 run := by
  obtain ⟨⟨s, s1, s2⟩, v, p', M', a1, a2, a3, a4, a5, a6⟩ := h
  unfold isL at hL
  exact ⟨⟨s, s1, by rw [e.2 o (by omega)]; exact s2⟩, v, p, M', a1, by rw [a2.2.2.2.2.2.2.2] at hC; exact hC, a3.tr (FrW.ex (by omega) e), a4, a5, a6⟩
theorem Flt.cu {b : Nat → Nat} {z n o : Nat} {S M S1 : St} {run : Option (Int32 × St)} (h : Flt b z n o S M S1 run) : ∃ p, Cu b z n S1 p (S1.1 3 4) := by
  obtain ⟨_, v, p', M', a1, a2, _⟩ := h
  exact ⟨p', by rw [a2.2.2.2.2.2.2.2]; exact a2⟩
theorem Flt.exp {b : Nat → Nat} {z n o : Nat} {S M S1 : St} {run : Option (Int32 × St)} (hL : isL o) (h : Flt b z n o S M S1 run) (w : Nat) (hw : w < 256) : ∃ S2, fX0_expect S1 (nI w) = some S2 ∧ Flt b z n o S M S2 run := by
  obtain ⟨p, hC⟩ := h.cu
  obtain ⟨S2, p2, e1, e2, e3⟩ := expF h.ne hC w hw
  exact ⟨S2, e1, h.ex hL e2 e3⟩
/-- the rest of a test behind a fault -/
theorem cmpF {b : Nat → Nat} {z n o k : Nat} {S M S1 : St} {run : Option (Int32 × St)} (hL : isL o) (h : Flt b z n o S M S1 run) (x : Int32) : ∃ S', (bi (fX3_comparisonOf S1 (S1.1 3 3)) fun r5 S3 => if r5 = (-1 : Int32) then (bv (fX0_failHere S3 (1 : Int32)) fun S7 => some S7) else (bv (fX0_step S3) fun S4 => bv (fLR (k + 3) 3 o S4 x) fun S5 => bi (fX2_addStep o S5 r5 (0 : Int32)) fun r9 S6 => some S6)) = some S' ∧ Flt b z n o S M S' run := by
  obtain ⟨p, hC⟩ := h.cu
  rw [cmp3, bi_some]
  by_cases c : cmK (S1.1 3 3) = -1
  · rw [if_pos c, failHn h.ne, bv_some]
    exact ⟨S1, rfl, h⟩
  · obtain ⟨q, _, _, _, _, y5⟩ := cmK_y c
    rw [hC.2.2.2.2.2.2.1] at y5
    obtain ⟨S2, e1, e2, e3⟩ := step0 hC (sg_in y5)
    have h2 := h.ex hL e2 e3
    obtain ⟨s, S3, _, f1, f2⟩ := h2.add hL (cmK (S1.1 3 3)) 0
    rw [if_neg c, e1, bv_some, lsumN h2.ne, bv_some, f1, bi_some]
    exact ⟨S3, rfl, f2⟩
