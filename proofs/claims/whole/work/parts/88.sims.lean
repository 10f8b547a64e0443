-- a line of the terrace's text
def FrT (t : Nat) (S S' : St) : Prop := S'.2 = S.2 ∧ ∀ o, o ≠ 3 → ¬ (t ≤ o ∧ o ≤ t + 7) → S'.1 o = S.1 o
theorem FrT.rf (t : Nat) (S : St) : FrT t S S := ⟨rfl, fun _ _ _ => rfl⟩
theorem FrT.tr {t : Nat} {S S1 S2 : St} (h : FrT t S S1) (h2 : FrT t S1 S2) : FrT t S S2 := ⟨h2.1.trans h.1, fun o a b => (h2.2 o a b).trans (h.2 o a b)⟩
theorem FrT.ex {t : Nat} {S S' : St} (h : Ex 3 S S') : FrT t S S' := ⟨h.1, fun o a _ => h.2 o a⟩
theorem FrT.put {t : Nat} (S : St) {o : Nat} (h1 : t ≤ o) (h2 : o ≤ t + 7) (k : Nat) (v : Int32) : FrT t S (pI S o k v) := ⟨rfl, fun j _ h => pI_row S v (by omega)⟩
def rdM (o k : Nat) : Prop := (o = 55 ∧ (k = 12 ∨ k = 13 ∨ k = 14 ∨ k = 15 ∨ k = 17 ∨ k = 19 ∨ k = 38 ∨ k = 39 ∨ k = 40)) ∨ (78 ≤ o ∧ o ≤ 81)
def FrM (M M' : St) : Prop := M'.2 = M.2 ∧ ∀ o k, ¬ rdM o k → M'.1 o k = M.1 o k
theorem FrM.rf (M : St) : FrM M M := ⟨rfl, fun _ _ _ => rfl⟩
theorem FrM.tr {M M1 M2 : St} (h : FrM M M1) (h2 : FrM M1 M2) : FrM M M2 := ⟨h2.1.trans h.1, fun o k a => (h2.2 o k a).trans (h.2 o k a)⟩
theorem FrM.e55 {M M' : St} (h : E55 M M') : FrM M M' := ⟨h.1, fun o k a => h.2 o k (fun z => a (by unfold rdM; omega))⟩
theorem FrM.put (M : St) {o k : Nat} (h : rdM o k) (v : Int32) : FrM M (pI M o k v) := ⟨rfl, fun a c hc => pI_cell M v (by rintro ⟨rfl, rfl⟩; exact hc h)⟩
theorem RNew.e55 {M M' : St} (a : RNew M) (h : E55 M M') : RNew M' := a.cg (fun o h1 h2 k _ => h.2 o k (by omega))
theorem RNew.put {M : St} (a : RNew M) {o k w : Nat} (h1 : 78 ≤ o) (h2 : o ≤ 81) (hw : w < 12) : RNew (pI M o k (nI w)) := by
  intro o' q1 q2 j hj
  by_cases e : o' = o ∧ j = k
  · obtain ⟨rfl, rfl⟩ := e
    rw [pI_same, gv_nI (by omega)]
    exact ⟨rfl, hw⟩
  · rw [pI_cell _ _ e]
    exact a o' q1 q2 j hj
theorem RNew.p55 {M : St} (a : RNew M) (k : Nat) (v : Int32) : RNew (pI M 55 k v) := a.cg (fun o h1 h2 j _ => pI_cell M v (by omega))
def Dr (S M : St) (t : Nat) : Prop := RNew M ∧ ∃ nh nt, nh < 65536 ∧ nt < 65536 ∧ S.1 t 7 = nI nh ∧ M.1 55 38 = nI nh ∧ S.1 t 8 = nI nt ∧ M.1 55 39 = nI nt ∧ (∀ h, h < 16 → nh.testBit h = true → S.1 (t + 1) h = M.1 78 h) ∧ ∀ p, p < 16 → nt.testBit p = true → S.1 (t + 2) p = M.1 79 p ∧ S.1 (t + 3) p = M.1 80 p ∧ S.1 (t + 4) p = M.1 81 p
theorem addHo {t nh h w : Nat} {S : St} (hh : h < 16) (e : S.1 t 7 = nI nh) : fX8_addHouse t S (nI h) (nI w) = some (pI (pI S t 7 (nI (nh ||| 2 ^ h))) (t + 1) h (nI w)) := by
  unfold fX8_addHouse
  rw [if_neg (show ¬ nI h < 0 by rw [li 0, nlt (by omega) (by decide)]; omega), if_neg (show ¬ (16 : Int32) ≤ nI h by rw [li 16, nle (by decide) (by omega)]; omega), e, bit1 (by omega), or_nI, bS_e, if_pos (inbT hh (by decide)), nI_clamp (by omega), bS_e]
theorem addTh {t nt h w1 w2 w3 : Nat} {S : St} (hh : h < 16) (e : S.1 t 8 = nI nt) : fX8_addThing t S (nI h) (nI w1) (nI w2) (nI w3) = some (pI (pI (pI (pI S t 8 (nI (nt ||| 2 ^ h))) (t + 2) h (nI w1)) (t + 3) h (nI w2)) (t + 4) h (nI w3)) := by
  unfold fX8_addThing
  rw [if_neg (show ¬ nI h < 0 by rw [li 0, nlt (by omega) (by decide)]; omega), if_neg (show ¬ (16 : Int32) ≤ nI h by rw [li 16, nle (by decide) (by omega)]; omega), e, bit1 (by omega), or_nI, bS_e, if_pos (inbT hh (by decide)), nI_clamp (by omega), bS_e, if_pos (inbT hh (by decide)), bS_e, if_pos (inbT hh (by decide)), bS_e]
theorem expF {b : Nat → Nat} {z n p : Nat} {S : St} {v : Int32} (hv : v ≠ 0) (h : Cu b z n S p v) (w : Nat) (hw : w < 256) : ∃ S' p', fX0_expect S (nI w) = some S' ∧ Ex 3 S S' ∧ Cu b z n S' p' v := by
  obtain ⟨S', a1, a2, a3⟩ := expect0 h w hw
  by_cases c : sg b n p = nI w
  · rw [if_pos c] at a3
    exact ⟨S', _, a1, a2, a3.2⟩
  · rw [if_neg c, if_neg hv] at a3
    exact ⟨S', _, a1, a2, a3⟩
theorem tb_or1 {a h i : Nat} (q : (a ||| 2 ^ h).testBit i = true) : a.testBit i = true ∨ i = h := by
  rw [Nat.testBit_or, Nat.testBit_two_pow, Bool.or_eq_true] at q
  rcases q with q | q
  · exact Or.inl q
  · exact Or.inr (by have : h = i := by simpa using q
                     omega)
/-- how one line of the two readings may end -/
def LnO (b : Nat → Nat) (z n t : Nat) (S M S' M' : St) (L : Int32) (r : Bool) : Prop := FrT t S S' ∧ FrM M M' ∧ if r = true then ∃ p', Cu b z n S' p' 0 ∧ Mu b n M' p' ∧ Dr S' M' t ∧ M'.1 55 40 = L else ∃ p' v, v < 0 ∧ Cu b z n S' p' v ∧ M'.1 55 14 = v ∧ RNew M'
theorem ne_of_neg {v : Int32} (h : v < 0) : v ≠ 0 := fun e => by rw [e] at h; exact absurd h (by decide)
theorem house_sim {b : Nat → Nat} {z n t p h : Nat} {S M : St} {L : Int32} (hh : h < 16) (hC : Cu b z n S p 0) (hM : Mu b n M p) (hD : Dr S M t) (ht : 3 < t) (h40 : M.1 55 40 = L) : ∃ S' M' r, LnO b z n t S M S' M' L r ∧ fX9_readHouse t S (nI h) = some S' ∧ (bi (fX12_readsWithin M) fun r4 S3 => if r4 = 0 then (some ((0 : Int32), S3)) else (if inb (nI h) 16 = true then bS (pI S3 78 ((nI h).toNatClampNeg) (S3.1 55 15)) fun S4 => bS (pI S4 55 38 ((S4.1 55 38) ||| ((1 : Int32) <<< (nI h &&& 31)))) fun S5 => some ((1 : Int32), S5) else none)) = some (b2i r, M') := by
  have hb := hM.2.1
  obtain ⟨S1, a1, a2, a3⟩ := readWay0 hb hC
  obtain ⟨M1, c1, c2, c3⟩ := within12 hM
  obtain ⟨d0, nh, nt, d1, d2, d3, d4, d5, d6, d7, d8⟩ := hD
  unfold fX9_readHouse
  rw [a3, bi_some, c3, bi_some, fine0, bi_some, a2.2.2.2.2.2.2.2, if_pos (inbT hh (by decide)), nI_clamp (by omega), bS_e, bS_e]
  unfold WyM at c2
  by_cases e : (way b n p).2.2 = 0
  · rw [if_pos e] at c2
    rw [e] at a2
    have ed : decide ((way b n p).2.2 = 0) = true := by simpa using e
    obtain ⟨g1, g2, g3⟩ := c2
    have e7 : S1.1 t 7 = nI nh := by rw [a1.2 t (by omega)]; exact d3
    have e38 : (pI M1 78 h (M1.1 55 15)).1 55 38 = nI nh := by rw [pI_row _ _ (by decide), c1.2 55 38 (by omega)]; exact d4
    rw [ed, b2i_t, if_neg (by decide), if_neg (by decide), e38, bit1 (by omega), or_nI, addHo hh e7, bv_some, g2]
    generalize (way b n p).2.1 = w at *
    refine ⟨_, _, true, ⟨(FrT.ex a1).tr ((FrT.put _ (by omega) (by omega) _ _).tr (FrT.put _ (by omega) (by omega) _ _)), (FrM.e55 c1).tr ((FrM.put _ (by unfold rdM; omega) _).tr (FrM.put _ (by unfold rdM; omega) _)), ?_⟩, rfl, rfl⟩
    rw [if_pos rfl]
    refine ⟨_, a2.oth ?_ ?_ ?_, g1.oth ?_ ?_ ?_, ⟨((d0.e55 c1).put (by decide) (by decide) g3).p55 _ _, nh ||| 2 ^ h, nt, or_lt (n := 16) d1 hh, d2, ?_, pI_same _ _ _ _, ?_, ?_, fun i hi q => ?_, fun i hi q => ?_⟩, ?_⟩
    · rw [pI_row _ _ (by omega), pI_row _ _ (by omega)]
    · rw [pI_row _ _ (by omega), pI_row _ _ (by omega)]
    · rw [pI_row _ _ (by omega), pI_row _ _ (by omega)]
    · rw [pI_row _ _ (by decide), pI_row _ _ (by decide)]
    · rw [pI_cell _ _ (by decide), pI_row _ _ (by decide)]
    · rw [pI_cell _ _ (by decide), pI_row _ _ (by decide)]
    · rw [pI_row _ _ (by omega), pI_same]
    · rw [pI_row _ _ (by omega), pI_cell _ _ (by omega), a1.2 t (by omega)]; exact d5
    · rw [pI_cell _ _ (by decide), pI_row _ _ (by decide), c1.2 55 39 (by omega)]; exact d6
    · rw [pI_row _ _ (show 78 ≠ 55 by decide)]
      by_cases ei : i = h
      · subst ei; rw [pI_same, pI_same]
      · rw [pI_cell _ _ (by omega), pI_row _ _ (by omega), pI_cell _ _ (by omega), a1.2 (t + 1) (by omega), c1.2 78 i (by omega)]
        exact d7 i hi ((tb_or1 q).resolve_right ei)
    · simp only [pI_row _ _ (show t + 2 ≠ t + 1 by omega), pI_row _ _ (show t + 3 ≠ t + 1 by omega), pI_row _ _ (show t + 4 ≠ t + 1 by omega), pI_row _ _ (show t + 2 ≠ t by omega), pI_row _ _ (show t + 3 ≠ t by omega), pI_row _ _ (show t + 4 ≠ t by omega), pI_row _ _ (show 79 ≠ 55 by decide), pI_row _ _ (show 80 ≠ 55 by decide), pI_row _ _ (show 81 ≠ 55 by decide), pI_row _ _ (show 79 ≠ 78 by decide), pI_row _ _ (show 80 ≠ 78 by decide), pI_row _ _ (show 81 ≠ 78 by decide), a1.2 (t + 2) (by omega), a1.2 (t + 3) (by omega), a1.2 (t + 4) (by omega), c1.2 79 i (by omega), c1.2 80 i (by omega), c1.2 81 i (by omega)]
      exact d8 i hi q
    · rw [pI_cell _ _ (by decide), pI_row _ _ (by decide), c1.2 55 40 (by omega)]; exact h40
  · rw [if_neg e] at c2
    have ed : decide ((way b n p).2.2 = 0) = false := by simpa using e
    rw [ed, b2i_f, if_pos rfl, if_pos rfl]
    refine ⟨_, _, false, ⟨FrT.ex a1, FrM.e55 c1, ?_⟩, rfl, rfl⟩
    rw [if_neg (by decide)]
    exact ⟨_, _, way_neg hb hC.2.2.2.1 (by have := hC.2.1; have := hC.2.2.1; omega) e, a2, c2, d0.e55 c1⟩
-- a thing's line, piece by piece
def tT3 (t : Nat) (x r2 r5 : Int32) (S : St) : Option St := bi (fX9_readWay S) fun r8 S5 => bi (fX0_fine S5) fun r10 S6 => if r10 = 0 then (some S6) else (bv (fX8_addThing t S6 x r2 r5 r8) fun S7 => some S7)
def tT2b (t : Nat) (x r2 r5 : Int32) (S : St) : Option St := bv (fX0_expect S (45 : Int32)) fun S4 => tT3 t x r2 r5 S4
def tT2 (t : Nat) (x r2 : Int32) (S : St) : Option St := bi (fX9_readWay S) fun r5 S3 => tT2b t x r2 r5 S3
def tT1b (t : Nat) (x r2 : Int32) (S : St) : Option St := bv (fX0_expect S (64 : Int32)) fun S2 => tT2 t x r2 S2
theorem tT0 (t : Nat) (x : Int32) (S : St) : fX9_readThing t S x = bi (fX9_readWay S) fun r2 S1 => tT1b t x r2 S1 := rfl
theorem tT3_f {b : Nat → Nat} {z n t p : Nat} {S : St} {v : Int32} (x r2 r5 : Int32) (hv : v ≠ 0) (h : Cu b z n S p v) : tT3 t x r2 r5 S = some S := by
  have hs : S.1 3 4 ≠ 0 := by rw [h.2.2.2.2.2.2.2]; exact hv
  have hd : decide (S.1 3 4 = 0) = false := by simpa using hs
  unfold tT3
  rw [readWay0n hs, bi_some, fine0, bi_some, hd, b2i_f, if_pos rfl]
theorem tT2b_f {b : Nat → Nat} {z n t p : Nat} {S : St} {v : Int32} (x r2 r5 : Int32) (hv : v ≠ 0) (h : Cu b z n S p v) : ∃ S' p', tT2b t x r2 r5 S = some S' ∧ Ex 3 S S' ∧ Cu b z n S' p' v := by
  obtain ⟨S', p', a1, a2, a3⟩ := expF hv h 45 (by decide)
  refine ⟨S', p', ?_, a2, a3⟩
  unfold tT2b
  rw [li 45, a1, bv_some, tT3_f x r2 r5 hv a3]
theorem tT2_f {b : Nat → Nat} {z n t p : Nat} {S : St} {v : Int32} (x r2 : Int32) (hv : v ≠ 0) (h : Cu b z n S p v) : ∃ S' p', tT2 t x r2 S = some S' ∧ Ex 3 S S' ∧ Cu b z n S' p' v := by
  have hs : S.1 3 4 ≠ 0 := by rw [h.2.2.2.2.2.2.2]; exact hv
  unfold tT2
  rw [readWay0n hs, bi_some]
  exact tT2b_f x r2 0 hv h
theorem tT1b_f {b : Nat → Nat} {z n t p : Nat} {S : St} {v : Int32} (x r2 : Int32) (hv : v ≠ 0) (h : Cu b z n S p v) : ∃ S' p', tT1b t x r2 S = some S' ∧ Ex 3 S S' ∧ Cu b z n S' p' v := by
  obtain ⟨S1, p1, a1, a2, a3⟩ := expF hv h 64 (by decide)
  obtain ⟨S', p', b1, b2, b3⟩ := tT2_f (t := t) x r2 hv a3
  refine ⟨S', p', ?_, a2.tr b2, b3⟩
  unfold tT1b
  rw [li 64, a1, bv_some, b1]
def uT3 (h : Nat) (M : St) : Option (Int32 × St) := bi (fX12_readsWithin M) fun r14 S9 => if r14 = 0 then (some ((0 : Int32), S9)) else (if inb (nI h) 16 = true then bS (pI S9 81 ((nI h).toNatClampNeg) (S9.1 55 15)) fun S10 => bS (pI S10 55 39 ((S10.1 55 39) ||| ((1 : Int32) <<< (nI h &&& 31)))) fun S11 => some ((1 : Int32), S11) else none)
def uT2b (h : Nat) (M : St) : Option (Int32 × St) := bi (fX12_takes M (45 : Int32)) fun r12 S8 => if r12 = 0 then (some ((0 : Int32), S8)) else uT3 h S8
def uT2 (h : Nat) (M : St) : Option (Int32 × St) := bi (fX12_readsWithin M) fun r9 S6 => if r9 = 0 then (some ((0 : Int32), S6)) else (if inb (nI h) 16 = true then bS (pI S6 80 ((nI h).toNatClampNeg) (S6.1 55 15)) fun S7 => uT2b h S7 else none)
def uT1b (h : Nat) (M : St) : Option (Int32 × St) := bi (fX12_takes M (64 : Int32)) fun r7 S5 => if r7 = 0 then (some ((0 : Int32), S5)) else uT2 h S5
def uT1 (h : Nat) (M : St) : Option (Int32 × St) := bi (fX12_readsWithin M) fun r4 S3 => if r4 = 0 then (some ((0 : Int32), S3)) else (if inb (nI h) 16 = true then bS (pI S3 79 ((nI h).toNatClampNeg) (S3.1 55 15)) fun S4 => uT1b h S4 else none)
/-- what is carried while a thing's line is read: k ways are taken -/
def TwI (S M : St) (t nh nt h : Nat) (w1 w2 : Nat) (k : Nat) : Prop := RNew M ∧ nh < 65536 ∧ nt < 65536 ∧ S.1 t 7 = nI nh ∧ M.1 55 38 = nI nh ∧ S.1 t 8 = nI nt ∧ M.1 55 39 = nI nt ∧ (∀ h, h < 16 → nh.testBit h = true → S.1 (t + 1) h = M.1 78 h) ∧ (∀ p, p < 16 → p ≠ h → nt.testBit p = true → S.1 (t + 2) p = M.1 79 p ∧ S.1 (t + 3) p = M.1 80 p ∧ S.1 (t + 4) p = M.1 81 p) ∧ (1 ≤ k → M.1 79 h = nI w1) ∧ (2 ≤ k → M.1 80 h = nI w2)
theorem TwI.cl {S S' M : St} {t nh nt h w1 w2 k : Nat} (a : TwI S M t nh nt h w1 w2 k) (ht : 3 < t) (e : Ex 3 S S') : TwI S' M t nh nt h w1 w2 k := by
  unfold TwI
  rw [e.2 t (by omega), e.2 (t + 1) (by omega), e.2 (t + 2) (by omega), e.2 (t + 3) (by omega), e.2 (t + 4) (by omega)]
  exact a
theorem TwI.md {S M M' : St} {t nh nt h w1 w2 k : Nat} (a : TwI S M t nh nt h w1 w2 k) (e : E55 M M') : TwI S M' t nh nt h w1 w2 k := by
  obtain ⟨a0, a1, a2, a3, a4, a5, a6, a7, a8, a9, a10⟩ := a
  refine ⟨a0.e55 e, a1, a2, a3, ?_, a5, ?_, fun i hi q => ?_, fun i hi ne q => ?_, fun hk => ?_, fun hk => ?_⟩
  · rw [e.2 55 38 (by omega)]; exact a4
  · rw [e.2 55 39 (by omega)]; exact a6
  · rw [e.2 78 i (by omega)]; exact a7 i hi q
  · rw [e.2 79 i (by omega), e.2 80 i (by omega), e.2 81 i (by omega)]; exact a8 i hi ne q
  · rw [e.2 79 h (by omega)]; exact a9 hk
  · rw [e.2 80 h (by omega)]; exact a10 hk
theorem TwI.w1 {S M : St} {t nh nt h w1 w2 : Nat} (a : TwI S M t nh nt h 0 0 0) (hw : w1 < 12) : TwI S (pI M 79 h (nI w1)) t nh nt h w1 w2 1 := by
  obtain ⟨a0, a1, a2, a3, a4, a5, a6, a7, a8, a9, a10⟩ := a
  refine ⟨a0.put (by decide) (by decide) hw, a1, a2, a3, ?_, a5, ?_, fun i hi q => ?_, fun i hi ne q => ?_, fun _ => pI_same _ _ _ _, fun hk => absurd hk (by decide)⟩
  · rw [pI_row _ _ (by decide)]; exact a4
  · rw [pI_row _ _ (by decide)]; exact a6
  · rw [pI_row _ _ (by decide)]; exact a7 i hi q
  · rw [pI_cell _ _ (by omega), pI_row _ _ (by decide), pI_row _ _ (by decide)]; exact a8 i hi ne q
theorem TwI.w2 {S M : St} {t nh nt h w1 w2 : Nat} (a : TwI S M t nh nt h w1 0 1) (hw : w2 < 12) : TwI S (pI M 80 h (nI w2)) t nh nt h w1 w2 2 := by
  obtain ⟨a0, a1, a2, a3, a4, a5, a6, a7, a8, a9, a10⟩ := a
  refine ⟨a0.put (by decide) (by decide) hw, a1, a2, a3, ?_, a5, ?_, fun i hi q => ?_, fun i hi ne q => ?_, fun _ => ?_, fun hk => pI_same _ _ _ _⟩
  · rw [pI_row _ _ (by decide)]; exact a4
  · rw [pI_row _ _ (by decide)]; exact a6
  · rw [pI_row _ _ (by decide)]; exact a7 i hi q
  · rw [pI_row _ _ (by decide), pI_cell _ _ (by omega), pI_row _ _ (by decide)]; exact a8 i hi ne q
  · rw [pI_row _ _ (by decide)]; exact a9 (Nat.le_refl _)
theorem tk_e55 (M : St) (p : Nat) : E55 M (pI M 55 12 (nI p)) := E55.put M (by decide) _
theorem tk_e55f (M : St) (v : Int32) : E55 M (pI M 55 14 v) := E55.put M (by decide) _
theorem uT3_s {b : Nat → Nat} {z n t p h nh nt w1 w2 : Nat} {S M : St} {L : Int32} (hh : h < 16) (hC : Cu b z n S p 0) (hM : Mu b n M p) (hD : TwI S M t nh nt h w1 w2 2) (ht : 3 < t) (h40 : M.1 55 40 = L) : ∃ S' M' r, LnO b z n t S M S' M' L r ∧ tT3 t (nI h) (nI w1) (nI w2) S = some S' ∧ uT3 h M = some (b2i r, M') := by
  have hb := hM.2.1
  obtain ⟨S1, a1, a2, a3⟩ := readWay0 hb hC
  obtain ⟨M1, c1, c2, c3⟩ := within12 hM
  have hT := (hD.cl ht a1).md c1
  unfold tT3 uT3
  rw [a3, bi_some, c3, bi_some, fine0, bi_some, a2.2.2.2.2.2.2.2, if_pos (inbT hh (by decide)), nI_clamp (by omega), bS_e, bS_e]
  unfold WyM at c2
  by_cases e : (way b n p).2.2 = 0
  · rw [if_pos e] at c2
    rw [e] at a2
    have ed : decide ((way b n p).2.2 = 0) = true := by simpa using e
    obtain ⟨g1, g2, g3⟩ := c2
    obtain ⟨d0, d1, d2, d3, d4, d5, d6, d7, d8, d9, d10⟩ := hT
    have e39 : (pI M1 81 h (M1.1 55 15)).1 55 39 = nI nt := by rw [pI_row _ _ (by decide)]; exact d6
    rw [ed, b2i_t, if_neg (by decide), if_neg (by decide), e39, bit1 (by omega), or_nI, addTh hh d5, bv_some, g2]
    generalize (way b n p).2.1 = w at *
    refine ⟨_, _, true, ⟨(FrT.ex a1).tr ((((FrT.put _ (by omega) (by omega) _ _).tr (FrT.put _ (by omega) (by omega) _ _)).tr (FrT.put _ (by omega) (by omega) _ _)).tr (FrT.put _ (by omega) (by omega) _ _)), (FrM.e55 c1).tr ((FrM.put _ (by unfold rdM; omega) _).tr (FrM.put _ (by unfold rdM; omega) _)), ?_⟩, rfl, rfl⟩
    rw [if_pos rfl]
    refine ⟨_, a2.oth ?_ ?_ ?_, g1.oth ?_ ?_ ?_, ⟨(d0.put (by decide) (by decide) g3).p55 _ _, nh, nt ||| 2 ^ h, d1, or_lt (n := 16) d2 hh, ?_, ?_, ?_, pI_same _ _ _ _, fun i hi q => ?_, fun i hi q => ?_⟩, ?_⟩
    · rw [pI_row _ _ (by omega), pI_row _ _ (by omega), pI_row _ _ (by omega), pI_row _ _ (by omega)]
    · rw [pI_row _ _ (by omega), pI_row _ _ (by omega), pI_row _ _ (by omega), pI_row _ _ (by omega)]
    · rw [pI_row _ _ (by omega), pI_row _ _ (by omega), pI_row _ _ (by omega), pI_row _ _ (by omega)]
    · rw [pI_row _ _ (by decide), pI_row _ _ (by decide)]
    · rw [pI_cell _ _ (by decide), pI_row _ _ (by decide)]
    · rw [pI_cell _ _ (by decide), pI_row _ _ (by decide)]
    · rw [pI_row _ _ (by omega), pI_row _ _ (by omega), pI_row _ _ (by omega), pI_cell _ _ (by omega)]; exact d3
    · rw [pI_cell _ _ (by decide), pI_row _ _ (by decide)]; exact d4
    · rw [pI_row _ _ (by omega), pI_row _ _ (by omega), pI_row _ _ (by omega), pI_same]
    · rw [pI_row _ _ (by omega), pI_row _ _ (by omega), pI_row _ _ (by omega), pI_row _ _ (by omega), pI_row _ _ (by decide), pI_row _ _ (by decide)]
      exact d7 i hi q
    · rw [pI_row _ _ (show t + 2 ≠ t + 4 by omega), pI_row _ _ (show t + 2 ≠ t + 3 by omega), pI_row _ _ (show t + 3 ≠ t + 4 by omega), pI_row _ _ (show 79 ≠ 55 by decide), pI_row _ _ (show 79 ≠ 81 by decide), pI_row _ _ (show 80 ≠ 55 by decide), pI_row _ _ (show 80 ≠ 81 by decide), pI_row _ _ (show 81 ≠ 55 by decide)]
      by_cases ei : i = h
      · subst ei
        rw [pI_same, pI_same, pI_same, pI_same]
        exact ⟨(d9 (by decide)).symm, (d10 (by decide)).symm, rfl⟩
      · have ne : ∀ o : Nat, ¬ (o = o ∧ i = h) := fun o z => ei z.2
        rw [pI_cell _ _ (ne (t + 2)), pI_cell _ _ (ne (t + 3)), pI_cell _ _ (ne (t + 4)), pI_cell _ _ (ne 81)]
        simp only [pI_row _ _ (show t + 2 ≠ t by omega), pI_row _ _ (show t + 3 ≠ t + 2 by omega), pI_row _ _ (show t + 3 ≠ t by omega), pI_row _ _ (show t + 4 ≠ t + 3 by omega), pI_row _ _ (show t + 4 ≠ t + 2 by omega), pI_row _ _ (show t + 4 ≠ t by omega)]
        exact d8 i hi ei ((tb_or1 q).resolve_right ei)
    · rw [pI_cell _ _ (by decide), pI_row _ _ (by decide), c1.2 55 40 (by omega)]; exact h40
  · rw [if_neg e] at c2
    have ed : decide ((way b n p).2.2 = 0) = false := by simpa using e
    rw [ed, b2i_f, if_pos rfl, if_pos rfl]
    refine ⟨_, _, false, ⟨FrT.ex a1, FrM.e55 c1, ?_⟩, rfl, rfl⟩
    rw [if_neg (by decide)]
    exact ⟨_, _, way_neg hb hC.2.2.2.1 (by have := hC.2.1; have := hC.2.2.1; omega) e, a2, c2, hT.1⟩
