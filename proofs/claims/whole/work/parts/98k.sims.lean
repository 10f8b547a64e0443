-- what waits is closed
def clM (cm w op : Nat) (M : St) : St := pI (noM cm op 0 M) 55 18 (nI w)
theorem cl_step {f cm w op : Nat} {M : St} {x : Int32} (h18 : M.1 55 18 = nI (w + 1)) (hw : w < 260) (hc : M.1 66 w = cw op 0) (h17 : M.1 55 17 = nI cm) (hcm : cm < 260) (hop : (4 ≤ op ∧ op ≤ 6) ∨ (x ≠ 0 ∧ (op = 2 ∨ op = 3))) : fX12_closesSums_0 (f + 1) M x = fX12_closesSums_0 f (clM cm w op M) x := by
  have ho : op < 16 := by omega
  have ht := top12 h18 hw hc ho (by decide)
  have e37 : fX12_closesSums_37 (fX12_closesSums_0 f) M x = fX12_closesSums_0 f (clM cm w op M) x := by
    have hn := note12 (op := op) (v := 0) h17 hcm
    have hn : fX12_notes M (nI op) 0 = _ := hn
    unfold fX12_closesSums_37 clM
    rw [ht, bi_some, hn, bv_some, noM_55 M (by decide), h18, Int32.sub_eq_add_neg, pk_m1, bS_e]
  have ek : ∀ q, q < 20 → (nI op = (OfNat.ofNat q : Int32)) = (op = q) := fun q hq => by rw [li q]; exact neq (by omega) (by omega)
  show bX12_closesSums_0 _ _ _ = _
  unfold bX12_closesSums_0 fX12_closesSums_17
  repeat (first | rw [ht] | rw [bi_some])
  rw [e37]
  rcases hop with ⟨h1, h2⟩ | ⟨hx, h2⟩
  · rw [if_neg (show ¬ nI op < (4 : Int32) by rw [li 4, nlt (by omega) (by decide)]; omega), if_pos (show nI op ≤ (6 : Int32) by rw [li 6, nle (by omega) (by decide)]; exact h2)]
  · rw [if_pos (show nI op < (4 : Int32) by rw [li 4, nlt (by omega) (by decide)]; omega), if_neg hx]
    by_cases c : op = 2
    · rw [if_pos (show nI op = 2 by rw [ek 2 (by decide)]; exact c)]
    · rw [if_neg (show ¬ nI op = 2 by rw [ek 2 (by decide)]; exact c), if_pos (show nI op = 3 by rw [ek 3 (by decide)]; omega)]
/-- the top does not close -/
def OTx (M : St) (w : Nat) (x : Int32) : Prop := w = 0 ∨ ∃ w1 q v, w = w1 + 1 ∧ w1 < 260 ∧ M.1 66 w1 = cw q v ∧ v < 1048576 ∧ ((10 ≤ q ∧ q ≤ 14) ∨ (x = 0 ∧ (q = 2 ∨ q = 3)))
theorem cl_stop {f w : Nat} {M : St} {x : Int32} (h18 : M.1 55 18 = nI w) (hO : OTx M w x) : fX12_closesSums_0 (f + 1) M x = some M := by
  show bX12_closesSums_0 _ _ _ = _
  unfold bX12_closesSums_0 fX12_closesSums_17
  rcases hO with e | ⟨w1, q, v, e, hw, hc, hv, hq⟩
  · subst e
    have ht := top0 h18
    repeat (first | rw [ht] | rw [bi_some])
    rw [if_pos (show (-1 : Int32) < 4 by decide), if_neg (show ¬ (-1 : Int32) = 2 by decide), if_neg (show ¬ (-1 : Int32) = 3 by decide), ite_self]
  · subst e
    have ht := top12 h18 hw hc (by omega) hv
    have ek : ∀ r, r < 20 → (nI q = (OfNat.ofNat r : Int32)) = (q = r) := fun r hr => by rw [li r]; exact neq (by omega) (by omega)
    repeat (first | rw [ht] | rw [bi_some])
    rcases hq with ⟨h1, h2⟩ | ⟨hx, h2⟩
    · rw [if_neg (show ¬ nI q < (4 : Int32) by rw [li 4, nlt (by omega) (by decide)]; omega), if_neg (show ¬ nI q ≤ (6 : Int32) by rw [li 6, nle (by omega) (by decide)]; omega), if_neg (show ¬ nI q = 2 by rw [ek 2 (by decide)]; omega), if_neg (show ¬ nI q = 3 by rw [ek 3 (by decide)]; omega), ite_self]
    · rw [if_pos (show nI q < (4 : Int32) by rw [li 4, nlt (by omega) (by decide)]; omega), if_pos hx]
/-- a pending op above the mark -/
def Pnd (M : St) (w a s : Nat) (lo hi : Nat) : Prop := a ≤ 1 ∧ (a = 1 → lo ≤ s ∧ s ≤ hi ∧ M.1 66 w = cw s 0)
def ClF (cm w : Nat) (M M' : St) : Prop := FrV M M' ∧ M'.1 55 17 = nI cm ∧ M'.1 55 18 = nI w ∧ M'.1 66 = M.1 66 ∧ ∀ k, k ≠ 17 → k ≠ 18 → M'.1 55 k = M.1 55 k
theorem cls1 {f cm w a s lo hi : Nat} {M : St} {x : Int32} (h18 : M.1 55 18 = nI (w + a)) (hw : w < 260) (h17 : M.1 55 17 = nI cm) (hcm : cm < 260) (hp : Pnd M w a s lo hi) (hk : (lo = 4 ∧ hi = 6) ∨ (x ≠ 0 ∧ lo = 2 ∧ hi = 3)) : ∃ M', fX12_closesSums_0 (f + a) M x = fX12_closesSums_0 f M' x ∧ ClF (cm + a) w M M' ∧ (∀ q, q ≠ cm → M'.1 65 q = M.1 65 q) ∧ (a = 1 → M'.1 65 cm = cw s 0) := by
  have ha := hp.1
  by_cases c : a = 1
  · subst c
    obtain ⟨p1, p2, p3⟩ := hp.2 rfl
    refine ⟨clM cm w s M, cl_step h18 hw p3 h17 hcm (by
      rcases hk with ⟨k1, k2⟩ | ⟨k0, k1, k2⟩
      · exact Or.inl ⟨by omega, by omega⟩
      · exact Or.inr ⟨k0, by omega⟩), ⟨(noM_fr _ _ _ _).tr (FrV.put _ (by unfold ltM; omega) _), ?_, pI_same _ _ _ _, ?_, fun k h1 h2 => ?_⟩, fun q hq => ?_, fun _ => ?_⟩
    · unfold clM; rw [pI_cell _ _ (by decide), noM_17]
    · unfold clM; rw [pI_row _ _ (by decide), noM_o _ (by decide) (by decide)]
    · unfold clM; rw [pI_cell _ _ (by omega), noM_55 _ h1]
    · unfold clM; rw [pI_row _ _ (by decide), noM_lt _ hq]
    · unfold clM; rw [pI_row _ _ (by decide), noM_in]
  · have e : a = 0 := by omega
    subst e
    exact ⟨M, rfl, ⟨FrV.rf M, h17, h18, rfl, fun _ _ _ => rfl⟩, fun _ _ => rfl, fun w => absurd w (by decide)⟩
theorem OTx.cg {M M' : St} {w : Nat} {x : Int32} (h : OTx M w x) (e : ∀ q, q < w → M'.1 66 q = M.1 66 q) : OTx M' w x := by
  rcases h with h | ⟨w1, q, v, e1, e2, e3, e4, e5⟩
  · exact Or.inl h
  · exact Or.inr ⟨w1, q, v, e1, e2, by rw [e w1 (by omega)]; exact e3, e4, e5⟩
/-- all of a sum is closed -/
theorem cls_all {cm w a1 a2 s1 s2 : Nat} {M : St} (h18 : M.1 55 18 = nI (w + a2 + a1)) (hw : w < 250) (h17 : M.1 55 17 = nI cm) (hcm : cm < 250) (hp1 : Pnd M (w + a2) a1 s1 4 6) (hp2 : Pnd M w a2 s2 2 3) (hO : OTx M w 1) : ∃ M', fX12_closesSums M 1 = some M' ∧ ClF (cm + a1 + a2) w M M' ∧ (∀ q, q < cm → M'.1 65 q = M.1 65 q) ∧ (a1 = 1 → M'.1 65 cm = cw s1 0) ∧ (a2 = 1 → M'.1 65 (cm + a1) = cw s2 0) := by
  have h1 := hp1.1
  have h2 := hp2.1
  obtain ⟨M1, x1, x2, x3, x4⟩ := cls1 (f := 100 - a1) (x := 1) h18 (by omega) h17 (by omega) hp1 (Or.inl ⟨rfl, rfl⟩)
  have hp2' : Pnd M1 w a2 s2 2 3 := ⟨h2, fun c => by rw [x2.2.2.2.1]; exact hp2.2 c⟩
  obtain ⟨M2, y1, y2, y3, y4⟩ := cls1 (f := 100 - a1 - a2) (x := 1) x2.2.2.1 (by omega) x2.2.1 (by omega) hp2' (Or.inr ⟨by decide, rfl, rfl⟩)
  refine ⟨M2, ?_, ⟨x2.1.tr y2.1, y2.2.1, y2.2.2.1, y2.2.2.2.1.trans x2.2.2.2.1, fun k q1 q2 => (y2.2.2.2.2 k q1 q2).trans (x2.2.2.2.2 k q1 q2)⟩, fun q hq => ?_, fun c => ?_, y4⟩
  · unfold fX12_closesSums
    rw [show 100 - a1 + a1 = 100 by omega] at x1
    rw [show 100 - a1 - a2 + a2 = 100 - a1 by omega] at y1
    obtain ⟨f, hf⟩ : ∃ f, 100 - a1 - a2 = f + 1 := ⟨99 - a1 - a2, by omega⟩
    rw [x1, y1, hf]
    exact cl_stop y2.2.2.1 (hO.cg (fun q hq => by rw [y2.2.2.2.1, x2.2.2.2.1]))
  · rw [y3 q (by omega), x3 q (by omega)]
  · rw [y3 cm (by omega)]; exact x4 c
/-- a product is closed -/
theorem cls_pro {cm w a1 s1 : Nat} {M : St} (h18 : M.1 55 18 = nI (w + a1)) (hw : w < 250) (h17 : M.1 55 17 = nI cm) (hcm : cm < 250) (hp1 : Pnd M w a1 s1 4 6) (hO : OTx M w 0) : ∃ M', fX12_closesSums M 0 = some M' ∧ ClF (cm + a1) w M M' ∧ (∀ q, q < cm → M'.1 65 q = M.1 65 q) ∧ (a1 = 1 → M'.1 65 cm = cw s1 0) := by
  have h1 := hp1.1
  obtain ⟨M1, x1, x2, x3, x4⟩ := cls1 (f := 100 - a1) (x := 0) h18 (by omega) h17 (by omega) hp1 (Or.inl ⟨rfl, rfl⟩)
  refine ⟨M1, ?_, x2, fun q hq => x3 q (by omega), x4⟩
  unfold fX12_closesSums
  rw [show 100 - a1 + a1 = 100 by omega] at x1
  obtain ⟨f, hf⟩ : ∃ f, 100 - a1 = f + 1 := ⟨99 - a1, by omega⟩
  rw [x1, hf]
  exact cl_stop x2.2.2.1 (hO.cg (fun q hq => by rw [x2.2.2.2.1]))
-- reading of a law: what is carried
def LI (b : Nat → Nat) (z n o : Nat) (S M : St) (p sc cm w op : Nat) : Prop := Cu b z n S p 0 ∧ Mu b n M p ∧ n ≤ 240 ∧ isL o ∧ S.1 o 7 = nI sc ∧ M.1 55 17 = nI cm ∧ M.1 55 18 = nI w ∧ M.1 55 16 = nI op ∧ op ≤ 6 ∧ cm ≤ p ∧ w ≤ p ∧ sc ≤ p + 32
def FS (cf c : Nat) (x : Int32) (M : St) : Option (Int32 × St) := bi (fX12_readsFactor_0 cf M) fun r S => if r = 0 then some (0, S) else fX12_readsSum_14 c S x
/-- a fault that both readings find -/
def Flt (b : Nat → Nat) (z n o : Nat) (S M S' : St) (run : Option (Int32 × St)) : Prop := (∃ s, s ≤ 288 ∧ S'.1 o 7 = nI s) ∧ ∃ v p' M', v < 0 ∧ Cu b z n S' p' v ∧ FrW o S S' ∧ FrV M M' ∧ M'.1 55 14 = v ∧ run = some (0, M')
/-- a sum is read so far: ops pending in the model are written in the class -/
def Got (b : Nat → Nat) (z n o : Nat) (S M S' : St) (p sc cm w op m : Nat) (x : Int32) (run : Option (Int32 × St)) (p' sc' cm' a1 a2 s1 s2 : Nat) (M' : St) (c' : Nat) : Prop := p < p' ∧ LI b z n o S' M' p' sc' cm' (w + a2 + a1) op ∧ FrW o S S' ∧ FrV M M' ∧ Kep o sc cm w S M S' M' ∧ Pnd M' (w + a2) a1 s1 4 6 ∧ Pnd M' w a2 s2 2 3 ∧ cm ≤ cm' ∧ sc' + cm = sc + cm' + a1 + a2 ∧ sc' + p ≤ sc + p' ∧ 260 ≤ c' + p' ∧ run = fX12_readsSum_14 c' M' x ∧ ∀ cd, (∀ q, cm ≤ q → q < cm' → cd q = M'.1 65 q) → (a1 = 1 → cd cm' = cw s1 0) → (a2 = 1 → cd (cm' + a1) = cw s2 0) → EA (S'.1 (o + 4)) cd sc sc' cm (cm' + a1 + a2) m
