-- letters of the law
theorem som_ite {c : Prop} [Decidable c] (a d : Int32) (S : St) : some ((if c then a else d), S) = if c then some (a, S) else some (d, S) := by
  by_cases h : c
  · rw [if_pos h, if_pos h]
  · rw [if_neg h, if_neg h]
def facI (x0 : Int32) : Int32 := if x0 = (98 : Int32) then 5 else (if x0 = (99 : Int32) then -1 else (if x0 = (100 : Int32) then 3 else (if x0 = (101 : Int32) then -1 else (if x0 = (102 : Int32) then -1 else (if x0 = (103 : Int32) then 1 else (if x0 = (104 : Int32) then 0 else (if x0 = (105 : Int32) then -1 else (if x0 = (106 : Int32) then -1 else (if x0 = (107 : Int32) then 6 else (if x0 = (108 : Int32) then -1 else (if x0 = (109 : Int32) then -1 else (if x0 = (110 : Int32) then 4 else (if x0 = (111 : Int32) then -1 else (if x0 = (112 : Int32) then -1 else (if x0 = (113 : Int32) then -1 else (if x0 = (114 : Int32) then -1 else (if x0 = (115 : Int32) then 2 else (if x0 = (116 : Int32) then 7 else (if x0 = (117 : Int32) then -1 else (if x0 = (118 : Int32) then -1 else (if x0 = (119 : Int32) then 8 else -1)))))))))))))))))))))
theorem fac12 (S : St) (x : Int32) : fX12_factOf S x = some (facI x, S) := by
  unfold fX12_factOf facI
  simp only [som_ite]
def lixN (x : Int32) : Nat → Nat → Int32
  | 0, _ => -1
  | m + 1, i => if strB i = x then nI i else lixN x m (i + 1)
theorem lix_l (S : St) (x : Int32) : ∀ m i f, i + m = 9 → m < f → fJ1_indexOfChar_4cfef_7 f S 9 x (nI i) = some (lixN x m i, S) := by
  intro m
  induction m with
  | zero =>
    intro i f h1 h2
    obtain ⟨f, rfl⟩ : ∃ f', f = f' + 1 := ⟨f - 1, by omega⟩
    show bJ1_indexOfChar_4cfef_7 _ _ _ _ _ = _
    unfold bJ1_indexOfChar_4cfef_7
    rw [li 9, if_pos (by rw [nle (by decide) (by omega)]; omega)]
    rfl
  | succ m ih =>
    intro i f h1 h2
    obtain ⟨f, rfl⟩ : ∃ f', f = f' + 1 := ⟨f - 1, by omega⟩
    show bJ1_indexOfChar_4cfef_7 _ _ _ _ _ = _
    unfold bJ1_indexOfChar_4cfef_7
    rw [if_neg (by rw [li 9, nle (by decide) (by omega)]; omega), if_pos (inbT (show i < 9 by omega) (by decide)), nI_clamp (by omega), bV_e, nI_1, ih (i + 1) f (by omega) (by omega), lixN]
    by_cases c : strB i = x
    · rw [if_pos c, if_pos c]
    · rw [if_neg c, if_neg c]
theorem idx0 (S : St) (x : Int32) (h0 : ¬ x < 0) (h1 : ¬ (255 : Int32) < x) : fJ0_indexOf_0f7a4 S x = some (lixN (x.toInt8.toInt32) 9 0, S) := by
  have e9 : (9 : Int32) >>> ((0 : Int32) &&& 31) = 9 := by decide
  have el : fJ0_length_8abf5 S = some (9, S) := by
    unfold fJ0_length_8abf5 fJ0_coder_7d493
    rw [if_neg (by decide), bi_some, e9]
  have e3 : fJ1_indexOf_4cfef S x 0 9 = some (lixN (x.toInt8.toInt32) 9 0, S) := by
    unfold fJ1_indexOf_4cfef fJ1_canEncode_9a6ad fJ1_indexOfChar_4cfef
    rw [if_neg h0, if_neg h1, bi_some, if_neg (by decide), if_neg (by decide), bV_e, if_neg (by decide), bV_e, if_pos (by decide), bV_e]
    have := lix_l S (x.toInt8.toInt32) 9 0 100 rfl (by decide)
    have this : fJ1_indexOfChar_4cfef_7 100 S 9 (x.toInt8.toInt32) 0 = _ := this
    rw [this, bi_some]
  unfold fJ0_indexOf_0f7a4 fJ0_indexOf_7cf53 fJ0_isLatin1_aae02
  rw [if_neg (by decide), if_pos (by decide), bi_some, if_neg (by decide), el, bi_some, e3, bi_some, bi_some]
theorem lix256 : ∀ c, c < 256 → (if nI c ≤ 0 then (-1 : Int32) else lixN ((((nI c).toUInt32 % 65536).toInt32).toInt8.toInt32) 9 0) = facI (nI c) ∧ ((((nI c).toUInt32 % 65536).toInt32) = nI c) ∧ ¬ nI c < 0 ∧ ¬ (255 : Int32) < nI c := by decide +kernel
theorem lett3 {b : Nat → Nat} (hb : ∀ j, b j < 256) (S : St) (n p : Nat) : fX3_letterOf S (sg b n p) = some (facI (sg b n p), S) := by
  unfold fX3_letterOf
  rcases Nat.lt_or_ge p n with y | y
  · rw [sg_lt y]
    obtain ⟨a1, a2, a3, a4⟩ := lix256 (b p) (hb p)
    rw [a2] at a1 ⊢
    rw [idx0 S _ a3 a4, bi_some, ← a1]
    by_cases c : nI (b p) ≤ 0
    · rw [if_pos c, if_pos c]
    · rw [if_neg c, if_neg c]
  · rw [sg_ge y, if_pos (by decide)]
    rfl
theorem fac256 : ∀ c, c < 256 → facI (nI c) = -1 ∨ (dgB (nI c) = false ∧ nI c ≠ nI 91 ∧ ∃ v, v < 9 ∧ facI (nI c) = nI v) := by decide +kernel
-- writing of code
def FrW (o : Nat) (S S' : St) : Prop := S'.2 = S.2 ∧ (∀ a, a ≠ 3 → a ≠ o → a ≠ o + 4 → S'.1 a = S.1 a) ∧ ∀ k, k ≠ 7 → S'.1 o k = S.1 o k
theorem FrW.rf (o : Nat) (S : St) : FrW o S S := ⟨rfl, fun _ _ _ _ => rfl, fun _ _ => rfl⟩
theorem FrW.tr {o : Nat} {S S1 S2 : St} (h : FrW o S S1) (h2 : FrW o S1 S2) : FrW o S S2 := ⟨h2.1.trans h.1, fun a x y z => (h2.2.1 a x y z).trans (h.2.1 a x y z), fun k hk => (h2.2.2 k hk).trans (h.2.2 k hk)⟩
theorem FrW.ex {o : Nat} {S S' : St} (ho : o ≠ 3) (h : Ex 3 S S') : FrW o S S' := ⟨h.1, fun a x _ _ => h.2 a x, fun k _ => by rw [h.2 o ho]⟩
def ltM (a k : Nat) : Prop := (a = 55 ∧ 12 ≤ k ∧ k ≤ 18) ∨ a = 65 ∨ a = 66
def FrV (M M' : St) : Prop := M'.2 = M.2 ∧ ∀ a k, ¬ ltM a k → M'.1 a k = M.1 a k
theorem FrV.rf (M : St) : FrV M M := ⟨rfl, fun _ _ _ => rfl⟩
theorem FrV.tr {M M1 M2 : St} (h : FrV M M1) (h2 : FrV M1 M2) : FrV M M2 := ⟨h2.1.trans h.1, fun a k x => (h2.2 a k x).trans (h.2 a k x)⟩
theorem FrV.put (M : St) {a k : Nat} (h : ltM a k) (v : Int32) : FrV M (pI M a k v) := ⟨rfl, fun b c hc => pI_cell M v (by rintro ⟨rfl, rfl⟩; exact hc h)⟩
theorem FrV.e55 {M M' : St} (h : E55 M M') : FrV M M' := ⟨h.1, fun a k hc => h.2 a k (fun w => hc (by unfold ltM; omega))⟩
/-- code and waiting before these marks are kept -/
def Kep (o sc cm w : Nat) (S M S' M' : St) : Prop := (∀ q, q < sc → S'.1 (o + 4) q = S.1 (o + 4) q) ∧ (∀ q, q < cm → M'.1 65 q = M.1 65 q) ∧ ∀ q, q < w → M'.1 66 q = M.1 66 q
theorem Kep.rf (o sc cm w : Nat) (S M : St) : Kep o sc cm w S M S M := ⟨fun _ _ => rfl, fun _ _ => rfl, fun _ _ => rfl⟩
theorem Kep.tr {o sc cm w sc' cm' w' : Nat} {S M S1 M1 S2 M2 : St} (h : Kep o sc cm w S M S1 M1) (h2 : Kep o sc' cm' w' S1 M1 S2 M2) (a : sc ≤ sc') (b : cm ≤ cm') (c : w ≤ w') : Kep o sc cm w S M S2 M2 := ⟨fun q hq => (h2.1 q (by omega)).trans (h.1 q hq), fun q hq => (h2.2.1 q (by omega)).trans (h.2.1 q hq), fun q hq => (h2.2.2 q (by omega)).trans (h.2.2 q hq)⟩
def adC (o sc kind num : Nat) (S : St) : St := pI (pI S (o + 4) sc (wd kind num)) o 7 (nI (sc + 1))
theorem add2 {o sc kind num : Nat} {S : St} (h7 : S.1 o 7 = nI sc) (hs : sc < 288) (hk : kind < 16) (hn : num < 1000000) : fX2_addStep o S (nI kind) (nI num) = some (nI sc, adC o sc kind num S) := by
  unfold fX2_addStep adC
  rw [h7, bV_e, if_neg (show ¬ (288 : Int32) ≤ nI sc by rw [li 288, nle (by decide) (by omega)]; omega), if_pos (inbT hs (by decide)), nI_clamp (by omega), wd_e hk hn, bS_e, pI_row _ _ (by omega), h7, nI_1, bS_e]
theorem adC_fr (o sc kind num : Nat) (S : St) : FrW o S (adC o sc kind num S) := ⟨rfl, fun a _ h2 h3 => by unfold adC; rw [pI_row _ _ h2, pI_row _ _ h3], fun k hk => by unfold adC; rw [pI_cell _ _ (by omega), pI_row _ _ (by omega)]⟩
theorem adC_3 {o sc kind num : Nat} (S : St) {a : Nat} (h1 : a ≠ o) (h2 : a ≠ o + 4) : (adC o sc kind num S).1 a = S.1 a := by unfold adC; rw [pI_row _ _ h1, pI_row _ _ h2]
theorem adC_in (o sc kind num : Nat) (S : St) : (adC o sc kind num S).1 (o + 4) sc = wd kind num := by unfold adC; rw [pI_row _ _ (by omega), pI_same]
theorem adC_lt {o sc kind num q : Nat} (S : St) (h : q ≠ sc) : (adC o sc kind num S).1 (o + 4) q = S.1 (o + 4) q := by unfold adC; rw [pI_row _ _ (by omega), pI_cell _ _ (by omega)]
theorem adC_7 (o sc kind num : Nat) (S : St) : (adC o sc kind num S).1 o 7 = nI (sc + 1) := pI_same _ _ _ _
def noM (cm op v : Nat) (M : St) : St := pI (pI M 65 cm (cw op v)) 55 17 (nI (cm + 1))
theorem note12 {cm op v : Nat} {M : St} (h : M.1 55 17 = nI cm) (hc : cm < 260) : fX12_notes M (nI op) (nI v) = some (noM cm op v M) := by
  unfold fX12_notes noM cw
  rw [h, if_pos (inbT hc (by decide)), nI_clamp (by omega), li 1048576, pk_mul, nI_add, bS_e, pI_row _ _ (by decide), h, nI_1, bS_e]
theorem noM_fr (cm op v : Nat) (M : St) : FrV M (noM cm op v M) := (FrV.put _ (by unfold ltM; omega) _).tr (FrV.put _ (by unfold ltM; omega) _)
theorem noM_in (cm op v : Nat) (M : St) : (noM cm op v M).1 65 cm = cw op v := by unfold noM; rw [pI_row _ _ (by decide), pI_same]
theorem noM_lt {cm op v q : Nat} (M : St) (h : q ≠ cm) : (noM cm op v M).1 65 q = M.1 65 q := by unfold noM; rw [pI_row _ _ (by decide), pI_cell _ _ (by omega)]
theorem noM_55 {cm op v k : Nat} (M : St) (h : k ≠ 17) : (noM cm op v M).1 55 k = M.1 55 k := by unfold noM; rw [pI_cell _ _ (by omega), pI_row _ _ (by decide)]
theorem noM_17 (cm op v : Nat) (M : St) : (noM cm op v M).1 55 17 = nI (cm + 1) := pI_same _ _ _ _
theorem noM_o {cm op v a : Nat} (M : St) (h1 : a ≠ 55) (h2 : a ≠ 65) : (noM cm op v M).1 a = M.1 a := by unfold noM; rw [pI_row _ _ h1, pI_row _ _ h2]
theorem top12 {w op v : Nat} {M : St} (h : M.1 55 18 = nI (w + 1)) (hw : w < 260) (hc : M.1 66 w = cw op v) (ho : op < 16) (hv : v < 1048576) : fX12_waitTop M = some (nI op, M) := by
  unfold fX12_waitTop
  rw [h, if_neg (show ¬ nI (w + 1) = 0 by rw [li 0, neq (by omega) (by decide)]; omega), Int32.sub_eq_add_neg, pk_m1, if_pos (inbT hw (by decide)), nI_clamp (by omega), hc, cw_op ho hv]
theorem top0 {M : St} (h : M.1 55 18 = nI 0) : fX12_waitTop M = some (-1, M) := by
  unfold fX12_waitTop
  rw [h]
  exact if_pos rfl
