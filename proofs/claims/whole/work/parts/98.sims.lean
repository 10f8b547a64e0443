-- the law's answers
def lpA (S : St) (row : Nat) (F : Nat → Int32) (n : Nat) : St := (fun a k => if a = row ∧ k < n then F k else S.1 a k, S.2)
theorem lpA_0 (S : St) (row : Nat) (F : Nat → Int32) : lpA S row F 0 = S := by
  have : (fun a k => if a = row ∧ k < 0 then F k else S.1 a k) = S.1 := by
    funext a k
    rw [if_neg (by omega)]
  unfold lpA
  rw [this]
theorem lpA_put (S : St) (row : Nat) (F : Nat → Int32) (n : Nat) : pI (lpA S row F n) row n (F n) = lpA S row F (n + 1) := by
  unfold lpA pI
  congr 1
  funext a k
  show (if a = row ∧ k = n then F n else if a = row ∧ k < n then F k else S.1 a k) = if a = row ∧ k < n + 1 then F k else S.1 a k
  by_cases c : a = row
  · by_cases c1 : k = n
    · subst c1
      rw [if_pos ⟨c, rfl⟩, if_pos ⟨c, by omega⟩]
    · by_cases c2 : k < n
      · rw [if_neg (by omega), if_pos ⟨c, c2⟩, if_pos ⟨c, by omega⟩]
      · rw [if_neg (by omega), if_neg (by omega), if_neg (by omega)]
  · rw [if_neg (by omega), if_neg (by omega), if_neg (by omega)]
theorem lpA_in (S : St) {row n k : Nat} (F : Nat → Int32) (h : k < n) : (lpA S row F n).1 row k = F k := if_pos ⟨rfl, h⟩
theorem lpA_out (S : St) {row n a : Nat} (F : Nat → Int32) (h : a ≠ row) : (lpA S row F n).1 a = S.1 a := funext fun k => if_neg (fun w => h w.1)
theorem FrL.rf (o : Nat) (S : St) : FrL o S S := ⟨rfl, fun _ _ _ _ => rfl⟩
theorem FrL.tr {o : Nat} {S S1 S2 : St} (h : FrL o S S1) (h2 : FrL o S1 S2) : FrL o S S2 := ⟨h2.1.trans h.1, fun a k x y => (h2.2 a k x y).trans (h.2 a k x y)⟩
theorem FrK.rf (M : St) : FrK M M := ⟨rfl, fun _ _ _ => rfl⟩
theorem FrK.tr {M M1 M2 : St} (h : FrK M M1) (h2 : FrK M1 M2) : FrK M M2 := ⟨h2.1.trans h.1, fun a k x => (h2.2 a k x).trans (h.2 a k x)⟩
theorem FrL.row {o a : Nat} {S S' : St} (h : FrL o S S') (h1 : a ≠ o) (h2 : a ≠ o + 6) : S'.1 a = S.1 a := funext fun k => h.2 a k (by omega) h2
/-- the first rule of a letter that holds -/
def fiN (kinds : Nat → Int32) (hq : Nat → Bool) (x : Int32) : Nat → Nat → Int32
  | 0, _ => -1
  | m + 1, i => if kinds i = x ∧ hq i = true then nI i else fiN kinds hq x m (i + 1)
theorem fiN_c (kinds : Nat → Int32) (hq : Nat → Bool) (x : Int32) : ∀ m i, fiN kinds hq x m i = -1 ∨ ∃ q, i ≤ q ∧ q < i + m ∧ fiN kinds hq x m i = nI q ∧ kinds q = x
  | 0, _ => Or.inl rfl
  | m + 1, i => by
    rw [fiN]
    by_cases c : kinds i = x ∧ hq i = true
    · rw [if_pos c]
      exact Or.inr ⟨i, by omega, by omega, rfl, c.1⟩
    · rw [if_neg c]
      rcases fiN_c kinds hq x m (i + 1) with h | ⟨q, h1, h2, h3, h4⟩
      · exact Or.inl h
      · exact Or.inr ⟨q, by omega, by omega, h3, h4⟩
theorem fiN_hit {kinds : Nat → Int32} {hq : Nat → Bool} {x : Int32} {m i : Nat} (c : kinds i = x) (q : hq i = true) : fiN kinds hq x (m + 1) i = nI i := by rw [fiN, if_pos ⟨c, q⟩]
theorem fiN_mis {kinds : Nat → Int32} {hq : Nat → Bool} {x : Int32} {m i : Nat} (c : ¬ (kinds i = x ∧ hq i = true)) : fiN kinds hq x (m + 1) i = fiN kinds hq x m (i + 1) := by rw [fiN, if_neg c]
theorem first2 {S0 : St} {o nr : Nat} {F : Nat → Int32} {hq : Nat → Bool} (hL : isL o) (hnr : nr ≤ 16) (hrc : S0.1 o 6 = nI nr) (hF : ∀ k, k < 9 → S0.1 (o + 5) k = F k) (ht : ∀ q, q < nr → TestC (S0.1 (o + 4)) (S0.1 o 7) (S0.1 (o + 3) q) F (hq q)) (x : Int32) : ∀ m i f S, i + m = nr → m < f → FrL o S0 S → ∃ S', FrL o S0 S' ∧ fX2_firstRule_2 o f S x (nI i) = some (fiN (S0.1 (o + 1)) hq x m i, S') := by
  intro m
  induction m with
  | zero =>
    intro i f S h1 h2 hS
    obtain ⟨f, rfl⟩ : ∃ f', f = f' + 1 := ⟨f - 1, by omega⟩
    refine ⟨S, hS, ?_⟩
    show bX2_firstRule_2 _ _ _ _ _ = _
    unfold bX2_firstRule_2
    rw [hS.2 o 6 (by omega) (by omega), hrc, if_pos (show nI nr ≤ nI i by rw [nle (by omega) (by omega)]; omega)]
    rfl
  | succ m ih =>
    intro i f S h1 h2 hS
    obtain ⟨f, rfl⟩ : ∃ f', f = f' + 1 := ⟨f - 1, by omega⟩
    have r1 := hS.row (a := o + 1) (by omega) (by omega)
    have r3 := hS.row (a := o + 3) (by omega) (by omega)
    have r4 := hS.row (a := o + 4) (by omega) (by omega)
    have r5 := hS.row (a := o + 5) (by omega) (by omega)
    obtain ⟨S1, w1, w2, w3⟩ := ht i (by omega) o S hL r4 (hS.2 o 7 (by omega) (by omega)) (fun k hk => by rw [r5]; exact hF k hk)
    have eb : fX2_firstRule_2 o (f + 1) S x (nI i) = if S0.1 (o + 1) i = x then (if S1.1 o 9 = 0 then fX2_firstRule_2 o f S1 x (nI (i + 1)) else if S1.1 o 10 = 0 then some (nI i, S1) else fX2_firstRule_2 o f S1 x (nI (i + 1))) else fX2_firstRule_2 o f S x (nI (i + 1)) := by
      show bX2_firstRule_2 _ _ _ _ _ = _
      unfold bX2_firstRule_2
      rw [hS.2 o 6 (by omega) (by omega), hrc, if_neg (show ¬ nI nr ≤ nI i by rw [nle (by omega) (by omega)]; omega), if_pos (inbT (by omega) (by decide)), nI_clamp (by omega), r1, if_pos (inbT (by omega) (by decide)), r3, w1, bv_some, bV_e, bV_e, nI_1]
    rw [eb]
    by_cases c : S0.1 (o + 1) i = x
    · rw [if_pos c]
      cases q : hq i with
      | true =>
        obtain ⟨z1, z2⟩ := w3.mp q
        rw [if_neg z1, if_pos z2, fiN_hit c q]
        exact ⟨S1, hS.tr w2, rfl⟩
      | false =>
        have hn : ¬ (S1.1 o 9 ≠ 0 ∧ S1.1 o 10 = 0) := fun w => by
          have := w3.mpr w
          rw [q] at this
          cases this
        rw [fiN_mis (fun w => by rw [q] at w; cases w.2)]
        obtain ⟨S', k1, k2⟩ := ih (i + 1) f S1 (by omega) (by omega) (hS.tr w2)
        refine ⟨S', k1, ?_⟩
        by_cases c1 : S1.1 o 9 = 0
        · rw [if_pos c1]; exact k2
        · rw [if_neg c1, if_neg (fun w => hn ⟨c1, w⟩)]; exact k2
    · rw [if_neg c, fiN_mis (fun w => c w.1)]
      exact ih (i + 1) f S (by omega) (by omega) hS
theorem any12 {M0 : St} {nr : Nat} {F : Nat → Int32} {hq : Nat → Bool} (hnr : nr ≤ 16) (hcl : M0.1 55 20 = nI nr) (hF : ∀ k, k < 9 → M0.1 77 k = F k) (ht : ∀ q, q < nr → TestM (M0.1 71) (M0.1 74 q) (M0.1 75 q) F (hq q)) (x : Int32) : ∀ m i f M, i + m = nr → m < f → FrK M0 M → ∃ M', FrK M0 M' ∧ fX12_holdsAny_2 f M x (nI i) = some (if fiN (M0.1 72) hq x m i = -1 then 0 else 1, M') := by
  intro m
  induction m with
  | zero =>
    intro i f M h1 h2 hM
    obtain ⟨f, rfl⟩ : ∃ f', f = f' + 1 := ⟨f - 1, by omega⟩
    refine ⟨M, hM, ?_⟩
    show bX12_holdsAny_2 _ _ _ _ = _
    unfold bX12_holdsAny_2
    rw [hM.2 55 20 (by decide), hcl, if_pos (show nI nr ≤ nI i by rw [nle (by omega) (by omega)]; omega), fiN, if_pos rfl]
  | succ m ih =>
    intro i f M h1 h2 hM
    obtain ⟨f, rfl⟩ : ∃ f', f = f' + 1 := ⟨f - 1, by omega⟩
    obtain ⟨r, M1, w1, w2, w3⟩ := ht i (by omega) M (funext fun k => hM.2 71 k (by decide)) (fun k hk => by rw [hM.2 77 k (by decide)]; exact hF k hk)
    have eb : fX12_holdsAny_2 (f + 1) M x (nI i) = if M0.1 72 i = x then (if r = 1 then some (1, M1) else fX12_holdsAny_2 f M1 x (nI (i + 1))) else fX12_holdsAny_2 f M x (nI (i + 1)) := by
      show bX12_holdsAny_2 _ _ _ _ = _
      unfold bX12_holdsAny_2
      rw [hM.2 55 20 (by decide), hcl, if_neg (show ¬ nI nr ≤ nI i by rw [nle (by omega) (by omega)]; omega), if_pos (inbT (by omega) (by decide)), nI_clamp (by omega), hM.2 72 i (by decide), if_pos (inbT (by omega) (by decide)), if_pos (inbT (by omega) (by decide)), hM.2 74 i (by decide), hM.2 75 i (by decide), w1, bi_some, bV_e, bV_e, nI_1]
    rw [eb]
    by_cases c : M0.1 72 i = x
    · rw [if_pos c]
      cases q : hq i with
      | true =>
        rw [if_pos (w3.mp q), fiN_hit c q, if_neg (nm1 (show i < 2 ^ 31 by omega))]
        exact ⟨M1, hM.tr w2, rfl⟩
      | false =>
        rw [if_neg (show ¬ r = 1 from fun w => by have := w3.mpr w; rw [q] at this; cases this), fiN_mis (fun w => by rw [q] at w; cases w.2)]
        exact ih (i + 1) f M1 (by omega) (by omega) (hM.tr w2)
    · rw [if_neg c, fiN_mis (fun w => c w.1)]
      exact ih (i + 1) f M (by omega) (by omega) hM
def clampI (w x : Int32) : Int32 := if 0 ≤ w then (if w ≤ x then w else x) else 0
theorem by12 {M0 : St} {nr : Nat} {F : Nat → Int32} {hq : Nat → Bool} {wq : Nat → Int32} (hnr : nr ≤ 16) (hcl : M0.1 55 20 = nI nr) (hF : ∀ k, k < 9 → M0.1 77 k = F k) (ht : ∀ q, q < nr → TestM (M0.1 71) (M0.1 74 q) (M0.1 75 q) F (hq q)) (x y d : Int32) (hw : ∀ q, q < nr → M0.1 72 q = x → WorM (M0.1 71) (M0.1 73 q) (M0.1 74 q) F (wq q)) : ∀ m i f M, i + m = nr → m < f → FrK M0 M → ∃ M', FrK M0 M' ∧ fX12_byLaw_3 f M x y d (nI i) = some (if fiN (M0.1 72) hq x m i = -1 then d else clampI (wq (fiN (M0.1 72) hq x m i).toNatClampNeg) y, M') := by
  intro m
  induction m with
  | zero =>
    intro i f M h1 h2 hM
    obtain ⟨f, rfl⟩ : ∃ f', f = f' + 1 := ⟨f - 1, by omega⟩
    refine ⟨M, hM, ?_⟩
    show bX12_byLaw_3 _ _ _ _ _ _ = _
    unfold bX12_byLaw_3
    rw [hM.2 55 20 (by decide), hcl, if_pos (show nI nr ≤ nI i by rw [nle (by omega) (by omega)]; omega), fiN, if_pos rfl]
  | succ m ih =>
    intro i f M h1 h2 hM
    obtain ⟨f, rfl⟩ : ∃ f', f = f' + 1 := ⟨f - 1, by omega⟩
    obtain ⟨r, M1, w1, w2, w3⟩ := ht i (by omega) M (funext fun k => hM.2 71 k (by decide)) (fun k hk => by rw [hM.2 77 k (by decide)]; exact hF k hk)
    have hM1 := hM.tr w2
    have eb : fX12_byLaw_3 (f + 1) M x y d (nI i) = if M0.1 72 i = x then (if r = 1 then (bi (fX12_reckonsTo M1 (M0.1 73 i) (M0.1 74 i)) fun r10 S2 => if 0 ≤ r10 then (if r10 ≤ y then (some (r10, S2)) else (some (y, S2))) else (some ((0 : Int32), S2))) else fX12_byLaw_3 f M1 x y d (nI (i + 1))) else fX12_byLaw_3 f M x y d (nI (i + 1)) := by
      show bX12_byLaw_3 _ _ _ _ _ _ = _
      unfold bX12_byLaw_3
      rw [hM.2 55 20 (by decide), hcl, if_neg (show ¬ nI nr ≤ nI i by rw [nle (by omega) (by omega)]; omega), if_pos (inbT (by omega) (by decide)), nI_clamp (by omega), hM.2 72 i (by decide), if_pos (inbT (by omega) (by decide)), if_pos (inbT (by omega) (by decide)), hM.2 74 i (by decide), hM.2 75 i (by decide), w1, bi_some, if_pos (inbT (by omega) (by decide)), if_pos (inbT (by omega) (by decide)), hM1.2 73 i (by decide), hM1.2 74 i (by decide), bV_e, bV_e, nI_1]
    rw [eb]
    by_cases c : M0.1 72 i = x
    · rw [if_pos c]
      cases q : hq i with
      | true =>
        obtain ⟨M2, v1, v2⟩ := hw i (by omega) c M1 (funext fun k => hM1.2 71 k (by decide)) (fun k hk => by rw [hM1.2 77 k (by decide)]; exact hF k hk)
        rw [if_pos (w3.mp q), fiN_hit c q, if_neg (nm1 (show i < 2 ^ 31 by omega)), v1, bi_some, nI_clamp (by omega)]
        refine ⟨M2, hM1.tr v2, ?_⟩
        unfold clampI
        by_cases c1 : 0 ≤ wq i
        · rw [if_pos c1, if_pos c1]
          by_cases c2 : wq i ≤ y
          · rw [if_pos c2, if_pos c2]
          · rw [if_neg c2, if_neg c2]
        · rw [if_neg c1, if_neg c1]
      | false =>
        rw [if_neg (show ¬ r = 1 from fun w => by have := w3.mpr w; rw [q] at this; cases this), fiN_mis (fun w => by rw [q] at w; cases w.2)]
        exact ih (i + 1) f M1 (by omega) (by omega) hM1
    · rw [if_neg c, fiN_mis (fun w => c w.1)]
      exact ih (i + 1) f M (by omega) (by omega) hM
theorem clamp_e {w x : Int32} (hx : 0 < x) : (if (0 : Int32) < (if w < x then w else x) then (if w < x then w else x) else (0 : Int32)) = clampI w x := by
  unfold clampI
  rw [Ilt, i0] at hx
  have a1 : (w < x) = (w.toInt < x.toInt) := Ilt _ _
  have a2 : (0 ≤ w) = (0 ≤ w.toInt) := by rw [Ile, i0]
  have a3 : (w ≤ x) = (w.toInt ≤ x.toInt) := Ile _ _
  by_cases c : w.toInt < x.toInt
  · have p1 : w < x := by rw [a1]; exact c
    have p3 : w ≤ x := by rw [a3]; omega
    by_cases c2 : 0 < w.toInt
    · have p2 : (0 : Int32) < w := by rw [Ilt, i0]; exact c2
      have p4 : (0 : Int32) ≤ w := by rw [a2]; omega
      simp only [p1, p2, p3, p4, if_true]
    · have p2 : ¬ (0 : Int32) < w := by rw [Ilt, i0]; exact c2
      by_cases c3 : 0 ≤ w.toInt
      · have p4 : (0 : Int32) ≤ w := by rw [a2]; exact c3
        have ew : w = 0 := by rw [Ieq, i0]; omega
        simp only [p1, p2, p3, p4, if_true, if_false]
        exact ew.symm
      · have p4 : ¬ (0 : Int32) ≤ w := by rw [a2]; exact c3
        simp only [p1, p2, p4, if_true, if_false]
  · have p1 : ¬ w < x := by rw [a1]; exact c
    have p2 : (0 : Int32) < x := by rw [Ilt, i0]; exact hx
    have p4 : (0 : Int32) ≤ w := by rw [a2]; omega
    by_cases c3 : w.toInt ≤ x.toInt
    · have p3 : w ≤ x := by rw [a3]; exact c3
      have ew : x = w := by rw [Ieq]; omega
      simp only [p1, p2, p3, p4, if_true, if_false]
      exact ew
    · have p3 : ¬ w ≤ x := by rw [a3]; exact c3
      simp only [p1, p2, p3, p4, if_true, if_false]
theorem clamp_n (w : Int32) {x : Nat} (hx : x < 2 ^ 31) : ∃ v, v ≤ x ∧ clampI w (nI x) = nI v := by
  unfold clampI
  by_cases c : 0 ≤ w
  · rw [if_pos c]
    by_cases c2 : w ≤ nI x
    · rw [if_pos c2]
      rw [Ile, i0] at c
      rw [Ile, nI_toInt hx] at c2
      exact inR_nat (by rw [inR_t]; omega) hx
    · rw [if_neg c2]
      exact ⟨x, Nat.le_refl _, rfl⟩
  · rw [if_neg c]
    exact ⟨0, Nat.zero_le _, rfl⟩
