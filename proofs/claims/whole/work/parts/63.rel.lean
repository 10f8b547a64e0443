-- the relation between the class's picture and the model's
/-- cells of a law's reckoning that may differ -/
def FrL (o : Nat) (S S' : St) : Prop := S'.2 = S.2 ∧ ∀ a k, ¬ (a = o ∧ (k = 8 ∨ k = 9 ∨ k = 10)) → a ≠ o + 6 → S'.1 a k = S.1 a k
def FrK (M M' : St) : Prop := M'.2 = M.2 ∧ ∀ a k, a ≠ 76 → M'.1 a k = M.1 a k
def TestC (steps : Nat → Int32) (sc start : Int32) (F : Nat → Int32) (h : Bool) : Prop := ∀ o S, isL o → S.1 (o + 4) = steps → S.1 o 7 = sc → (∀ k, k < 9 → S.1 (o + 5) k = F k) → ∃ S', fX2_work o S start = some S' ∧ FrL o S S' ∧ (h = true ↔ S'.1 o 9 ≠ 0 ∧ S'.1 o 10 = 0)
def WorC (steps : Nat → Int32) (sc start : Int32) (F : Nat → Int32) (w : Int32) : Prop := ∀ o S, isL o → S.1 (o + 4) = steps → S.1 o 7 = sc → (∀ k, k < 9 → S.1 (o + 5) k = F k) → ∃ S', fX2_work o S start = some S' ∧ FrL o S S' ∧ w = if S'.1 o 10 = 0 then S'.1 (o + 6) 0 else 0
def TestM (codes : Nat → Int32) (fr to : Int32) (F : Nat → Int32) (h : Bool) : Prop := ∀ M : St, M.1 71 = codes → (∀ k, k < 9 → M.1 77 k = F k) → ∃ r M', fX12_reckonsTo M fr to = some (r, M') ∧ FrK M M' ∧ (h = true ↔ r = 1)
def WorM (codes : Nat → Int32) (fr to : Int32) (F : Nat → Int32) (w : Int32) : Prop := ∀ M : St, M.1 71 = codes → (∀ k, k < 9 → M.1 77 k = F k) → ∃ M', fX12_reckonsTo M fr to = some (w, M') ∧ FrK M M'
/-- the law's two forms come to the same (told over the cells that hold them) -/
def LawR (kinds worths tests steps : Nat → Int32) (rc sc : Int32) (clauseOf fromOf halfOf toOf codes : Nat → Int32) (cl : Int32) : Prop := ∃ nr, nr ≤ 16 ∧ rc = nI nr ∧ cl = nI nr ∧ ∀ q, q < nr → kinds q = clauseOf q ∧ (∀ F, ∃ h, TestC steps sc (tests q) F h ∧ TestM codes (halfOf q) (toOf q) F h) ∧ (kinds q ≠ 120 → ∀ F, ∃ w, WorC steps sc (worths q) F w ∧ WorM codes (fromOf q) (halfOf q) F w)
def RStr (S M : St) : Prop := isT (S.2.2 0) ∧ isT (S.2.2 1) ∧ S.2.2 0 ≠ S.2.2 1 ∧ S.1 (S.2.2 0) 7 = M.1 55 8 ∧ S.1 (S.2.2 0) 8 = M.1 55 9 ∧ (∀ h, h < 16 → (hN M).testBit h = true → S.1 (S.2.2 0 + 1) h = M.1 60 h) ∧ (∀ h, h < 16 → ∀ t, t < 12 → S.1 (S.2.2 0 + 5) (h * 12 + t) = nI (if (hN M).testBit h = true then seenN M h t else 0)) ∧ (∀ h, h < 16 → S.1 (S.2.2 0 + 6) h = nI (if (hN M).testBit h = true then everN M h else 0))
def toldN (hs : Nat) (x : Int32) : Prop := x = -1 ∨ ∃ h, h < 16 ∧ x = nI h ∧ hs.testBit h = true
def RRot (S M : St) : Prop := ∀ j, j < 12 → S.1 9 j = M.1 59 j ∧ toldN (hN M) (M.1 59 j)
def upTo (x : Int32) (n : Nat) : Prop := ∃ v, v ≤ n ∧ x = nI v
def RSta (S M : St) (o mo hs : Nat) : Prop := (∀ h, h < 16 → S.1 (o + 1) h = M.1 mo h ∧ upTo (M.1 mo h) 99999 ∧ (hs.testBit h = false → M.1 mo h = 0)) ∧ (S.1 o 1 = M.1 mo 16 ∧ toldN hs (M.1 mo 16)) ∧ (S.1 o 2 = M.1 mo 17 ∧ upTo (M.1 mo 17) 65535) ∧ (S.1 o 3 = M.1 mo 18 ∧ upTo (M.1 mo 18) 9999) ∧ (S.1 o 4 = M.1 mo 19 ∧ upTo (M.1 mo 19) 9999) ∧ (S.1 o 5 = M.1 mo 20 ∧ upTo (M.1 mo 20) 65535)
def RKep (S M : St) : Prop := S.1 0 14 = M.1 55 59 ∧ (M.1 55 59 = 0 ∨ (M.1 55 59 = 1 ∧ upTo (M.1 55 60) 65535 ∧ RSta S M 23 58 (gv (M.1 55 60))))
def RTap (S M : St) : Prop := (∃ z, z ≤ 260 ∧ S.1 1 1 = nI z ∧ M.1 55 11 = nI z) ∧ ∀ j, j < 260 → ∃ c, c < 256 ∧ S.1 2 j = nI c ∧ M.1 64 j = sb_b c
def RNew (M : St) : Prop := ∀ o, 78 ≤ o → o ≤ 81 → ∀ h, h < 16 → M.1 o h = nI (gv (M.1 o h)) ∧ gv (M.1 o h) < 12
def RRul (S M : St) : Prop := isL (S.2.2 2) ∧ isL (S.2.2 3) ∧ S.2.2 2 ≠ S.2.2 3 ∧ LawR (S.1 (S.2.2 2 + 1)) (S.1 (S.2.2 2 + 2)) (S.1 (S.2.2 2 + 3)) (S.1 (S.2.2 2 + 4)) (S.1 (S.2.2 2) 6) (S.1 (S.2.2 2) 7) (M.1 72) (M.1 73) (M.1 74) (M.1 75) (M.1 71) (M.1 55 20)
def Rel (S M : St) : Prop := IvS M ∧ RStr S M ∧ RRot S M ∧ RSta S M 19 56 (hN M) ∧ RKep S M ∧ RTap S M ∧ RNew M ∧ RRul S M
-- cells that count
def coreC (t r o k : Nat) : Prop := (o = 0 ∧ k = 14) ∨ (o = 1 ∧ k = 1) ∨ o = 2 ∨ o = 9 ∨ o = 19 ∨ o = 20 ∨ o = 23 ∨ o = 24 ∨ (o = t ∧ (k = 7 ∨ k = 8)) ∨ o = t + 1 ∨ o = t + 5 ∨ o = t + 6 ∨ (o = r ∧ (k = 6 ∨ k = 7)) ∨ o = r + 1 ∨ o = r + 2 ∨ o = r + 3 ∨ o = r + 4
def EqC (S S' : St) : Prop := S'.2.2 = S.2.2 ∧ ∀ o k, coreC (S.2.2 0) (S.2.2 2) o k → S'.1 o k = S.1 o k
def coreM (o k : Nat) : Prop := (o = 55 ∧ (k = 8 ∨ k = 9 ∨ k = 11 ∨ k = 20 ∨ k = 59 ∨ k = 60)) ∨ o = 56 ∨ (58 ≤ o ∧ o ≤ 64) ∨ (71 ≤ o ∧ o ≤ 75) ∨ (78 ≤ o ∧ o ≤ 81)
def EqM (M M' : St) : Prop := ∀ o k, coreM o k → M'.1 o k = M.1 o k
theorem EqC.rf (S : St) : EqC S S := ⟨rfl, fun _ _ _ => rfl⟩
theorem EqM.rf (M : St) : EqM M M := fun _ _ _ => rfl
theorem EqC.tr {S S1 S2 : St} (h : EqC S S1) (h2 : EqC S1 S2) : EqC S S2 := ⟨h2.1.trans h.1, fun o k hc => (h2.2 o k (by rw [h.1]; exact hc)).trans (h.2 o k hc)⟩
theorem EqM.tr {M M1 M2 : St} (h : EqM M M1) (h2 : EqM M1 M2) : EqM M M2 := fun o k hc => (h2 o k hc).trans (h o k hc)
theorem EqM.row {M M' : St} (h : EqM M M') {o : Nat} (ho : ∀ k, coreM o k) : M'.1 o = M.1 o := funext fun k => h o k (ho k)
theorem EqC.row {S S' : St} (h : EqC S S') {o : Nat} (ho : ∀ k, coreC (S.2.2 0) (S.2.2 2) o k) : S'.1 o = S.1 o := funext fun k => h.2 o k (ho k)
theorem seenN_eqM {M M' : St} (h : EqM M M') (a t : Nat) : seenN M' a t = seenN M a t := by
  unfold seenN seeB tN
  rw [h 55 9 (by simp [coreM]), h.row (o := 60) (by simp [coreM]), h.row (o := 61) (by simp [coreM]), h.row (o := 62) (by simp [coreM]), h.row (o := 63) (by simp [coreM])]
theorem everN_eqM {M M' : St} (h : EqM M M') (a : Nat) : everN M' a = everN M a := by
  unfold everN tN
  rw [h 55 9 (by simp [coreM]), h.row (o := 60) (by simp [coreM]), h.row (o := 61) (by simp [coreM])]
theorem Rel.keep {S M S' M' : St} (h : Rel S M) (hC : EqC S S') (hM : EqM M M') : Rel S' M' := by
  have r60 := hM.row (o := 60) (by simp [coreM])
  have r61 := hM.row (o := 61) (by simp [coreM])
  have r62 := hM.row (o := 62) (by simp [coreM])
  have r63 := hM.row (o := 63) (by simp [coreM])
  have r59 := hM.row (o := 59) (by simp [coreM])
  have r56 := hM.row (o := 56) (by simp [coreM])
  have r58 := hM.row (o := 58) (by simp [coreM])
  have r64 := hM.row (o := 64) (by simp [coreM])
  have e8 : M'.1 55 8 = M.1 55 8 := hM 55 8 (by simp [coreM])
  have e9 : M'.1 55 9 = M.1 55 9 := hM 55 9 (by simp [coreM])
  have e11 : M'.1 55 11 = M.1 55 11 := hM 55 11 (by simp [coreM])
  have e20 : M'.1 55 20 = M.1 55 20 := hM 55 20 (by simp [coreM])
  have e59 : M'.1 55 59 = M.1 55 59 := hM 55 59 (by simp [coreM])
  have e60 : M'.1 55 60 = M.1 55 60 := hM 55 60 (by simp [coreM])
  have hn : hN M' = hN M := by unfold hN; rw [e8]
  have tn : tN M' = tN M := by unfold tN; rw [e9]
  obtain ⟨a1, a2, a3, a4, a5, a6, a7, a8⟩ := h
  have s2 := hC.1
  refine ⟨?_, ?_, ?_, ?_, ?_, ?_, ?_, ?_⟩
  · refine ⟨by rw [e8, hn]; exact a1.1, by rw [e9, tn]; exact a1.2.1, fun o h1 h2 k hk => ?_⟩
    rw [hM o k (by unfold coreM; omega)]
    exact a1.2.2 o h1 h2 k hk
  · unfold RStr
    rw [s2, e8, e9, hn, r60]
    have c1 := hC.2 (S.2.2 0) 7 (by simp [coreC])
    have c2 := hC.2 (S.2.2 0) 8 (by simp [coreC])
    have c3 := hC.row (o := S.2.2 0 + 1) (by simp [coreC])
    have c4 := hC.row (o := S.2.2 0 + 5) (by simp [coreC])
    have c5 := hC.row (o := S.2.2 0 + 6) (by simp [coreC])
    rw [c1, c2, c3, c4, c5]
    simp only [seenN_eqM hM, everN_eqM hM]
    exact a2
  · unfold RRot
    rw [r59, hn, hC.row (o := 9) (by simp [coreC])]
    exact a3
  · unfold RSta
    rw [r56, hn, hC.row (o := 19) (by simp [coreC]), hC.row (o := 19 + 1) (by simp [coreC])]
    exact a4
  · unfold RKep RSta
    rw [r58, e59, e60, hC.row (o := 23) (by simp [coreC]), hC.row (o := 23 + 1) (by simp [coreC]), hC.2 0 14 (by simp [coreC])]
    exact a5
  · unfold RTap
    rw [r64, e11, hC.2 1 1 (by simp [coreC]), hC.row (o := 2) (by simp [coreC])]
    exact a6
  · intro o h1 h2 k hk
    rw [hM o k (by unfold coreM; omega)]
    exact a7 o h1 h2 k hk
  · unfold RRul
    rw [s2, hC.row (o := S.2.2 2 + 1) (by simp [coreC]), hC.row (o := S.2.2 2 + 2) (by simp [coreC]), hC.row (o := S.2.2 2 + 3) (by simp [coreC]), hC.row (o := S.2.2 2 + 4) (by simp [coreC]), hC.2 (S.2.2 2) 6 (by simp [coreC]), hC.2 (S.2.2 2) 7 (by simp [coreC]), hM.row (o := 71) (by simp [coreM]), hM.row (o := 72) (by simp [coreM]), hM.row (o := 73) (by simp [coreM]), hM.row (o := 74) (by simp [coreM]), hM.row (o := 75) (by simp [coreM]), e20]
    exact a8
theorem Rel0 (f g : Nat → Int32) (hf : ∀ i, i < 12 → f i = -1) (hg : ∀ i, i < 12 → g i = -1) : Rel (S0 f) (M0 g) := by
  have hh : hN (M0 g) = 0 := rfl
  have ht : tN (M0 g) = 0 := rfl
  have u0 : ∀ n, upTo 0 n := fun n => ⟨0, Nat.zero_le _, rfl⟩
  refine ⟨⟨⟨rfl, by rw [hh]; decide⟩, ⟨rfl, by rw [ht]; decide⟩, ?_⟩, ?_, ?_, ?_, ?_, ?_, ?_, ?_⟩
  · intro o h1 h2 h hh
    have : (M0 g).1 o h = 0 := by
      show (if o = 59 then _ else if o = 56 then _ else (0 : Int32)) = 0
      rw [if_neg (by omega), if_neg (by omega)]
    rw [this]
    exact ⟨rfl, by decide⟩
  · refine ⟨Or.inl rfl, Or.inr rfl, (show (25 : Nat) ≠ 33 by decide), rfl, rfl, ?_, ?_, ?_⟩
    · intro h _ h2
      rw [hh] at h2
      simp at h2
    · intro h _ t _
      rw [hh]
      simp
      show (S0 f).1 30 (h * 12 + t) = 0
      rfl
    · intro h _
      rw [hh]
      simp
      show (S0 f).1 31 h = 0
      rfl
  · intro j hj
    show f j = g j ∧ toldN _ (g j)
    rw [hf j hj, hg j hj]
    exact ⟨rfl, Or.inl rfl⟩
  · refine ⟨?_, ⟨rfl, Or.inl rfl⟩, ⟨rfl, u0 _⟩, ⟨rfl, u0 _⟩, ⟨rfl, u0 _⟩, ⟨rfl, 1, by decide, rfl⟩⟩
    intro h hh2
    have : (M0 g).1 56 h = 0 := by
      show upd (upd (fun _ => 0) 20 1) 16 (-1) h = 0
      unfold upd
      rw [if_neg (by omega), if_neg (by omega)]
    rw [this]
    exact ⟨rfl, u0 _, fun _ => rfl⟩
  · exact ⟨rfl, Or.inl rfl⟩
  · refine ⟨⟨0, by decide, rfl, rfl⟩, fun j hj => ⟨0, by decide, rfl, (show (0 : Int32) = sb_b 0 by decide)⟩⟩
  · intro o h1 h2 h hh
    have : (M0 g).1 o h = 0 := by
      show (if o = 59 then _ else if o = 56 then _ else (0 : Int32)) = 0
      rw [if_neg (by omega), if_neg (by omega)]
    rw [this]
    exact ⟨rfl, by decide⟩
  · exact ⟨Or.inl rfl, Or.inr rfl, (show (41 : Nat) ≠ 48 by decide), 0, by decide, rfl, rfl, fun q hq => absurd hq (Nat.not_lt_zero _)⟩
-- each part of the relation over its own cells
def strC (t o k : Nat) : Prop := (o = t ∧ (k = 7 ∨ k = 8)) ∨ o = t + 1 ∨ o = t + 5 ∨ o = t + 6
def strM (o k : Nat) : Prop := (o = 55 ∧ (k = 8 ∨ k = 9)) ∨ (60 ≤ o ∧ o ≤ 63)
def rulC (r o k : Nat) : Prop := (o = r ∧ (k = 6 ∨ k = 7)) ∨ (r + 1 ≤ o ∧ o ≤ r + 4)
def rulM (o k : Nat) : Prop := (o = 55 ∧ k = 20) ∨ (71 ≤ o ∧ o ≤ 75)
def AgC (P : Nat → Nat → Prop) (S S' : St) : Prop := ∀ o k, P o k → S'.1 o k = S.1 o k
theorem AgC.row {P : Nat → Nat → Prop} {S S' : St} (h : AgC P S S') {o : Nat} (ho : ∀ k, P o k) : S'.1 o = S.1 o := funext fun k => h o k (ho k)
theorem AgC.rf (P : Nat → Nat → Prop) (S : St) : AgC P S S := fun _ _ _ => rfl
theorem AgC.tr {P : Nat → Nat → Prop} {S S1 S2 : St} (h : AgC P S S1) (h2 : AgC P S1 S2) : AgC P S S2 := fun o k hp => (h2 o k hp).trans (h o k hp)
theorem AgC.put {P : Nat → Nat → Prop} (S : St) {o k : Nat} (v : Int32) (h : ¬ P o k) : AgC P S (pI S o k v) := fun a b hp => by
  have : ¬ (a = o ∧ b = k) := by rintro ⟨rfl, rfl⟩; exact h hp
  simp [pI, this]
theorem seenN_cg {M M' : St} (h : AgC strM M M') (a t : Nat) : seenN M' a t = seenN M a t := by
  unfold seenN seeB tN
  rw [h 55 9 (by simp [strM]), h.row (o := 60) (by simp [strM]), h.row (o := 61) (by simp [strM]), h.row (o := 62) (by simp [strM]), h.row (o := 63) (by simp [strM])]
theorem everN_cg {M M' : St} (h : AgC strM M M') (a : Nat) : everN M' a = everN M a := by
  unfold everN tN
  rw [h 55 9 (by simp [strM]), h.row (o := 60) (by simp [strM]), h.row (o := 61) (by simp [strM])]
theorem hN_cg {M M' : St} (h : AgC strM M M') : hN M' = hN M := by unfold hN; rw [h 55 8 (by simp [strM])]
theorem tN_cg {M M' : St} (h : AgC strM M M') : tN M' = tN M := by unfold tN; rw [h 55 9 (by simp [strM])]
theorem IvS.cg {M M' : St} (a : IvS M) (h : AgC strM M M') : IvS M' := by
  refine ⟨by rw [hN_cg h, h 55 8 (by simp [strM])]; exact a.1, by rw [tN_cg h, h 55 9 (by simp [strM])]; exact a.2.1, fun o h1 h2 k hk => ?_⟩
  rw [h o k (by unfold strM; omega)]
  exact a.2.2 o h1 h2 k hk
theorem RStr.cg {S M S' M' : St} (a : RStr S M) (hM : AgC strM M M') (r0 : S'.2.2 0 = S.2.2 0) (r1 : S'.2.2 1 = S.2.2 1) (hC : AgC (strC (S.2.2 0)) S S') : RStr S' M' := by
  unfold RStr
  rw [r0, r1, hN_cg hM, hM 55 8 (by simp [strM]), hM 55 9 (by simp [strM]), hM.row (o := 60) (by simp [strM]), hC (S.2.2 0) 7 (by simp [strC]), hC (S.2.2 0) 8 (by simp [strC]), hC.row (o := S.2.2 0 + 1) (by simp [strC]), hC.row (o := S.2.2 0 + 5) (by simp [strC]), hC.row (o := S.2.2 0 + 6) (by simp [strC])]
  simp only [seenN_cg hM, everN_cg hM]
  exact a
theorem RRot.cg {S M S' M' : St} (a : RRot S M) (hn : hN M' = hN M) (h1 : ∀ j, j < 12 → S'.1 9 j = S.1 9 j) (h2 : ∀ j, j < 12 → M'.1 59 j = M.1 59 j) : RRot S' M' := by
  intro j hj
  rw [h1 j hj, h2 j hj, hn]
  exact a j hj
theorem RSta.cg {S M S' M' : St} {o mo hs : Nat} (a : RSta S M o mo hs) (h1 : ∀ k, k < 16 → S'.1 (o + 1) k = S.1 (o + 1) k) (h2 : ∀ k, k < 6 → S'.1 o k = S.1 o k) (h3 : ∀ k, k < 21 → M'.1 mo k = M.1 mo k) : RSta S' M' o mo hs := by
  obtain ⟨b1, b2, b3, b4, b5, b6⟩ := a
  refine ⟨fun k hk => ?_, ?_, ?_, ?_, ?_, ?_⟩
  · rw [h1 k hk, h3 k (by omega)]; exact b1 k hk
  · rw [h2 1 (by decide), h3 16 (by decide)]; exact b2
  · rw [h2 2 (by decide), h3 17 (by decide)]; exact b3
  · rw [h2 3 (by decide), h3 18 (by decide)]; exact b4
  · rw [h2 4 (by decide), h3 19 (by decide)]; exact b5
  · rw [h2 5 (by decide), h3 20 (by decide)]; exact b6
def kepC (o k : Nat) : Prop := (o = 0 ∧ k = 14) ∨ o = 23 ∨ o = 24
def kepM (o k : Nat) : Prop := (o = 55 ∧ (k = 59 ∨ k = 60)) ∨ o = 58
theorem RKep.cg {S M S' M' : St} (a : RKep S M) (hC : AgC kepC S S') (hM : AgC kepM M M') : RKep S' M' := by
  unfold RKep
  rw [hC 0 14 (by simp [kepC]), hM 55 59 (by simp [kepM]), hM 55 60 (by simp [kepM])]
  refine ⟨a.1, ?_⟩
  rcases a.2 with h | ⟨h, h2, h3⟩
  · exact Or.inl h
  · exact Or.inr ⟨h, h2, h3.cg (fun k _ => hC 24 k (by simp [kepC])) (fun k _ => hC 23 k (by simp [kepC])) (fun k _ => hM 58 k (by simp [kepM]))⟩
theorem RTap.cg {S M S' M' : St} (a : RTap S M) (c1 : S'.1 1 1 = S.1 1 1) (c2 : M'.1 55 11 = M.1 55 11) (h1 : ∀ j, j < 260 → S'.1 2 j = S.1 2 j) (h2 : ∀ j, j < 260 → M'.1 64 j = M.1 64 j) : RTap S' M' := by
  unfold RTap
  rw [c1, c2]
  refine ⟨a.1, fun j hj => ?_⟩
  rw [h1 j hj, h2 j hj]
  exact a.2 j hj
theorem RNew.cg {M M' : St} (a : RNew M) (h : ∀ o, 78 ≤ o → o ≤ 81 → ∀ k, k < 16 → M'.1 o k = M.1 o k) : RNew M' := by
  intro o h1 h2 k hk
  rw [h o h1 h2 k hk]
  exact a o h1 h2 k hk
theorem RRul.cg {S M S' M' : St} (a : RRul S M) (r2 : S'.2.2 2 = S.2.2 2) (r3 : S'.2.2 3 = S.2.2 3) (hC : AgC (rulC (S.2.2 2)) S S') (hM : AgC rulM M M') : RRul S' M' := by
  unfold RRul
  rw [r2, r3, hC.row (o := S.2.2 2 + 1) (by unfold rulC; omega), hC.row (o := S.2.2 2 + 2) (by unfold rulC; omega), hC.row (o := S.2.2 2 + 3) (by unfold rulC; omega), hC.row (o := S.2.2 2 + 4) (by unfold rulC; omega), hC (S.2.2 2) 6 (by simp [rulC]), hC (S.2.2 2) 7 (by simp [rulC]), hM.row (o := 71) (by unfold rulM; omega), hM.row (o := 72) (by unfold rulM; omega), hM.row (o := 73) (by unfold rulM; omega), hM.row (o := 74) (by unfold rulM; omega), hM.row (o := 75) (by unfold rulM; omega), hM 55 20 (by simp [rulM])]
  exact a
