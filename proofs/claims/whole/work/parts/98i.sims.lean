-- from pieces of code to the law's answers
def refS (st F : Nat → Int32) (sc : Nat) : St := (fun a k => if a = 45 then st k else if a = 46 then F k else if a = 41 ∧ k = 7 then nI sc else 0, (fun _ _ => 0), fun _ => 0)
def refM (cd F : Nat → Int32) : St := (fun a k => if a = 71 then cd k else if a = 77 then F k else 0, (fun _ _ => 0), fun _ => 0)
theorem work_e (o : Nat) (S : St) (i : Nat) : fX2_work o S (nI i) = wk o (pI (pI (pI S o 8 0) o 9 0) o 10 0) i 0 := by
  unfold fX2_work wk
  rw [bS_e, bS_e, bS_e]
  rfl
theorem work_cs {st F : Nat → Int32} {o sc i j : Nat} {S : St} (hL : isL o) (hs : sc ≤ 288) (hj : j ≤ sc) (h4 : S.1 (o + 4) = st) (h7 : S.1 o 7 = nI sc) (h5 : ∀ k, k < 9 → S.1 (o + 5) k = F k) : CSt st F o sc i j (pI (pI (pI S o 8 0) o 9 0) o 10 0) 0 ∧ FrL o S (pI (pI (pI S o 8 0) o 9 0) o 10 0) := by
  have e : FrL o S (pI (pI (pI S o 8 0) o 9 0) o 10 0) := ⟨rfl, fun a k h1 h2 => by rw [pI_cell _ _ (by omega), pI_cell _ _ (by omega), pI_cell _ _ (by omega)]⟩
  refine ⟨⟨hL, hs, hj, ?_, fun q _ _ => ?_, fun k hk => ?_, pI_same _ _ _ _, ?_⟩, e⟩
  · rw [e.2 o 7 (by omega) (by omega)]; exact h7
  · rw [e.2 (o + 4) q (by omega) (by omega), h4]
  · rw [e.2 (o + 5) k (by omega) (by omega)]; exact h5 k hk
  · rw [pI_cell _ _ (by omega), pI_cell _ _ (by omega), pI_same]; rfl
theorem reck_e (M : St) {k l : Nat} (hk : k < 260) : fX12_reckonsTo M (nI k) (nI l) = mk 300 M l 0 k := by
  unfold fX12_reckonsTo mk
  rw [li 260, nI_div (by omega) (by decide) (by decide), Nat.div_eq_of_lt hk, pk_mul, bV_e]
  rfl
theorem test_pair {st cd F : Nat → Int32} {i j k l sc o : Nat} {S M : St} (h : EB st cd i j k l) (hst : st j = 0) (hj : j < sc) (hs : sc ≤ 288) (hl : l ≤ 260) (hL : isL o) (h4 : S.1 (o + 4) = st) (h7 : S.1 o 7 = nI sc) (h5 : ∀ k, k < 9 → S.1 (o + 5) k = F k) (m1 : M.1 71 = cd) (m2 : ∀ k, k < 9 → M.1 77 k = F k) : ∃ (g : Bool) (S' : St) (r : Int32) (M' : St), fX2_work o S (nI i) = some S' ∧ FrL o S S' ∧ (g = true ↔ S'.1 o 9 ≠ 0 ∧ S'.1 o 10 = 0) ∧ fX12_reckonsTo M (nI k) (nI l) = some (r, M') ∧ FrK M M' ∧ (g = true ↔ r = 1) := by
  have hij := h.1
  have hkl := h.2.1
  obtain ⟨c1, c2⟩ := work_cs (i := i) (j := j) hL hs (by omega) h4 h7 h5
  rw [work_e, reck_e M (by omega)]
  rcases h.2.2 F o sc _ M l c1 ⟨Nat.le_refl _, hl, fun q _ _ => by rw [m1], m2⟩ with ⟨g, S1, M1, x1, x2, x3, x4, x5, x6, x7, x8⟩ | ⟨r1, r2⟩
  · obtain ⟨t, t1, t2⟩ := x7 0 (Nat.zero_le _)
    obtain ⟨f, f1, f2⟩ := x8 300 (by omega)
    have e4 : S1.1 (o + 4) j = 0 := by rw [(c2.tr x1).2 (o + 4) j (by omega) (by omega), h4]; exact hst
    refine ⟨g, S1, b2i g, M1, by rw [t2, wk_stop e4 (by omega) (by omega)], c2.tr x1, ?_, by rw [f2, mk_end (by omega) (Nat.le_refl _) (by omega), x6], x5, ?_⟩
    · rw [x3]
      cases g
      · exact ⟨(fun w => by cases w), fun w => absurd rfl w.1⟩
      · exact ⟨fun _ => ⟨by decide, x4⟩, fun _ => rfl⟩
    · rw [b2i_1]
  · obtain ⟨S', a1, a2, a3⟩ := r1 0 (Nat.zero_le _)
    obtain ⟨M', b1, b2⟩ := r2 300 (by omega)
    exact ⟨false, S', 0, M', a1, c2.tr a2, ⟨(fun w => by cases w), fun w => absurd w.2 a3⟩, b1, b2, ⟨(fun w => by cases w), fun w => absurd w (by decide)⟩⟩
theorem refS_4 (st F : Nat → Int32) (sc : Nat) : (refS st F sc).1 (41 + 4) = st := by
  funext k
  simp [refS]
theorem refS_5 (st F : Nat → Int32) (sc k : Nat) : (refS st F sc).1 (41 + 5) k = F k := by simp [refS]
theorem refS_7 (st F : Nat → Int32) (sc : Nat) : (refS st F sc).1 41 7 = nI sc := by simp [refS]
theorem refM_1 (cd F : Nat → Int32) : (refM cd F).1 71 = cd := by
  funext k
  simp [refM]
theorem refM_7 (cd F : Nat → Int32) (k : Nat) : (refM cd F).1 77 k = F k := by simp [refM]
theorem fin_test {st cd : Nat → Int32} {i j k l sc : Nat} (h : EB st cd i j k l) (hst : st j = 0) (hj : j < sc) (hs : sc ≤ 288) (hl : l ≤ 260) (F : Nat → Int32) : ∃ g, TestC st (nI sc) (nI i) F g ∧ TestM cd (nI k) (nI l) F g := by
  have hL : isL 41 := Or.inl rfl
  obtain ⟨g, S', r, M', a1, a2, a3, a4, a5, a6⟩ := test_pair (F := F) h hst hj hs hl hL (refS_4 st F sc) (refS_7 st F sc) (fun k _ => refS_5 st F sc k) (refM_1 cd F) (fun k _ => refM_7 cd F k)
  refine ⟨g, fun o S q1 q2 q3 q4 => ?_, fun M q1 q2 => ?_⟩
  · obtain ⟨g2, S2, r2, M2, b1, b2, b3, b4, b5, b6⟩ := test_pair (F := F) h hst hj hs hl q1 q2 q3 q4 (refM_1 cd F) (fun k _ => refM_7 cd F k)
    rw [a4] at b4
    have er : r = r2 := congrArg Prod.fst (Option.some.inj b4)
    refine ⟨S2, b1, b2, ?_⟩
    rw [a6, er, ← b6]
    exact b3
  · obtain ⟨g2, S2, r2, M2, b1, b2, b3, b4, b5, b6⟩ := test_pair (F := F) h hst hj hs hl hL (refS_4 st F sc) (refS_7 st F sc) (fun k _ => refS_5 st F sc k) q1 q2
    rw [a1] at b1
    have es : S' = S2 := Option.some.inj b1
    refine ⟨r2, M2, b4, b5, ?_⟩
    rw [a3, es, ← b3]
    exact b6
theorem wor_pair {st cd F : Nat → Int32} {i j k l sc o m : Nat} {S M : St} (h : EA st cd i j k l m) (hm : m ≤ 32) (hst : st j = 0) (hj : j < sc) (hs : sc ≤ 288) (hl : l ≤ 260) (hL : isL o) (h4 : S.1 (o + 4) = st) (h7 : S.1 o 7 = nI sc) (h5 : ∀ k, k < 9 → S.1 (o + 5) k = F k) (m1 : M.1 71 = cd) (m2 : ∀ k, k < 9 → M.1 77 k = F k) : ∃ (w : Int32) (S' M' : St), fX2_work o S (nI i) = some S' ∧ FrL o S S' ∧ w = (if S'.1 o 10 = 0 then S'.1 (o + 6) 0 else 0) ∧ fX12_reckonsTo M (nI k) (nI l) = some (w, M') ∧ FrK M M' := by
  have hij := h.1
  have hkl := h.2.1
  obtain ⟨c1, c2⟩ := work_cs (i := i) (j := j) hL hs (by omega) h4 h7 h5
  rw [work_e, reck_e M (by omega)]
  rcases h.2.2 F o sc _ 0 M 0 l c1 ⟨Nat.le_refl _, hl, fun q _ _ => by rw [m1], m2⟩ (by omega) (by omega) with ⟨v, S1, M1, x1, x2, x3, x4, x5, x6, x7, x8, x9, x10⟩ | ⟨r1, r2⟩
  · obtain ⟨t, t1, t2⟩ := x9 0 (Nat.zero_le _)
    obtain ⟨f, f1, f2⟩ := x10 300 (by omega)
    have e4 : S1.1 (o + 4) j = 0 := by rw [(c2.tr x1).2 (o + 4) j (by omega) (by omega), h4]; exact hst
    refine ⟨v, S1, M1, by rw [t2, wk_stop e4 (by omega) (by omega)], c2.tr x1, by rw [if_pos x5, x3], by rw [f2, mk_end (by omega) (Nat.le_refl _) (by omega), x7], x6⟩
  · obtain ⟨S', a1, a2, a3⟩ := r1 0 (Nat.zero_le _)
    obtain ⟨M', b1, b2⟩ := r2 300 (by omega)
    exact ⟨0, S', M', a1, c2.tr a2, by rw [if_neg a3], b1, b2⟩
theorem fin_wor {st cd : Nat → Int32} {i j k l sc m : Nat} (h : EA st cd i j k l m) (hm : m ≤ 32) (hst : st j = 0) (hj : j < sc) (hs : sc ≤ 288) (hl : l ≤ 260) (F : Nat → Int32) : ∃ w, WorC st (nI sc) (nI i) F w ∧ WorM cd (nI k) (nI l) F w := by
  have hL : isL 41 := Or.inl rfl
  obtain ⟨w, S', M', a1, a2, a3, a4, a5⟩ := wor_pair (F := F) h hm hst hj hs hl hL (refS_4 st F sc) (refS_7 st F sc) (fun k _ => refS_5 st F sc k) (refM_1 cd F) (fun k _ => refM_7 cd F k)
  refine ⟨w, fun o S q1 q2 q3 q4 => ?_, fun M q1 q2 => ?_⟩
  · obtain ⟨w2, S2, M2, b1, b2, b3, b4, b5⟩ := wor_pair (F := F) h hm hst hj hs hl q1 q2 q3 q4 (refM_1 cd F) (fun k _ => refM_7 cd F k)
    rw [a4] at b4
    have er : w = w2 := congrArg Prod.fst (Option.some.inj b4)
    exact ⟨S2, b1, b2, er.trans b3⟩
  · obtain ⟨w2, S2, M2, b1, b2, b3, b4, b5⟩ := wor_pair (F := F) h hm hst hj hs hl hL (refS_4 st F sc) (refS_7 st F sc) (fun k _ => refS_5 st F sc k) q1 q2
    rw [a1] at b1
    have es : S' = S2 := Option.some.inj b1
    refine ⟨M2, ?_, b5⟩
    rw [b4, b3, ← es, ← a3]
