-- a way of the terrace's text
def num (b : Nat → Nat) (n m p : Nat) : Nat × Nat × Int32 := if dgB (sg b n p) = true then ((dgs b n m p 0).1, (dgs b n m p 0).2.1, if (dgs b n m p 0).2.2 = true then 0 else flt 2 (dgs b n m p 0).1) else (p, 0, flt 1 p)
theorem bnd_pos {m : Nat} (h : m ≤ 5) : 0 < bnd m := by
  have : ∀ k, k < 6 → 0 < bnd k := by decide
  exact this m (by omega)
theorem num_bd {b : Nat → Nat} (hb : ∀ j, b j < 256) {n m p : Nat} (hm : m ≤ 5) (hp : p ≤ n) : (num b n m p).1 ≤ n ∧ (num b n m p).2.1 < 100000 := by
  unfold num
  by_cases c : dgB (sg b n p) = true
  · rw [if_pos c]
    obtain ⟨a1, a2, a3⟩ := dgs_bd (n := n) hb m p 0 hp (bnd_pos hm)
    exact ⟨a1, a3⟩
  · rw [if_neg c]
    exact ⟨hp, by show 0 < 100000; decide⟩
theorem rn16n {S : St} {m : Nat} (hv : S.1 3 4 ≠ 0) (f : Nat) : fX0_readNumber_16 (f + 1) S (nI m) 0 0 = some (0, S) := by
  show bX0_readNumber_16 _ _ _ _ _ = _
  unfold bX0_readNumber_16
  have : decide (S.1 3 4 = 0) = false := by simpa using hv
  rw [fine0, this, bi_some, b2i_f, if_pos rfl, ite_self]
theorem num_t {b : Nat → Nat} {n m p : Nat} (c : dgB (sg b n p) = true) : num b n m p = ((dgs b n m p 0).1, (dgs b n m p 0).2.1, if (dgs b n m p 0).2.2 = true then 0 else flt 2 (dgs b n m p 0).1) := if_pos c
theorem num_f {b : Nat → Nat} {n m p : Nat} (c : dgB (sg b n p) = false) : num b n m p = (p, 0, flt 1 p) := if_neg (by rw [c]; decide)
theorem readNum0 {b : Nat → Nat} (hb : ∀ j, b j < 256) {z n m p : Nat} (hm : m ≤ 5) {S : St} (h : Cu b z n S p 0) : ∃ S', Ex 3 S S' ∧ Cu b z n S' (num b n m p).1 (num b n m p).2.2 ∧ fX0_readNumber S (nI m) = some (nI (num b n m p).2.1, S') := by
  have hp := h.2.2.2.1
  have hn := h.2.1
  have hz := h.2.2.1
  have e1 : fX0_readNumber S (nI m) = (if b2i (dgB (sg b n p)) = 0 then (bv (fX0_failHere S (1 : Int32)) fun S2 => fX0_readNumber_16 100 S2 (nI m) 0 0) else (fX0_readNumber_16 100 S (nI m) 0 0)) := by
    unfold fX0_readNumber fX0_readNumber_12
    rw [isDig0, bi_some, h.2.2.2.2.2.2.1]
  cases c : dgB (sg b n p) with
  | true =>
    rw [c, b2i_t, if_neg (by decide)] at e1
    obtain ⟨S', a1, a2, a3⟩ := rn16 hb hm m 0 p 0 100 S (by omega) h (bnd_pos hm) (by omega)
    rw [num_t c]
    exact ⟨S', a1, a2, e1.trans a3⟩
  | false =>
    rw [c, b2i_f, if_pos rfl, li 1, failH h, bv_some, rn16n (by rw [pI_same]; exact flt_ne (by decide) (by decide) (by omega)) 99] at e1
    rw [num_f c]
    exact ⟨_, (Ex.rf 3 S).put _ _, h.put, e1⟩
theorem readNum0n {S : St} (hv : S.1 3 4 ≠ 0) (m : Nat) : fX0_readNumber S (nI m) = some (0, S) := by
  unfold fX0_readNumber fX0_readNumber_12
  have h1 : fX0_readNumber_16 100 S (nI m) 0 0 = some (0, S) := rn16n hv 99
  rw [isDig0, bi_some, h1, failHn hv, bv_some, h1, ite_self]
def way (b : Nat → Nat) (n p : Nat) : Nat × Nat × Int32 := ((num b n 2 p).1, (num b n 2 p).2.1, if (num b n 2 p).2.2 = 0 then (if (num b n 2 p).2.1 ≤ 11 then 0 else flt 3 p) else (num b n 2 p).2.2)
theorem num_ne {b : Nat → Nat} (hb : ∀ j, b j < 256) {n m p : Nat} (hm : m ≤ 5) (hp : p ≤ n) (hn : n ≤ 260) (h : (num b n m p).2.2 ≠ 0) : (num b n m p).2.2 < 0 := by
  revert h
  unfold num
  by_cases c : dgB (sg b n p) = true
  · rw [if_pos c]
    obtain ⟨a1, a2, a3⟩ := dgs_bd (n := n) hb m p 0 hp (bnd_pos hm)
    show (if _ then _ else _) ≠ _ → (if _ then _ else _) < _
    by_cases c2 : (dgs b n m p 0).2.2 = true
    · rw [if_pos c2]
      intro h
      exact absurd rfl h
    · rw [if_neg c2]
      intro _
      exact flt_neg (by decide) (by decide) (by omega)
  · rw [if_neg c]
    intro _
    exact flt_neg (by decide) (by decide) (by omega)
theorem way_a {b : Nat → Nat} {n p : Nat} (c : (num b n 2 p).2.2 = 0) (c2 : (num b n 2 p).2.1 ≤ 11) : way b n p = ((num b n 2 p).1, (num b n 2 p).2.1, 0) := by unfold way; rw [if_pos c, if_pos c2]
theorem way_b {b : Nat → Nat} {n p : Nat} (c : (num b n 2 p).2.2 = 0) (c2 : ¬ (num b n 2 p).2.1 ≤ 11) : way b n p = ((num b n 2 p).1, (num b n 2 p).2.1, flt 3 p) := by unfold way; rw [if_pos c, if_neg c2]
theorem way_c {b : Nat → Nat} {n p : Nat} (c : ¬ (num b n 2 p).2.2 = 0) : way b n p = ((num b n 2 p).1, (num b n 2 p).2.1, (num b n 2 p).2.2) := by unfold way; rw [if_neg c]
theorem way_neg {b : Nat → Nat} (hb : ∀ j, b j < 256) {n p : Nat} (hp : p ≤ n) (hn : n ≤ 260) (h : (way b n p).2.2 ≠ 0) : (way b n p).2.2 < 0 := by
  by_cases c : (num b n 2 p).2.2 = 0
  · by_cases c2 : (num b n 2 p).2.1 ≤ 11
    · rw [way_a c c2] at h
      exact absurd rfl h
    · rw [way_b c c2]
      exact flt_neg (by decide) (by decide) (by omega)
  · rw [way_c c]
    exact num_ne hb (by decide) hp hn c
theorem readWayq {b : Nat → Nat} {z n p : Nat} {S S1 : St} {q : Nat × Nat × Int32} (hq : q.2.1 < 100000) (h6 : S.1 3 2 = nI p) (a1 : Ex 3 S S1) (a2 : Cu b z n S1 q.1 q.2.2) (a3 : fX0_readNumber S (nI 2) = some (nI q.2.1, S1)) : ∃ S', Ex 3 S S' ∧ Cu b z n S' q.1 (if q.2.2 = 0 then (if q.2.1 ≤ 11 then 0 else flt 3 p) else q.2.2) ∧ fX9_readWay S = some (nI q.2.1, S') := by
  obtain ⟨q1, q2, q3⟩ := q
  have hq : q2 < 100000 := hq
  have a2 : Cu b z n S1 q1 q3 := a2
  have a3 : fX0_readNumber S (nI 2) = some (nI q2, S1) := a3
  show ∃ S', Ex 3 S S' ∧ Cu b z n S' q1 (if q3 = 0 then (if q2 ≤ 11 then 0 else flt 3 p) else q3) ∧ fX9_readWay S = some (nI q2, S')
  have e1 : fX9_readWay S = (if nI q2 ≤ nI 11 then (some (nI q2, S1)) else (bv (fX0_fail S1 (nI 3) (nI p)) fun S2 => some (nI q2, S2))) := by
    unfold fX9_readWay
    rw [h6, bV_e, li 2, a3, bi_some, li 11, li 3]
  by_cases c : q2 ≤ 11
  · rw [if_pos (show nI q2 ≤ nI 11 by rw [nle (by omega) (by decide)]; exact c)] at e1
    refine ⟨S1, a1, ?_, e1⟩
    rw [if_pos c]
    by_cases c2 : q3 = 0
    · rw [if_pos c2]
      rw [c2] at a2
      exact a2
    · rw [if_neg c2]
      exact a2
  · rw [if_neg (show ¬ nI q2 ≤ nI 11 by rw [nle (by omega) (by decide)]; exact c)] at e1
    by_cases c2 : q3 = 0
    · rw [c2] at a2
      rw [fail0 a2, bv_some] at e1
      refine ⟨pI S1 3 4 (flt 3 p), a1.put _ _, ?_, e1⟩
      rw [if_pos c2, if_neg c]
      exact a2.put
    · rw [fail0n (by rw [a2.2.2.2.2.2.2.2]; exact c2), bv_some] at e1
      refine ⟨S1, a1, ?_, e1⟩
      rw [if_neg c2]
      exact a2
theorem readWay0 {b : Nat → Nat} (hb : ∀ j, b j < 256) {z n p : Nat} {S : St} (h : Cu b z n S p 0) : ∃ S', Ex 3 S S' ∧ Cu b z n S' (way b n p).1 (way b n p).2.2 ∧ fX9_readWay S = some (nI (way b n p).2.1, S') := by
  obtain ⟨S1, a1, a2, a3⟩ := readNum0 hb (m := 2) (by decide) h
  obtain ⟨n1, n2⟩ := num_bd (n := n) (m := 2) (p := p) hb (by decide) h.2.2.2.1
  exact readWayq n2 h.2.2.2.2.2.1 a1 a2 a3
theorem readWay0n {S : St} (hv : S.1 3 4 ≠ 0) : fX9_readWay S = some (0, S) := by
  unfold fX9_readWay
  rw [bV_e, li 2, readNum0n hv, bi_some, if_pos (by decide)]
/-- cells of the model's reading may differ -/
def E55 (M M' : St) : Prop := M'.2 = M.2 ∧ ∀ o k, ¬ (o = 55 ∧ (k = 12 ∨ k = 14 ∨ k = 15)) → M'.1 o k = M.1 o k
theorem E55.rf (M : St) : E55 M M := ⟨rfl, fun _ _ _ => rfl⟩
theorem E55.tr {M M1 M2 : St} (h : E55 M M1) (h2 : E55 M1 M2) : E55 M M2 := ⟨h2.1.trans h.1, fun o k hc => (h2.2 o k hc).trans (h.2 o k hc)⟩
theorem E55.put (M : St) {k : Nat} (hk : k = 12 ∨ k = 14 ∨ k = 15) (v : Int32) : E55 M (pI M 55 k v) := ⟨rfl, fun o j hc => pI_cell M v (by rintro ⟨rfl, rfl⟩; exact hc ⟨rfl, hk⟩)⟩
theorem rw27 {b : Nat → Nat} {n fr : Nat} : ∀ r p w f M, fr ≤ p → p + r = fr + 2 → Mu b n M p → M.1 55 15 = nI w → w < bnd r → r + 1 < f → ∃ M', E55 M M' ∧ Mu b n M' (dgs b n r p w).1 ∧ M'.1 55 15 = nI (dgs b n r p w).2.1 ∧ fX12_readsWithin_27 f M (nI fr) = (if (dgs b n r p w).2.2 = true then (if (dgs b n r p w).2.1 < 12 then some (1, M') else some (0, pI M' 55 14 (flt 3 fr))) else some (0, pI M' 55 14 (flt 2 (dgs b n r p w).1))) := by
  intro r
  induction r with
  | zero =>
    intro p w f M hfr hr h hw hb hf
    obtain ⟨f, rfl⟩ : ∃ f', f = f' + 1 := ⟨f - 1, by omega⟩
    have hb : w < 100000 := hb
    have h5 := h.2.2.2.2.1
    have h3 := h.2.2.1
    have h4 := h.2.2.2.1
    refine ⟨M, E55.rf M, h, hw, ?_⟩
    have e1 : fX12_readsWithin_27 (f + 1) M (nI fr) = bX12_readsWithin_27 (fX12_readsWithin_27 f) M (nI fr) := rfl
    unfold bX12_readsWithin_27 at e1
    rw [isDig12 h, bi_some, h5, hw, li 2, li 3, li 12, nI_add, wrong12, wrong12, bi_some, bi_some] at e1
    have hd : dgs b n 0 p w = (p, w, !dgB (sg b n p)) := rfl
    rw [e1, hd]
    cases c : dgB (sg b n p) with
    | false =>
      rw [b2i_f, if_pos rfl, if_pos rfl, if_pos (show (!false) = true from rfl)]
      by_cases c2 : w < 12
      · rw [if_pos (show nI w < nI 12 by rw [nlt (by omega) (by decide)]; exact c2), if_pos c2]
      · rw [if_neg (show ¬ nI w < nI 12 by rw [nlt (by omega) (by decide)]; exact c2), if_neg c2]
    | true =>
      rw [b2i_t, if_neg (show ¬ (1 : Int32) = 0 by decide), if_pos (show nI p = nI (fr + 2) by rw [neq (by omega) (by omega)]; omega), if_neg (show ¬ (!true) = true by decide), if_pos (Or.inl rfl)]
  | succ r ih =>
    intro p w f M hfr hr h hw hb hf
    obtain ⟨f, rfl⟩ : ∃ f', f = f' + 1 := ⟨f - 1, by omega⟩
    have h5 := h.2.2.2.2.1
    have h3 := h.2.2.1
    have h4 := h.2.2.2.1
    have hbl := bnd_le (r + 1)
    have e1 : fX12_readsWithin_27 (f + 1) M (nI fr) = bX12_readsWithin_27 (fX12_readsWithin_27 f) M (nI fr) := rfl
    by_cases c : dgB (sg b n p) = true
    · obtain ⟨c1, c2, c3⟩ := dg_in h.2.1 c
      have hd : dgs b n (r + 1) p w = dgs b n r (p + 1) (10 * w + (b p - 48)) := by rw [dgs, if_pos c]
      rw [bnd] at hb
      have m1 : Mu b n (pI M 55 15 (nI (10 * w + (b p - 48)))) p := h.oth (pI_row _ _ (by decide)) (pI_cell _ _ (by decide)) (pI_cell _ _ (by decide))
      obtain ⟨M', a1, a2, a3, a4⟩ := ih (p + 1) (10 * w + (b p - 48)) f (pI (pI M 55 15 (nI (10 * w + (b p - 48)))) 55 12 (nI (p + 1))) (by omega) (by omega) (m1.mv (by omega)) (by rw [pI_cell _ _ (by decide), pI_same]) (by omega) (by omega)
      rw [hd]
      refine ⟨M', ((E55.put M (by decide) _).tr (E55.put _ (by decide) _)).tr a1, a2, a3, ?_⟩
      rw [e1]
      unfold bX12_readsWithin_27
      rw [isDig12 h, bi_some, c, b2i_t, if_neg (by decide), h5, li 2, nI_add, if_neg (show ¬ nI p = nI (fr + 2) by rw [neq (by omega) (by omega)]; omega), here12 h, bi_some, hw, sg_lt c1, dig_e c2, bS_e, m1.2.2.2.2.1, nI_1, bS_e]
      exact a4
    · have hd : dgs b n (r + 1) p w = (p, w, true) := by rw [dgs, if_neg c]
      have c' : dgB (sg b n p) = false := by simpa using c
      rw [hd]
      refine ⟨M, E55.rf M, h, hw, ?_⟩
      unfold bX12_readsWithin_27 at e1
      rw [isDig12 h, bi_some, hw, li 3, li 12, wrong12, bi_some, c', b2i_f, if_pos rfl, if_pos rfl] at e1
      rw [e1, if_pos (show (p, w, true).2.2 = true from rfl)]
      by_cases c2 : w < 12
      · rw [if_pos (show nI w < nI 12 by rw [nlt (by omega) (by decide)]; exact c2), if_pos (show (p, w, true).2.1 < 12 from c2)]
      · rw [if_neg (show ¬ nI w < nI 12 by rw [nlt (by omega) (by decide)]; exact c2), if_neg (show ¬ (p, w, true).2.1 < 12 from c2)]
def WyM (b : Nat → Nat) (n p : Nat) (M' : St) : Prop := if (way b n p).2.2 = 0 then Mu b n M' (way b n p).1 ∧ M'.1 55 15 = nI (way b n p).2.1 ∧ (way b n p).2.1 < 12 else M'.1 55 14 = (way b n p).2.2
theorem within12 {b : Nat → Nat} {n p : Nat} {M : St} (h : Mu b n M p) : ∃ M', E55 M M' ∧ WyM b n p M' ∧ fX12_readsWithin M = some (b2i (decide ((way b n p).2.2 = 0)), M') := by
  have h5 := h.2.2.2.2.1
  have h3 := h.2.2.1
  have h4 := h.2.2.2.1
  have e1 : fX12_readsWithin M = (if b2i (dgB (sg b n p)) = 0 then (bi (fX12_wrongAt M (nI 1) (nI p)) fun r5 S3 => if r5 = 0 ∨ r5 = 1 then some (r5, S3) else none) else (fX12_readsWithin_27 100 (pI M 55 15 0) (nI p))) := by
    unfold fX12_readsWithin
    rw [bV_e, isDig12 h, bi_some, h5, bS_e]
    rfl
  unfold WyM
  cases c : dgB (sg b n p) with
  | false =>
    have hne : flt 1 p ≠ 0 := flt_ne (by decide) (by decide) (by omega)
    have en : num b n 2 p = (p, 0, flt 1 p) := num_f c
    have ew : way b n p = (p, 0, flt 1 p) := by rw [way_c (by rw [en]; exact hne), en]
    have ed : decide (flt 1 p = 0) = false := by simpa using hne
    rw [c, b2i_f, if_pos rfl, wrong12, bi_some, if_pos (Or.inl rfl)] at e1
    refine ⟨pI M 55 14 (flt 1 p), E55.put M (by decide) _, ?_, ?_⟩
    · rw [ew, if_neg hne]
      exact pI_same _ _ _ _
    · rw [e1, ew, ed]
      rfl
  | true =>
    have m1 : Mu b n (pI M 55 15 0) p := h.oth (pI_row _ _ (by decide)) (pI_cell _ _ (by decide)) (pI_cell _ _ (by decide))
    obtain ⟨M', a1, a2, a3, a4⟩ := rw27 (fr := p) 2 p 0 100 (pI M 55 15 0) (Nat.le_refl _) rfl m1 (pI_same _ _ _ _) (by decide) (by decide)
    obtain ⟨b1, b2, b3⟩ := dgs_bd (n := n) h.2.1 2 p 0 h4 (by decide)
    rw [c, b2i_t, if_neg (by decide), a4] at e1
    have en : num b n 2 p = ((dgs b n 2 p 0).1, (dgs b n 2 p 0).2.1, if (dgs b n 2 p 0).2.2 = true then 0 else flt 2 (dgs b n 2 p 0).1) := num_t c
    have e0 := (E55.put M (show 15 = 12 ∨ 15 = 14 ∨ 15 = 15 by decide) 0).tr a1
    by_cases c2 : (dgs b n 2 p 0).2.2 = true
    · rw [if_pos c2] at e1 en
      by_cases c3 : (dgs b n 2 p 0).2.1 < 12
      · rw [if_pos c3] at e1
        have ew : way b n p = ((dgs b n 2 p 0).1, (dgs b n 2 p 0).2.1, 0) := by rw [way_a (by rw [en]) (by rw [en]; show (dgs b n 2 p 0).2.1 ≤ 11; omega), en]
        refine ⟨M', e0, ?_, ?_⟩
        · rw [ew, if_pos rfl]
          exact ⟨a2, a3, c3⟩
        · rw [e1, ew]
          rfl
      · rw [if_neg c3] at e1
        have hne : flt 3 p ≠ 0 := flt_ne (by decide) (by decide) (by omega)
        have ew : way b n p = ((dgs b n 2 p 0).1, (dgs b n 2 p 0).2.1, flt 3 p) := by rw [way_b (by rw [en]) (by rw [en]; show ¬ (dgs b n 2 p 0).2.1 ≤ 11; omega), en]
        have ed : decide (flt 3 p = 0) = false := by simpa using hne
        refine ⟨_, e0.tr (E55.put _ (show 14 = 12 ∨ 14 = 14 ∨ 14 = 15 by decide) (flt 3 p)), ?_, ?_⟩
        · rw [ew, if_neg hne]
          exact pI_same _ _ _ _
        · rw [e1, ew, ed]
          rfl
    · rw [if_neg c2] at e1 en
      have hne : flt 2 (dgs b n 2 p 0).1 ≠ 0 := flt_ne (by decide) (by decide) (by omega)
      have ew : way b n p = ((dgs b n 2 p 0).1, (dgs b n 2 p 0).2.1, flt 2 (dgs b n 2 p 0).1) := by rw [way_c (by rw [en]; exact hne), en]
      have ed : decide (flt 2 (dgs b n 2 p 0).1 = 0) = false := by simpa using hne
      refine ⟨_, e0.tr (E55.put _ (show 14 = 12 ∨ 14 = 14 ∨ 14 = 15 by decide) (flt 2 (dgs b n 2 p 0).1)), ?_, ?_⟩
      · rw [ew, if_neg hne]
        exact pI_same _ _ _ _
      · rw [e1, ew, ed]
        rfl
