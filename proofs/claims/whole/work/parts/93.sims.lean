-- the rota's text: what is carried
def FrR (S S' : St) : Prop := S'.2 = S.2 ∧ ∀ o, o ≠ 3 → o ≠ 5 → o ≠ 6 → S'.1 o = S.1 o
theorem FrR.rf (S : St) : FrR S S := ⟨rfl, fun _ _ _ _ => rfl⟩
theorem FrR.tr {S S1 S2 : St} (h : FrR S S1) (h2 : FrR S1 S2) : FrR S S2 := ⟨h2.1.trans h.1, fun o a b c => (h2.2 o a b c).trans (h.2 o a b c)⟩
theorem FrR.ex {S S' : St} (h : Ex 3 S S') : FrR S S' := ⟨h.1, fun o a _ _ => h.2 o a⟩
theorem FrR.put (S : St) {o : Nat} (h : o = 3 ∨ o = 5 ∨ o = 6) (k : Nat) (v : Int32) : FrR S (pI S o k v) := ⟨rfl, fun j a b c => pI_row S v (by omega)⟩
def rqM (o k : Nat) : Prop := (o = 55 ∧ (k = 12 ∨ k = 13 ∨ k = 14 ∨ k = 17 ∨ k = 19 ∨ (46 ≤ k ∧ k ≤ 49))) ∨ (82 ≤ o ∧ o ≤ 86)
def FrQ (M M' : St) : Prop := M'.2 = M.2 ∧ ∀ o k, ¬ rqM o k → M'.1 o k = M.1 o k
theorem FrQ.rf (M : St) : FrQ M M := ⟨rfl, fun _ _ _ => rfl⟩
theorem FrQ.tr {M M1 M2 : St} (h : FrQ M M1) (h2 : FrQ M1 M2) : FrQ M M2 := ⟨h2.1.trans h.1, fun o k a => (h2.2 o k a).trans (h.2 o k a)⟩
theorem FrQ.put (M : St) {o k : Nat} (h : rqM o k) (v : Int32) : FrQ M (pI M o k v) := ⟨rfl, fun a c hc => pI_cell M v (by rintro ⟨rfl, rfl⟩; exact hc h)⟩
def StkE (d : Nat) (M M' : St) : Prop := ∀ o i, 84 ≤ o → o ≤ 86 → i < d → M'.1 o i = M.1 o i
theorem StkE.rf (d : Nat) (M : St) : StkE d M M := fun _ _ _ _ _ => rfl
theorem StkE.tr {d : Nat} {M M1 M2 : St} (h : StkE d M M1) (h2 : StkE d M1 M2) : StkE d M M2 := fun o i a b c => (h2 o i a b c).trans (h o i a b c)
theorem StkE.put (d : Nat) (M : St) {o k : Nat} (h : ¬ (84 ≤ o ∧ o ≤ 86 ∧ k < d)) (v : Int32) : StkE d M (pI M o k v) := fun a i h1 h2 h3 => pI_cell M v (by rintro ⟨rfl, rfl⟩; exact h ⟨h1, h2, h3⟩)
theorem StkE.le {d e : Nat} {M M' : St} (h : StkE e M M') (hd : d ≤ e) : StkE d M M' := fun o i a b c => h o i a b (by omega)
def strN (nh : Nat) (x : Int32) : Prop := x ≠ -1 ∧ hoB (nI nh) x = false
def DrL (nh : Nat) (S M : St) (l : Nat) : Prop := l ≤ 12 ∧ S.1 5 2 = nI l ∧ M.1 55 46 = nI l ∧ (∀ j, j < l → S.1 6 j = M.1 82 j) ∧ ((S.1 5 3 = -1 ∧ ∀ j, j < l → ¬ strN nh (M.1 82 j)) ∨ ∃ j q, j < l ∧ q < 261 ∧ strN nh (M.1 82 j) ∧ (∀ i, i < j → ¬ strN nh (M.1 82 i)) ∧ S.1 5 3 = nI q ∧ M.1 83 j = nI q)
def RtI (b : Nat → Nat) (z n t nh : Nat) (S M : St) (p l d : Nat) : Prop := Cu b z n S p 0 ∧ Mu b n M p ∧ n ≤ 60 ∧ nh < 65536 ∧ S.1 t 7 = nI nh ∧ M.1 55 8 = nI nh ∧ DrL nh S M l ∧ M.1 55 47 = nI d
theorem DrL.cl {nh : Nat} {S S' M : St} {l : Nat} (h : DrL nh S M l) (e : Ex 3 S S') : DrL nh S' M l := by
  unfold DrL
  rw [e.2 5 (by decide), e.2 6 (by decide)]
  exact h
theorem DrL.md {nh : Nat} {S M M' : St} {l : Nat} (h : DrL nh S M l) (e1 : M'.1 55 46 = M.1 55 46) (e2 : M'.1 82 = M.1 82) (e3 : M'.1 83 = M.1 83) : DrL nh S M' l := by
  unfold DrL
  rw [e1, e2, e3]
  exact h
-- repeating
theorem rep_sim {nh : Nat} {S M : St} {l st tm : Nat} (hD : DrL nh S M l) (hs : st ≤ l) (h1 : 1 ≤ tm) (h9 : tm ≤ 9) (hle : st + (l - st) * tm ≤ 12) : ∃ S' M', fX5_repeat_36 100 S (nI st) (nI tm) (nI (l - st)) (nI l) = some S' ∧ fX12_repeats_33 100 M (nI st) (nI tm) (nI (l - st)) (nI l) = some (1, M') ∧ DrL nh S' M' (st + (l - st) * tm) ∧ FrR S S' ∧ S'.1 3 = S.1 3 ∧ FrQ M M' ∧ M'.1 55 12 = M.1 55 12 ∧ M'.1 55 13 = M.1 55 13 ∧ M'.1 55 47 = M.1 55 47 ∧ StkE 2 M M' := by
  have hge : l ≤ st + (l - st) * tm := by
    have := Nat.le_mul_of_pos_right (l - st) h1
    omega
  generalize hT : st + (l - st) * tm = T at *
  have hmul : nI st + nI (l - st) * nI tm = nI T := by rw [pk_mul, nI_add, hT]
  obtain ⟨d0, d1, d2, d3, d4⟩ := hD
  have kc := loop_inv (F := fun f S i => fX5_repeat_36 f S (nI st) (nI tm) (nI (l - st)) (nI i)) (fun i S' => l ≤ i ∧ Ex 6 S S' ∧ (∀ j, j < l → S'.1 6 j = S.1 6 j) ∧ (∀ j, l ≤ j → j < i → S'.1 6 j = S'.1 6 (j - (l - st)))) (fun S' => some (pI S' 5 2 (nI T))) T (fun f S' i hi hq => by
      obtain ⟨q0, q1, q2, q3⟩ := hq
      refine ⟨pI S' 6 i (S'.1 6 (i - (l - st))), ?_, by omega, q1.put _ _, fun j hj => ?_, fun j hj hj2 => ?_⟩
      · show bX5_repeat_36 _ _ _ _ _ _ = _
        unfold bX5_repeat_36
        rw [hmul, if_neg (by rw [nle (by omega) (by omega)]; omega), pk_sub (by omega), if_pos (inbT (by omega) (by decide)), if_pos (inbT (by omega) (by decide)), nI_clamp (by omega), nI_clamp (by omega), bS_e, bV_e, nI_1]
      · rw [pI_cell _ _ (by omega)]; exact q2 j hj
      · by_cases e : j = i
        · subst e
          rw [pI_same]
          by_cases e2 : j - (l - st) = j
          · rw [e2, pI_same]
          · rw [pI_cell _ _ (by omega)]
        · rw [pI_cell _ _ (by omega), pI_cell _ _ (by omega)]
          exact q3 j hj (by omega)) (fun f S' hq => by
      show bX5_repeat_36 _ _ _ _ _ _ = _
      unfold bX5_repeat_36
      rw [hmul, if_pos (by rw [nle (by omega) (by omega)]; omega), bS_e]) (T - l) 100 S l (by omega) (by omega) ⟨Nat.le_refl _, Ex.rf _ _, fun _ _ => rfl, fun j h1 h2 => by omega⟩
  have km := loop_inv (F := fun f S i => fX12_repeats_33 f S (nI st) (nI tm) (nI (l - st)) (nI i)) (fun i M' => l ≤ i ∧ (M'.2 = M.2 ∧ ∀ o, o ≠ 82 → o ≠ 83 → M'.1 o = M.1 o) ∧ (∀ j, j < l → M'.1 82 j = M.1 82 j ∧ M'.1 83 j = M.1 83 j) ∧ (∀ j, l ≤ j → j < i → M'.1 82 j = M'.1 82 (j - (l - st)) ∧ M'.1 83 j = M'.1 83 (j - (l - st)))) (fun M' => some (1, pI M' 55 46 (nI T))) T (fun f M' i hi hq => by
      obtain ⟨q0, q1, q2, q3⟩ := hq
      refine ⟨pI (pI M' 82 i (M'.1 82 (i - (l - st)))) 83 i (M'.1 83 (i - (l - st))), ?_, by omega, ⟨q1.1, fun o h1 h2 => by rw [pI_row _ _ h2, pI_row _ _ h1]; exact q1.2 o h1 h2⟩, fun j hj => ?_, fun j hj hj2 => ?_⟩
      · show bX12_repeats_33 _ _ _ _ _ _ = _
        unfold bX12_repeats_33
        rw [hmul, if_neg (by rw [nle (by omega) (by omega)]; omega), pk_sub (by omega)]
        simp only [inbT (show i - (l - st) < 12 by omega) (show 12 < 2 ^ 31 by decide), inbT (show i < 12 by omega) (show 12 < 2 ^ 31 by decide), if_true, nI_clamp (show i - (l - st) < 2 ^ 31 by omega), nI_clamp (show i < 2 ^ 31 by omega), bS_e, bV_e, nI_1, pI_row _ _ (show 83 ≠ 82 by decide)]
      · rw [pI_row _ _ (by decide), pI_cell _ _ (by omega), pI_cell _ _ (by omega), pI_row _ _ (by decide)]; exact q2 j hj
      · rw [pI_row _ _ (show 82 ≠ 83 by decide)]
        by_cases e : j = i
        · subst e
          rw [pI_same, pI_same]
          by_cases e2 : j - (l - st) = j
          · rw [e2, pI_same, pI_same]
            exact ⟨rfl, rfl⟩
          · rw [pI_cell _ _ (by omega), pI_cell _ _ (by omega), pI_row _ _ (by decide)]
            exact ⟨rfl, rfl⟩
        · have ne : ∀ o : Nat, ¬ (o = o ∧ j = i) := fun o w => e w.2
          have ne2 : ∀ o : Nat, ¬ (o = o ∧ j - (l - st) = i) := fun o w => by omega
          rw [pI_cell _ _ (ne 82), pI_cell _ _ (ne2 82), pI_cell _ _ (ne 83), pI_cell _ _ (ne2 83), pI_row _ _ (show 83 ≠ 82 by decide)]
          exact q3 j hj (by omega)) (fun f M' hq => by
      show bX12_repeats_33 _ _ _ _ _ _ = _
      unfold bX12_repeats_33
      rw [hmul, if_pos (by rw [nle (by omega) (by omega)]; omega), bS_e]) (T - l) 100 M l (by omega) (by omega) ⟨Nat.le_refl _, ⟨rfl, fun _ _ _ => rfl⟩, fun _ _ => ⟨rfl, rfl⟩, fun j h1 h2 => by omega⟩
  obtain ⟨S', ⟨_, a1, a2, a3⟩, a4⟩ := kc
  obtain ⟨M', ⟨_, c1, c2, c3⟩, c4⟩ := km
  have eqd : ∀ j, j < T → S'.1 6 j = M'.1 82 j := by
    intro j
    induction j using Nat.strongRecOn with
    | _ j ih =>
      intro hj
      by_cases e : j < l
      · rw [a2 j e, (c2 j e).1]; exact d3 j e
      · rw [a3 j (by omega) hj, (c3 j (by omega) hj).1]
        by_cases e2 : l = st
        · subst e2
          rw [Nat.sub_self, Nat.zero_mul, Nat.add_zero] at hT
          omega
        · exact ih (j - (l - st)) (by omega) (by omega)
  have strs : ∀ j, j < T → strN nh (M'.1 82 j) → ∃ i, i < l ∧ i ≤ j ∧ strN nh (M.1 82 i) := by
    intro j
    induction j using Nat.strongRecOn with
    | _ j ih =>
      intro hj hs2
      by_cases e : j < l
      · rw [(c2 j e).1] at hs2
        exact ⟨j, e, Nat.le_refl _, hs2⟩
      · rw [(c3 j (by omega) hj).1] at hs2
        by_cases e2 : l = st
        · subst e2
          rw [Nat.sub_self, Nat.zero_mul, Nat.add_zero] at hT
          omega
        · obtain ⟨i, i1, i2, i3⟩ := ih (j - (l - st)) (by omega) (by omega) hs2
          exact ⟨i, i1, by omega, i3⟩
  refine ⟨pI S' 5 2 (nI T), pI M' 55 46 (nI T), a4, c4, ⟨hle, pI_same _ _ _ _, pI_same _ _ _ _, fun j hj => ?_, ?_⟩, ⟨a1.1, fun o h1 h2 h3 => by rw [pI_row _ _ h2]; exact a1.2 o h3⟩, by rw [pI_row _ _ (by decide)]; exact a1.2 3 (by decide), ⟨c1.1, fun o k hk => ?_⟩, ?_, ?_, ?_, fun o i h1 h2 h3 => ?_⟩
  · rw [pI_row _ _ (by decide), pI_row _ _ (by decide)]; exact eqd j hj
  · have e53 : (pI S' 5 2 (nI T)).1 5 3 = S.1 5 3 := by rw [pI_cell _ _ (by decide), a1.2 5 (by decide)]
    rw [e53, pI_row _ _ (by decide), pI_row _ _ (by decide)]
    rcases d4 with ⟨k1, k2⟩ | ⟨j, q, k1, k2, k3, k4, k5, k6⟩
    · refine Or.inl ⟨k1, fun j hj hs2 => ?_⟩
      obtain ⟨i, i1, _, i3⟩ := strs j hj hs2
      exact k2 i i1 i3
    · refine Or.inr ⟨j, q, by omega, k2, by rw [(c2 j k1).1]; exact k3, fun i hi => by rw [(c2 i (by omega)).1]; exact k4 i hi, k5, by rw [(c2 j k1).2]; exact k6⟩
  · rw [pI_cell _ _ (by rintro ⟨rfl, rfl⟩; exact hk (by unfold rqM; omega)), c1.2 o (by rintro rfl; exact hk (by unfold rqM; omega)) (by rintro rfl; exact hk (by unfold rqM; omega))]
  · rw [pI_cell _ _ (by decide), c1.2 55 (by decide) (by decide)]
  · rw [pI_cell _ _ (by decide), c1.2 55 (by decide) (by decide)]
  · rw [pI_cell _ _ (by decide), c1.2 55 (by decide) (by decide)]
  · rw [pI_row _ _ (by omega), c1.2 o (by omega) (by omega)]
theorem repC {nh : Nat} {S M : St} {l st tm : Nat} (x : Int32) (hD : DrL nh S M l) (hs : st ≤ l) (h9 : tm ≤ 9) : fX5_repeat S (nI st) (nI tm) x = if st + (l - st) * tm ≤ 12 then fX5_repeat_36 100 S (nI st) (nI tm) (nI (l - st)) (nI l) else bv (fX0_fail S 6 x) fun S1 => some S1 := by
  have hb : (l - st) * tm ≤ 12 * 9 := Nat.mul_le_mul (by have := hD.1; omega) h9
  have hl := hD.1
  unfold fX5_repeat
  rw [hD.2.1, pk_sub hs, bV_e, pk_mul, nI_add, bV_e]
  by_cases c : st + (l - st) * tm ≤ 12
  · rw [if_pos c, if_pos (show nI (st + (l - st) * tm) ≤ (12 : Int32) by rw [li 12, nle (by omega) (by decide)]; exact c)]
  · rw [if_neg c, if_neg (show ¬ nI (st + (l - st) * tm) ≤ (12 : Int32) by rw [li 12, nle (by omega) (by decide)]; exact c)]
theorem repM {nh : Nat} {S M : St} {l st tm : Nat} (fi : Nat) (hD : DrL nh S M l) (hs : st ≤ l) (h9 : tm ≤ 9) : fX12_repeats M (nI st) (nI tm) (nI fi) = if st + (l - st) * tm ≤ 12 then fX12_repeats_33 100 M (nI st) (nI tm) (nI (l - st)) (nI l) else some (0, pI M 55 14 (flt 6 fi)) := by
  have hb : (l - st) * tm ≤ 12 * 9 := Nat.mul_le_mul (by have := hD.1; omega) h9
  have hl := hD.1
  unfold fX12_repeats
  rw [hD.2.2.1, pk_sub hs, bV_e, pk_mul, nI_add, bV_e, nI_add, show st + (l - st) = l by omega]
  by_cases c : st + (l - st) * tm ≤ 12
  · rw [if_pos c, if_pos (show nI (st + (l - st) * tm) ≤ (12 : Int32) by rw [li 12, nle (by omega) (by decide)]; exact c)]
  · rw [if_neg c, if_neg (show ¬ nI (st + (l - st) * tm) ≤ (12 : Int32) by rw [li 12, nle (by omega) (by decide)]; exact c), li 6, wrong12, bi_some, if_pos (Or.inl rfl)]
