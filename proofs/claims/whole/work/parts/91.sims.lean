-- terrace
theorem drop4 {S0 : St} {t nh : Nat} (hh : nh < 65536) (ht : t ≠ 9) (e : S0.1 t 7 = nI nh) : ∃ S', S'.2 = S0.2 ∧ (∀ o k, o ≠ 9 → S'.1 o k = S0.1 o k) ∧ (∀ j, j < 12 → S'.1 9 j = if hoB (nI nh) (S0.1 9 j) = true then S0.1 9 j else -1) ∧ fX4_dropStrangers t S0 = some S' := by
  have key := loop_inv (F := fun f S i => fX4_dropStrangers_2 t f S (nI i)) (fun i S => S.2 = S0.2 ∧ (∀ o k, o ≠ 9 → S.1 o k = S0.1 o k) ∧ ∀ j, j < 12 → S.1 9 j = if j < i then (if hoB (nI nh) (S0.1 9 j) = true then S0.1 9 j else -1) else S0.1 9 j) (fun S => some S) 12 (fun f S i hi hq => by
      obtain ⟨q1, q2, q3⟩ := hq
      have e9 : S.1 9 i = S0.1 9 i := by rw [q3 i hi, if_neg (by omega)]
      have e7 : S.1 t 7 = nI nh := by rw [q2 t 7 ht]; exact e
      have eb : fX4_dropStrangers_2 t (f + 1) S (nI i) = if hoB (nI nh) (S0.1 9 i) = true then fX4_dropStrangers_2 t f S (nI (i + 1)) else fX4_dropStrangers_2 t f (pI S 9 i (-1)) (nI (i + 1)) := by
        show bX4_dropStrangers_2 _ _ _ _ = _
        unfold bX4_dropStrangers_2
        rw [li 12, if_neg (by rw [nle (by decide) (by omega)]; omega), if_pos (inbT hi (by decide)), nI_clamp (by omega), hasHouse8, bi_some, e9, e7, ite_b2i, if_pos (inbT hi (by decide)), bS_e, bV_e, bV_e, nI_1]
      by_cases c : hoB (nI nh) (S0.1 9 i) = true
      · refine ⟨S, by show fX4_dropStrangers_2 _ _ _ _ = _; rw [eb, if_pos c], q1, q2, fun j hj => ?_⟩
        by_cases ej : j = i
        · subst ej; rw [e9, if_pos (by omega), if_pos c]
        · rw [q3 j hj]
          by_cases c2 : j < i
          · rw [if_pos c2, if_pos (show j < i + 1 by omega)]
          · rw [if_neg c2, if_neg (show ¬ j < i + 1 by omega)]
      · refine ⟨pI S 9 i (-1), by show fX4_dropStrangers_2 _ _ _ _ = _; rw [eb, if_neg c], q1, fun o k ho => ?_, fun j hj => ?_⟩
        · rw [pI_row _ _ ho]; exact q2 o k ho
        · by_cases ej : j = i
          · subst ej; rw [pI_same, if_pos (by omega), if_neg c]
          · rw [pI_cell _ _ (by omega), q3 j hj]
            by_cases c2 : j < i
            · rw [if_pos c2, if_pos (show j < i + 1 by omega)]
            · rw [if_neg c2, if_neg (show ¬ j < i + 1 by omega)]) (fun f S hq => by
      show bX4_dropStrangers_2 _ _ _ _ = _
      unfold bX4_dropStrangers_2
      rw [if_pos (by decide)]) 12 100 S0 0 rfl (by decide) ⟨rfl, fun _ _ _ => rfl, fun j _ => by rw [if_neg (Nat.not_lt_zero _)]⟩
  obtain ⟨S', ⟨k1, k2, k3⟩, k4⟩ := key
  exact ⟨S', k1, k2, fun j hj => by rw [k3 j hj, if_pos hj], k4⟩
theorem drop12 {M0 : St} {nh : Nat} (e : M0.1 55 8 = nI nh) : ∃ M', M'.2 = M0.2 ∧ (∀ o k, o ≠ 59 → M'.1 o k = M0.1 o k) ∧ (∀ j, j < 12 → M'.1 59 j = if hoB (nI nh) (M0.1 59 j) = true then M0.1 59 j else -1) ∧ fX12_terrace_213 300 M0 0 = some (M0.1 55 40, M') := by
  have key := loop_inv (F := fun f S i => fX12_terrace_213 f S (nI i)) (fun i S => S.2 = M0.2 ∧ (∀ o k, o ≠ 59 → S.1 o k = M0.1 o k) ∧ ∀ j, j < 12 → S.1 59 j = if j < i then (if hoB (nI nh) (M0.1 59 j) = true then M0.1 59 j else -1) else M0.1 59 j) (fun S => some (M0.1 55 40, S)) 12 (fun f S i hi hq => by
      obtain ⟨q1, q2, q3⟩ := hq
      have e9 : S.1 59 i = M0.1 59 i := by rw [q3 i hi, if_neg (by omega)]
      have e7 : S.1 55 8 = nI nh := by rw [q2 55 8 (by decide)]; exact e
      have eb : fX12_terrace_213 (f + 1) S (nI i) = if hoB (nI nh) (M0.1 59 i) = true then fX12_terrace_213 f S (nI (i + 1)) else fX12_terrace_213 f (pI S 59 i (-1)) (nI (i + 1)) := by
        show bX12_terrace_213 _ _ _ = _
        unfold bX12_terrace_213
        rw [li 12, if_neg (by rw [nle (by decide) (by omega)]; omega), if_pos (inbT hi (by decide)), nI_clamp (by omega), isHouse12, bi_some, e9, e7, ite_b2i, if_pos (inbT hi (by decide)), bS_e, bV_e, bV_e, nI_1]
      by_cases c : hoB (nI nh) (M0.1 59 i) = true
      · refine ⟨S, by show fX12_terrace_213 _ _ _ = _; rw [eb, if_pos c], q1, q2, fun j hj => ?_⟩
        by_cases ej : j = i
        · subst ej; rw [e9, if_pos (by omega), if_pos c]
        · rw [q3 j hj]
          by_cases c2 : j < i
          · rw [if_pos c2, if_pos (show j < i + 1 by omega)]
          · rw [if_neg c2, if_neg (show ¬ j < i + 1 by omega)]
      · refine ⟨pI S 59 i (-1), by show fX12_terrace_213 _ _ _ = _; rw [eb, if_neg c], q1, fun o k ho => ?_, fun j hj => ?_⟩
        · rw [pI_row _ _ ho]; exact q2 o k ho
        · by_cases ej : j = i
          · subst ej; rw [pI_same, if_pos (by omega), if_neg c]
          · rw [pI_cell _ _ (by omega), q3 j hj]
            by_cases c2 : j < i
            · rw [if_pos c2, if_pos (show j < i + 1 by omega)]
            · rw [if_neg c2, if_neg (show ¬ j < i + 1 by omega)]) (fun f S hq => by
      show bX12_terrace_213 _ _ _ = _
      unfold bX12_terrace_213
      rw [if_pos (by decide), hq.2.1 55 40 (by decide)]) 12 300 M0 0 rfl (by decide) ⟨rfl, fun _ _ _ => rfl, fun j _ => by rw [if_neg (Nat.not_lt_zero _)]⟩
  obtain ⟨S', ⟨k1, k2, k3⟩, k4⟩ := key
  exact ⟨S', k1, k2, fun j hj => by rw [k3 j hj, if_pos hj], k4⟩
theorem anew6 (S0 : St) : ∃ S', S'.2 = S0.2 ∧ (∀ o k, o ≠ 19 → o ≠ 20 → S'.1 o k = S0.1 o k) ∧ S'.1 19 1 = -1 ∧ S'.1 19 2 = 0 ∧ S'.1 19 3 = 0 ∧ (∀ k, 3 < k → S'.1 19 k = S0.1 19 k) ∧ (∀ j, j < 16 → S'.1 20 j = 0) ∧ fX6_startAnew 19 S0 = some S' := by
  unfold fX6_startAnew
  rw [bS_e, bS_e, bS_e]
  have key := loop_inv (F := fun f S i => fX6_startAnew_17 19 f S (nI i)) (fun i S => Ex 20 (pI (pI (pI S0 19 1 (-1)) 19 2 0) 19 3 0) S ∧ ∀ j, j < i → S.1 20 j = 0) (fun S => some S) 16 (fun f S i hi hq => by
      obtain ⟨q1, q2⟩ := hq
      refine ⟨pI S 20 i 0, ?_, q1.put _ _, fun j hj => ?_⟩
      · show bX6_startAnew_17 _ _ _ _ = _
        unfold bX6_startAnew_17
        rw [li 16, if_neg (by rw [nle (by decide) (by omega)]; omega), if_pos (inbT hi (by decide)), nI_clamp (by omega), bS_e, bV_e, nI_1]
      · by_cases e : j = i
        · subst e; rw [pI_same]
        · rw [pI_cell _ _ (by omega)]; exact q2 j (by omega)) (fun f S hq => by
      show bX6_startAnew_17 19 _ _ _ = _
      unfold bX6_startAnew_17
      rw [if_pos (by decide)]) 16 100 (pI (pI (pI S0 19 1 (-1)) 19 2 0) 19 3 0) 0 rfl (by decide) ⟨Ex.rf _ _, fun j hj => absurd hj (Nat.not_lt_zero _)⟩
  obtain ⟨S', ⟨k1, k2⟩, k3⟩ := key
  refine ⟨S', k1.1, fun o k h1 h2 => ?_, ?_, ?_, ?_, fun k hk => ?_, k2, k3⟩
  · rw [k1.2 o h2, pI_row _ _ h1, pI_row _ _ h1, pI_row _ _ h1]
  · rw [k1.2 19 (by decide), pI_cell _ _ (by decide), pI_cell _ _ (by decide), pI_same]
  · rw [k1.2 19 (by decide), pI_cell _ _ (by decide), pI_same]
  · rw [k1.2 19 (by decide), pI_same]
  · rw [k1.2 19 (by decide), pI_cell _ _ (by omega), pI_cell _ _ (by omega), pI_cell _ _ (by omega)]
theorem copy118 (M0 : St) : ∃ M', M'.2 = M0.2 ∧ (∀ o k, o ≠ 56 → ¬ (60 ≤ o ∧ o ≤ 63) → M'.1 o k = M0.1 o k) ∧ (∀ j, j < 16 → M'.1 60 j = M0.1 78 j ∧ M'.1 61 j = M0.1 79 j ∧ M'.1 62 j = M0.1 80 j ∧ M'.1 63 j = M0.1 81 j ∧ M'.1 56 j = 0) ∧ (∀ k, 16 ≤ k → M'.1 56 k = M0.1 56 k) ∧ fX12_terrace_118 300 M0 0 = fX12_terrace_213 300 (pI (pI (pI M' 56 16 (-1)) 56 17 0) 56 18 0) 0 := by
  have key := loop_inv (F := fun f S i => fX12_terrace_118 f S (nI i)) (fun i S => S.2 = M0.2 ∧ (∀ o k, o ≠ 56 → ¬ (60 ≤ o ∧ o ≤ 63) → S.1 o k = M0.1 o k) ∧ (∀ j, j < i → S.1 60 j = M0.1 78 j ∧ S.1 61 j = M0.1 79 j ∧ S.1 62 j = M0.1 80 j ∧ S.1 63 j = M0.1 81 j ∧ S.1 56 j = 0) ∧ (∀ k, 16 ≤ k → S.1 56 k = M0.1 56 k)) (fun S => fX12_terrace_213 300 (pI (pI (pI S 56 16 (-1)) 56 17 0) 56 18 0) 0) 16 (fun f S i hi hq => by
      obtain ⟨q1, q2, q3, q4⟩ := hq
      refine ⟨pI (pI (pI (pI (pI S 60 i (M0.1 78 i)) 61 i (M0.1 79 i)) 62 i (M0.1 80 i)) 63 i (M0.1 81 i)) 56 i 0, ?_, q1, fun o k h1 h2 => ?_, fun j hj => ?_, fun k hk => ?_⟩
      · show bX12_terrace_118 _ _ _ = _
        unfold bX12_terrace_118
        rw [li 16, if_neg (by rw [nle (by decide) (by omega)]; omega)]
        simp only [inbT hi (show 16 < 2 ^ 31 by decide), za, inbT (show i < 21 by omega) (show 21 < 2 ^ 31 by decide), if_true, nI_clamp (show i < 2 ^ 31 by omega), bS_e, bV_e, nI_1, pI_row _ _ (show 79 ≠ 60 by decide), pI_row _ _ (show 80 ≠ 60 by decide), pI_row _ _ (show 80 ≠ 61 by decide), pI_row _ _ (show 81 ≠ 60 by decide), pI_row _ _ (show 81 ≠ 61 by decide), pI_row _ _ (show 81 ≠ 62 by decide), q2 78 i (by decide) (by omega), q2 79 i (by decide) (by omega), q2 80 i (by decide) (by omega), q2 81 i (by decide) (by omega)]
      · rw [pI_row _ _ h1, pI_row _ _ (by omega), pI_row _ _ (by omega), pI_row _ _ (by omega), pI_row _ _ (by omega)]
        exact q2 o k h1 h2
      · simp only [pI_row _ _ (show 60 ≠ 56 by decide), pI_row _ _ (show 61 ≠ 56 by decide), pI_row _ _ (show 62 ≠ 56 by decide), pI_row _ _ (show 63 ≠ 56 by decide), pI_row _ _ (show 60 ≠ 63 by decide), pI_row _ _ (show 61 ≠ 63 by decide), pI_row _ _ (show 62 ≠ 63 by decide), pI_row _ _ (show 60 ≠ 62 by decide), pI_row _ _ (show 61 ≠ 62 by decide), pI_row _ _ (show 60 ≠ 61 by decide)]
        by_cases e : j = i
        · subst e
          rw [pI_same, pI_same, pI_same, pI_same, pI_same]
          exact ⟨rfl, rfl, rfl, rfl, rfl⟩
        · have ne : ∀ o : Nat, ¬ (o = o ∧ j = i) := fun o z => e z.2
          rw [pI_cell _ _ (ne 60), pI_cell _ _ (ne 61), pI_cell _ _ (ne 62), pI_cell _ _ (ne 63), pI_cell _ _ (ne 56)]
          simp only [pI_row _ _ (show 61 ≠ 60 by decide), pI_row _ _ (show 62 ≠ 60 by decide), pI_row _ _ (show 62 ≠ 61 by decide), pI_row _ _ (show 63 ≠ 60 by decide), pI_row _ _ (show 63 ≠ 61 by decide), pI_row _ _ (show 63 ≠ 62 by decide), pI_row _ _ (show 56 ≠ 60 by decide), pI_row _ _ (show 56 ≠ 61 by decide), pI_row _ _ (show 56 ≠ 62 by decide), pI_row _ _ (show 56 ≠ 63 by decide)]
          exact q3 j (by omega)
      · rw [pI_cell _ _ (by omega), pI_row _ _ (by decide), pI_row _ _ (by decide), pI_row _ _ (by decide), pI_row _ _ (by decide)]
        exact q4 k hk) (fun f S hq => by
      show bX12_terrace_118 _ _ _ = _
      unfold bX12_terrace_118
      rw [if_pos (by decide), bS_e, bS_e, bS_e]) 16 300 M0 0 rfl (by decide) ⟨rfl, fun _ _ _ _ => rfl, fun j hj => absurd hj (Nat.not_lt_zero _), fun _ _ => rfl⟩
  obtain ⟨S', ⟨k1, k2, k3, k4⟩, k5⟩ := key
  exact ⟨S', k1, k2, k3, k4, k5⟩
/-- nothing that counts is changed by reading into the spare street -/
theorem Rel.read {S M S' M' : St} (h : Rel S M) (hC : FrT (S.2.2 1) S S') (hM : FrM M M') (hN' : RNew M') : Rel (pI S' 1 1 0) (pI M' 55 11 0) := by
  obtain ⟨a1, a2, a3, a4, a5, a6, a7, a8⟩ := h
  have hT := a2.1
  have hT1 := a2.2.1
  have hTn := a2.2.2.1
  have hR := a8.1
  unfold isT at hT hT1
  unfold isL at hR
  have s2 : S'.2.2 = S.2.2 := by rw [hC.1]
  have cS : ∀ o k, o ≠ 3 → ¬ (S.2.2 1 ≤ o ∧ o ≤ S.2.2 1 + 7) → ¬ (o = 1 ∧ k = 1) → (pI S' 1 1 0).1 o k = S.1 o k := fun o k h1 h2 h3 => by rw [pI_cell _ _ h3, hC.2 o h1 h2]
  have cM : ∀ o k, ¬ rdM o k → ¬ (o = 55 ∧ k = 11) → (pI M' 55 11 0).1 o k = M.1 o k := fun o k h1 h2 => by rw [pI_cell _ _ h2, hM.2 o k h1]
  have hn : hN (pI M' 55 11 0) = hN M := by unfold hN; rw [cM 55 8 (by unfold rdM; omega) (by omega)]
  have aM : AgC strM M (pI M' 55 11 0) := fun o k hp => cM o k (by unfold strM at hp; unfold rdM; omega) (by unfold strM at hp; omega)
  refine ⟨a1.cg aM, a2.cg aM (by show S'.2.2 0 = _; rw [s2]) (by show S'.2.2 1 = _; rw [s2]) (fun o k hp => cS o k (by unfold strC at hp; omega) (by unfold strC at hp; omega) (by unfold strC at hp; omega)), a3.cg hn (fun j _ => cS 9 j (by decide) (by omega) (by omega)) (fun j _ => cM 59 j (by unfold rdM; omega) (by omega)), ?_, a5.cg (fun o k hp => cS o k (by unfold kepC at hp; omega) (by unfold kepC at hp; omega) (by unfold kepC at hp; omega)) (fun o k hp => cM o k (by unfold kepM at hp; unfold rdM; omega) (by unfold kepM at hp; omega)), ?_, hN'.cg (fun o h1 h2 k _ => by rw [pI_row _ _ (by omega)]), a8.cg (by show S'.2.2 2 = _; rw [s2]) (by show S'.2.2 3 = _; rw [s2]) (fun o k hp => cS o k (by unfold rulC at hp; omega) (by unfold rulC at hp; omega) (by unfold rulC at hp; omega)) (fun o k hp => cM o k (by unfold rulM at hp; unfold rdM; omega) (by unfold rulM at hp; omega))⟩
  · rw [hn]
    exact a4.cg (fun k _ => cS 20 k (by decide) (by omega) (by omega)) (fun k _ => cS 19 k (by decide) (by omega) (by omega)) (fun k _ => cM 56 k (by unfold rdM; omega) (by omega))
  · refine ⟨⟨0, by decide, pI_same _ _ _ _, pI_same _ _ _ _⟩, fun j hj => ?_⟩
    rw [cS 2 j (by decide) (by omega) (by omega), cM 64 j (by unfold rdM; omega) (by omega)]
    exact a6.2 j hj
theorem and_set (q r : Nat → Bool) : setN q 16 &&& setN r 16 = setN (fun p => q p && r p) 16 := by
  apply Nat.eq_of_testBit_eq
  intro i
  rw [Nat.testBit_and, setN_tb, setN_tb, setN_tb]
  cases decide (i < 16) <;> simp
theorem told_of {nh : Nat} (hh : nh < 65536) {x : Int32} (hx : hoB (nI nh) x = true) : toldN nh x := by
  have h1 : inR x 0 15 = true := by unfold hoB at hx; rw [Bool.and_eq_true] at hx; exact hx.1
  obtain ⟨a, ha, rfl⟩ := inR_nat (n := 15) h1 (by decide)
  rw [hoB_nI (by omega) (by omega), Bool.and_eq_true] at hx
  exact Or.inr ⟨a, by omega, rfl, hx.2⟩
