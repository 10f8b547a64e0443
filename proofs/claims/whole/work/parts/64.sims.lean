-- what the class sees
theorem hs_prop (x k : Int32) : ((x >>> (k &&& 31)) &&& (1 : Int32) = (1 : Int32)) = (hsB x k = true) := by unfold hsB; simp
theorem Rel.told {S M : St} (h : Rel S M) {x : Int32} (hx : hoB (M.1 55 8) x = true) : ∃ a, a < 16 ∧ x = nI a ∧ (hN M).testBit a = true := by
  have h1 : inR x 0 15 = true := by unfold hoB at hx; rw [Bool.and_eq_true] at hx; exact hx.1
  obtain ⟨a, ha, rfl⟩ := inR_nat (n := 15) h1 (by decide)
  rw [h.1.1.1, hoB_nI (by have := h.1.1.2; omega) (by omega), Bool.and_eq_true] at hx
  exact ⟨a, by omega, rfl, hx.2⟩
theorem Rel.toldT {S M : St} (h : Rel S M) {x : Int32} (hx : hoB (M.1 55 9) x = true) : ∃ a, a < 16 ∧ x = nI a ∧ (tN M).testBit a = true := by
  have h1 : inR x 0 15 = true := by unfold hoB at hx; rw [Bool.and_eq_true] at hx; exact hx.1
  obtain ⟨a, ha, rfl⟩ := inR_nat (n := 15) h1 (by decide)
  rw [h.1.2.1.1, hoB_nI (by have := h.1.2.1.2; omega) (by omega), Bool.and_eq_true] at hx
  exact ⟨a, by omega, rfl, hx.2⟩
theorem Rel.hoN {S M : St} (h : Rel S M) {a : Nat} (ha : a < 16) : hoB (M.1 55 8) (nI a) = (hN M).testBit a := by
  rw [h.1.1.1, hoB_nI (by have := h.1.1.2; omega) (by omega)]
  simp [ha]
theorem Rel.thN {S M : St} (h : Rel S M) {a : Nat} (ha : a < 16) : hoB (M.1 55 9) (nI a) = (tN M).testBit a := by
  rw [h.1.2.1.1, hoB_nI (by have := h.1.2.1.2; omega) (by omega)]
  simp [ha]
theorem tu_nat {x : Int32} (h : inR x 0 11 = true) : ∃ t, t < 12 ∧ x = nI t := by
  obtain ⟨t, ht, rfl⟩ := inR_nat (n := 11) h (by decide)
  exact ⟨t, by omega, rfl⟩
theorem tu_nI {t : Nat} (h : t < 12) : inR (nI t) 0 11 = true := by
  rw [show (11 : Int) = ((11 : Nat) : Int) from rfl, inR_nI (by omega)]
  simp
  omega
theorem hoB_m1 (s : Int32) : hoB s (-1) = false := by
  have : inR (-1) 0 15 = false := by decide
  unfold hoB
  rw [this]
  rfl
theorem view8 {S M : St} (h : Rel S M) {a t : Nat} (ha : a < 16) (ht : t < 12) : fX8_view (S.2.2 0) S (nI a) (nI t) = some (nI (if (hN M).testBit a = true then seenN M a t else 0), S) := by
  unfold fX8_view fX8_view_29
  have e7 := h.2.1.2.2.2.1
  simp only [hasHouse8, isTurn11, bi_some, ite_b2i, e7, h.hoN ha, tu_nI ht, if_true]
  have hm : nI a * (12 : Int32) + nI t = nI (a * 12 + t) := by rw [li 12, pk_mul, nI_add]
  rw [hm, nI_clamp (by omega), h.2.1.2.2.2.2.2.2.1 a ha t ht]
  simp only [inbT (show a * 12 + t < 192 by omega) (by decide), if_true]
  by_cases hb : (hN M).testBit a = true <;> simp [hb]
  rfl
theorem view8m1 (o : Nat) (S : St) (y : Int32) : fX8_view o S (-1) y = some (0, S) := by
  unfold fX8_view fX8_view_29
  simp only [hasHouse8, bi_some, ite_b2i, hoB_m1]
  rfl
theorem wholeView8 {S M : St} (h : Rel S M) {a : Nat} (ha : a < 16) : fX8_wholeView (S.2.2 0) S (nI a) = some (nI (if (hN M).testBit a = true then everN M a else 0), S) := by
  unfold fX8_wholeView
  have e7 := h.2.1.2.2.2.1
  simp only [hasHouse8, bi_some, ite_b2i, e7, h.hoN ha, inbT ha (show 16 < 2 ^ 31 by decide), if_true, nI_clamp (show a < 2 ^ 31 by omega), h.2.1.2.2.2.2.2.2.2 a ha]
  by_cases hb : (hN M).testBit a = true <;> simp [hb]
  rfl
theorem holder4 {S : St} {t : Nat} (ht : t < 12) : fX4_holder S (nI t) = some (S.1 9 t, S) := by
  unfold fX4_holder
  simp only [isTurn11, bi_some, ite_b2i, tu_nI ht, if_true, inbT ht (show 12 < 2 ^ 31 by decide), nI_clamp (show t < 2 ^ 31 by omega)]
-- sees
theorem sim_sees (S M : St) (x y : Int32) (h : Rel S M) : ∃ v S1 M1, fX11_sees S x y = some (v, S1) ∧ fX12_sees M x y = some (v, M1) ∧ Rel S1 M1 := by
  have e7 := h.2.1.2.2.2.1
  unfold fX11_sees fX12_sees fX11_sees_30 fX12_sees_24
  simp only [hasHouse8, isTurn11, isHouse12, isTurn12, bi_some, ite_b2i, e7, h.2.1.1, if_true]
  by_cases hx : hoB (M.1 55 8) x = true
  · by_cases hy : inR y 0 11 = true
    · obtain ⟨a, ha, rfl, hb⟩ := h.told hx
      obtain ⟨t, ht, rfl⟩ := tu_nat hy
      simp only [hx, hy, if_true, view8 h ha ht, seenBy12 h.1 ha (show t < 2 ^ 31 by omega), bi_some, hb]
      exact ⟨_, _, _, rfl, rfl, h⟩
    · simp only [hx, hy, if_true]
      exact ⟨_, _, _, rfl, rfl, h⟩
  · simp only [hx]
    exact ⟨_, _, _, rfl, rfl, h⟩
-- seers
theorem watchers8 {S M : St} (h : Rel S M) {p : Nat} (hp : p < 16) : fX8_watchers (S.2.2 0) S (nI p) = some (nI (setN (fun a => (hN M).testBit a && (everN M a).testBit p) 16), S) := by
  unfold fX8_watchers
  refine set_loop (F := fun k x i => fX8_watchers_4 (S.2.2 0) k S (nI p) x (nI i)) _ 16 (by decide) (fun x => some (x, S)) ?_ ?_ (by decide)
  · intro k x i hi
    show bX8_watchers_4 _ _ _ _ _ _ = _
    unfold bX8_watchers_4
    have hv : hsB (nI (if (hN M).testBit i = true then everN M i else 0)) (nI p) = ((hN M).testBit i && (everN M i).testBit p) := by
      have := everN_lt M i
      rw [hsB_nI (by split <;> omega) (by omega)]
      by_cases hb : (hN M).testBit i = true <;> simp [hb]
    rw [li 16, if_neg (by rw [nle (by decide) (by omega)]; omega)]
    simp only [wholeView8 h hi, bi_some, hs_prop, hv, bV_e, nI_1]
    by_cases hq : ((hN M).testBit i && (everN M i).testBit p) = true
    · simp only [hq, if_true]
    · simp only [hq]
      rfl
  · intro k x
    show bX8_watchers_4 _ _ _ _ _ _ = _
    unfold bX8_watchers_4
    rw [if_pos (by decide)]
theorem seers12 {S M : St} (h : Rel S M) {p : Nat} (hp : p < 16) : fX12_seers_14 100 M (nI p) 0 0 = some (nI (setN (fun a => (hN M).testBit a && (everN M a).testBit p) 16), M) := by
  refine set_loop (F := fun k x i => fX12_seers_14 k M (nI p) x (nI i)) _ 16 (by decide) (fun x => some (x, M)) ?_ ?_ (by decide)
  · intro k x i hi
    show bX12_seers_14 _ _ _ _ _ = _
    unfold bX12_seers_14
    rw [li 16, if_neg (by rw [nle (by decide) (by omega)]; omega)]
    have := everN_lt M i
    simp only [isHouse12, h.hoN hi, bi_some, ite_b2i, everSeenBy12 h.1 hi, has12, hsB_nI (show everN M i < 2 ^ 31 by omega) (show p < 32 by omega), bV_e, nI_1]
    by_cases hb : (hN M).testBit i = true <;> by_cases hq : (everN M i).testBit p = true <;> simp [hb, hq]
  · intro k x
    show bX12_seers_14 _ _ _ _ _ = _
    unfold bX12_seers_14
    rw [if_pos (by decide)]
theorem sim_seers (S M : St) (x : Int32) (h : Rel S M) : ∃ v S1 M1, fX11_seers S x = some (v, S1) ∧ fX12_seers M x = some (v, M1) ∧ Rel S1 M1 := by
  have e8 := h.2.1.2.2.2.2.1
  unfold fX11_seers fX12_seers
  simp only [hasThing8, isThing12, bi_some, ite_b2i, e8, h.2.1.1, if_true]
  by_cases hx : hoB (M.1 55 9) x = true
  · obtain ⟨p, hp, rfl, hb⟩ := h.toldT hx
    simp only [hx, if_true, watchers8 h hp, seers12 h hp, bi_some]
    exact ⟨_, _, _, rfl, rfl, h⟩
  · simp only [hx]
    exact ⟨_, _, _, rfl, rfl, h⟩
-- seed, turn
theorem pI_same (S : St) (o k : Nat) (v : Int32) : (pI S o k v).1 o k = v := by simp [pI]
theorem pI_row (S : St) {o k j : Nat} (v : Int32) (h : j ≠ o) : (pI S o k v).1 j = S.1 j := by funext b; simp [pI, h]
theorem pI_cell (S : St) {o k j b : Nat} (v : Int32) (h : ¬ (j = o ∧ b = k)) : (pI S o k v).1 j b = S.1 j b := by simp [pI, h]
theorem pI_ref (S : St) (o k : Nat) (v : Int32) : (pI S o k v).2 = S.2 := rfl

theorem sim_seed (S M : St) (x : Int32) (h : Rel S M) : ∃ v S1 M1, fX11_seed S x = some (v, S1) ∧ fX12_seed M x = some (v, M1) ∧ Rel S1 M1 := by
  unfold fX11_seed fX12_seed
  simp only [in12, bi_some, ite_b2i, i0, i65535, bS_e, Ilt, Ile]
  by_cases hx : inR x 0 65535 = true
  · have h2 := inR_t.mp hx
    have n1 : ¬ x.toInt < 0 := by omega
    have n2 : x.toInt ≤ 65535 := h2.2
    have n3 : ¬ 65535 < x.toInt := by omega
    simp only [hx, n1, n2, n3, if_true, if_false]
    refine ⟨_, _, _, rfl, rfl, ?_⟩
    obtain ⟨a1, a2, a3, a4, a5, a6, a7, a8⟩ := h
    obtain ⟨j, hj, rfl⟩ := inR_nat (n := 65535) hx (by decide)
    have hh : hN (pI M 56 20 (nI j)) = hN M := rfl
    have hT := a2.1
    have hR := a8.1
    refine ⟨a1.cg (AgC.put M _ (by unfold strM; omega)), a2.cg (AgC.put M _ (by unfold strM; omega)) rfl rfl (AgC.put S _ (by unfold strC; omega)), a3, ?_, a5.cg (AgC.put S _ (by unfold kepC; omega)) (AgC.put M _ (by unfold kepM; omega)), a6, a7.cg (fun o h1 h2 k hk => pI_cell M _ (by omega)), a8.cg rfl rfl (AgC.put S _ (by unfold rulC; omega)) (AgC.put M _ (by unfold rulM; omega))⟩
    obtain ⟨b1, b2, b3, b4, b5, b6⟩ := a4
    refine ⟨fun k hk => ?_, b2, b3, b4, b5, ?_⟩
    · rw [pI_row S _ (by decide), pI_cell M _ (by omega)]
      exact b1 k hk
    · rw [pI_same, pI_same]
      exact ⟨rfl, j, hj, rfl⟩
  · have n : x.toInt < 0 ∨ 65535 < x.toInt := by
      rw [inR_t] at hx
      omega
    simp only [hx]
    by_cases n1 : x.toInt < 0
    · simp only [n1, if_true]
      exact ⟨_, _, _, rfl, rfl, h⟩
    · have n2 : 65535 < x.toInt := by omega
      have n3 : ¬ x.toInt ≤ 65535 := by omega
      simp only [n1, n2, n3, if_true, if_false]
      exact ⟨_, _, _, rfl, rfl, h⟩
