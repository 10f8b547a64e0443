theorem par {c : Prop} {d1 d2 : Decidable c} {α : Type} {A B A2 B2 : Option (α × St)} (h1 : c → ∃ v S1 M1, A = some (v, S1) ∧ B = some (v, M1) ∧ Rel S1 M1) (h2 : ¬ c → ∃ v S1 M1, A2 = some (v, S1) ∧ B2 = some (v, M1) ∧ Rel S1 M1) : ∃ v S1 M1, (@ite _ c d1 A A2) = some (v, S1) ∧ (@ite _ c d2 B B2) = some (v, M1) ∧ Rel S1 M1 := by
  by_cases hc : c
  · rw [if_pos hc, if_pos hc]; exact h1 hc
  · rw [if_neg hc, if_neg hc]; exact h2 hc
theorem and_any {m : Nat} (hm : m < 2 ^ 31) (y : Int32) : nI m &&& y = nI (m &&& y.toBitVec.toNat) := by
  apply Int32.toBitVec_inj.mp
  apply BitVec.eq_of_toNat_eq
  show (BitVec.ofNat 32 m &&& y.toBitVec).toNat = (BitVec.ofNat 32 (m &&& y.toBitVec.toNat)).toNat
  have h1 : m &&& y.toBitVec.toNat ≤ m := Nat.and_le_left
  rw [BitVec.toNat_and, BitVec.toNat_ofNat, BitVec.toNat_ofNat, Nat.mod_eq_of_lt (by omega), Nat.mod_eq_of_lt (by omega)]
theorem not_tb {a i : Nat} (hi : i < 32) : ((nI a ^^^ (-1 : Int32)).toBitVec.toNat).testBit i = !(BitVec.ofNat 32 a).getLsbD i := by
  show ((BitVec.ofNat 32 a ^^^ (-1 : Int32).toBitVec)).toNat.testBit i = _
  rw [show (-1 : Int32).toBitVec = BitVec.allOnes 32 from by decide, ← BitVec.getLsbD, BitVec.getLsbD_xor, BitVec.getLsbD_allOnes]
  simp [hi]
theorem dark_set (q : Nat → Bool) : (4095 : Int32) &&& (nI (setN q 12) ^^^ (-1 : Int32)) = nI (setN (fun j => !q j) 12) := by
  rw [li 4095, and_any (by decide)]
  congr 1
  apply Nat.eq_of_testBit_eq
  intro i
  rw [Nat.testBit_and, setN_tb]
  by_cases hi : i < 12
  · rw [not_tb (by omega)]
    have h1 : (4095 : Nat).testBit i = true := (show ∀ i, i < 12 → (4095 : Nat).testBit i = true from by decide) i hi
    have h2 : (BitVec.ofNat 32 (setN q 12)).getLsbD i = q i := by
      rw [BitVec.getLsbD_ofNat, setN_tb]
      simp [hi, show i < 32 by omega]
    rw [h1, h2]
    simp [hi]
  · have h1 : (4095 : Nat).testBit i = false := Nat.testBit_lt_two_pow (Nat.lt_of_lt_of_le (show 4095 < 2 ^ 12 by decide) (Nat.pow_le_pow_right (by decide) (by omega)))
    rw [h1]
    simp [hi]
theorem dark12 (M : St) (x : Int32) : fX12_darkOf M x = some (nI (lrM (setN (fun j => !roB M x j) 12) 24 0 0 0), M) := by
  unfold fX12_darkOf
  refine (set_loop (F := fun k y i => fX12_darkOf_4 k M x y (nI i)) (fun j => !roB M x j) 12 (by decide) (fun y => bi (fX12_longestRow M y) fun r2 S1 => some (r2, S1)) ?_ ?_ (by decide)).trans (by rw [longestRow12 M (setN_lt _ 12), bi_some])
  · intro k y i hi
    show bX12_darkOf_4 _ _ _ _ _ = _
    unfold bX12_darkOf_4
    rw [li 12, if_neg (by rw [nle (by decide) (by omega)]; omega)]
    simp only [inbT hi (show 12 < 2 ^ 31 by decide), if_true, nI_clamp (show i < 2 ^ 31 by omega), bV_e, nI_1, roB]
    by_cases hq : M.1 59 i = x <;> simp [hq]
  · intro k y
    show bX12_darkOf_4 _ _ _ _ _ = _
    unfold bX12_darkOf_4
    rw [if_pos (by decide)]
theorem joyOf6 (o : Nat) (S : St) {a : Nat} (ha : a < 16) : fX6_joyOf o S (nI a) = some (S.1 (o + 1) a, S) := by
  unfold fX6_joyOf fX6_joyOf_19
  rw [if_neg (nI_pos (by omega)), li 16, if_neg (by rw [nle (by decide) (by omega)]; omega)]
  simp only [inbT ha (show 16 < 2 ^ 31 by decide), if_true, nI_clamp (show a < 2 ^ 31 by omega)]
theorem sim_houseIs (S M : St) (x y : Int32) (h : Rel S M) : ∃ v S1 M1, fX11_houseIs S x y = some (v, S1) ∧ fX12_houseIs M x y = some (v, M1) ∧ Rel S1 M1 := by
  have e7 := h.2.1.2.2.2.1
  unfold fX11_houseIs fX12_houseIs
  simp only [hasHouse8, isHouse12, bi_some, ite_b2i, e7, h.2.1.1, if_true]
  by_cases hx : hoB (M.1 55 8) x = true
  · obtain ⟨a, ha, rfl, hb⟩ := h.told hx
    have j1 := (h.2.2.2.1.1 a ha).1
    simp only [hx, if_true, inbT ha (show 16 < 2 ^ 31 by decide), nI_clamp (show a < 2 ^ 31 by omega), za, inbT (show a < 21 by omega) (show 21 < 2 ^ 31 by decide), joyOf6 19 S ha, bi_some, turnsOf4 h, bitCount6 S (Nat.lt_of_lt_of_le (setN_lt (roB M (nI a)) 12) (by decide)), pcN_setN (roB M (nI a)) (show 12 ≤ 16 by decide), turnsOf12, dark_set, longestRun11 S (setN_lt (fun j => !roB M (nI a) j) 12), dark12, wholeView8 h ha, everSeenBy12 h.1 ha, hb, h.2.1.2.2.2.2.2.1 a ha hb, j1]
    repeat' split
    all_goals exact ⟨_, _, _, rfl, rfl, h⟩
  · simp only [hx]
    exact ⟨_, _, _, rfl, rfl, h⟩
-- light
def liB (M : St) (a t : Nat) : Bool := decide (seenN M a t ≠ 0)
theorem litT8 {S M : St} (h : Rel S M) {a : Nat} (ha : a < 16) (hb : (hN M).testBit a = true) : fX8_litTurns (S.2.2 0) S (nI a) = some (nI (setN (liB M a) 12), S) := by
  unfold fX8_litTurns
  refine set_loop (F := fun k y i => fX8_litTurns_4 (S.2.2 0) k S (nI a) y (nI i)) _ 12 (by decide) (fun y => some (y, S)) ?_ ?_ (by decide)
  · intro k y i hi
    show bX8_litTurns_4 _ _ _ _ _ _ = _
    unfold bX8_litTurns_4
    rw [li 12, if_neg (by rw [nle (by decide) (by omega)]; omega)]
    have := seenN_lt M a i
    simp only [view8 h ha hi, hb, if_true, bi_some, li 0, neq (show seenN M a i < 2 ^ 31 by omega) (show 0 < 2 ^ 31 by decide), bV_e, nI_1, liB]
    by_cases hq : seenN M a i = 0 <;> simp [hq]
  · intro k y
    show bX8_litTurns_4 _ _ _ _ _ _ = _
    unfold bX8_litTurns_4
    rw [if_pos (by decide)]
theorem light12 {S M : St} (h : Rel S M) {a : Nat} (ha : a < 16) : fX12_lightOf M (nI a) = some (nI (setN (liB M a) 12), M) := by
  unfold fX12_lightOf
  refine set_loop (F := fun k y i => fX12_lightOf_4 k M (nI a) y (nI i)) _ 12 (by decide) (fun y => some (y, M)) ?_ ?_ (by decide)
  · intro k y i hi
    show bX12_lightOf_4 _ _ _ _ _ = _
    unfold bX12_lightOf_4
    rw [li 12, if_neg (by rw [nle (by decide) (by omega)]; omega)]
    have := seenN_lt M a i
    simp only [seenBy12 h.1 ha (show i < 2 ^ 31 by omega), bi_some, li 0, neq (show seenN M a i < 2 ^ 31 by omega) (show 0 < 2 ^ 31 by decide), bV_e, nI_1, liB]
    by_cases hq : seenN M a i = 0 <;> simp [hq]
  · intro k y
    show bX12_lightOf_4 _ _ _ _ _ = _
    unfold bX12_lightOf_4
    rw [if_pos (by decide)]
theorem sim_light (S M : St) (x y : Int32) (h : Rel S M) : ∃ v S1 M1, fX11_light S x y = some (v, S1) ∧ fX12_light M x y = some (v, M1) ∧ Rel S1 M1 := by
  have e7 := h.2.1.2.2.2.1
  unfold fX11_light fX12_light
  simp only [hasHouse8, isHouse12, bi_some, ite_b2i, e7, h.2.1.1, if_true, in12, rng_cls, i0]
  by_cases hx : hoB (M.1 55 8) x = true
  · obtain ⟨a, ha, rfl, hb⟩ := h.told hx
    simp only [hx, if_true, litT8 h ha hb, light12 h ha, bi_some, bitCount6 S (Nat.lt_of_lt_of_le (setN_lt (liB M a) 12) (by decide)), bits12 M (Nat.lt_of_lt_of_le (setN_lt (liB M a) 12) (show 2 ^ 12 ≤ 65536 by decide)), longestRun11 S (setN_lt (liB M a) 12), longestRow12 M (setN_lt (liB M a) 12)]
    repeat' split
    all_goals exact ⟨_, _, _, rfl, rfl, h⟩
  · simp only [hx]
    exact ⟨_, _, _, rfl, rfl, h⟩
-- count
theorem joyAll {S M : St} (h : Rel S M) : ∃ v, fX6_joyOfAll 19 S = some (v, S) ∧ fX12_joyOfAll M = some (v, M) := by
  refine ⟨itr (fun (x : Int32) i => x + M.1 56 i) 0 16 0, ?_, ?_⟩
  · unfold fX6_joyOfAll
    refine loop_up (F := fun k y i => fX6_joyOfAll_4 19 k S y (nI i)) (fun (x : Int32) i => x + M.1 56 i) (fun y => some (y, S)) 16 ?_ ?_ 16 100 0 0 rfl (by decide)
    · intro k y i hi
      show bX6_joyOfAll_4 _ _ _ _ _ = _
      unfold bX6_joyOfAll_4
      rw [li 16, if_neg (by rw [nle (by decide) (by omega)]; omega)]
      simp only [inbT hi (show 16 < 2 ^ 31 by decide), if_true, nI_clamp (show i < 2 ^ 31 by omega), (h.2.2.2.1.1 i hi).1, bV_e, nI_1]
    · intro k y
      show bX6_joyOfAll_4 _ _ _ _ _ = _
      unfold bX6_joyOfAll_4
      rw [if_pos (by decide)]
  · unfold fX12_joyOfAll
    refine loop_up (F := fun k y i => fX12_joyOfAll_4 k M y (nI i)) (fun (x : Int32) i => x + M.1 56 i) (fun y => some (y, M)) 16 ?_ ?_ 16 100 0 0 rfl (by decide)
    · intro k y i hi
      show bX12_joyOfAll_4 _ _ _ _ = _
      unfold bX12_joyOfAll_4
      rw [li 16, if_neg (by rw [nle (by decide) (by omega)]; omega)]
      simp only [isHouse12, h.hoN hi, bi_some, ite_b2i, za, inbT (show i < 21 by omega) (show 21 < 2 ^ 31 by decide), if_true, nI_clamp (show i < 2 ^ 31 by omega), bV_e, nI_1]
      by_cases hb : (hN M).testBit i = true
      · simp only [hb, if_true]
      · have hb2 : (hN M).testBit i = false := by simpa using hb
        rw [(h.2.2.2.1.1 i hi).2.2 hb2]
        simp [hb2]
    · intro k y
      show bX12_joyOfAll_4 _ _ _ _ = _
      unfold bX12_joyOfAll_4
      rw [if_pos (by decide)]
theorem orNone_eq (S M : St) (x : Int32) : ∃ v, fX11_orNoneAtAll S x = some (v, S) ∧ fX12_orNone M x = some (v, M) := by
  unfold fX11_orNoneAtAll fX12_orNone
  by_cases h : x = -1
  · exact ⟨-2, by rw [if_pos h], by rw [if_pos h]⟩
  · exact ⟨x, by rw [if_neg h], by rw [if_neg h]⟩
theorem sim_count (S M : St) (x : Int32) (h : Rel S M) : ∃ v S1 M1, fX11_count S x = some (v, S1) ∧ fX12_count M x = some (v, M1) ∧ Rel S1 M1 := by
  obtain ⟨a1, a2, a3, a4, a5, a6, a7, a8⟩ := id h
  obtain ⟨b, hb, eb⟩ := a4.2.2.1.2
  obtain ⟨nr, hnr, r1, r2, _⟩ := a8.2.2.2
  obtain ⟨z, hz, z1, z2⟩ := a6.1
  obtain ⟨vj, j1, j2⟩ := joyAll h
  obtain ⟨vo, o1, o2⟩ := orNone_eq S M (M.1 56 16)
  have hc := cnt_not (roB M (-1)) 12
  have e11 : (12 : Int32) - nI (cnt (roB M (-1)) 12) = nI (cnt (fun j => !roB M (-1) j) 12) := by
    rw [li 12, pk_sub (by omega)]
    congr 1
    omega
  unfold fX11_count fX12_count fX7_size
  simp only [a2.1, a8.1, if_true, a2.2.2.2.1, a2.2.2.2.2.1, a4.2.1.1, a4.2.2.1.1, a4.2.2.2.1.1, a4.2.2.2.2.1.1, a4.2.2.2.2.2.1, o1, o2, j1, j2, bi_some, r1, r2, z1, z2, eb, bitCount6 S (show b < 65536 by omega), bits12 M (show b < 65536 by omega), taken4 h, turnsOf12, e11]
  refine par (fun _ => ⟨_, _, _, rfl, rfl, h⟩) (fun _ => ?_)
  refine par (fun _ => ⟨_, _, _, rfl, rfl, h⟩) (fun _ => ?_)
  refine par (fun _ => ⟨_, _, _, rfl, rfl, h⟩) (fun _ => ?_)
  refine par (fun _ => ⟨_, _, _, rfl, rfl, h⟩) (fun _ => ?_)
  refine par (fun _ => ⟨_, _, _, rfl, rfl, h⟩) (fun _ => ?_)
  refine par (fun _ => ⟨_, _, _, rfl, rfl, h⟩) (fun _ => ?_)
  refine par (fun _ => ⟨_, _, _, rfl, rfl, h⟩) (fun _ => ?_)
  refine par (fun _ => ⟨_, _, _, rfl, rfl, h⟩) (fun _ => ?_)
  refine par (fun _ => ⟨_, _, _, rfl, rfl, h⟩) (fun _ => ?_)
  refine par (fun _ => ⟨_, _, _, rfl, rfl, h⟩) (fun _ => ?_)
  refine par (fun _ => ⟨_, _, _, rfl, rfl, h⟩) (fun _ => ?_)
  refine par (fun _ => ⟨_, _, _, rfl, rfl, h⟩) (fun _ => ?_)
  exact ⟨_, _, _, rfl, rfl, h⟩
-- turn
theorem give4 {S : St} {t : Nat} (ht : t < 12) (v : Int32) : fX4_give S (nI t) v = some (pI S 9 t v) := by
  unfold fX4_give
  simp only [isTurn11, bi_some, ite_b2i, tu_nI ht, if_true, inbT ht (show 12 < 2 ^ 31 by decide), nI_clamp (show t < 2 ^ 31 by omega), bS_e]
theorem Rel.rota {S M : St} (h : Rel S M) {t : Nat} (ht : t < 12) {v : Int32} (hv : toldN (hN M) v) : Rel (pI S 9 t v) (pI M 59 t v) := by
  obtain ⟨a1, a2, a3, a4, a5, a6, a7, a8⟩ := h
  have hT := a2.1
  have hR := a8.1
  refine ⟨a1.cg (AgC.put M _ (by unfold strM; omega)), a2.cg (AgC.put M _ (by unfold strM; omega)) rfl rfl (AgC.put S _ (by unfold strC; omega)), ?_, a4, a5.cg (AgC.put S _ (by unfold kepC; omega)) (AgC.put M _ (by unfold kepM; omega)), a6, a7.cg (fun o h1 h2 k hk => pI_cell M _ (by omega)), a8.cg rfl rfl (AgC.put S _ (by unfold rulC; omega)) (AgC.put M _ (by unfold rulM; omega))⟩
  intro j hj
  show (pI S 9 t v).1 9 j = (pI M 59 t v).1 59 j ∧ toldN (hN M) ((pI M 59 t v).1 59 j)
  by_cases hjt : j = t
  · subst hjt
    rw [pI_same, pI_same]
    exact ⟨rfl, hv⟩
  · rw [pI_cell S _ (by omega), pI_cell M _ (by omega)]
    exact a3 j hj
theorem sim_turn (S M : St) (x y : Int32) (h : Rel S M) : ∃ v S1 M1, fX11_turn S x y = some (v, S1) ∧ fX12_turn M x y = some (v, M1) ∧ Rel S1 M1 := by
  have e7 := h.2.1.2.2.2.1
  unfold fX11_turn fX12_turn fX11_turn_25 fX12_turn_22
  simp only [isTurn11, isTurn12, hasHouse8, isHouse12, bi_some, ite_b2i, e7, h.2.1.1, if_true]
  by_cases hx : inR x 0 11 = true
  · obtain ⟨t, ht, rfl⟩ := tu_nat hx
    simp only [hx, if_true, give4 ht, bv_some, inbT ht (show 12 < 2 ^ 31 by decide), nI_clamp (show t < 2 ^ 31 by omega), bS_e]
    by_cases hy : y = -1
    · simp only [hy, if_true]
      exact ⟨_, _, _, rfl, rfl, h.rota ht (Or.inl rfl)⟩
    · by_cases hz : hoB (M.1 55 8) y = true
      · obtain ⟨a, ha, rfl, hb⟩ := h.told hz
        simp only [hy, hz, if_true, if_false]
        exact ⟨_, _, _, rfl, rfl, h.rota ht (Or.inr ⟨a, ha, rfl, hb⟩)⟩
      · simp only [hy, hz, if_false]
        exact ⟨_, _, _, rfl, rfl, h⟩
  · simp only [hx]
    exact ⟨_, _, _, rfl, rfl, h⟩
