-- the class's answer
theorem full_e {n : Nat} (h6 : n ≤ 6) : ((1 : Int32) <<< (nI n &&& 31)) - 1 = nI (2 ^ n - 1) := by
  have := Nat.two_pow_pos n
  rw [bit1 (by omega), li 1, pk_sub (by omega)]
theorem ans49 {S : St} {by_ : Nat → Nat → Nat} {wi wd : Nat → Nat} {n o : Nat} (x : Int32) (h0 : 1 ≤ n) (h6 : n ≤ 6) (hI : WiC S wi wd n) (hC : CeC S n (RC by_ wi n 12)) : ∃ v, Mn 1000000 (fun c => ∃ j w f, j < n ∧ RC by_ wi n 12 (2 ^ n - 1) j w f ∧ c = 16 * w + f) v ∧ fX10_answer_49 o 400 S x 1000000 0 = (if nI v < (1000000 : Int32) then (if x = 0 then (some ((nI v / (16 : Int32)), S)) else (some ((nI v - nI v / (16 : Int32) * (16 : Int32)), S))) else (some ((-2 : Int32), S))) := by
  have hp : 2 ^ n ≤ 64 := Nat.pow_le_pow_right (by decide) h6
  have hp0 := Nat.two_pow_pos n
  have key := loop_inv (F := fun f (v : Nat) i => fX10_answer_49 o f S x (nI v) (nI i)) (fun i v => Mn 1000000 (fun c => ∃ j w f, j < i ∧ RC by_ wi n 12 (2 ^ n - 1) j w f ∧ c = 16 * w + f) v) (fun v => (if nI v < (1000000 : Int32) then (if x = 0 then (some ((nI v / (16 : Int32)), S)) else (some ((nI v - nI v / (16 : Int32) * (16 : Int32)), S))) else (some ((-2 : Int32), S)))) n (fun f v i hi hm => by
      obtain ⟨u, u1, u2⟩ := hC (2 ^ n - 1) (by omega) i hi
      have hv := hm.le
      have hu := u2.le
      refine ⟨min u v, ?_, ?_⟩
      · show bX10_answer_49 o _ _ _ _ _ = _
        unfold bX10_answer_49
        have ix : nI (2 ^ n - 1) * 6 + nI i = nI ((2 ^ n - 1) * 6 + i) := by rw [li 6, pk_mul, nI_add]
        rw [hI.1, if_neg (by rw [nle (by omega) (by omega)]; omega), full_e h6, ix, if_pos (inbT (by omega) (by decide)), nI_clamp (by omega), u1, nI_mn (by omega) (by omega), bV_e, bV_e, nI_1]
      · rw [Nat.min_comm]
        refine (hm.two u2).cg (fun c => ?_)
        constructor
        · rintro (⟨j, w, f, a1, a2, a3⟩ | ⟨w, f, a2, a3⟩)
          · exact ⟨j, w, f, by omega, a2, a3⟩
          · exact ⟨i, w, f, by omega, a2, a3⟩
        · rintro ⟨j, w, f, a1, a2, a3⟩
          by_cases e : j = i
          · subst e; exact Or.inr ⟨w, f, a2, a3⟩
          · exact Or.inl ⟨j, w, f, by omega, a2, a3⟩) (fun f v hm => by
      show bX10_answer_49 o _ _ _ _ _ = _
      unfold bX10_answer_49
      rw [hI.1, if_pos (by rw [nle (by omega) (by omega)]; omega)]) n 400 1000000 0 (by omega) (by omega) (Mn.no (fun c ⟨j, _, _, a, _⟩ => absurd a (Nat.not_lt_zero _)))
  obtain ⟨v, k1, k2⟩ := key
  exact ⟨v, k1, k2⟩
theorem answer10 {S M : St} (h : Rel S M) {b : Nat → Nat} {n : Nat} (x : Int32) (h0 : 1 ≤ n) (h6 : n ≤ 6) (ho : ∀ j, j < n → b (2 * j) < 16 ∧ (hN M).testBit (b (2 * j)) = true) (hth : ∀ j, j < n → b (2 * j + 1) < 16 ∧ (tN M).testBit (b (2 * j + 1)) = true) (hW : WiH (byN M b n) (fun a => (hN M).testBit a) (fun j => b (2 * j)) n) (hI : WiC S (fun j => b (2 * j)) (fun j => b (2 * j + 1)) n) : ∃ v S', Ext S S' ∧ Mn 1000000 (fun c => ∃ j w f, j < n ∧ RC (byN M b n) (fun j => b (2 * j)) n 12 (2 ^ n - 1) j w f ∧ c = 16 * w + f) v ∧ fX10_answer (S.2.2 0) S x = (if nI v < (1000000 : Int32) then (if x = 0 then (some ((nI v / (16 : Int32)), S')) else (some ((nI v - nI v / (16 : Int32) * (16 : Int32)), S'))) else (some ((-2 : Int32), S'))) := by
  have hp : 2 ^ n ≤ 64 := Nat.pow_le_pow_right (by decide) h6
  have k1 := loop_inv (F := fun f S1 i => fX10_answer_2 (S.2.2 0) f S1 x (nI i)) (fun i S1 => Ext S S1 ∧ S1.1 10 = S.1 10 ∧ S1.1 11 = S.1 11 ∧ S1.1 12 = S.1 12 ∧ ∀ j, j < i → S1.1 14 j = nI 1000000) (fun S1 => fX10_answer_25 (S.2.2 0) 400 S1 x 0) 384 (fun f S1 i hi hq => by
      obtain ⟨q1, q2, q3, q4, q5⟩ := hq
      refine ⟨pI S1 14 i (nI 1000000), ?_, q1.put (by decide) (by decide) _ _, by rw [pI_row _ _ (by decide)]; exact q2, by rw [pI_row _ _ (by decide)]; exact q3, by rw [pI_row _ _ (by decide)]; exact q4, fun j hj => ?_⟩
      · show bX10_answer_2 _ _ _ _ _ = _
        unfold bX10_answer_2
        rw [li 384, if_neg (by rw [nle (by decide) (by omega)]; omega), if_pos (inbT hi (by decide)), nI_clamp (by omega), bS_e, bV_e, nI_1]
        rfl
      · by_cases e : j = i
        · subst e; rw [pI_same]
        · rw [pI_cell _ _ (by omega)]; exact q5 j (by omega)) (fun f S1 hq => by
      show bX10_answer_2 _ _ _ _ _ = _
      unfold bX10_answer_2
      rw [if_pos (by decide)]) 384 400 S 0 rfl (by decide) ⟨Ext.rf S, rfl, rfl, rfl, fun j hj => absurd hj (Nat.not_lt_zero _)⟩
  obtain ⟨S1, ⟨a1, a2, a3, a4, a5⟩, a6⟩ := k1
  have hI1 : WiC S1 (fun j => b (2 * j)) (fun j => b (2 * j + 1)) n := by
    unfold WiC
    rw [a2, a3, a4]
    exact hI
  have k2 := loop_inv (F := fun f S2 i => fX10_answer_25 (S.2.2 0) f S2 x (nI i)) (fun i S2 => Ext S S2 ∧ WiC S2 (fun j => b (2 * j)) (fun j => b (2 * j + 1)) n ∧ CeC S2 n (RC (byN M b n) (fun j => b (2 * j)) n i)) (fun S2 => fX10_answer_49 (S.2.2 0) 400 S2 x 1000000 0) 12 (fun f S2 i hi hq => by
      obtain ⟨q1, q2, q3⟩ := hq
      have hr : Rel S2 M := h.keep (q1.eqC h) (EqM.rf M)
      have et : S2.2.2 0 = S.2.2 0 := by rw [q1.1]
      obtain ⟨S3, b1, b2, b3, b4⟩ := try10 hr h6 hi ho hth hW q2 q3
      rw [et] at b4
      refine ⟨S3, ?_, q1.tr b1, b2, b3⟩
      show bX10_answer_25 _ _ _ _ _ = _
      unfold bX10_answer_25
      rw [li 12, if_neg (by rw [nle (by decide) (by omega)]; omega), b4, bv_some, bV_e, nI_1]) (fun f S2 hq => by
      show bX10_answer_25 _ _ _ _ _ = _
      unfold bX10_answer_25
      rw [if_pos (by decide)]) 12 400 S1 0 rfl (by decide) ⟨a1, hI1, fun p hp2 j hj => ⟨1000000, a5 _ (by omega), Mn.no (fun c ⟨w, f, z, _⟩ => z.elim)⟩⟩
  obtain ⟨S2, ⟨c1, c2, c3⟩, c4⟩ := k2
  obtain ⟨v, d1, d2⟩ := ans49 (o := S.2.2 0) x h0 h6 c2 c3
  exact ⟨v, S2, c1, d1, a6.trans (c4.trans d2)⟩
def tqB (M : St) (b : Nat → Nat) (k : Nat) : Bool := hoB (M.1 55 8) (nI (b (2 * k))) && hoB (M.1 55 9) (nI (b (2 * k + 1)))
theorem take10 {S M : St} (h : Rel S M) {b : Nat → Nat} {z n : Nat} (hT : TapS b z S) (hz : z ≤ 260) (hn : 2 * n ≤ z) (h6 : n ≤ 6) : ∃ S', Ext S S' ∧ WiC S' (fun j => b (2 * j)) (fun j => b (2 * j + 1)) n ∧ fX10_take (S.2.2 0) S (nI n) = some (b2i (allB (tqB M b) n), S') := by
  have e7 := h.2.1.2.2.2.1
  have e8 := h.2.1.2.2.2.2.1
  have hT2 := h.2.1.1
  have tt : S.2.2 0 < 10 ∨ 14 < S.2.2 0 := by unfold isT at hT2; omega
  have key := loop_inv (F := fun f (s : St × Bool) i => fX10_take_16 (S.2.2 0) f s.1 (b2i s.2) (nI i)) (fun i s => Ext S s.1 ∧ s.1.1 10 4 = nI n ∧ (∀ j, j < i → s.1.1 11 j = nI (b (2 * j)) ∧ s.1.1 12 j = nI (b (2 * j + 1))) ∧ s.2 = allB (tqB M b) i) (fun s => some (b2i s.2, s.1)) n (fun f s i hi hq => by
      obtain ⟨S1, al⟩ := s
      obtain ⟨q1, q2, q3, q4⟩ := hq
      have q1 : Ext S S1 := q1
      have q2 : S1.1 10 4 = nI n := q2
      have q4 : al = allB (tqB M b) i := q4
      have t1 : TapS b z S1 := ⟨by rw [q1.2 1 (by decide)]; exact hT.1, fun j hj => by rw [q1.2 2 (by decide)]; exact hT.2 j hj⟩
      have t2 : TapS b z (pI S1 11 i (nI (b (2 * i)))) := ⟨by rw [pI_row _ _ (by decide)]; exact t1.1, fun j hj => by rw [pI_row _ _ (by decide)]; exact t1.2 j hj⟩
      have x1 : (2 : Int32) * nI i = nI (2 * i) := by rw [li 2, pk_mul]
      have x2 : nI (2 * i) + 1 = nI (2 * i + 1) := nI_1 _
      have hS4 : Ext S (pI (pI S1 11 i (nI (b (2 * i)))) 12 i (nI (b (2 * i + 1)))) := (q1.put (by decide) (by decide) _ _).put (by decide) (by decide) _ _
      refine ⟨(pI (pI S1 11 i (nI (b (2 * i)))) 12 i (nI (b (2 * i + 1))), al && tqB M b i), ?_, hS4, ?_, fun j hj => ?_, ?_⟩
      · show bX10_take_16 _ _ S1 (b2i al) (nI i) = _
        unfold bX10_take_16 fX10_take_94
        have w11 : (pI (pI S1 11 i (nI (b (2 * i)))) 12 i (nI (b (2 * i + 1)))).1 11 i = nI (b (2 * i)) := by rw [pI_row _ _ (by decide), pI_same]
        have w12 : (pI (pI S1 11 i (nI (b (2 * i)))) 12 i (nI (b (2 * i + 1)))).1 12 i = nI (b (2 * i + 1)) := pI_same _ _ _ _
        have w7 : (pI (pI S1 11 i (nI (b (2 * i)))) 12 i (nI (b (2 * i + 1)))).1 (S.2.2 0) 7 = M.1 55 8 := by rw [hS4.2 _ tt]; exact e7
        have w8 : (pI (pI S1 11 i (nI (b (2 * i)))) 12 i (nI (b (2 * i + 1)))).1 (S.2.2 0) 8 = M.1 55 9 := by rw [hS4.2 _ tt]; exact e8
        rw [q2, if_neg (by rw [nle (by omega) (by omega)]; omega), x1, x2, byte7 t1 hz (by omega), bi_some, if_pos (inbT (by omega) (by decide)), nI_clamp (by omega), bS_e, byte7 t2 hz (by omega), bi_some, if_pos (inbT (by omega) (by decide)), bS_e, if_pos (inbT (by omega) (by decide)), hasHouse8, bi_some, w11, w7, if_pos (inbT (by omega) (by decide)), hasThing8, bi_some, w12, w8, bV_e, bV_e, nI_1]
        show _ = fX10_take_16 (S.2.2 0) f (pI (pI S1 11 i (nI (b (2 * i)))) 12 i (nI (b (2 * i + 1)))) (b2i (al && tqB M b i)) (nI (i + 1))
        unfold tqB
        simp only [ite_b2i]
        cases al
        · rfl
        · by_cases c1 : hoB (M.1 55 8) (nI (b (2 * i))) = true <;> by_cases c2 : hoB (M.1 55 9) (nI (b (2 * i + 1))) = true <;> simp [c1, c2, b2i]
      · show (pI (pI S1 11 i (nI (b (2 * i)))) 12 i (nI (b (2 * i + 1)))).1 10 4 = nI n
        rw [pI_row _ _ (by decide), pI_row _ _ (by decide)]
        exact q2
      · show (pI (pI S1 11 i (nI (b (2 * i)))) 12 i (nI (b (2 * i + 1)))).1 11 j = _ ∧ (pI (pI S1 11 i (nI (b (2 * i)))) 12 i (nI (b (2 * i + 1)))).1 12 j = _
        by_cases e : j = i
        · subst e
          rw [pI_row _ _ (by decide), pI_same, pI_same]
          exact ⟨rfl, rfl⟩
        · rw [pI_row _ _ (by decide), pI_cell _ _ (by omega), pI_cell _ _ (by omega), pI_cell _ _ (by omega)]
          exact q3 j (by omega)
      · show (al && tqB M b i) = allB (tqB M b) (i + 1)
        rw [q4]
        rfl) (fun f s hq => by
      have q2 : s.1.1 10 4 = nI n := hq.2.1
      show bX10_take_16 _ _ _ _ _ = _
      unfold bX10_take_16
      rw [q2, if_pos (by rw [nle (by omega) (by omega)]; omega), if_pos (b2i_01 _)]) n 100 (pI S 10 4 (nI n), true) 0 (by omega) (by omega) ⟨(Ext.rf S).put (by decide) (by decide) _ _, pI_same _ _ _ _, fun j hj => absurd hj (Nat.not_lt_zero _), rfl⟩
  obtain ⟨⟨S', al⟩, ⟨k1, k2, k3, k4⟩, k5⟩ := key
  have k4 : al = allB (tqB M b) n := k4
  subst k4
  refine ⟨S', k1, ⟨k2, k3⟩, ?_⟩
  unfold fX10_take
  rw [li 6, if_neg (by rw [nlt (by decide) (by omega)]; omega), bS_e]
  exact k5
