-- feed
theorem byte_put (y : Int32) : ∃ c, c < 256 ∧ y &&& 255 = nI c ∧ vp_nar .byte y.toInt8.toInt32 = sb_b c := by
  refine ⟨y.toBitVec.toNat % 2 ^ 8, Nat.mod_lt _ (by decide), pk_and y 8 (by decide), ?_⟩
  rw [pk_vb]
  unfold sb_b
  congr 1
  apply Int8.toBitVec_inj.mp
  apply BitVec.eq_of_toNat_eq
  show (y.toBitVec.signExtend 8).toNat = ((nI (y.toBitVec.toNat % 2 ^ 8)).toBitVec.signExtend 8).toNat
  have e : ∀ v : BitVec 32, (v.signExtend 8).toNat = v.toNat % 2 ^ 8 := by
    intro v
    rw [BitVec.signExtend_eq_setWidth_of_le v (by decide), BitVec.toNat_setWidth]
  rw [e, e]
  show _ = (BitVec.ofNat 32 (y.toBitVec.toNat % 2 ^ 8)).toNat % 2 ^ 8
  rw [BitVec.toNat_ofNat]
  omega
def EqT (S S' : St) : Prop := S'.2 = S.2 ∧ ∀ o k, o ≠ 2 → ¬ (o = 1 ∧ k = 1) → S'.1 o k = S.1 o k
def EqTM (M M' : St) : Prop := ∀ o k, o ≠ 64 → ¬ (o = 55 ∧ k = 11) → M'.1 o k = M.1 o k
theorem EqT.tr {S S1 S2 : St} (h : EqT S S1) (h2 : EqT S1 S2) : EqT S S2 := ⟨h2.1.trans h.1, fun o k a b => (h2.2 o k a b).trans (h.2 o k a b)⟩
theorem EqTM.tr {S S1 S2 : St} (h : EqTM S S1) (h2 : EqTM S1 S2) : EqTM S S2 := fun o k a b => (h2 o k a b).trans (h o k a b)
theorem Rel.tape {S M S' M' : St} (h : Rel S M) (hC : EqT S S') (hM : EqTM M M') (ht : RTap S' M') : Rel S' M' := by
  obtain ⟨a1, a2, a3, a4, a5, a6, a7, a8⟩ := h
  have hT := a2.1
  have hR := a8.1
  have s0 : S'.2.2 0 = S.2.2 0 := by rw [hC.1]
  have s1 : S'.2.2 1 = S.2.2 1 := by rw [hC.1]
  have s2 : S'.2.2 2 = S.2.2 2 := by rw [hC.1]
  have s3 : S'.2.2 3 = S.2.2 3 := by rw [hC.1]
  unfold isT at hT
  unfold isL at hR
  have hn : hN M' = hN M := by unfold hN; rw [hM 55 8 (by decide) (by omega)]
  refine ⟨a1.cg (fun o k hp => hM o k (by unfold strM at hp; omega) (by unfold strM at hp; omega)), a2.cg (fun o k hp => hM o k (by unfold strM at hp; omega) (by unfold strM at hp; omega)) s0 s1 (fun o k hp => hC.2 o k (by unfold strC at hp; omega) (by unfold strC at hp; omega)), a3.cg hn (fun j _ => hC.2 9 j (by decide) (by omega)) (fun j _ => hM 59 j (by decide) (by omega)), ?_, a5.cg (fun o k hp => hC.2 o k (by unfold kepC at hp; omega) (by unfold kepC at hp; omega)) (fun o k hp => hM o k (by unfold kepM at hp; omega) (by unfold kepM at hp; omega)), ht, a7.cg (fun o h1 h2 k _ => hM o k (by omega) (by omega)), a8.cg s2 s3 (fun o k hp => hC.2 o k (by unfold rulC at hp; omega) (by unfold rulC at hp; omega)) (fun o k hp => hM o k (by unfold rulM at hp; omega) (by unfold rulM at hp; omega))⟩
  rw [hn]
  exact a4.cg (fun k _ => hC.2 20 k (by decide) (by omega)) (fun k _ => hC.2 19 k (by decide) (by omega)) (fun k _ => hM 56 k (by decide) (by omega))
def RTz (S M : St) (z : Nat) : Prop := S.1 1 1 = nI z ∧ M.1 55 11 = nI z ∧ ∀ j, j < 260 → ∃ c, c < 256 ∧ S.1 2 j = nI c ∧ M.1 64 j = sb_b c
theorem feed1 {S M : St} {z : Nat} (h : RTz S M z) (hz : z < 260) (y : Int32) : RTz (pI (pI S 2 z (y &&& 255)) 1 1 (nI (z + 1))) (pI (pI M 64 z (vp_nar .byte y.toInt8.toInt32)) 55 11 (nI (z + 1))) (z + 1) ∧ EqT S (pI (pI S 2 z (y &&& 255)) 1 1 (nI (z + 1))) ∧ EqTM M (pI (pI M 64 z (vp_nar .byte y.toInt8.toInt32)) 55 11 (nI (z + 1))) := by
  obtain ⟨c, c1, c2, c3⟩ := byte_put y
  refine ⟨⟨pI_same _ _ _ _, pI_same _ _ _ _, fun j hj => ?_⟩, ⟨rfl, fun o k h1 h2 => ?_⟩, fun o k h1 h2 => ?_⟩
  · rw [pI_row (pI S 2 z _) (nI (z + 1)) (show (2 : Nat) ≠ 1 by decide), pI_row (pI M 64 z _) (nI (z + 1)) (show (64 : Nat) ≠ 55 by decide)]
    by_cases hq : j = z
    · subst hq
      rw [pI_same, pI_same, c2, c3]
      exact ⟨c, c1, rfl, rfl⟩
    · rw [pI_cell S _ (by omega), pI_cell M _ (by omega)]
      exact h.2.2 j hj
  · rw [pI_cell _ _ h2, pI_cell _ _ (by omega)]
  · rw [pI_cell _ _ h2, pI_cell _ _ (by omega)]
theorem add_step {S : St} {z k : Nat} (x s : Int32) (hz : z < 260) (e : S.1 1 1 = nI z) (hs : ¬ s < 0) : fX7_addInt_3 (k + 1) S x s = fX7_addInt_3 k (pI (pI S 2 z ((x >>> (s &&& 31)) &&& 255)) 1 1 (nI (z + 1))) x (s + (-8)) := by
  show bX7_addInt_3 _ _ _ _ = _
  unfold bX7_addInt_3
  rw [if_neg hs, e, li 260, if_neg (by rw [nle (by decide) (by omega)]; omega), if_pos (inbT hz (by decide)), nI_clamp (by omega)]
  simp only [bS_e, bV_e]
  rw [pI_row S _ (by decide), e, nI_1]
theorem types_step {M : St} {z k : Nat} (x s : Int32) (hz : z < 260) (e : M.1 55 11 = nI z) (hs : ¬ s < 0) : fX12_types_2 (k + 1) M x s = fX12_types_2 k (pI (pI M 64 z (vp_nar .byte ((x >>> (((8 : Int32) * s) &&& 31)).toInt8.toInt32))) 55 11 (nI (z + 1))) x (s + (-1)) := by
  show bX12_types_2 _ _ _ _ = _
  unfold bX12_types_2
  rw [if_neg hs, e, if_pos (inbT hz (by decide)), nI_clamp (by omega)]
  simp only [bS_e, bV_e]
  rw [pI_row M _ (by decide), e, nI_1]
theorem feed4 {S M : St} {z : Nat} (h : RTz S M z) (hz : z + 4 ≤ 260) (x : Int32) : ∃ S' M', fX7_addInt S x = some S' ∧ fX12_types M x = some M' ∧ RTz S' M' (z + 4) ∧ EqT S S' ∧ EqTM M M' := by
  unfold fX7_addInt fX12_types
  have d1 : (24 : Int32) + -8 = 16 := by decide
  have d2 : (16 : Int32) + -8 = 8 := by decide
  have d3 : (8 : Int32) + -8 = 0 := by decide
  have d4 : (0 : Int32) + -8 = -8 := by decide
  have g1 : (3 : Int32) + -1 = 2 := by decide
  have g2 : (2 : Int32) + -1 = 1 := by decide
  have g3 : (1 : Int32) + -1 = 0 := by decide
  have g4 : (0 : Int32) + -1 = -1 := by decide
  have k1 : (8 : Int32) * 3 = 24 := by decide
  have k2 : (8 : Int32) * 2 = 16 := by decide
  have k3 : (8 : Int32) * 1 = 8 := by decide
  have k4 : (8 : Int32) * 0 = 0 := by decide
  obtain ⟨r1, t1, u1⟩ := feed1 h (by omega) (x >>> ((24 : Int32) &&& 31))
  obtain ⟨r2, t2, u2⟩ := feed1 r1 (by omega) (x >>> ((16 : Int32) &&& 31))
  obtain ⟨r3, t3, u3⟩ := feed1 r2 (by omega) (x >>> ((8 : Int32) &&& 31))
  obtain ⟨r4, t4, u4⟩ := feed1 r3 (by omega) (x >>> ((0 : Int32) &&& 31))
  refine ⟨_, _, ?_, ?_, r4, ((t1.tr t2).tr t3).tr t4, ((u1.tr u2).tr u3).tr u4⟩
  · rw [show (100 : Nat) = 96 + 1 + 1 + 1 + 1 from rfl, add_step x 24 (by omega) h.1 (by decide), d1, add_step x 16 (by omega) r1.1 (by decide), d2, add_step x 8 (by omega) r2.1 (by decide), d3, add_step x 0 (by omega) r3.1 (by decide), d4]
    show bX7_addInt_3 _ _ _ _ = _
    unfold bX7_addInt_3
    rw [if_pos (by decide)]
  · rw [show (100 : Nat) = 96 + 1 + 1 + 1 + 1 from rfl, types_step x 3 (by omega) h.2.1 (by decide), g1, k1, types_step x 2 (by omega) r1.2.1 (by decide), g2, k2, types_step x 1 (by omega) r2.2.1 (by decide), g3, k3, types_step x 0 (by omega) r3.2.1 (by decide), g4, k4]
    show bX12_types_2 _ _ _ _ = _
    unfold bX12_types_2
    rw [if_pos (by decide)]
theorem sim_feed (S M : St) (a b c d e : Int32) (h : Rel S M) : ∃ v S1 M1, fX11_feed S a b c d e = some (v, S1) ∧ fX12_feed M a b c d e = some (v, M1) ∧ Rel S1 M1 := by
  obtain ⟨⟨z, hz, z1, z2⟩, ht⟩ := h.2.2.2.2.2.1
  unfold fX11_feed fX12_feed fX7_hasRoom fX7_size
  have e1 : nI z + 20 = nI (z + 20) := by rw [li 20, nI_add]
  simp only [z1, z2, e1, li 260, nlt (show 260 < 2 ^ 31 by decide) (show z + 20 < 2 ^ 31 by omega), nle (show z + 20 < 2 ^ 31 by omega) (show 260 < 2 ^ 31 by decide)]
  by_cases hq : z + 20 ≤ 260
  · have hq2 : ¬ 260 < z + 20 := by omega
    obtain ⟨S1, M1, p1, q1, r1, s1, t1⟩ := feed4 (z := z) ⟨z1, z2, ht⟩ (by omega) a
    obtain ⟨S2, M2, p2, q2, r2, s2, t2⟩ := feed4 r1 (by omega) b
    obtain ⟨S3, M3, p3, q3, r3, s3, t3⟩ := feed4 r2 (by omega) c
    obtain ⟨S4, M4, p4, q4, r4, s4, t4⟩ := feed4 r3 (by omega) d
    obtain ⟨S5, M5, p5, q5, r5, s5, t5⟩ := feed4 r4 (by omega) e
    have h10 : ¬ (1 : Int32) = 0 := by decide
    simp only [hq, hq2, if_true, if_false, bi_some, h10, p1, p2, p3, p4, p5, q1, q2, q3, q4, q5, bv_some, r5.1, r5.2.1]
    exact ⟨_, _, _, rfl, rfl, h.tape ((((s1.tr s2).tr s3).tr s4).tr s5) ((((t1.tr t2).tr t3).tr t4).tr t5) ⟨⟨_, by omega, r5.1, r5.2.1⟩, r5.2.2⟩⟩
  · have hq2 : 260 < z + 20 := by omega
    simp only [hq, hq2, if_true, if_false, bi_some]
    exact ⟨_, _, _, rfl, rfl, h⟩
-- keep
theorem copies12 (o o2 : Nat) (hne : o2 ≠ o) (M : St) : fX12_copies o o2 M = some (cpA M o o2 21) := by
  unfold fX12_copies
  obtain ⟨S', h1, h2⟩ := loop_inv (F := fun k S i => fX12_copies_2 o o2 k S (nI i)) (fun i S => S = cpA M o o2 i) (fun S => some S) 21 (fun k S i hi hp => by
      refine ⟨cpA M o o2 (i + 1), ?_, rfl⟩
      show bX12_copies_2 _ _ _ _ _ = _
      unfold bX12_copies_2
      rw [li 21, if_neg (by rw [nle (by decide) (by omega)]; omega)]
      simp only [inbT hi (show 21 < 2 ^ 31 by decide), if_true, nI_clamp (show i < 2 ^ 31 by omega), bS_e, bV_e, nI_1]
      congr 1
      subst hp
      refine Prod.ext ?_ rfl
      funext a b
      show (if a = o2 ∧ b = i then (cpA M o o2 i).1 o i else (cpA M o o2 i).1 a b) = if a = o2 ∧ b < i + 1 then M.1 o b else M.1 a b
      have e1 : (cpA M o o2 i).1 o i = M.1 o i := by
        show (if o = o2 ∧ i < i then M.1 o i else M.1 o i) = M.1 o i
        split <;> rfl
      rw [e1]
      show (if a = o2 ∧ b = i then M.1 o i else if a = o2 ∧ b < i then M.1 o b else M.1 a b) = _
      by_cases c1 : a = o2
      · by_cases c2 : b = i
        · subst c2
          rw [if_pos ⟨c1, rfl⟩, if_pos ⟨c1, by omega⟩]
        · rw [if_neg (by omega)]
          by_cases c3 : b < i
          · rw [if_pos ⟨c1, c3⟩, if_pos ⟨c1, by omega⟩]
          · rw [if_neg (by omega), if_neg (by omega)]
      · rw [if_neg (by omega), if_neg (by omega), if_neg (by omega)]) (fun k S hp => by
      show bX12_copies_2 _ _ _ _ _ = _
      unfold bX12_copies_2
      rw [if_pos (by decide)]) 21 100 M 0 rfl (by decide) (by
      refine Prod.ext ?_ rfl
      funext a b
      show M.1 a b = if a = o2 ∧ b < 0 then M.1 o b else M.1 a b
      rw [if_neg (by omega)])
  rw [← h1]
  exact h2
theorem cpA_in (S : St) {o o2 n k : Nat} (h : k < n) : (cpA S o o2 n).1 o2 k = S.1 o k := by
  show (if o2 = o2 ∧ k < n then S.1 o k else S.1 o2 k) = _
  rw [if_pos ⟨rfl, h⟩]
theorem cpA_out (S : St) {o o2 n a k : Nat} (h : a ≠ o2) : (cpA S o o2 n).1 a k = S.1 a k := by
  show (if a = o2 ∧ k < n then S.1 o k else S.1 a k) = _
  rw [if_neg (by omega)]
def cpS (S : St) (o o2 : Nat) : St := cpA (pI (pI (pI (pI (pI S o2 1 (S.1 o 1)) o2 2 (S.1 o 2)) o2 3 (S.1 o 3)) o2 4 (S.1 o 4)) o2 5 (S.1 o 5)) (o + 1) (o2 + 1) 16
theorem copyF {S : St} {o o2 : Nat} (h : o2 ≠ o) (h2 : o2 + 1 ≠ o + 1) (h3 : o2 ≠ o + 1) : fX6_copyFrom o2 o S = some (cpS S o o2) := by
  unfold fX6_copyFrom cpS
  simp only [bS_e]
  simp only [pI_row S _ (Ne.symm h), pI_row (pI S o2 1 _) _ (Ne.symm h), pI_row (pI (pI S o2 1 _) o2 2 _) _ (Ne.symm h), pI_row (pI (pI (pI S o2 1 _) o2 2 _) o2 3 _) _ (Ne.symm h)]
theorem cpS_out {S : St} {o o2 a k : Nat} (h1 : a ≠ o2) (h2 : a ≠ o2 + 1) : (cpS S o o2).1 a k = S.1 a k := by
  unfold cpS
  rw [cpA_out _ h2, pI_row _ _ h1, pI_row _ _ h1, pI_row _ _ h1, pI_row _ _ h1, pI_row _ _ h1]
theorem cpS_f {S : St} {o o2 k : Nat} (h1 : 1 ≤ k) (h2 : k ≤ 5) : (cpS S o o2).1 o2 k = S.1 o k := by
  unfold cpS
  rw [cpA_out _ (by omega)]
  have : k = 1 ∨ k = 2 ∨ k = 3 ∨ k = 4 ∨ k = 5 := by omega
  rcases this with rfl | rfl | rfl | rfl | rfl
  · rw [pI_cell _ _ (by omega), pI_cell _ _ (by omega), pI_cell _ _ (by omega), pI_cell _ _ (by omega), pI_same]
  · rw [pI_cell _ _ (by omega), pI_cell _ _ (by omega), pI_cell _ _ (by omega), pI_same]
  · rw [pI_cell _ _ (by omega), pI_cell _ _ (by omega), pI_same]
  · rw [pI_cell _ _ (by omega), pI_same]
  · rw [pI_same]
theorem cpS_j {S : St} {o o2 k : Nat} (h : k < 16) (h2 : o2 ≠ o + 1) : (cpS S o o2).1 (o2 + 1) k = S.1 (o + 1) k := by
  unfold cpS
  rw [cpA_in _ h, pI_row _ _ (by omega), pI_row _ _ (by omega), pI_row _ _ (by omega), pI_row _ _ (by omega), pI_row _ _ (by omega)]
theorem RSta.copy {S M : St} {o mo hs : Nat} (a : RSta S M o mo hs) {S' M' : St} {o2 mo2 : Nat} (f1 : ∀ k, 1 ≤ k → k ≤ 5 → S'.1 o2 k = S.1 o k) (f2 : ∀ k, k < 16 → S'.1 (o2 + 1) k = S.1 (o + 1) k) (f3 : ∀ k, k < 21 → M'.1 mo2 k = M.1 mo k) : RSta S' M' o2 mo2 hs := by
  obtain ⟨b1, b2, b3, b4, b5, b6⟩ := a
  refine ⟨fun k hk => ?_, ?_, ?_, ?_, ?_, ?_⟩
  · rw [f2 k hk, f3 k (by omega)]; exact b1 k hk
  · rw [f1 1 (by decide) (by decide), f3 16 (by decide)]; exact b2
  · rw [f1 2 (by decide) (by decide), f3 17 (by decide)]; exact b3
  · rw [f1 3 (by decide) (by decide), f3 18 (by decide)]; exact b4
  · rw [f1 4 (by decide) (by decide), f3 19 (by decide)]; exact b5
  · rw [f1 5 (by decide) (by decide), f3 20 (by decide)]; exact b6
/-- all but the state cells is kept -/
theorem Rel.parts {S M S' M' : St} (h : Rel S M) (e2 : S'.2.2 = S.2.2) (hC : ∀ o k, o ≠ 19 → o ≠ 20 → o ≠ 23 → o ≠ 24 → ¬ (o = 0 ∧ k = 14) → S'.1 o k = S.1 o k) (hM : ∀ o k, o ≠ 56 → o ≠ 58 → ¬ (o = 55 ∧ (k = 59 ∨ k = 60)) → M'.1 o k = M.1 o k) (h4 : RSta S' M' 19 56 (hN M)) (h5 : RKep S' M') : Rel S' M' := by
  obtain ⟨a1, a2, a3, a4, a5, a6, a7, a8⟩ := h
  have hT := a2.1
  have hR := a8.1
  unfold isT at hT
  unfold isL at hR
  have s0 : S'.2.2 0 = S.2.2 0 := by rw [e2]
  have s1 : S'.2.2 1 = S.2.2 1 := by rw [e2]
  have s2 : S'.2.2 2 = S.2.2 2 := by rw [e2]
  have s3 : S'.2.2 3 = S.2.2 3 := by rw [e2]
  have hn : hN M' = hN M := by unfold hN; rw [hM 55 8 (by decide) (by decide) (by omega)]
  refine ⟨a1.cg (fun o k hp => hM o k (by unfold strM at hp; omega) (by unfold strM at hp; omega) (by unfold strM at hp; omega)), a2.cg (fun o k hp => hM o k (by unfold strM at hp; omega) (by unfold strM at hp; omega) (by unfold strM at hp; omega)) s0 s1 (fun o k hp => hC o k (by unfold strC at hp; omega) (by unfold strC at hp; omega) (by unfold strC at hp; omega) (by unfold strC at hp; omega) (by unfold strC at hp; omega)), a3.cg hn (fun j _ => hC 9 j (by decide) (by decide) (by decide) (by decide) (by omega)) (fun j _ => hM 59 j (by decide) (by decide) (by omega)), by rw [hn]; exact h4, h5, a6.cg (hC 1 1 (by decide) (by decide) (by decide) (by decide) (by omega)) (hM 55 11 (by decide) (by decide) (by omega)) (fun j _ => hC 2 j (by decide) (by decide) (by decide) (by decide) (by omega)) (fun j _ => hM 64 j (by decide) (by decide) (by omega)), a7.cg (fun o h1 h2 k _ => hM o k (by omega) (by omega) (by omega)), a8.cg s2 s3 (fun o k hp => hC o k (by unfold rulC at hp; omega) (by unfold rulC at hp; omega) (by unfold rulC at hp; omega) (by unfold rulC at hp; omega) (by unfold rulC at hp; omega)) (fun o k hp => hM o k (by unfold rulM at hp; omega) (by unfold rulM at hp; omega) (by unfold rulM at hp; omega))⟩
theorem sim_keep (S M : St) (h : Rel S M) : ∃ v S1 M1, fX11_keep S = some (v, S1) ∧ fX12_keep M = some (v, M1) ∧ Rel S1 M1 := by
  unfold fX11_keep fX12_keep
  simp only [copyF (S := S) (o := 19) (o2 := 23) (by decide) (by decide) (by decide), copies12 56 58 (by decide), bv_some, bS_e]
  have a4 := h.2.2.2.1
  refine ⟨M.1 56 19, pI (cpS S 19 23) 0 14 1, cpA (pI (pI M 55 59 1) 55 60 ((pI M 55 59 1).1 55 8)) 56 58 21, ?_, ?_, ?_⟩
  rotate_left
  · rw [cpA_out _ (by decide), pI_row _ _ (by decide), pI_row _ _ (by decide)]
  · refine h.parts (S' := pI (cpS S 19 23) 0 14 1) rfl (fun o k h1 h2 h3 h4 h5 => ?_) (fun o k h1 h2 h3 => ?_) ?_ ?_
    · rw [pI_cell _ _ h5, cpS_out h3 h4]
    · rw [cpA_out _ h2, pI_cell _ _ (by omega), pI_cell _ _ (by omega)]
    · exact a4.cg (fun k _ => by rw [pI_row _ _ (by decide), cpS_out (by decide) (by decide)]) (fun k _ => by rw [pI_row _ _ (by decide), cpS_out (by decide) (by decide)]) (fun k _ => by rw [cpA_out _ (by decide), pI_row _ _ (by decide), pI_row _ _ (by decide)])
    · refine ⟨?_, Or.inr ⟨?_, ?_, ?_⟩⟩
      · rw [pI_same, cpA_out _ (by decide), pI_cell _ _ (by omega), pI_same]
      · rw [cpA_out _ (by decide), pI_cell _ _ (by omega), pI_same]
      · rw [cpA_out _ (by decide), pI_same, pI_cell _ _ (by omega)]
        exact ⟨hN M, by have := h.1.1.2; omega, h.1.1.1⟩
      · have e : gv ((cpA (pI (pI M 55 59 1) 55 60 ((pI M 55 59 1).1 55 8)) 56 58 21).1 55 60) = hN M := by
          rw [cpA_out _ (by decide), pI_same, pI_cell _ _ (by omega)]
          rfl
        rw [e]
        exact a4.copy (fun k h1 h2 => by rw [pI_row _ _ (by decide), cpS_f h1 h2]) (fun k h1 => by rw [pI_row _ _ (by decide), cpS_j h1 (by decide)]) (fun k hk => by rw [cpA_in _ hk, pI_row _ _ (by decide), pI_row _ _ (by decide)])
  · rw [pI_row _ _ (by decide), cpS_out (by decide) (by decide), a4.2.2.2.2.1.1]
