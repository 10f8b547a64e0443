theorem bestSet4 {S M0 : St} (h : Rel S M0) {fu : Nat} (hfu : 16 < fu) : ∃ M, Ex 89 M0 M ∧ (∀ a, a < 16 → M.1 89 a = nI (wv M0 a)) ∧ fX12_bestSet_4 fu M0 0 0 = fX12_bestSet_62 70000 (pI M 90 0 0) (nI (orN (wv M0) 16)) (M.1 55 8) 1 := by
  have key := loop_inv (F := fun f (s : St × Nat) i => fX12_bestSet_4 f s.1 (nI s.2) (nI i)) (fun i s => Ex 89 M0 s.1 ∧ s.2 = orN (wv M0) i ∧ ∀ a, a < i → s.1.1 89 a = nI (wv M0 a)) (fun s => fX12_bestSet_62 70000 (pI s.1 90 0 0) (nI s.2) (s.1.1 55 8) 1) 16 (fun f s i hi hp => by
      obtain ⟨M, x⟩ := s
      obtain ⟨p1, p2, p3⟩ := hp
      have p1 : Ex 89 M0 M := p1
      have p2 : x = orN (wv M0) i := p2
      have eqm : EqM M0 M := p1.eqM (by unfold coreM; omega)
      have h' : Rel S M := h.keep (EqC.rf S) eqm
      have e3 : everN M i = everN M0 i := everN_eqM eqm i
      have e4 : hN M = hN M0 := by unfold hN; rw [p1.2 55 (by decide)]
      refine ⟨(pI M 89 i (nI (wv M0 i)), x ||| wv M0 i), ?_, p1.put _ _, by show x ||| wv M0 i = _; rw [p2, orN], fun a ha => ?_⟩
      · show bX12_bestSet_4 _ M (nI x) (nI i) = _
        unfold bX12_bestSet_4 fX12_bestSet_32
        rw [li 16, if_neg (by rw [nle (by decide) (by omega)]; omega)]
        simp only [isHouse12, h'.hoN hi, bi_some, ite_b2i, everSeenBy12 h'.1 hi, e3, e4, inbT hi (show 16 < 2 ^ 31 by decide), if_true, nI_clamp (show i < 2 ^ 31 by omega), bS_e, bV_e, pI_same, nI_1]
        unfold wv
        by_cases c : (hN M0).testBit i = true
        · simp only [c, if_true, or_nI]
        · simp only [c, li 0, or_nI]
          rfl
      · show (pI M 89 i (nI (wv M0 i))).1 89 a = _
        by_cases e : a = i
        · subst e; rw [pI_same]
        · rw [pI_cell _ _ (by omega)]; exact p3 a (by omega)) (fun f s hp => by
      show bX12_bestSet_4 _ _ _ _ = _
      unfold bX12_bestSet_4
      rw [if_pos (by decide), bV_e, bS_e]) 16 fu (M0, 0) 0 rfl hfu ⟨Ex.rf _ _, rfl, fun a ha => absurd ha (Nat.not_lt_zero _)⟩
  obtain ⟨⟨M, x⟩, ⟨k1, k2, k3⟩, k4⟩ := key
  have k2 : x = orN (wv M0) 16 := k2
  subst k2
  exact ⟨M, k1, k3, k4⟩
theorem bestSet12 {S M0 : St} (h : Rel S M0) : ∃ M' B, EqM M0 M' ∧ MBest (wv M0) (hN M0) B ∧ fX12_bestSet M0 = some (nI B, M') := by
  have hh := h.1.1.2
  obtain ⟨M, k1, k3, k4⟩ := bestSet4 h (fu := 70000) (by decide)
  have e8 : M.1 55 8 = nI (hN M0) := by rw [k1.2 55 (by decide)]; exact h.1.1.1
  obtain ⟨M', g1, g2, g3⟩ := bs62 (wv_lt M0) k3 (nI (orN (wv M0) 16)) (M.1 55 8) (fu := 70000) (by decide)
  have hc : covs (wv M0) (hN M0) (orN (wv M0) 16) := by
    intro j hj
    obtain ⟨a, ha, hb⟩ := (orN_tb _ j 16).mp hj
    refine ⟨a, ha, ?_, hb⟩
    unfold wv at hb
    by_cases c : (hN M0).testBit a = true
    · exact c
    · rw [if_neg c, Nat.zero_testBit] at hb
      cases hb
  have e : (65535 : Int32) = nI 65536 + (-1) := by decide
  obtain ⟨B, f1, f2⟩ := bs104 (M := M') (wv_lt M0) hh (by rw [g1.2 55 (by decide)]; exact e8) hc g2 65536 70000 (hN M0) (Nat.le_refl _) (by decide) hh (fun _ z => z) hc (fun s h1 h2 => by omega)
  refine ⟨M', B, (k1.eqM (by unfold coreM; omega)).tr (g1.eqM (by unfold coreM; omega)), f1, ?_⟩
  rw [e8, e] at g3
  rw [e8] at k4
  unfold fX12_bestSet
  rw [k4, g3, f2]
theorem best_eq {w c : Nat → Nat} {h m B C : Nat} (hw : ∀ a, w a ≠ 0 → h.testBit a = true) (hcan : ∀ a, a < 16 → w a ≠ 0 → ∃ j, j < m ∧ c j ≤ a ∧ w (c j) = w a) (hB : MBest w h B) (hC : KBest w c m C) : B = C := by
  obtain ⟨b1, b2, b3, b4⟩ := hB
  obtain ⟨c1, c2, c3, c4⟩ := hC
  have bsub : subs c m B := by
    intro a ha
    have ha16 : a < 16 := by
      rcases Nat.lt_or_ge a 16 with z | z
      · exact z
      · rw [tb_big b1 z] at ha; cases ha
    rcases Classical.em (∃ i, i < m ∧ c i = a) with z | z
    · exact z
    · exfalso
      have hpc := pc_cb b1 ha16 ha
      have hcb := Nat.lt_of_le_of_lt (cb_le B a) b1
      by_cases e : w a = 0
      · have := b4 (cb B a) hcb (fun i hi => b2 i (by
          rw [cb_tb b1 (by omega), Bool.and_eq_true] at hi
          exact hi.1)) (fun j hj => by
          obtain ⟨i, hi, q1, q2⟩ := b3 j hj
          refine ⟨i, hi, ?_, q2⟩
          rw [cb_tb b1 (by omega), q1]
          by_cases e2 : a = i
          · subst e2
            rw [e, Nat.zero_testBit] at q2
            cases q2
          · simp [e2])
        omega
      · obtain ⟨j, z1, z2, z3⟩ := hcan a ha16 e
        have z4 : c j ≠ a := fun z5 => z ⟨j, z1, z5⟩
        have hs : cb B a ||| 2 ^ c j < 65536 := or_lt (n := 16) hcb (by omega)
        have htb : ∀ i, (cb B a ||| 2 ^ c j).testBit i = ((B.testBit i && !decide (a = i)) || decide (c j = i)) := fun i => by
          rw [Nat.testBit_or, cb_tb b1 (by omega), Nat.testBit_two_pow]
        have := b4 (cb B a ||| 2 ^ c j) hs (fun i hi => by
          rw [htb, Bool.or_eq_true, Bool.and_eq_true] at hi
          rcases hi with q | q
          · exact b2 i q.1
          · have : c j = i := by simpa using q
            rw [← this]
            exact hw _ (by rw [z3]; exact e)) (fun k hk => by
          obtain ⟨i, hi, q1, q2⟩ := b3 k hk
          by_cases e2 : a = i
          · subst e2
            exact ⟨c j, by omega, by rw [htb]; simp, by rw [z3]; exact q2⟩
          · exact ⟨i, hi, by rw [htb, q1]; simp [e2], q2⟩)
        have hlt : cb B a ||| 2 ^ c j < B := by
          refine tb_lt (i := a) ?_ ha (fun i hi => ?_)
          · rw [htb]; simp [z4]
          · rw [htb]
            have q1 : ¬ a = i := by omega
            have q2 : ¬ c j = i := by omega
            simp [q1, q2]
        have hpc2 : pcN (cb B a ||| 2 ^ c j) 16 ≤ pcN (cb B a) 16 + 1 := by
          cases q : (cb B a).testBit (c j) with
          | false => rw [pc_or (by omega) q]; exact Nat.le_refl _
          | true =>
            have : cb B a ||| 2 ^ c j = cb B a := by
              apply Nat.eq_of_testBit_eq
              intro i
              rw [Nat.testBit_or, Nat.testBit_two_pow]
              by_cases e3 : c j = i
              · subst e3; rw [q]; rfl
              · simp [e3]
            rw [this]
            omega
        omega
  have q1 := c4 B b1 bsub b3
  have q2 := b4 C c1 (fun a ha => by
    obtain ⟨i, hi, e⟩ := c2 a ha
    have hK : KN (fun _ => a) 1 < 65536 := by
      have ha16 : a < 16 := by
        rcases Nat.lt_or_ge a 16 with z | z
        · exact z
        · rw [tb_big c1 z] at ha; cases ha
      exact or_lt (n := 16) (show 0 < 65536 by decide) ha16
    rcases Classical.em (w a = 0) with z | z
    · exfalso
      have ha16 : a < 16 := by
        rcases Nat.lt_or_ge a 16 with z | z
        · exact z
        · rw [tb_big c1 z] at ha; cases ha
      have hpc := pc_cb c1 ha16 ha
      have := c4 (cb C a) (Nat.lt_of_le_of_lt (cb_le C a) c1) (fun i hi => c2 i (by
          rw [cb_tb c1 (by omega), Bool.and_eq_true] at hi
          exact hi.1)) (fun j hj => by
          obtain ⟨i, hi, q1, q2⟩ := c3 j hj
          refine ⟨i, hi, ?_, q2⟩
          rw [cb_tb c1 (by omega), q1]
          by_cases e2 : a = i
          · subst e2
            rw [z, Nat.zero_testBit] at q2
            cases q2
          · simp [e2])
      omega
    · exact hw a z) c3
  omega
theorem sim_second (S M : St) (x : Int32) (h : Rel S M) : ∃ v S1 M1, fX11_second S x = some (v, S1) ∧ fX12_second M x = some (v, M1) ∧ Rel S1 M1 := by
  obtain ⟨S', c, m, C, a1, a2, a3, a4⟩ := fewest8 h
  obtain ⟨M', B, b1, b2, b3⟩ := bestSet12 h
  have hr : Rel S' M' := h.keep a1 b1
  have e : B = C := best_eq (fun a hw => by
    unfold wv at hw
    by_cases c : (hN M).testBit a = true
    · exact c
    · rw [if_neg c] at hw
      exact absurd rfl hw) a2 b2 a3
  subst e
  have hB := b2.1
  unfold fX11_second fX12_second
  simp only [in12, bi_some, ite_b2i, rng_cls, i0, i1, h.2.1.1, if_true, a4, b3, bits12 M' hB, bitCount6 S' hB]
  by_cases hx : inR x 0 1 = true
  · simp only [hx, if_true]
    by_cases e : x = 0
    · simp only [e, if_true]
      exact ⟨_, _, _, rfl, rfl, hr⟩
    · simp only [e, if_false]
      exact ⟨_, _, _, rfl, rfl, hr⟩
  · simp only [hx]
    exact ⟨_, _, _, rfl, rfl, h⟩
