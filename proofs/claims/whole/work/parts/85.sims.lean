-- shortest
theorem lo46 {n : Nat} (rc : St → Int32 → Int32 → Option (Int32 × St)) {M0 M : St} (hE : Exm M0 M) (x y : Int32) : ∃ M', Exm M0 M' ∧ M'.1 87 = M.1 87 ∧ (∀ j, j < 1088 → M'.1 88 j = M.1 87 j) ∧ fX12_leastOfAll_46 rc 1100 M x y 0 = fX12_leastOfAll_73 rc 1100 M' x y 0 := by
  have key := loop_inv (F := fun f M1 i => fX12_leastOfAll_46 rc f M1 x y (nI i)) (fun i M1 => Exm M0 M1 ∧ M1.1 87 = M.1 87 ∧ ∀ j, j < i → M1.1 88 j = M.1 87 j) (fun M1 => fX12_leastOfAll_73 rc 1100 M1 x y 0) 1088 (fun f M1 i hi hq => by
      obtain ⟨q1, q2, q3⟩ := hq
      refine ⟨pI M1 88 i (M1.1 87 i), ?_, q1.put (Or.inr rfl) _ _, by rw [pI_row _ _ (by decide)]; exact q2, fun j hj => ?_⟩
      · show bX12_leastOfAll_46 _ _ _ _ _ _ = _
        unfold bX12_leastOfAll_46
        rw [li 1088, if_neg (by rw [nle (by decide) (by omega)]; omega), if_pos (inbT hi (by decide)), if_pos (inbT hi (by decide)), nI_clamp (by omega), bS_e, bV_e, nI_1]
      · by_cases e : j = i
        · subst e; rw [pI_same, q2]
        · rw [pI_cell _ _ (by omega)]; exact q3 j (by omega)) (fun f M1 hq => by
      show bX12_leastOfAll_46 _ _ _ _ _ _ = _
      unfold bX12_leastOfAll_46
      rw [if_pos (by decide)]) 1088 1100 M 0 rfl (by decide) ⟨hE, rfl, fun j hj => absurd hj (Nat.not_lt_zero _)⟩
  obtain ⟨M', ⟨k1, k2, k3⟩, k4⟩ := key
  exact ⟨M', k1, k2, k3, k4⟩
theorem lo102 {n : Nat} (rc : St → Int32 → Int32 → Option (Int32 × St)) {M0 M : St} (hE : Exm M0 M) (x y : Int32) : ∃ M', Exm M0 M' ∧ (∀ j, j < 1088 → M'.1 87 j = M.1 88 j) ∧ fX12_leastOfAll_102 rc 1100 M x y 0 = rc M' x (y + 1) := by
  have key := loop_inv (F := fun f M1 i => fX12_leastOfAll_102 rc f M1 x y (nI i)) (fun i M1 => Exm M0 M1 ∧ M1.1 88 = M.1 88 ∧ ∀ j, j < i → M1.1 87 j = M.1 88 j) (fun M1 => rc M1 x (y + 1)) 1088 (fun f M1 i hi hq => by
      obtain ⟨q1, q2, q3⟩ := hq
      refine ⟨pI M1 87 i (M1.1 88 i), ?_, q1.put (Or.inl rfl) _ _, by rw [pI_row _ _ (by decide)]; exact q2, fun j hj => ?_⟩
      · show bX12_leastOfAll_102 _ _ _ _ _ _ = _
        unfold bX12_leastOfAll_102
        rw [li 1088, if_neg (by rw [nle (by decide) (by omega)]; omega), if_pos (inbT hi (by decide)), if_pos (inbT hi (by decide)), nI_clamp (by omega), bS_e, bV_e, nI_1]
      · by_cases e : j = i
        · subst e; rw [pI_same, q2]
        · rw [pI_cell _ _ (by omega)]; exact q3 j (by omega)) (fun f M1 hq => by
      show bX12_leastOfAll_102 _ _ _ _ _ _ = _
      unfold bX12_leastOfAll_102
      rw [if_pos (by decide), bV_e]) 1088 1100 M 0 rfl (by decide) ⟨hE, rfl, fun j hj => absurd hj (Nat.not_lt_zero _)⟩
  obtain ⟨M', ⟨k1, k2, k3⟩, k4⟩ := key
  exact ⟨M', k1, k3, k4⟩
theorem lo73 {S M0 M : St} (hr : Rel S M0) {b : Nat → Nat} (hb : ∀ j, b j < 256) (hT : TapM b M0) {n t : Nat} (h6 : n ≤ 6) (ht : t < 12) (hth : ∀ j, j < n → b (2 * j + 1) < 16) (hW : WiH (byN M0 b n) (fun a => (hN M0).testBit a) (fun j => b (2 * j)) n) (hE : Exm M0 M) (rc : St → Int32 → Int32 → Option (Int32 × St)) (hC : CeM M 87 n (RM (byN M0 b n) (fun a => (hN M0).testBit a) t)) (hD : CeM M 88 n (RM (byN M0 b n) (fun a => (hN M0).testBit a) t)) : ∃ M', Exm M0 M' ∧ CeM M' 88 n (RM (byN M0 b n) (fun a => (hN M0).testBit a) (t + 1)) ∧ fX12_leastOfAll_73 rc 1100 M (nI n) (nI t) 0 = fX12_leastOfAll_102 rc 1100 M' (nI n) (nI t) 0 := by
  have key := loop_inv (F := fun f M1 i => fX12_leastOfAll_73 rc f M1 (nI n) (nI t) (nI i)) (fun i M1 => Exm M0 M1 ∧ M1.1 87 = M.1 87 ∧ CeM M1 88 n (StM (byN M0 b n) (fun a => (hN M0).testBit a) t i 0 0)) (fun M1 => fX12_leastOfAll_102 rc 1100 M1 (nI n) (nI t) 0) 16 (fun f M1 i hi hq => by
      obtain ⟨q1, q2, q3⟩ := hq
      have hr1 : Rel S M1 := hr.keep (EqC.rf S) q1.eqM
      have e4 : hN M1 = hN M0 := by unfold hN; rw [q1.2 55 (by decide) (by decide)]
      have hb2 : ∃ M2, bX12_leastOfAll_73 rc (fX12_leastOfAll_73 rc f) M1 (nI n) (nI t) (nI i) = fX12_leastOfAll_73 rc f M2 (nI n) (nI t) (nI (i + 1)) ∧ Exm M0 M2 ∧ M2.1 87 = M.1 87 ∧ CeM M2 88 n (StM (byN M0 b n) (fun a => (hN M0).testBit a) t (i + 1) 0 0) := by
        unfold bX12_leastOfAll_73
        rw [li 16, if_neg (by rw [nle (by decide) (by omega)]; omega), isHouse12, bi_some, hr1.hoN hi, e4]
        cases c : (hN M0).testBit i with
        | false =>
          refine ⟨M1, ?_, q1, q2, q3.cg (fun p l _ _ w f => StM_skip (Or.inl c))⟩
          rw [b2i_f, if_pos rfl, bV_e, nI_1]
        | true =>
          obtain ⟨M2, r1, r2, r3, r4⟩ := ch12 hr hb hT h6 ht hi hth hW q1 c (show CeM M1 87 n _ by unfold CeM; rw [q2]; exact hC) q3
          refine ⟨M2, ?_, r1, r2.trans q2, r3⟩
          rw [b2i_t, if_neg (by decide), r4, bv_some, bV_e, nI_1]
      exact hb2) (fun f M1 hq => by
      show bX12_leastOfAll_73 _ _ _ _ _ _ = _
      unfold bX12_leastOfAll_73
      rw [if_pos (by decide)]) 16 1100 M 0 rfl (by decide) ⟨hE, rfl, hD.cg (fun p l _ _ w f => StM_0.symm)⟩
  obtain ⟨M', ⟨k1, k2, k3⟩, k4⟩ := key
  exact ⟨M', k1, k3.cg (fun p l _ _ w f => StM_end), k4⟩
theorem lo139 {M : St} {by_ : Nat → Nat → Nat} {ho : Nat → Bool} {n : Nat} (h6 : n ≤ 6) (hC : CeM M 87 n (RM by_ ho 12)) : ∃ v, Mn 100000000 (fun c => ∃ l w f, l < 16 ∧ RM by_ ho 12 (2 ^ n - 1) l w f ∧ c = 32 * w + f) v ∧ fX12_leastOfAll_139 1100 M (nI n) 100000000 0 = some (nI v, M) := by
  have hp : 2 ^ n ≤ 64 := Nat.pow_le_pow_right (by decide) h6
  have hp0 := Nat.two_pow_pos n
  have key := loop_inv (F := fun f (v : Nat) i => fX12_leastOfAll_139 f M (nI n) (nI v) (nI i)) (fun i v => Mn 100000000 (fun c => ∃ l w f, l < i ∧ RM by_ ho 12 (2 ^ n - 1) l w f ∧ c = 32 * w + f) v) (fun v => some (nI v, M)) 16 (fun f v i hi hm => by
      obtain ⟨u, u1, u2⟩ := hC (2 ^ n - 1) (by omega) i (by omega)
      have hv := hm.le
      have hu := u2.le
      refine ⟨min v u, ?_, ?_⟩
      · have x1 : ∀ S, fX12_stateOf S (nI (2 ^ n - 1)) (nI i) = some (nI (17 * (2 ^ n - 1) + i), S) := fun S => by
          unfold fX12_stateOf
          rw [li 17, pk_mul, nI_add]
        show bX12_leastOfAll_139 _ _ _ _ _ = _
        unfold bX12_leastOfAll_139
        rw [li 16, if_neg (by rw [nle (by decide) (by omega)]; omega), full_e h6, x1, bi_some, if_pos (inbT (by omega) (by decide)), nI_clamp (by omega), u1, min12, bi_some, nI_mn2 (by omega) (by omega), bV_e, nI_1]
      · refine (hm.two u2).cg (fun c => ?_)
        constructor
        · rintro (⟨j, w, f, a1, a2, a3⟩ | ⟨w, f, a2, a3⟩)
          · exact ⟨j, w, f, by omega, a2, a3⟩
          · exact ⟨i, w, f, by omega, a2, a3⟩
        · rintro ⟨j, w, f, a1, a2, a3⟩
          by_cases e : j = i
          · subst e; exact Or.inr ⟨w, f, a2, a3⟩
          · exact Or.inl ⟨j, w, f, by omega, a2, a3⟩) (fun f v hm => by
      show bX12_leastOfAll_139 _ _ _ _ _ = _
      unfold bX12_leastOfAll_139
      rw [if_pos (by decide)]) 16 1100 100000000 0 rfl (by decide) (Mn.no (fun c ⟨j, _, _, a, _⟩ => absurd a (Nat.not_lt_zero _)))
  obtain ⟨v, k1, k2⟩ := key
  exact ⟨v, k1, k2⟩
theorem least12 {S M0 : St} (hr : Rel S M0) {b : Nat → Nat} (hb : ∀ j, b j < 256) (hT : TapM b M0) {n : Nat} (h6 : n ≤ 6) (hth : ∀ j, j < n → b (2 * j + 1) < 16) (hW : WiH (byN M0 b n) (fun a => (hN M0).testBit a) (fun j => b (2 * j)) n) : ∃ v M', Exm M0 M' ∧ Mn 100000000 (fun c => ∃ l w f, l < 16 ∧ RM (byN M0 b n) (fun a => (hN M0).testBit a) 12 (2 ^ n - 1) l w f ∧ c = 32 * w + f) v ∧ fX12_leastOfAll M0 (nI n) = some (nI v, M') := by
  have hp : 2 ^ n ≤ 64 := Nat.pow_le_pow_right (by decide) h6
  have k1 := loop_inv (F := fun f M1 i => fX12_leastOfAll_2 f M1 (nI n) (nI i)) (fun i M1 => Exm M0 M1 ∧ ∀ j, j < i → M1.1 87 j = nI 100000000) (fun M1 => fX12_leastOfAll_38 1100 (pI M1 87 16 0) (nI n) 0) 1088 (fun f M1 i hi hq => by
      obtain ⟨q1, q2⟩ := hq
      refine ⟨pI M1 87 i (nI 100000000), ?_, q1.put (Or.inl rfl) _ _, fun j hj => ?_⟩
      · show bX12_leastOfAll_2 _ _ _ _ = _
        unfold bX12_leastOfAll_2
        rw [li 1088, if_neg (by rw [nle (by decide) (by omega)]; omega), if_pos (inbT hi (by decide)), nI_clamp (by omega), bS_e, bV_e, nI_1, li 100000000]
      · by_cases e : j = i
        · subst e; rw [pI_same]
        · rw [pI_cell _ _ (by omega)]; exact q2 j (by omega)) (fun f M1 hq => by
      have x1 : ∀ S, fX12_stateOf S 0 16 = some (nI 16, S) := fun S => by
        unfold fX12_stateOf
        rw [show ((17 : Int32) * 0 + 16) = nI 16 by decide]
      show bX12_leastOfAll_2 _ _ _ _ = _
      unfold bX12_leastOfAll_2
      rw [if_pos (by decide), x1, bi_some, if_pos (inbT (show 16 < 1088 by decide) (by decide)), nI_clamp (by decide), bS_e]) 1088 1100 M0 0 rfl (by decide) ⟨Exm.rf M0, fun j hj => absurd hj (Nat.not_lt_zero _)⟩
  obtain ⟨M1, ⟨a1, a2⟩, a3⟩ := k1
  have hinit : CeM (pI M1 87 16 0) 87 n (RM (byN M0 b n) (fun a => (hN M0).testBit a) 0) := by
    intro p hp2 l hl
    by_cases e : p = 0 ∧ l = 16
    · obtain ⟨rfl, rfl⟩ := e
      refine ⟨0, pI_same _ _ _ _, Or.inr ⟨⟨0, 0, ⟨rfl, rfl, rfl, rfl⟩, rfl⟩, by decide, fun c _ => Nat.zero_le _⟩⟩
    · refine ⟨100000000, ?_, Mn.no (fun c ⟨w, f, z, _⟩ => e ⟨z.1, z.2.1⟩)⟩
      rw [pI_cell _ _ (by omega)]
      exact a2 _ (by omega)
  have k2 := loop_inv (F := fun f M2 i => fX12_leastOfAll_38 f M2 (nI n) (nI i)) (fun i M2 => Exm M0 M2 ∧ CeM M2 87 n (RM (byN M0 b n) (fun a => (hN M0).testBit a) i)) (fun M2 => fX12_leastOfAll_139 1100 M2 (nI n) 100000000 0) 12 (fun f M2 i hi hq => by
      obtain ⟨q1, q2⟩ := hq
      obtain ⟨M3, b1, b2, b3, b4⟩ := lo46 (n := n) (fX12_leastOfAll_38 f) q1 (nI n) (nI i)
      have c87 : CeM M3 87 n (RM (byN M0 b n) (fun a => (hN M0).testBit a) i) := by unfold CeM; rw [b2]; exact q2
      have c88 : CeM M3 88 n (RM (byN M0 b n) (fun a => (hN M0).testBit a) i) := by
        intro p hp2 l hl
        rw [b3 _ (by omega)]
        exact q2 p hp2 l hl
      obtain ⟨M4, d1, d2, d3⟩ := lo73 hr hb hT h6 hi hth hW b1 (fX12_leastOfAll_38 f) c87 c88
      obtain ⟨M5, e1, e2, e3⟩ := lo102 (n := n) (fX12_leastOfAll_38 f) d1 (nI n) (nI i)
      refine ⟨M5, ?_, e1, fun p hp2 l hl => ?_⟩
      · show bX12_leastOfAll_38 _ _ _ _ = _
        unfold bX12_leastOfAll_38
        rw [li 12, if_neg (by rw [nle (by decide) (by omega)]; omega), b4, d3, e3, nI_1]
      · rw [e2 _ (by omega)]
        exact d2 p hp2 l hl) (fun f M2 hq => by
      show bX12_leastOfAll_38 _ _ _ _ = _
      unfold bX12_leastOfAll_38
      rw [if_pos (by decide)]) 12 1100 (pI M1 87 16 0) 0 rfl (by decide) ⟨a1.put (Or.inl rfl) _ _, hinit⟩
  obtain ⟨M2, ⟨c1, c2⟩, c3⟩ := k2
  obtain ⟨v, d1, d2⟩ := lo139 h6 c2
  exact ⟨v, M2, c1, d1, a3.trans (c3.trans d2)⟩
theorem short38 {S M0 : St} (hr : Rel S M0) {b : Nat → Nat} (hb : ∀ j, b j < 256) (hT : TapM b M0) {n : Nat} (h6 : n ≤ 6) (x : Int32) : ∀ m i f, i + m = n → m < f → (∀ k, k < i → tqB M0 b k = true) → fX12_shortest_38 f M0 (nI n) x (nI i) = (if allB (tqB M0 b) n = true then (bi (fX12_leastOfAll M0 (nI n)) fun r2 S1 => if r2 < (100000000 : Int32) then (if x = 0 then (some ((r2 / (32 : Int32)), S1)) else (some ((r2 - r2 / (32 : Int32) * (32 : Int32)), S1))) else (some ((-2 : Int32), S1))) else some (-3, M0)) := by
  intro m
  induction m with
  | zero =>
    intro i f h1 h2 hk
    obtain ⟨f, rfl⟩ : ∃ f', f = f' + 1 := ⟨f - 1, by omega⟩
    have : i = n := by omega
    subst this
    show bX12_shortest_38 _ _ _ _ _ = _
    unfold bX12_shortest_38
    rw [if_pos (by rw [nle (by omega) (by omega)]; omega), if_pos ((allB_t _ _).mpr hk)]
  | succ m ih =>
    intro i f h1 h2 hk
    obtain ⟨f, rfl⟩ : ∃ f', f = f' + 1 := ⟨f - 1, by omega⟩
    have x1 : (2 : Int32) * nI i = nI (2 * i) := by rw [li 2, pk_mul]
    have x2 : nI (2 * i) + 1 = nI (2 * i + 1) := nI_1 _
    show bX12_shortest_38 _ _ _ _ _ = _
    unfold bX12_shortest_38
    rw [if_neg (by rw [nle (by omega) (by omega)]; omega), x1, x2, oct12 hb hT (by omega), bi_some, isHouse12, bi_some, oct12 hb hT (by omega), bi_some, isThing12, bi_some, bV_e, nI_1, ite_b2i, ite_b2i]
    by_cases c : tqB M0 b i = true
    · rw [ih (i + 1) f (by omega) (by omega) (fun k hk2 => by
        by_cases e : k = i
        · subst e; exact c
        · exact hk k (by omega))]
      unfold tqB at c
      rw [Bool.and_eq_true] at c
      rw [if_pos c.1, if_pos c.2]
    · rw [allB_f (show i < n by omega) c, if_neg (show ¬ false = true by decide)]
      unfold tqB at c
      by_cases c1 : hoB (M0.1 55 8) (nI (b (2 * i))) = true
      · have c2 : ¬ hoB (M0.1 55 9) (nI (b (2 * i + 1))) = true := fun z => c (by rw [c1, z]; rfl)
        rw [if_pos c1, if_neg c2]
      · rw [if_neg c1]
theorem nI_div {a d : Nat} (ha : a < 2 ^ 31) (h0 : 0 < d) (hd : d < 2 ^ 31) : nI a / nI d = nI (a / d) := pk_div ha h0 hd
theorem sim_shortest (S M : St) (x y : Int32) (h : Rel S M) : ∃ v S1 M1, fX11_shortest S x y = some (v, S1) ∧ fX12_shortest M x y = some (v, M1) ∧ Rel S1 M1 := by
  obtain ⟨b, z, hz, hb, hT, hT2, hz2⟩ := h.tap
  unfold fX11_shortest fX12_shortest
  simp only [in12, bi_some, ite_b2i, rng2, i0, i1, i6]
  by_cases hx : inR x 1 6 = true
  · by_cases hy : inR y 0 1 = true
    · obtain ⟨n, h2, h6, rfl⟩ := inR_natL (m := 1) (n := 6) hx (by decide)
      have x1 : (2 : Int32) * nI n = nI (2 * n) := by rw [li 2, pk_mul]
      simp only [hx, hy, if_true, x1, holds7 hT hz (show 2 * n < 2 ^ 31 by omega), bi_some, ite_b2i, hz2, nle (show 2 * n < 2 ^ 31 by omega) (show z < 2 ^ 31 by omega), bS_e, h.2.1.1]
      by_cases hn : 2 * n ≤ z
      · obtain ⟨S', a1, a2, a3⟩ := take10 h hT hz hn h6
        have hr0 : Rel (pI S' 1 1 0) (pI M 55 11 0) := h.done (a1.eqC h) (EqM.rf _)
        have e0 : (pI S' 1 1 0).2.2 0 = S.2.2 0 := by show S'.2.2 0 = _; rw [a1.1]
        have hsh := short38 hr0 hb (hT2.clr 0) h6 y n 0 100 (by omega) (by omega) (fun k hk => absurd hk (Nat.not_lt_zero _))
        have hsh : fX12_shortest_38 100 (pI M 55 11 0) (nI n) y 0 = _ := hsh
        have etq : tqB (pI M 55 11 0) b = tqB M b := rfl
        rw [etq] at hsh
        simp only [hn, decide_true, if_true, a3, bi_some, ite_b2i, clear7, bv_some, hsh, e0, h.2.1.1]
        by_cases hal : allB (tqB M b) n = true
        · have hq := (allB_t _ _).mp hal
          have ho : ∀ j, j < n → b (2 * j) < 16 ∧ (hN M).testBit (b (2 * j)) = true := fun j hj => by
            have := hq j hj
            unfold tqB at this
            rw [Bool.and_eq_true] at this
            obtain ⟨a, q1, q2, q3⟩ := h.told this.1
            have e := (neq (show b (2 * j) < 2 ^ 31 by have := hb (2 * j); omega) (show a < 2 ^ 31 by omega)).mp q2
            rw [e]
            exact ⟨q1, q3⟩
          have hth : ∀ j, j < n → b (2 * j + 1) < 16 ∧ (tN M).testBit (b (2 * j + 1)) = true := fun j hj => by
            have := hq j hj
            unfold tqB at this
            rw [Bool.and_eq_true] at this
            obtain ⟨a, q1, q2, q3⟩ := h.toldT this.2
            have e := (neq (show b (2 * j + 1) < 2 ^ 31 by have := hb (2 * j + 1); omega) (show a < 2 ^ 31 by omega)).mp q2
            rw [e]
            exact ⟨q1, q3⟩
          have hW : WiH (byN (pI M 55 11 0) b n) (fun a => (hN (pI M 55 11 0)).testBit a) (fun j => b (2 * j)) n := by
            refine ⟨fun a t => setN_lt _ n, fun j hj => ho j hj, fun a t hne => ?_⟩
            have hl : byN (pI M 55 11 0) b n a t < 2 ^ n := setN_lt _ n
            have hp : 2 ^ n ≤ 64 := Nat.pow_le_pow_right (by decide) h6
            obtain ⟨k, _, hk⟩ := ex_bit hne (by omega)
            unfold byN at hk
            rw [setN_tb, Bool.and_eq_true, Bool.and_eq_true] at hk
            exact ⟨k, by simpa using hk.1, by simpa using hk.2.1⟩
          have hI : WiC (pI S' 1 1 0) (fun j => b (2 * j)) (fun j => b (2 * j + 1)) n := a2
          obtain ⟨v, S4, c1, c2, c3⟩ := answer10 hr0 y (by omega) h6 ho hth hW hI
          obtain ⟨u, M4, d1, d2, d3⟩ := least12 hr0 hb (hT2.clr 0) h6 (fun j hj => (hth j hj).1) hW
          rw [e0] at c3
          have hrF : Rel S4 M4 := hr0.keep (c1.eqC hr0) d1.eqM
          simp only [hal, if_true, c3, d3, bi_some]
          have hp0 := Nat.two_pow_pos n
          have hf0 : 2 ^ n - 1 ≠ 0 := by
            have : 2 ^ 1 ≤ 2 ^ n := Nat.pow_le_pow_right (by decide) (by omega)
            omega
          rcases c2 with ⟨v1, v2⟩ | ⟨⟨j, w, f, v1, v2, v3⟩, v4, v5⟩
          · rcases d2 with ⟨u1, u2⟩ | ⟨⟨l, w, f, u1, u2, u3⟩, u4, u5⟩
            · subst v1; subst u1
              rw [if_neg (by decide), if_neg (by decide)]
              exact ⟨_, _, _, rfl, rfl, hrF⟩
            · exfalso
              obtain ⟨j, w', r1, r2⟩ := RM_RC hW 12 _ l w f u2 hf0
              exact v2 _ ⟨j, w', f, (RC_bd hW 12 _ _ _ _ r1).1, r1, rfl⟩
          · have hbC := RC_bd hW 12 _ _ _ _ v2
            have hl := (hW.2.1 j v1).1
            rcases d2 with ⟨u1, u2⟩ | ⟨⟨l, w2, f2, u1, u2, u3⟩, u4, u5⟩
            · exfalso
              exact u2 _ ⟨_, w, f, hl, RC_RM hW 12 _ j w f v2, rfl⟩
            · have m1 := u5 _ ⟨_, w, f, hl, RC_RM hW 12 _ j w f v2, rfl⟩
              obtain ⟨j2, w3, r1, r2⟩ := RM_RC hW 12 _ l w2 f2 u2 hf0
              have m2 := v5 _ ⟨j2, w3, f2, (RC_bd hW 12 _ _ _ _ r1).1, r1, rfl⟩
              have b2 := RM_bd hW 12 _ _ _ _ u2
              have ew : w2 = w := by omega
              have ef : f2 = f := by omega
              subst ew; subst ef
              have g1 : nI v < (1000000 : Int32) := by rw [li 1000000, nlt (by omega) (by decide)]; exact v4
              have g2 : nI u < (100000000 : Int32) := by rw [li 100000000, nlt (by omega) (by decide)]; exact u4
              have g3 : nI v / 16 = nI w2 := by rw [li 16, nI_div (by omega) (by decide) (by decide), show v / 16 = w2 by omega]
              have g4 : nI u / 32 = nI w2 := by rw [li 32, nI_div (by omega) (by decide) (by decide), show u / 32 = w2 by omega]
              have g5 : nI v - nI v / 16 * 16 = nI f2 := by rw [li 16, rem_nI (by omega) (by decide) (by decide), show v % 16 = f2 by omega]
              have g6 : nI u - nI u / 32 * 32 = nI f2 := by rw [li 32, rem_nI (by omega) (by decide) (by decide), show u % 32 = f2 by omega]
              rw [if_pos g1, if_pos g2, g5, g6, g3, g4]
              by_cases e : y = 0
              · rw [if_pos e, if_pos e]
                exact ⟨_, _, _, rfl, rfl, hrF⟩
              · rw [if_neg e, if_neg e]
                exact ⟨_, _, _, rfl, rfl, hrF⟩
        · simp only [hal, Bool.false_eq_true, if_false]
          exact ⟨_, _, _, rfl, rfl, hr0⟩
      · simp only [hn, decide_false, Bool.false_eq_true, if_false]
        exact ⟨_, _, _, rfl, rfl, h⟩
    · simp only [hx, hy, if_true, Bool.false_eq_true, if_false]
      exact ⟨_, _, _, rfl, rfl, h⟩
  · simp only [hx, Bool.false_eq_true, if_false]
    exact ⟨_, _, _, rfl, rfl, h⟩
