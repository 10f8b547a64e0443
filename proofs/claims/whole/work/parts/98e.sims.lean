-- tried
theorem joyAllR {S M : St} {o hs : Nat} (hh : hs < 65536) (e8 : M.1 55 8 = nI hs) (h : RSta S M o 56 hs) : ∃ v, fX6_joyOfAll o S = some (v, S) ∧ fX12_joyOfAll M = some (v, M) := by
  refine ⟨itr (fun (x : Int32) i => x + M.1 56 i) 0 16 0, ?_, ?_⟩
  · unfold fX6_joyOfAll
    refine loop_up (F := fun k y i => fX6_joyOfAll_4 o k S y (nI i)) (fun (x : Int32) i => x + M.1 56 i) (fun y => some (y, S)) 16 ?_ ?_ 16 100 0 0 rfl (by decide)
    · intro k y i hi
      show bX6_joyOfAll_4 _ _ _ _ _ = _
      unfold bX6_joyOfAll_4
      rw [li 16, if_neg (by rw [nle (by decide) (by omega)]; omega)]
      simp only [inbT hi (show 16 < 2 ^ 31 by decide), if_true, nI_clamp (show i < 2 ^ 31 by omega), (h.1 i hi).1, bV_e, nI_1]
    · intro k y
      show bX6_joyOfAll_4 o _ _ _ _ = _
      unfold bX6_joyOfAll_4
      rw [if_pos (by decide)]
  · unfold fX12_joyOfAll
    refine loop_up (F := fun k y i => fX12_joyOfAll_4 k M y (nI i)) (fun (x : Int32) i => x + M.1 56 i) (fun y => some (y, M)) 16 ?_ ?_ 16 100 0 0 rfl (by decide)
    · intro k y i hi
      show bX12_joyOfAll_4 _ _ _ _ = _
      unfold bX12_joyOfAll_4
      rw [li 16, if_neg (by rw [nle (by decide) (by omega)]; omega)]
      simp only [isHouse12, hoN8 hh e8 hi, bi_some, ite_b2i, za, inbT (show i < 21 by omega) (show 21 < 2 ^ 31 by decide), if_true, nI_clamp (show i < 2 ^ 31 by omega), bV_e, nI_1]
      by_cases hb : hs.testBit i = true
      · simp only [hb, if_true]
      · have hb2 : hs.testBit i = false := by simpa using hb
        rw [(h.1 i hi).2.2 hb2]
        simp [hb2]
    · intro k y
      show bX12_joyOfAll_4 _ _ _ _ = _
      unfold bX12_joyOfAll_4
      rw [if_pos (by decide)]
theorem sub10 (x : Int32) (j : Nat) (h : x - 10 = nI j) : x = nI (j + 10) := by
  have : x - 10 + 10 = nI j + nI 10 := by rw [h]; rfl
  rw [Int32.sub_add_cancel, nI_add] at this
  exact this
theorem ho10 (s : Int32) {x : Int32} (h : x.toInt < 10) : hoB s (x - 10) = false := by
  cases c : hoB s (x - 10) with
  | false => rfl
  | true =>
    have h1 : inR (x - 10) 0 15 = true := by unfold hoB at c; rw [Bool.and_eq_true] at c; exact c.1
    obtain ⟨j, hj, e⟩ := inR_nat (n := 15) h1 (by decide)
    have := sub10 x j e
    rw [this, nI_toInt (by omega)] at h
    omega
theorem can11 {S M : St} (h : Rel S M) (x : Int32) : fX11_canBeTried S x = some (b2i (inR x 0 3 || hoB (M.1 55 8) (x - 10)), S) := by
  have e7 := h.2.1.2.2.2.1
  have e9 : fX11_canBeTried_9 S x = some (b2i (hoB (M.1 55 8) (x - 10)), S) := by
    unfold fX11_canBeTried_9 fX11_canBeTried_33
    have e10 : (10 : Int32).toInt = 10 := by decide
    by_cases c : x.toInt < 10
    · rw [if_pos (by rw [Ilt, e10]; exact c), ho10 _ c]
      rfl
    · rw [if_neg (by rw [Ilt, e10]; exact c), if_pos h.2.1.1, hasHouse8, bi_some, e7]
      cases hoB (M.1 55 8) (x - 10)
      · rw [b2i_f, if_pos rfl]
      · rw [b2i_t, if_neg (by decide)]
  unfold fX11_canBeTried
  rw [rng_cls, i3, e9]
  cases inR x 0 3
  · rw [if_neg (by decide)]; rfl
  · rw [if_pos rfl]; rfl
theorem sim_tried (S M : St) (x y : Int32) (h : Rel S M) : ∃ v S1 M1, fX11_tried S x y = some (v, S1) ∧ fX12_tried M x y = some (v, M1) ∧ Rel S1 M1 := by
  have hti := h.2.1.1
  have hli := h.2.2.2.2.2.2.2.1
  have hLi := hli
  have hTi := hti
  unfold isL at hLi
  unfold isT at hTi
  unfold fX11_tried fX12_tried
  rw [in12, bi_some, ite_b2i, i1, i100, rng2, i1, i100]
  by_cases hx : inR x 1 100 = true
  · obtain ⟨n, h1, h2, rfl⟩ := inR_natL (m := 1) (n := 100) hx (by decide)
    rw [if_pos hx, if_pos hx, can11 h, bi_some, in12, bi_some, i0, i3, isHouse12, bi_some, ite_b2i, ite_b2i, ite_b2i]
    have hg : ∀ A : Option (Int32 × St), (if inR y 0 3 = true then A else if hoB (M.1 55 8) (y - 10) = true then A else some (-1, M)) = if (inR y 0 3 || hoB (M.1 55 8) (y - 10)) = true then A else some (-1, M) := fun A => by
      cases inR y 0 3 <;> cases hoB (M.1 55 8) (y - 10) <;> rfl
    rw [hg]
    by_cases hy : (inR y 0 3 || hoB (M.1 55 8) (y - 10)) = true
    · rw [if_pos hy, if_pos hy, copyF (S := S) (o := 19) (o2 := 21) (by decide) (by decide) (by decide), bv_some]
      unfold fX12_tried_32 fX12_tried_133
      rw [copies12 56 57 (by decide), bv_some]
      have hC1 : EqC S (cpS S 19 21) := ⟨rfl, fun a k hc => cpS_out (by unfold coreC at hc; omega) (by unfold coreC at hc; omega)⟩
      have hM1 : EqM M (cpA M 56 57 21) := fun a k hc => cpA_out M (by unfold coreM at hc; omega)
      have hr1 : Rel (cpS S 19 21) (cpA M 56 57 21) := h.keep hC1 hM1
      have hn1 : hN (cpA M 56 57 21) = hN M := by unfold hN; rw [cpA_out M (by decide)]
      have hR1 : RSta (cpS S 19 21) (cpA M 56 57 21) 21 56 (hN (cpA M 56 57 21)) := by
        rw [hn1]
        exact h.2.2.2.1.copy (fun k a1 a2 => cpS_f a1 a2) (fun k hk => cpS_j hk (by decide)) (fun k _ => cpA_out M (by decide))
      obtain ⟨S2, M2, c0, cn, x1, x2, x3, d1, d2, d3, d4, d5, d6⟩ := days_sim hr1 (Or.inr rfl) hR1 h2
      have r0 : (cpS S 19 21).2.2 = S.2.2 := rfl
      rw [r0] at x1 d1
      rw [if_pos (show isT ((cpS S 19 21).2.2 0) from hti), if_pos (show isL ((cpS S 19 21).2.2 2) from hli), r0, x1, bv_some, x2, bv_some]
      rw [copies12 57 56 (by decide) M2]
      have s19 : S2.1 19 3 = nI c0 := by
        rw [d1.2 19 3 (by decide) (by decide) (by omega) (by omega) (by omega), cpS_out (by decide) (by decide), h.2.2.2.1.2.2.2.1.1]
        rw [cpA_out M (by decide)] at x3
        exact x3
      -- the end
      have hEq : EqC S S2 := ⟨d1.1 ▸ rfl, fun a k hc => by
        unfold coreC at hc
        rw [d1.2 a k (by omega) (by omega) (by omega) (by omega) (by omega), cpS_out (by omega) (by omega)]⟩
      have m3 : ∀ a k, a ≠ 56 → (cpA M2 57 56 21).1 a k = M2.1 a k := fun a k ha => cpA_out M2 ha
      have m356 : ∀ k, k < 21 → (cpA M2 57 56 21).1 56 k = M.1 56 k := fun k hk => by
        rw [cpA_in M2 hk, d2.2 57 k (by decide) (by decide) (by decide) (by omega), cpA_in M hk]
      have m2 : ∀ a k, a ≠ 56 → a ≠ 57 → a ≠ 76 → a ≠ 77 → ¬ (a = 55 ∧ k = 50) → (cpA M2 57 56 21).1 a k = M.1 a k := fun a k q1 q2 q3 q4 q5 => by
        rw [m3 a k q1, d2.2 a k q1 q3 q4 q5, cpA_out M q2]
      have hrF : Rel S2 (cpA M2 57 56 21) := by
        have hE : EqM M (fun a k => if a = 56 then M.1 56 k else (cpA M2 57 56 21).1 a k, (cpA M2 57 56 21).2) := fun a k hc => by
          show (if a = 56 then M.1 56 k else (cpA M2 57 56 21).1 a k) = M.1 a k
          by_cases e : a = 56
          · rw [if_pos e, e]
          · unfold coreM at hc
            rw [if_neg e, m2 a k e (by omega) (by omega) (by omega) (by omega)]
        have hr4 := h.keep hEq hE
        have hn4 : hN ((fun a k => if a = 56 then M.1 56 k else (cpA M2 57 56 21).1 a k, (cpA M2 57 56 21).2) : St) = hN M := by
          show gv (if (55 : Nat) = 56 then M.1 56 8 else (cpA M2 57 56 21).1 55 8) = gv (M.1 55 8)
          rw [if_neg (by decide), m2 55 8 (by decide) (by decide) (by decide) (by decide) (by omega)]
        refine hr4.parts rfl (fun _ _ _ _ _ _ _ => rfl) (fun a k q1 q2 q3 => ?_) ?_ ?_
        · show (cpA M2 57 56 21).1 a k = if a = 56 then M.1 56 k else (cpA M2 57 56 21).1 a k
          rw [if_neg q1]
        · rw [hn4]
          exact h.2.2.2.1.cg (fun k _ => hEq.2 20 k (by unfold coreC; omega)) (fun k _ => hEq.2 19 k (by unfold coreC; omega)) (fun k hk => m356 k hk)
        · exact h.2.2.2.2.1.cg (fun a k hp => hEq.2 a k (by unfold kepC at hp; unfold coreC; omega)) (fun a k hp => m2 a k (by unfold kepM at hp; omega) (by unfold kepM at hp; omega) (by unfold kepM at hp; omega) (by unfold kepM at hp; omega) (by unfold kepM at hp; omega))
      rw [hn1] at d3
      by_cases y0 : y = 0
      · rw [if_pos y0, if_pos y0, bV_e, bv_some]
        refine ⟨_, _, _, rfl, ?_, hrF⟩
        rw [d3.2.2.2.1.1, s19, d4, d5, pk_sub (by omega), Nat.add_sub_cancel_left]
      · rw [if_neg y0, if_neg y0]
        by_cases y1 : y = 1
        · obtain ⟨v, v1, v2⟩ := orNone_eq S2 M2 (M2.1 56 16)
          rw [if_pos y1, if_pos y1, d3.2.1.1, v1, v2, bi_some, bi_some, copies12 57 56 (by decide) M2, bv_some]
          exact ⟨_, _, _, rfl, rfl, hrF⟩
        · rw [if_neg y1, if_neg y1]
          by_cases y2 : y = 2
          · rw [if_pos y2, if_pos y2, bV_e, bv_some, d3.2.2.1.1]
            exact ⟨_, _, _, rfl, rfl, hrF⟩
          · rw [if_neg y2, if_neg y2]
            by_cases y3 : y = 3
            · have e82 : M2.1 55 8 = nI (hN M) := by
                rw [d2.2 55 8 (by decide) (by decide) (by decide) (by omega), cpA_out M (by decide)]
                exact h.1.1.1
              obtain ⟨v, v1, v2⟩ := joyAllR h.1.1.2 e82 d3
              rw [if_pos y3, if_pos y3, v1, v2, bi_some, bi_some, copies12 57 56 (by decide) M2, bv_some]
              exact ⟨_, _, _, rfl, rfl, hrF⟩
            · rw [if_neg y3, if_neg y3]
              have hin : inR y 0 3 = false := by
                cases q : inR y 0 3 with
                | false => rfl
                | true =>
                  obtain ⟨j, hj, e⟩ := inR_nat (n := 3) q (by decide)
                  have : j = 0 ∨ j = 1 ∨ j = 2 ∨ j = 3 := by omega
                  rcases this with w | w | w | w
                  · rw [w] at e; exact absurd e y0
                  · rw [w] at e; exact absurd e y1
                  · rw [w] at e; exact absurd e y2
                  · rw [w] at e; exact absurd e y3
              rw [hin, Bool.false_or] at hy
              obtain ⟨a, ha, e, hb⟩ := h.told hy
              rw [za, e, if_pos (inbT (show a < 21 by omega) (by decide)), nI_clamp (by omega), bV_e, bv_some, joyOf6 21 S2 ha, bi_some, (d3.1 a ha).1]
              exact ⟨_, _, _, rfl, rfl, hrF⟩
    · rw [if_neg hy, if_neg hy]
      exact ⟨_, _, _, rfl, rfl, h⟩
  · rw [if_neg hx, if_neg hx]
    exact ⟨_, _, _, rfl, rfl, h⟩
