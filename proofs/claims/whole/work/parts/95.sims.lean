-- one of the rota's text, and a row of them
theorem fRR_0 (k t : Nat) (S : St) (x : Int32) : fRR (k + 1) 0 t S x = fX5_readTurns (fRR k) t S x := by
  rw [fRR]
  exact if_pos rfl
theorem fRR_1 (k t : Nat) (S : St) (x : Int32) : fRR (k + 1) 1 t S x = fX5_readOne (fRR k) t S x := rfl
theorem fRR_2 (k t : Nat) (S : St) (x : Int32) : fRR (k + 1) 2 t S x = fX5_readRound (fRR k) t S x := rfl
theorem times {b : Nat → Nat} {z n p : Nat} {S M : St} (t : Nat) (hC : Cu b z n S p 0) (hM : Mu b n M p) : ∃ S1 M1 p1 tm, 1 ≤ tm ∧ tm ≤ 9 ∧ p ≤ p1 ∧ Ex 3 S S1 ∧ Cu b z n S1 p1 0 ∧ (∀ rg x, fX5_readOne rg t S x = fX5_readOne_54 rg t S1 x (nI p) (nI tm)) ∧ fX12_readsTimes M = some M1 ∧ Mu b n M1 p1 ∧ M1.1 55 48 = nI p ∧ M1.1 55 49 = nI tm ∧ M1.2 = M.2 ∧ (∀ o k, ¬ (o = 55 ∧ (k = 12 ∨ k = 48 ∨ k = 49)) → M1.1 o k = M.1 o k) := by
  have hb := hM.2.1
  have hp := hM.2.2.2.2.1
  have hs := hC.2.2.2.2.2.2.1
  have e50 : (50 : Int32).toInt = 50 := by decide
  have e57 : (57 : Int32).toInt = 57 := by decide
  have hM2 : Mu b n (pI (pI M 55 48 (nI p)) 55 49 1) p := hM.oth (by rw [pI_row _ _ (by decide), pI_row _ _ (by decide)]) (by rw [pI_cell _ _ (by decide), pI_cell _ _ (by decide)]) (by rw [pI_cell _ _ (by decide), pI_cell _ _ (by decide)])
  have em : fX12_readsTimes M = if inR (sg b n p) 50 57 = true then some (pI (pI (pI (pI M 55 48 (nI p)) 55 49 1) 55 49 (sg b n p - 48)) 55 12 (nI (p + 1))) else some (pI (pI M 55 48 (nI p)) 55 49 1) := by
    unfold fX12_readsTimes
    rw [hp, bS_e, bS_e, here12 hM2, bi_some, in12, bi_some, e50, e57, ite_b2i, here12 hM2, bi_some, bS_e, pI_cell _ _ (by decide), hM2.2.2.2.2.1, nI_1, bS_e]
  have ec : ∀ rg x, fX5_readOne rg t S x = if inR (sg b n p) 50 57 = true then (bV ((sg b n p) - (48 : Int32)) fun v2 => bv (fX0_step S) fun S1 => fX5_readOne_54 rg t S1 x (nI p) v2) else fX5_readOne_54 rg t S x (nI p) 1 := fun rg x => by
    unfold fX5_readOne
    rw [hC.2.2.2.2.2.1, bV_e, hs, rng2, e50, e57]
  by_cases c : inR (sg b n p) 50 57 = true
  · obtain ⟨k1, k2, k3⟩ := Q_in hb (lo := 50) (hi := 57) (by decide) c
    obtain ⟨S1, s1, s2, s3⟩ := step0 hC k1
    have x1 : sg b n p - 48 = nI (b p - 48) := by rw [sg_lt k1, li 48, pk_sub (by omega)]
    refine ⟨S1, pI (pI (pI (pI M 55 48 (nI p)) 55 49 1) 55 49 (nI (b p - 48))) 55 12 (nI (p + 1)), p + 1, b p - 48, by omega, by omega, by omega, s2, s3, fun rg x => ?_, ?_, ?_, ?_, ?_, rfl, fun o k hk => ?_⟩
    · rw [ec, if_pos c, x1, bV_e, s1, bv_some]
    · rw [em, if_pos c, x1]
    · exact (hM2.oth (by rw [pI_row _ _ (by decide)]) (by rw [pI_cell _ _ (by decide)]) (by rw [pI_cell _ _ (by decide)]) : Mu b n (pI (pI (pI M 55 48 (nI p)) 55 49 1) 55 49 (nI (b p - 48))) p).mv (by omega)
    · rw [pI_cell _ _ (by decide), pI_cell _ _ (by decide), pI_cell _ _ (by decide), pI_same]
    · rw [pI_cell _ _ (by decide), pI_same]
    · rw [pI_cell _ _ (by omega), pI_cell _ _ (by omega), pI_cell _ _ (by omega), pI_cell _ _ (by omega)]
  · refine ⟨S, pI (pI M 55 48 (nI p)) 55 49 1, p, 1, by decide, by decide, Nat.le_refl _, Ex.rf 3 S, hC, fun rg x => ?_, ?_, hM2, ?_, ?_, rfl, fun o k hk => ?_⟩
    · rw [ec, if_neg c]; rfl
    · rw [em, if_neg c]
    · rw [pI_cell _ _ (by decide), pI_same]
    · rw [pI_same]; rfl
    · rw [pI_cell _ _ (by omega), pI_cell _ _ (by omega)]
theorem r87n {rg : Nat → Nat → St → Int32 → Option St} {t : Nat} {S : St} {v : Int32} (hv : v ≠ 0) (h : S.1 3 4 = v) (x y w : Int32) : fX5_readOne_87 rg t S x y w = some S := by
  have : decide (v = 0) = false := by simpa using hv
  unfold fX5_readOne_87
  rw [fine0, bi_some, h, this, b2i_f, if_pos rfl]
theorem r87 {rg : Nat → Nat → St → Int32 → Option St} {t : Nat} {S : St} (h : S.1 3 4 = 0) (x y w : Int32) : fX5_readOne_87 rg t S x y w = fX5_repeat S w y x := by
  unfold fX5_readOne_87
  rw [fine0, bi_some, h, if_neg (by decide)]
  cases fX5_repeat S w y x <;> rfl
theorem rep87 {b : Nat → Nat} {z n t nh : Nat} {S M : St} {p l d st tm fi : Nat} (rg : Nat → Nat → St → Int32 → Option St) (ht : 6 < t) (h : RtI b z n t nh S M p l d) (hs : st ≤ l) (h1 : 1 ≤ tm) (h9 : tm ≤ 9) : (∃ S' M' l', l ≤ l' ∧ fX5_readOne_87 rg t S (nI fi) (nI tm) (nI st) = some S' ∧ fX12_repeats M (nI st) (nI tm) (nI fi) = some (1, M') ∧ RtI b z n t nh S' M' p l' d ∧ FrR S S' ∧ FrQ M M' ∧ StkE 2 M M') ∨ (fX5_readOne_87 rg t S (nI fi) (nI tm) (nI st) = some (pI S 3 4 (flt 6 fi)) ∧ fX12_repeats M (nI st) (nI tm) (nI fi) = some (0, pI M 55 14 (flt 6 fi))) := by
  obtain ⟨a1, a2, a3, a4, a5, a6, a7, a8⟩ := h
  rw [r87 a1.2.2.2.2.2.2.2, repC _ a7 hs h9, repM fi a7 hs h9]
  by_cases c : st + (l - st) * tm ≤ 12
  · left
    obtain ⟨S', M', g1, g2, g3, g4, g5, g6, g7, g8, g9, g10⟩ := rep_sim a7 hs h1 h9 c
    refine ⟨S', M', st + (l - st) * tm, ?_, by rw [if_pos c, g1], by rw [if_pos c, g2], ⟨a1.oth (g4.2 1 (by decide) (by decide) (by decide)) (g4.2 2 (by decide) (by decide) (by decide)) g5, a2.oth (funext fun k => g6.2 64 k (by unfold rqM; omega)) g7 g8, a3, a4, ?_, ?_, g3, by rw [g9]; exact a8⟩, g4, g6, g10⟩
    · have := Nat.le_mul_of_pos_right (l - st) h1
      omega
    · rw [g4.2 t (by omega) (by omega) (by omega)]; exact a5
    · rw [g6.2 55 8 (by unfold rqM; omega)]; exact a6
  · right
    refine ⟨?_, by rw [if_neg c]⟩
    rw [if_neg c, li 6, fail0 a1, bv_some]
def OutP (b : Nat → Nat) (z n t nh : Nat) (S M S' : St) (p l d : Nat) (run : Option (Int32 × St)) (B : Nat → Prop) : Prop := FrR S S' ∧ ((∃ v p' M', v < 0 ∧ Cu b z n S' p' v ∧ FrQ M M' ∧ M'.1 55 14 = v ∧ run = fX12_rota_70 M' 0) ∨ (∃ p' l' M' c' g', B p' ∧ p < p' ∧ l ≤ l' ∧ RtI b z n t nh S' M' p' l' d ∧ FrQ M M' ∧ StkE d M M' ∧ 98 + d ≤ c' ∧ 101 ≤ g' + p' ∧ run = AO g' c' M'))
def OneP (b : Nat → Nat) (z n t nh d : Nat) : Prop := ∀ S M p l k c g, RtI b z n t nh S M p l d → 3 * (2 - d) + 2 ≤ k → 100 ≤ c + d → 100 ≤ g + p → ∃ S', fRR k 1 t S (nI d) = some S' ∧ OutP b z n t nh S M S' p l d (ST g c M) (fun _ => True)
def TurnsP (b : Nat → Nat) (z n t nh d : Nat) : Prop := ∀ S M p l k c g, RtI b z n t nh S M p l d → 3 * (2 - d) + 3 ≤ k → 100 ≤ c + d → 100 ≤ g + p → ∃ S', fRR k 0 t S (nI d) = some S' ∧ OutP b z n t nh S M S' p l d (ST g c M) (fun p' => sg b n p' = -1 ∨ sg b n p' = nI 41)
/-- at the end of the text, or before a sign that no one begins with, the model's next turn is refused there -/
theorem ST_bad {b : Nat → Nat} {n p l : Nat} {M : St} {g c : Nat} (hM : Mu b n M p) (hl : M.1 55 46 = nI l) (hl12 : l ≤ 12) (hg : 0 < g) (hc : 0 < c) (hs : sg b n p = -1 ∨ sg b n p = nI 41) : ∃ M', FrQ M M' ∧ M'.1 55 14 = flt 1 p ∧ ST g c M = fX12_rota_70 M' 0 := by
  have hb := hM.2.1
  have hp := hM.2.2.2.2.1
  have hM2 : Mu b n (pI (pI M 55 48 (nI p)) 55 49 1) p := hM.oth (by rw [pI_row _ _ (by decide), pI_row _ _ (by decide)]) (by rw [pI_cell _ _ (by decide), pI_cell _ _ (by decide)]) (by rw [pI_cell _ _ (by decide), pI_cell _ _ (by decide)])
  have e50 : (50 : Int32).toInt = 50 := by decide
  have e57 : (57 : Int32).toInt = 57 := by decide
  have hin : inR (sg b n p) 50 57 = false := by rcases hs with w | w <;> rw [w] <;> decide
  have hq : hsQ (sg b n p) = false := by rcases hs with w | w <;> rw [w] <;> decide
  have h40 : sg b n p ≠ nI 40 := by rcases hs with w | w <;> rw [w] <;> decide
  have h45 : sg b n p ≠ nI 45 := by rcases hs with w | w <;> rw [w] <;> decide
  have em : fX12_readsTimes M = some (pI (pI M 55 48 (nI p)) 55 49 1) := by
    unfold fX12_readsTimes
    rw [hp, bS_e, bS_e, here12 hM2, bi_some, in12, bi_some, e50, e57, hin, b2i_f, if_pos rfl]
  obtain ⟨c, rfl⟩ : ∃ c', c = c' + 1 := ⟨c - 1, by omega⟩
  have h4 := holdM (l := l) (tm := 1) (fi := p) hM2 h40 (by rw [pI_cell _ _ (by decide), pI_same]) (by rw [pI_same]; rfl) (by rw [pI_cell _ _ (by decide), pI_cell _ _ (by decide)]; exact hl) hl12 (by decide) (by decide) c
  rw [if_neg (show ¬ (hsQ (sg b n p) = true ∨ sg b n p = nI 45) from fun w => by
    rcases w with w | w
    · rw [hq] at w; cases w
    · exact h45 w)] at h4
  refine ⟨pI (pI (pI M 55 48 (nI p)) 55 49 1) 55 14 (flt 1 p), ((FrQ.put M (by unfold rqM; omega) _).tr (FrQ.put _ (by unfold rqM; omega) _)).tr (FrQ.put _ (by unfold rqM; omega) (flt 1 p)), pI_same _ _ _ _, ?_⟩
  unfold ST
  rw [em, bv_some, h4, bi_some, r40_0 hg]
theorem turns_of_one {b : Nat → Nat} {z n t nh d : Nat} (hd : d ≤ 2) (hO : OneP b z n t nh d) : TurnsP b z n t nh d := by
  intro S M p l k c g hI hk hc hg
  obtain ⟨k, rfl⟩ : ∃ k', k = k' + 1 := ⟨k - 1, by omega⟩
  rw [fRR_0]
  unfold fX5_readTurns
  have main : ∀ m i f S M p l c g, n + 1 ≤ p + m → i ≤ p → (i = 0 ∨ p < n) → m + 1 < f → RtI b z n t nh S M p l d → 100 ≤ c + d → 100 ≤ g + p → ∃ S', fX5_readTurns_5 (fRR k) t f S (nI d) 1 (nI i) = some S' ∧ OutP b z n t nh S M S' p l d (ST g c M) (fun p' => sg b n p' = -1 ∨ sg b n p' = nI 41) := by
    intro m
    induction m with
    | zero =>
      intro i f S M p l c g hm _ _ _ hI
      have := hI.1.2.2.2.1
      omega
    | succ m ih =>
      intro i f S M p l c g hm hi hi2 hf hI hc hg
      obtain ⟨f, rfl⟩ : ∃ f', f = f' + 2 := ⟨f - 2, by omega⟩
      obtain ⟨S1, o1, o2, o3⟩ := hO S M p l k c g hI (by omega) hc hg
      have hn60 := hI.2.2.1
      have stop : ∀ S1 : St, fX5_readTurns_59 (fRR k) t (fX5_readTurns_5 (fRR k) t (f + 1)) S1 (nI d) (nI i) = some S1 := fun S1 => by
        unfold fX5_readTurns_59
        rw [bV_e, nI_1]
        show bX5_readTurns_5 _ _ _ _ _ _ _ = _
        unfold bX5_readTurns_5
        rw [if_pos rfl, ite_self]
      have eb : fX5_readTurns_5 (fRR k) t (f + 2) S (nI d) 1 (nI i) = (if S1.1 3 4 = 0 then (if S1.1 3 3 = -1 ∨ S1.1 3 3 = nI 41 then some S1 else fX5_readTurns_5 (fRR k) t (f + 1) S1 (nI d) 1 (nI (i + 1))) else some S1) := by
        show bX5_readTurns_5 (fRR k) t (fX5_readTurns_5 (fRR k) t (f + 1)) S (nI d) 1 (nI i) = _
        unfold bX5_readTurns_5
        rw [if_neg (show ¬ (60 : Int32) ≤ nI i by rw [li 60, nle (by decide) (by omega)]; omega), if_neg (by decide), o1, bv_some, fine0, bi_some, stop, bV_e, nI_1, li 41]
        by_cases c1 : S1.1 3 4 = 0
        · have : decide (S1.1 3 4 = 0) = true := by simpa using c1
          rw [this, b2i_t, if_neg (by decide), if_pos c1]
          by_cases c2 : S1.1 3 3 = -1
          · rw [if_pos c2, if_pos (Or.inl c2)]
          · rw [if_neg c2]
            by_cases c3 : S1.1 3 3 = nI 41
            · rw [if_pos c3, if_pos (Or.inr c3)]
            · rw [if_neg c3, if_neg (fun w => w.elim c2 c3)]
        · have : decide (S1.1 3 4 = 0) = false := by simpa using c1
          rw [this, b2i_f, if_pos rfl, if_neg c1]
      rw [eb]
      rcases o3 with ⟨v, p', M', v1, v2, v3, v4, v5⟩ | ⟨p', l', M', c', g', _, w1, w2, w3, w4, w5, w6, w7, w8⟩
      · refine ⟨S1, ?_, o2, Or.inl ⟨v, p', M', v1, v2, v3, v4, v5⟩⟩
        rw [if_neg (by rw [v2.2.2.2.2.2.2.2]; exact ne_of_neg v1)]
      · have h34 := w3.1.2.2.2.2.2.2.2
        have h33 := w3.1.2.2.2.2.2.2.1
        have hp' := w3.1.2.2.2.1
        rw [if_pos h34, h33]
        by_cases c1 : sg b n p' = -1 ∨ sg b n p' = nI 41
        · refine ⟨S1, by rw [if_pos c1], o2, Or.inr ⟨p', l', M', c', g', c1, w1, w2, w3, w4, w5, w6, w7, w8⟩⟩
        · have hp2 : p' < n := by
            rcases Nat.lt_or_ge p' n with y | y
            · exact y
            · exact absurd (Or.inl (sg_ge y)) c1
          rw [if_neg c1]
          have hao : AO g' c' M' = ST (g' - 1) 100 M' := by
            obtain ⟨c', rfl⟩ : ∃ x, c' = x + 1 := ⟨c' - 1, by omega⟩
            obtain ⟨g', rfl⟩ : ∃ x, g' = x + 1 := ⟨g' - 1, by omega⟩
            have e1 : fX12_readsTurn_241 (c' + 1) M' = some (1, M') := by
              show bX12_readsTurn_241 _ _ = _
              unfold bX12_readsTurn_241
              rw [here12 w3.2.1, bi_some, li 41, if_neg (fun w => c1 (Or.inr w))]
            unfold AO
            rw [e1, bi_some]
            show bX12_rota_40 (fX12_rota_40 g') M' 1 = _
            unfold bX12_rota_40 fX12_rota_62
            rw [if_neg (by decide), w3.2.1.2.2.2.2.1, w3.2.1.2.2.2.2.2, if_pos (show nI p' < nI n by rw [nlt (by omega) (by omega)]; exact hp2)]
            rfl
          obtain ⟨S', q1, q2, q3⟩ := ih (i + 1) (f + 1) S1 M' p' l' 100 (g' - 1) (by omega) (by omega) (Or.inr hp2) (by omega) w3 (by omega) (by omega)
          refine ⟨S', q1, o2.tr q2, ?_⟩
          rw [w8, hao]
          rcases q3 with ⟨v, p2, M2, v1, v2, v3, v4, v5⟩ | ⟨p2, l2, M2, c2, g2, y0, y1, y2, y3, y4, y5, y6, y7, y8⟩
          · exact Or.inl ⟨v, p2, M2, v1, v2, w4.tr v3, v4, v5⟩
          · exact Or.inr ⟨p2, l2, M2, c2, g2, y0, by omega, by omega, y3, w4.tr y4, w5.tr y5, y6, y7, y8⟩
  have hp := hI.1.2.2.2.1
  have hn60 := hI.2.2.1
  exact main (n + 1 - p) 0 100 S M p l c g (by omega) (by omega) (Or.inl rfl) (by omega) hI hc hg
