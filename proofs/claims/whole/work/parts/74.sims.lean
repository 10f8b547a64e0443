-- rotas
def wN (k : Nat) : Nat → Nat → Int64
  | 0, j => if j = 1 then (nI k).toInt64 else 0
  | t + 1, j => if j = 0 then 0 else wN k t j * (nI j - 1).toInt64 + wN k t (j - 1) * ((nI k - nI j) + 1).toInt64
theorem wN_0 (k : Nat) : ∀ t, wN k t 0 = 0
  | 0 => rfl
  | t + 1 => rfl
def SmL (S S' : St) : Prop := S'.1 = S.1 ∧ S'.2.2 = S.2.2
theorem SmL.pL {S S' : St} (h : SmL S S') (o k : Nat) (v : Int64) : SmL S (pL S' o k v) := h
theorem pL_same (S : St) (o k : Nat) (v : Int64) : (pL S o k v).2.1 o k = v := by simp [pL]
theorem pL_cell (S : St) {o k j b : Nat} (v : Int64) (h : ¬ (j = o ∧ b = k)) : (pL S o k v).2.1 j b = S.2.1 j b := by simp [pL, h]
theorem SmL.eqC {S S' : St} (h : SmL S S') : EqC S S' := ⟨h.2, fun o k _ => by rw [h.1]⟩
theorem SmL.eqM {S S' : St} (h : SmL S S') : EqM S S' := fun o k _ => by rw [h.1]
theorem ro17 (S0 : St) {k : Nat} (h0 : 1 ≤ k) (hk : k ≤ 12) : ∃ S', (SmL S0 S' ∧ ∀ j, j < 13 → S'.2.1 18 j = wN k 0 j) ∧ fX1_rotasOf_17 100 S0 (nI k) 0 = fX1_rotasOf_48 100 S' (nI k) 1 := by
  refine loop_inv (F := fun f S i => fX1_rotasOf_17 f S (nI k) (nI i)) (fun i S => SmL S0 S ∧ ∀ j, j < i → S.2.1 18 j = wN k 0 j) (fun S => fX1_rotasOf_48 100 S (nI k) 1) 13 ?_ ?_ 13 100 S0 0 rfl (by decide) ⟨⟨rfl, rfl⟩, fun j hj => absurd hj (Nat.not_lt_zero j)⟩
  · intro f S i hi ⟨p1, p2⟩
    refine ⟨pL S 18 i (wN k 0 i), ?_, p1, fun j hj => ?_⟩
    · show bX1_rotasOf_17 _ _ _ _ = _
      unfold bX1_rotasOf_17
      rw [li 12, if_neg (by rw [nlt (by decide) (by omega)]; omega)]
      simp only [inbT hi (show 13 < 2 ^ 31 by decide), if_true, nI_clamp (show i < 2 ^ 31 by omega), bS_e, bV_e, nI_1, wN]
      by_cases c : i = 1
      · subst c
        rw [if_pos (show nI 1 = 1 from rfl), if_pos rfl]
      · rw [if_neg (show ¬ nI i = 1 by rw [li 1, neq (by omega) (Nat.le_of_ble_eq_true rfl)]; exact c), if_neg c]
    · by_cases e : j = i
      · subst e; rw [pL_same]
      · rw [pL_cell S _ (by omega)]; exact p2 j (by omega)
  · intro f S _
    show bX1_rotasOf_17 _ _ _ _ = _
    unfold bX1_rotasOf_17
    rw [if_pos (by decide)]
theorem ro56 (S0 : St) {k t : Nat} (rc : St → Int32 → Int32 → Option (Int64 × St)) (hk : k ≤ 12) (h : ∀ j, j ≤ k → S0.2.1 18 j = wN k t j) (x : Int32) : ∃ S', (SmL S0 S' ∧ ∀ j, j ≤ k → S'.2.1 18 j = if 0 < j then wN k (t + 1) j else wN k t j) ∧ fX1_rotasOf_56 rc 100 S0 (nI k) x (nI k) = rc S' (nI k) (x + 1) := by
  refine loop_dn (F := fun f S i => fX1_rotasOf_56 rc f S (nI k) x (nI i)) (fun i S => SmL S0 S ∧ ∀ j, j ≤ k → S.2.1 18 j = if i < j then wN k (t + 1) j else wN k t j) (fun S => rc S (nI k) (x + 1)) k ?_ ?_ k 100 S0 (Nat.le_refl _) (by omega) ⟨⟨rfl, rfl⟩, fun j hj => by rw [if_neg (by omega)]; exact h j hj⟩
  · intro f S i hi ⟨p1, p2⟩
    refine ⟨pL S 18 (i + 1) (wN k (t + 1) (i + 1)), ?_, p1, fun j hj => ?_⟩
    · show bX1_rotasOf_56 _ _ _ _ _ _ = _
      unfold bX1_rotasOf_56
      have e1 : nI (i + 1) - 1 = nI i := by rw [li 1, pk_sub (by omega)]; rfl
      rw [li 1, if_neg (by rw [nlt (by omega) (by decide)]; omega), ← li 1, e1]
      simp only [inbT (show i + 1 < 13 by omega) (show 13 < 2 ^ 31 by decide), inbT (show i < 13 by omega) (show 13 < 2 ^ 31 by decide), if_true, nI_clamp (show i < 2 ^ 31 by omega), nI_clamp (show i + 1 < 2 ^ 31 by omega), bS_e, bV_e, pk_m1]
      rw [p2 (i + 1) (by omega), p2 i (by omega), if_neg (by omega), if_neg (by omega), wN, if_neg (by omega), e1]
      rfl
    · by_cases e : j = i + 1
      · subst e; rw [pL_same, if_pos (by omega)]
      · rw [pL_cell S _ (by omega), p2 j hj]
        by_cases c : i < j
        · rw [if_pos c, if_pos (by omega)]
        · rw [if_neg c, if_neg (by omega)]
  · intro f S _
    show bX1_rotasOf_56 _ _ _ _ _ _ = _
    unfold bX1_rotasOf_56
    rw [if_pos (show nI 0 < 1 by decide)]
    rfl
theorem ro48 (S0 : St) {k : Nat} (h1 : 1 ≤ k) (hk : k ≤ 12) (h0 : ∀ j, j ≤ k → S0.2.1 18 j = wN k 0 j) : ∃ S', (1 ≤ 12 ∧ SmL S0 S' ∧ ∀ j, j ≤ k → S'.2.1 18 j = wN k (12 - 1) j) ∧ fX1_rotasOf_48 100 S0 (nI k) 1 = some (S'.2.1 18 k, S') := by
  refine loop_inv (F := fun f S i => fX1_rotasOf_48 f S (nI k) (nI i)) (fun i S => 1 ≤ i ∧ SmL S0 S ∧ ∀ j, j ≤ k → S.2.1 18 j = wN k (i - 1) j) (fun S => some (S.2.1 18 k, S)) 12 ?_ ?_ 11 100 S0 1 rfl (by decide) ⟨Nat.le_refl _, ⟨rfl, rfl⟩, h0⟩
  · intro f S i hi ⟨p0, p1, p2⟩
    obtain ⟨S', ⟨q1, q2⟩, q3⟩ := ro56 S (fX1_rotasOf_48 f) hk p2 (nI i)
    rw [nI_1] at q3
    refine ⟨S', ?_, by omega, ⟨q1.1.trans p1.1, q1.2.trans p1.2⟩, fun j hj => ?_⟩
    · show bX1_rotasOf_48 _ _ _ _ = _
      unfold bX1_rotasOf_48
      rw [li 12, if_neg (by rw [nle (by decide) (by omega)]; omega)]
      exact q3
    · rw [q2 j hj, show i + 1 - 1 = (i - 1) + 1 by omega]
      by_cases c : 0 < j
      · rw [if_pos c]
      · have : j = 0 := by omega
        subst this
        rw [if_neg c, wN_0, wN_0]
  · intro f S _
    show bX1_rotasOf_48 _ _ _ _ = _
    unfold bX1_rotasOf_48
    rw [if_pos (by decide), if_pos (inbT (by omega) (by decide)), nI_clamp (by omega)]
theorem rm16 (S0 : St) {k : Nat} (h0 : 1 ≤ k) (hk : k ≤ 12) : ∃ S', (SmL S0 S' ∧ ∀ j, j < k + 1 → S'.2.1 93 j = wN k 0 j) ∧ fX12_rotas_16 100 S0 (nI k) 0 = fX12_rotas_46 100 S' (nI k) 1 := by
  refine loop_inv (F := fun f S i => fX12_rotas_16 f S (nI k) (nI i)) (fun i S => SmL S0 S ∧ ∀ j, j < i → S.2.1 93 j = wN k 0 j) (fun S => fX12_rotas_46 100 S (nI k) 1) (k + 1) ?_ ?_ (k + 1) 100 S0 0 (by omega) (by omega) ⟨⟨rfl, rfl⟩, fun j hj => absurd hj (Nat.not_lt_zero j)⟩
  · intro f S i hi ⟨p1, p2⟩
    refine ⟨pL S 93 i (wN k 0 i), ?_, p1, fun j hj => ?_⟩
    · show bX12_rotas_16 _ _ _ _ = _
      unfold bX12_rotas_16
      rw [if_neg (by rw [nlt (by omega) (by omega)]; omega)]
      simp only [inbT (show i < 13 by omega) (show 13 < 2 ^ 31 by decide), if_true, nI_clamp (show i < 2 ^ 31 by omega), bS_e, bV_e, nI_1, wN]
      by_cases c : i = 1
      · subst c
        rw [if_pos (show nI 1 = 1 from rfl), if_pos rfl]
      · rw [if_neg (show ¬ nI i = 1 by rw [li 1, neq (by omega) (Nat.le_of_ble_eq_true rfl)]; exact c), if_neg c]
    · by_cases e : j = i
      · subst e; rw [pL_same]
      · rw [pL_cell S _ (by omega)]; exact p2 j (by omega)
  · intro f S _
    show bX12_rotas_16 _ _ _ _ = _
    unfold bX12_rotas_16
    rw [if_pos (by rw [nlt (by omega) (by omega)]; omega)]
theorem rm54 (S0 : St) {k t : Nat} (rc : St → Int32 → Int32 → Option (Int64 × St)) (hk : k ≤ 12) (h : ∀ j, j ≤ k → S0.2.1 93 j = wN k t j) (x : Int32) : ∃ S', (SmL S0 S' ∧ (∀ j, j ≤ k → S'.2.1 93 j = wN k t j) ∧ ∀ j, j < k + 1 → S'.2.1 94 j = wN k (t + 1) j) ∧ fX12_rotas_54 rc 100 S0 (nI k) x 0 = fX12_rotas_108 rc 100 S' (nI k) x 0 := by
  refine loop_inv (F := fun f S i => fX12_rotas_54 rc f S (nI k) x (nI i)) (fun i S => SmL S0 S ∧ (∀ j, j ≤ k → S.2.1 93 j = wN k t j) ∧ ∀ j, j < i → S.2.1 94 j = wN k (t + 1) j) (fun S => fX12_rotas_108 rc 100 S (nI k) x 0) (k + 1) ?_ ?_ (k + 1) 100 S0 0 (by omega) (by omega) ⟨⟨rfl, rfl⟩, h, fun j hj => absurd hj (Nat.not_lt_zero j)⟩
  · intro f S i hi ⟨p1, p2, p3⟩
    refine ⟨pL S 94 i (wN k (t + 1) i), ?_, p1, fun j hj => ?_, fun j hj => ?_⟩
    · show bX12_rotas_54 _ _ _ _ _ _ = _
      unfold bX12_rotas_54
      rw [if_neg (by rw [nlt (by omega) (by omega)]; omega)]
      by_cases c : i = 0
      · subst c
        rw [if_pos nI_0, if_pos (inbT (by decide) (by decide)), nI_clamp (by decide)]
        simp only [bS_e, bV_e, nI_1]
        rfl
      · have e1 : nI i - 1 = nI (i - 1) := by rw [li 1, pk_sub (by omega)]
        rw [if_neg (show ¬ nI i = 0 by rw [li 0, neq (by omega) (Nat.le_of_ble_eq_true rfl)]; exact c), wN, if_neg c, e1]
        simp only [inbT (show i < 13 by omega) (show 13 < 2 ^ 31 by decide), inbT (show i - 1 < 13 by omega) (show 13 < 2 ^ 31 by decide), if_true, nI_clamp (show i < 2 ^ 31 by omega), nI_clamp (show i - 1 < 2 ^ 31 by omega), bS_e, bV_e, nI_1]
        rw [p2 i (by omega), p2 (i - 1) (by omega)]
    · rw [pL_cell S _ (by omega)]; exact p2 j hj
    · by_cases e : j = i
      · subst e; rw [pL_same]
      · rw [pL_cell S _ (by omega)]; exact p3 j (by omega)
  · intro f S _
    show bX12_rotas_54 _ _ _ _ _ _ = _
    unfold bX12_rotas_54
    rw [if_pos (by rw [nlt (by omega) (by omega)]; omega)]
theorem rm108 (S0 : St) {k t : Nat} (rc : St → Int32 → Int32 → Option (Int64 × St)) (hk : k ≤ 12) (h : ∀ j, j < k + 1 → S0.2.1 94 j = wN k t j) (x : Int32) : ∃ S', (SmL S0 S' ∧ (∀ j, j < k + 1 → S'.2.1 94 j = wN k t j) ∧ ∀ j, j < k + 1 → S'.2.1 93 j = wN k t j) ∧ fX12_rotas_108 rc 100 S0 (nI k) x 0 = rc S' (nI k) (x + 1) := by
  refine loop_inv (F := fun f S i => fX12_rotas_108 rc f S (nI k) x (nI i)) (fun i S => SmL S0 S ∧ (∀ j, j < k + 1 → S.2.1 94 j = wN k t j) ∧ ∀ j, j < i → S.2.1 93 j = wN k t j) (fun S => rc S (nI k) (x + 1)) (k + 1) ?_ ?_ (k + 1) 100 S0 0 (by omega) (by omega) ⟨⟨rfl, rfl⟩, h, fun j hj => absurd hj (Nat.not_lt_zero j)⟩
  · intro f S i hi ⟨p1, p2, p3⟩
    refine ⟨pL S 93 i (wN k t i), ?_, p1, fun j hj => ?_, fun j hj => ?_⟩
    · show bX12_rotas_108 _ _ _ _ _ _ = _
      unfold bX12_rotas_108
      rw [if_neg (by rw [nlt (by omega) (by omega)]; omega)]
      simp only [inbT (show i < 13 by omega) (show 13 < 2 ^ 31 by decide), if_true, nI_clamp (show i < 2 ^ 31 by omega), bS_e, bV_e, nI_1]
      rw [p2 i hi]
    · rw [pL_cell S _ (by omega)]; exact p2 j hj
    · by_cases e : j = i
      · subst e; rw [pL_same]
      · rw [pL_cell S _ (by omega)]; exact p3 j (by omega)
  · intro f S _
    show bX12_rotas_108 _ _ _ _ _ _ = _
    unfold bX12_rotas_108
    rw [if_pos (by rw [nlt (by omega) (by omega)]; omega)]
    rfl
theorem rm46 (S0 : St) {k : Nat} (h1 : 1 ≤ k) (hk : k ≤ 12) (h0 : ∀ j, j ≤ k → S0.2.1 93 j = wN k 0 j) : ∃ S', (1 ≤ 12 ∧ SmL S0 S' ∧ ∀ j, j ≤ k → S'.2.1 93 j = wN k (12 - 1) j) ∧ fX12_rotas_46 100 S0 (nI k) 1 = some (S'.2.1 93 k, S') := by
  refine loop_inv (F := fun f S i => fX12_rotas_46 f S (nI k) (nI i)) (fun i S => 1 ≤ i ∧ SmL S0 S ∧ ∀ j, j ≤ k → S.2.1 93 j = wN k (i - 1) j) (fun S => some (S.2.1 93 k, S)) 12 ?_ ?_ 11 100 S0 1 rfl (by decide) ⟨Nat.le_refl _, ⟨rfl, rfl⟩, h0⟩
  · intro f S i hi ⟨p0, p1, p2⟩
    obtain ⟨S1, ⟨q1, _, q2⟩, q3⟩ := rm54 S (fX12_rotas_46 f) hk p2 (nI i)
    obtain ⟨S2, ⟨r1, _, r2⟩, r3⟩ := rm108 S1 (fX12_rotas_46 f) hk q2 (nI i)
    rw [nI_1] at r3
    refine ⟨S2, ?_, by omega, ⟨r1.1.trans (q1.1.trans p1.1), r1.2.trans (q1.2.trans p1.2)⟩, fun j hj => ?_⟩
    · show bX12_rotas_46 _ _ _ _ = _
      unfold bX12_rotas_46
      rw [li 12, if_neg (by rw [nle (by decide) (by omega)]; omega)]
      exact q3.trans r3
    · rw [r2 j (by omega), show i + 1 - 1 = (i - 1) + 1 by omega]
  · intro f S _
    show bX12_rotas_46 _ _ _ _ = _
    unfold bX12_rotas_46
    rw [if_pos (by decide), if_pos (inbT (by omega) (by decide)), nI_clamp (by omega)]
theorem sim_rotas (S M : St) (x : Int32) (h : Rel S M) : ∃ v S1 M1, fX11_rotas S x = some (v, S1) ∧ fX12_rotas M x = some (v, M1) ∧ Rel S1 M1 := by
  unfold fX11_rotas fX12_rotas fX1_rotasOf
  simp only [in12, bi_some, ite_b2i, i1, i12]
  by_cases hx : inR x 1 12 = true
  · obtain ⟨k, h0, h12, rfl⟩ := inR_natL (m := 1) (n := 12) hx (by decide)
    have c1 : ¬ nI k < 1 := by rw [li 1, nlt (by omega) (by decide)]; omega
    have c2 : nI k ≤ 12 := by rw [li 12, nle (by omega) (by decide)]; omega
    obtain ⟨S1, ⟨a1, a2⟩, a3⟩ := ro17 S h0 h12
    obtain ⟨S2, ⟨_, b1, b2⟩, b3⟩ := ro48 S1 h0 h12 (fun j hj => a2 j (by omega))
    obtain ⟨M1, ⟨d1, d2⟩, d3⟩ := rm16 M h0 h12
    obtain ⟨M2, ⟨_, e1, e2⟩, e3⟩ := rm46 M1 h0 h12 (fun j hj => d2 j (by omega))
    simp only [hx, c1, c2, if_true, if_false, a3, b3, d3, e3, bi_some]
    rw [b2 k (Nat.le_refl _), e2 k (Nat.le_refl _)]
    exact ⟨_, _, _, rfl, rfl, h.keep (a1.eqC.tr b1.eqC) (d1.eqM.tr e1.eqM)⟩
  · simp only [hx]
    have : x < 1 ∨ ¬ x ≤ 12 := by
      rw [Ilt, Ile, i1, i12]
      rw [inR_t] at hx
      omega
    by_cases c1 : x < 1
    · simp only [c1, if_true, bi_some]
      exact ⟨_, _, _, rfl, rfl, h⟩
    · have c2 : ¬ x ≤ 12 := by
        rcases this with z | z
        · exact absurd z c1
        · exact z
      simp only [c1, c2, if_false, bi_some]
      exact ⟨_, _, _, rfl, rfl, h⟩
