-- undo
def drA (S : St) (o : Nat) (q : Nat → Bool) (n : Nat) : St := (fun a b => if a = o ∧ b < n ∧ q b = true then 0 else S.1 a b, S.2)
theorem drA_out {S : St} {o n a k : Nat} {q : Nat → Bool} (h : a ≠ o) : (drA S o q n).1 a k = S.1 a k := by
  show (if a = o ∧ k < n ∧ q k = true then 0 else S.1 a k) = _
  rw [if_neg (fun z => h z.1)]
theorem drA_ge {S : St} {o n a k : Nat} {q : Nat → Bool} (h : n ≤ k) : (drA S o q n).1 a k = S.1 a k := by
  show (if a = o ∧ k < n ∧ q k = true then 0 else S.1 a k) = _
  rw [if_neg (fun z => by have := z.2.1; omega)]
theorem drA_in {S : St} {o n k : Nat} {q : Nat → Bool} (h : k < n) : (drA S o q n).1 o k = if q k = true then 0 else S.1 o k := by
  show (if o = o ∧ k < n ∧ q k = true then 0 else S.1 o k) = _
  by_cases hq : q k = true
  · rw [if_pos ⟨rfl, h, hq⟩, if_pos hq]
  · rw [if_neg (fun z => hq z.2.2), if_neg hq]
theorem drA_0 (S : St) (o : Nat) (q : Nat → Bool) : drA S o q 0 = S := by
  refine Prod.ext ?_ rfl
  funext a b
  exact drA_ge (Nat.zero_le _)
theorem drA_put (S : St) (o : Nat) (q : Nat → Bool) (i : Nat) : (if q i = true then pI (drA S o q i) o i 0 else drA S o q i) = drA S o q (i + 1) := by
  by_cases hq : q i = true
  · rw [if_pos hq]
    refine Prod.ext ?_ rfl
    funext a b
    show (if a = o ∧ b = i then 0 else if a = o ∧ b < i ∧ q b = true then 0 else S.1 a b) = if a = o ∧ b < i + 1 ∧ q b = true then 0 else S.1 a b
    by_cases c1 : a = o ∧ b = i
    · rw [if_pos c1, if_pos ⟨c1.1, by omega, by rw [c1.2]; exact hq⟩]
    · rw [if_neg c1]
      by_cases c2 : a = o ∧ b < i ∧ q b = true
      · rw [if_pos c2, if_pos ⟨c2.1, by omega, c2.2.2⟩]
      · rw [if_neg c2, if_neg (fun z => by
          have : b ≠ i := fun e => c1 ⟨z.1, e⟩
          exact c2 ⟨z.1, by have := z.2.1; omega, z.2.2⟩)]
  · rw [if_neg hq]
    refine Prod.ext ?_ rfl
    funext a b
    show (if a = o ∧ b < i ∧ q b = true then 0 else S.1 a b) = if a = o ∧ b < i + 1 ∧ q b = true then 0 else S.1 a b
    by_cases c2 : a = o ∧ b < i ∧ q b = true
    · rw [if_pos c2, if_pos ⟨c2.1, by omega, c2.2.2⟩]
    · rw [if_neg c2, if_neg (fun z => by
          have : b ≠ i := fun e => hq (by rw [← e]; exact z.2.2)
          exact c2 ⟨z.1, by have := z.2.1; omega, z.2.2⟩)]
theorem hoN8 {hs : Nat} (hh : hs < 65536) {x : Int32} (e : x = nI hs) {a : Nat} (ha : a < 16) : hoB x (nI a) = hs.testBit a := by
  rw [e, hoB_nI (by omega) (by omega)]
  simp [ha]
theorem dropJ {S0 : St} {t hs : Nat} (hh : hs < 65536) (ht : t ≠ 20) (e : S0.1 t 7 = nI hs) : fX6_dropStrangers_18 19 t 100 S0 0 = some (drA S0 20 (fun a => !hs.testBit a) 16) := by
  obtain ⟨S', h1, h2⟩ := loop_inv (F := fun k S i => fX6_dropStrangers_18 19 t k S (nI i)) (fun i S => S = drA S0 20 (fun a => !hs.testBit a) i) (fun S => some S) 16 (fun k S i hi hp => by
      refine ⟨drA S0 20 (fun a => !hs.testBit a) (i + 1), ?_, rfl⟩
      show bX6_dropStrangers_18 _ _ _ _ _ = _
      unfold bX6_dropStrangers_18
      rw [li 16, if_neg (by rw [nle (by decide) (by omega)]; omega), ← drA_put, hp]
      have e2 : (drA S0 20 (fun a => !hs.testBit a) i).1 t 7 = nI hs := by rw [drA_out ht]; exact e
      simp only [hasHouse8, bi_some, ite_b2i, hoN8 hh e2 hi, inbT hi (show 16 < 2 ^ 31 by decide), if_true, nI_clamp (show i < 2 ^ 31 by omega), bS_e, bV_e, nI_1]
      by_cases hb : hs.testBit i = true <;> simp [hb]) (fun k S hp => by
      show bX6_dropStrangers_18 _ _ _ _ _ = _
      unfold bX6_dropStrangers_18
      rw [if_pos (by decide)]) 16 100 S0 0 rfl (by decide) (drA_0 _ _ _).symm
  rw [← h1]
  exact h2
def wiM (M : St) (hs : Nat) : Int32 := if hoB (nI hs) (M.1 56 16) = true then M.1 56 16 else -1
theorem undoM {M0 : St} {hs ks : Nat} (hh : hs < 65536) (hk : ks < 65536) (e : M0.1 55 8 = nI hs) (e2 : M0.1 55 60 = nI ks) : fX12_undo_22 100 M0 0 = some (1, if hoB (nI hs) (M0.1 56 16) = true then drA M0 56 (fun a => !(ks.testBit a && hs.testBit a)) 16 else pI (drA M0 56 (fun a => !(ks.testBit a && hs.testBit a)) 16) 56 16 (-1)) := by
  obtain ⟨S', h1, h2⟩ := loop_inv (F := fun k S i => fX12_undo_22 k S (nI i)) (fun i S => S = drA M0 56 (fun a => !(ks.testBit a && hs.testBit a)) i) (fun S => some (1, if hoB (nI hs) (M0.1 56 16) = true then S else pI S 56 16 (-1))) 16 (fun k S i hi hp => by
      refine ⟨drA M0 56 (fun a => !(ks.testBit a && hs.testBit a)) (i + 1), ?_, rfl⟩
      show bX12_undo_22 _ _ _ = _
      unfold bX12_undo_22
      rw [li 16, if_neg (by rw [nle (by decide) (by omega)]; omega), ← drA_put, hp]
      have hl : ks &&& hs < 65536 := Nat.lt_of_le_of_lt Nat.and_le_left hk
      have q1 : (drA M0 56 (fun a => !(ks.testBit a && hs.testBit a)) i).1 55 60 = nI ks := by rw [drA_out (by decide)]; exact e2
      have q2 : (drA M0 56 (fun a => !(ks.testBit a && hs.testBit a)) i).1 55 8 = nI hs := by rw [drA_out (by decide)]; exact e
      simp only [has12, q1, q2, and_nI, hsB_nI (show ks &&& hs < 2 ^ 31 by omega) (show i < 32 by omega), Nat.testBit_and, bi_some, ite_b2i, za, inbT (show i < 21 by omega) (show 21 < 2 ^ 31 by decide), if_true, nI_clamp (show i < 2 ^ 31 by omega), bS_e, bV_e, nI_1]
      by_cases hb : (ks.testBit i && hs.testBit i) = true
      · have hb2 : ¬ (!(ks.testBit i && hs.testBit i)) = true := by rw [hb]; decide
        simp only [hb, hb2, if_true, if_false]
        simp
      · simp only [hb, Bool.false_eq_true, Bool.not_false, if_true, if_false]) (fun k S hp => by
      show bX12_undo_22 _ _ _ = _
      unfold bX12_undo_22
      rw [if_pos (by decide)]
      have q2 : S.1 55 8 = nI hs := by rw [hp, drA_out (by decide)]; exact e
      have q3 : S.1 56 16 = M0.1 56 16 := by rw [hp, drA_ge (by decide)]
      simp only [isHouse12, q2, q3, bi_some, ite_b2i, bS_e]
      by_cases hb : hoB (nI hs) (M0.1 56 16) = true <;> simp [hb]) 16 100 M0 0 rfl (by decide) (drA_0 _ _ _).symm
  rw [← h1]
  exact h2
theorem sim_undo (S M : St) (h : Rel S M) : ∃ v S1 M1, fX11_undo S = some (v, S1) ∧ fX12_undo M = some (v, M1) ∧ Rel S1 M1 := by
  obtain ⟨k1, k2⟩ := h.2.2.2.2.1
  unfold fX11_undo fX12_undo
  rw [k1]
  rcases k2 with k2 | ⟨k2, ⟨ks, hk, ek⟩, k3⟩
  · rw [k2, if_pos rfl, if_pos rfl]
    exact ⟨_, _, _, rfl, rfl, h⟩
  · have hT := h.2.1.1
    have hh := h.1.1.2
    have e7 := h.2.1.2.2.2.1
    have ht : S.2.2 0 ≠ 20 := by unfold isT at hT; omega
    have ht19 : S.2.2 0 ≠ 19 := by unfold isT at hT; omega
    rw [ek, gv_nI (by omega)] at k3
    rw [k2, if_neg (by decide), if_neg (by decide)]
    simp only [copyF (S := S) (o := 23) (o2 := 19) (by decide) (by decide) (by decide), copies12 58 56 (by decide), bv_some]
    have r0 : (cpS S 23 19).2.2 0 = S.2.2 0 := rfl
    have q1 : (cpA M 58 56 21).1 55 8 = nI (hN M) := by rw [cpA_out _ (by decide)]; exact h.1.1.1
    have q2 : (cpA M 58 56 21).1 55 60 = nI ks := by rw [cpA_out _ (by decide)]; exact ek
    have q3 : (cpA M 58 56 21).1 56 16 = M.1 58 16 := cpA_in _ (by decide)
    have q4 : (cpS S 23 19).1 (S.2.2 0) 7 = nI (hN M) := by rw [cpS_out ht19 ht, e7]; exact h.1.1.1
    have q5 : (cpS S 23 19).1 19 1 = M.1 58 16 := by rw [cpS_f (by decide) (by decide), k3.2.1.1]
    rw [r0, if_pos hT, undoM hh (by omega) q1 q2, q3]
    unfold fX6_dropStrangers
    simp only [hasHouse8, q4, q5, bi_some, ite_b2i, bS_e]
    have hst : RSta (cpS S 23 19) (cpA M 58 56 21) 19 56 ks := k3.copy (fun k h1 h2 => cpS_f h1 h2) (fun k h1 => cpS_j h1 (by decide)) (fun k hk => cpA_in _ hk)
    obtain ⟨b1, b2, b3, b4, b5, b6⟩ := hst
    have jo : ∀ a, a < 16 → (drA (cpS S 23 19) 20 (fun a => !(hN M).testBit a) 16).1 20 a = (drA (cpA M 58 56 21) 56 (fun a => !(ks.testBit a && (hN M).testBit a)) 16).1 56 a ∧ upTo ((drA (cpA M 58 56 21) 56 (fun a => !(ks.testBit a && (hN M).testBit a)) 16).1 56 a) 99999 ∧ ((hN M).testBit a = false → (drA (cpA M 58 56 21) 56 (fun a => !(ks.testBit a && (hN M).testBit a)) 16).1 56 a = 0) := by
      intro a ha
      obtain ⟨c1, c2, c3⟩ := b1 a ha
      have c1 : (cpS S 23 19).1 20 a = (cpA M 58 56 21).1 56 a := c1
      rw [drA_in ha, drA_in ha, c1]
      have u0 : upTo 0 99999 := ⟨0, Nat.zero_le _, rfl⟩
      by_cases z1 : (hN M).testBit a = true
      · by_cases z2 : ks.testBit a = true
        · simp only [z1, z2]
          exact ⟨rfl, c2, fun q => by cases q⟩
        · have z2 : ks.testBit a = false := by simpa using z2
          refine ⟨?_, ?_, ?_⟩ <;> simp [z1, z2, c3 z2, u0]
      · have z1 : (hN M).testBit a = false := by simpa using z1
        refine ⟨?_, ?_, ?_⟩ <;> simp [z1, u0]
    have kp : ∀ S' M' : St, (∀ o k, o = 23 ∨ o = 24 ∨ (o = 0 ∧ k = 14) → S'.1 o k = S.1 o k) → (∀ o k, o = 58 ∨ o = 55 → M'.1 o k = M.1 o k) → RKep S' M' := fun S' M' f1 f2 => h.2.2.2.2.1.cg (fun o k hp => f1 o k (by unfold kepC at hp; omega)) (fun o k hp => f2 o k (by unfold kepM at hp; omega))
    by_cases hw : hoB (nI (hN M)) (M.1 58 16) = true
    · simp only [hw, if_true, dropJ hh ht q4, bv_some]
      refine ⟨_, _, _, rfl, rfl, h.parts rfl (fun o k h1 h2 h3 h4 h5 => by rw [drA_out h2, cpS_out h1 h2]) (fun o k h1 h2 h3 => by rw [drA_out h1, cpA_out _ h1]) ⟨jo, ?_, ?_, ?_, ?_, ?_⟩ (kp _ _ (fun o k hp => by rw [drA_out (by omega), cpS_out (by omega) (by omega)]) (fun o k hp => by rw [drA_out (by omega), cpA_out _ (by omega)]))⟩
      · rw [drA_out (by decide), drA_ge (by decide), q3, q5]
        rw [← h.1.1.1] at hw
        obtain ⟨a, ha, ea, hb⟩ := h.told hw
        exact ⟨rfl, Or.inr ⟨a, ha, ea, hb⟩⟩
      · rw [drA_out (by decide), drA_ge (by decide)]; exact b3
      · rw [drA_out (by decide), drA_ge (by decide)]; exact b4
      · rw [drA_out (by decide), drA_ge (by decide)]; exact b5
      · rw [drA_out (by decide), drA_ge (by decide)]; exact b6
    · have q6 : (pI (cpS S 23 19) 19 1 (-1)).1 (S.2.2 0) 7 = nI (hN M) := by rw [pI_row _ _ ht19]; exact q4
      simp only [hw, dropJ hh ht q6, bv_some]
      have jo2 : ∀ a, (drA (pI (cpS S 23 19) 19 1 (-1)) 20 (fun a => !(hN M).testBit a) 16).1 20 a = (drA (cpS S 23 19) 20 (fun a => !(hN M).testBit a) 16).1 20 a := by
        intro a
        show (if 20 = 20 ∧ a < 16 ∧ _ then (0 : Int32) else (pI (cpS S 23 19) 19 1 (-1)).1 20 a) = (if 20 = 20 ∧ a < 16 ∧ _ then 0 else (cpS S 23 19).1 20 a)
        rw [pI_row _ _ (by decide)]
      refine ⟨_, _, _, rfl, rfl, h.parts rfl (fun o k h1 h2 h3 h4 h5 => by rw [drA_out h2, pI_row _ _ h1, cpS_out h1 h2]) (fun o k h1 h2 h3 => by rw [if_neg (by decide), pI_row _ _ h1, drA_out h1, cpA_out _ h1]) ⟨?_, ?_, ?_, ?_, ?_, ?_⟩ (kp _ _ (fun o k hp => by rw [drA_out (by omega), pI_row _ _ (by omega), cpS_out (by omega) (by omega)]) (fun o k hp => by rw [if_neg (by decide), pI_row _ _ (by omega), drA_out (by omega), cpA_out _ (by omega)]))⟩
      · intro a ha
        rw [if_neg (by decide), jo2, pI_cell _ _ (by omega)]
        exact jo a ha
      · rw [if_neg (by decide), drA_out (by decide), pI_same, pI_same]
        exact ⟨rfl, Or.inl rfl⟩
      · rw [if_neg (by decide), drA_out (by decide), pI_cell _ _ (by omega), pI_cell _ _ (by omega), drA_ge (by decide)]; exact b3
      · rw [if_neg (by decide), drA_out (by decide), pI_cell _ _ (by omega), pI_cell _ _ (by omega), drA_ge (by decide)]; exact b4
      · rw [if_neg (by decide), drA_out (by decide), pI_cell _ _ (by omega), pI_cell _ _ (by omega), drA_ge (by decide)]; exact b5
      · rw [if_neg (by decide), drA_out (by decide), pI_cell _ _ (by omega), pI_cell _ _ (by omega), drA_ge (by decide)]; exact b6
-- check
def lwI (q : Nat → Bool) : Nat → Nat → Int32
  | 0, _ => -1
  | m + 1, i => if q i = true then lwI q m (i + 1) else nI i
def dueN (M : St) (a : Nat) : Int32 := if (hN M).testBit a = true then M.1 56 a - M.1 56 a / 256 * 256 else 255
theorem check1 {S M : St} (h : Rel S M) {b : Nat → Nat} {z n : Nat} (hT : TapS b z S) (hz : z ≤ 260) (hn : n ≤ z) (h16 : n ≤ 16) : ∀ i k, i ≤ n → i < k → fX11_check_30 k S (lwI (fun a => decide (nI (b a) = dueN M a)) (n - i) i) (nI i + (-1)) = some (lwI (fun a => decide (nI (b a) = dueN M a)) n 0, pI S 1 1 0) := by
  have e7 := h.2.1.2.2.2.1
  intro i
  induction i with
  | zero =>
    intro k _ hk
    obtain ⟨k, rfl⟩ : ∃ k', k = k' + 1 := ⟨k - 1, by omega⟩
    show bX11_check_30 _ _ _ _ = _
    unfold bX11_check_30
    rw [if_pos (by decide), clear7, bv_some, Nat.sub_zero]
  | succ i ih =>
    intro k hi hk
    obtain ⟨k, rfl⟩ : ∃ k', k = k' + 1 := ⟨k - 1, by omega⟩
    have := ih k (by omega) (by omega)
    rw [show n - i = (n - (i + 1)) + 1 by omega, lwI] at this
    show bX11_check_30 _ _ _ _ = _
    unfold bX11_check_30 fX11_check_63
    rw [pk_m1, if_neg (nI_pos (by omega)), if_pos h.2.1.1]
    simp only [hasHouse8, e7, h.hoN (show i < 16 by omega), bi_some, ite_b2i, joyOf6 19 S (show i < 16 by omega), byte7 hT hz (show i < z by omega), bV_e]
    have j1 : S.1 (19 + 1) i = M.1 56 i := (h.2.2.2.1.1 i (by omega)).1
    rw [j1]
    have hd : dueN M i = if (hN M).testBit i = true then M.1 56 i - M.1 56 i / 256 * 256 else 255 := rfl
    by_cases c1 : (hN M).testBit i = true
    · simp only [c1, if_true] at hd ⊢
      rw [← hd]
      by_cases c2 : nI (b i) = dueN M i
      · rw [if_pos c2]
        rw [if_pos (by simpa using c2)] at this
        exact this
      · rw [if_neg c2]
        rw [if_neg (by simpa using c2)] at this
        exact this
    · simp only [c1, Bool.false_eq_true, if_false] at hd ⊢
      rw [← hd]
      by_cases c2 : nI (b i) = dueN M i
      · rw [if_pos c2]
        rw [if_pos (by simpa using c2)] at this
        exact this
      · rw [if_neg c2]
        rw [if_neg (by simpa using c2)] at this
        exact this
theorem check12 {S M : St} (h : Rel S M) {b : Nat → Nat} {n : Nat} (hb : ∀ j, b j < 256) (hT : TapM b M) (h16 : n ≤ 16) : ∀ m i k, i + m = n → m < k → fX12_check_28 k (pI M 55 11 0) (nI n) (nI i) = some (lwI (fun a => decide (nI (b a) = dueN M a)) m i, pI M 55 11 0) := by
  intro m
  induction m with
  | zero =>
    intro i k h1 h2
    obtain ⟨k, rfl⟩ : ∃ k', k = k' + 1 := ⟨k - 1, by omega⟩
    show bX12_check_28 _ _ _ _ = _
    unfold bX12_check_28
    rw [if_pos (by rw [nle (by omega) (by omega)]; omega)]
    rfl
  | succ m ih =>
    intro i k h1 h2
    obtain ⟨k, rfl⟩ : ∃ k', k = k' + 1 := ⟨k - 1, by omega⟩
    show bX12_check_28 _ _ _ _ = _
    unfold bX12_check_28 fX12_check_64
    have e8 : (pI M 55 11 0).1 55 8 = M.1 55 8 := pI_cell M _ (by omega)
    have e56 : (pI M 55 11 0).1 56 i = M.1 56 i := pI_cell M _ (by omega)
    rw [if_neg (by rw [nle (by omega) (by omega)]; omega), lwI]
    simp only [oct12 hb (hT.clr 0) (show i < 260 by omega), isHouse12, e8, h.hoN (show i < 16 by omega), bi_some, ite_b2i, za, inbT (show i < 21 by omega) (show 21 < 2 ^ 31 by decide), if_true, nI_clamp (show i < 2 ^ 31 by omega), e56, bV_e, nI_1, ih (i + 1) k (by omega) (by omega)]
    have hd : dueN M i = if (hN M).testBit i = true then M.1 56 i - M.1 56 i / 256 * 256 else 255 := rfl
    by_cases c1 : (hN M).testBit i = true
    · simp only [c1, if_true] at hd ⊢
      rw [← hd]
      by_cases c2 : nI (b i) = dueN M i
      · rw [if_pos c2, if_pos (by simpa using c2)]
      · rw [if_neg c2, if_neg (by simpa using c2)]
    · simp only [c1, Bool.false_eq_true, if_false] at hd ⊢
      rw [← hd]
      by_cases c2 : nI (b i) = dueN M i
      · rw [if_pos c2, if_pos (by simpa using c2)]
      · rw [if_neg c2, if_neg (by simpa using c2)]
theorem sim_check (S M : St) (x : Int32) (h : Rel S M) : ∃ v S1 M1, fX11_check S x = some (v, S1) ∧ fX12_check M x = some (v, M1) ∧ Rel S1 M1 := by
  obtain ⟨b, z, hz, hb, hT, hT2, hz2⟩ := h.tap
  unfold fX11_check fX12_check
  simp only [in12, bi_some, ite_b2i, rng2, i0, i16]
  by_cases hx : inR x 0 16 = true
  · obtain ⟨n, h16, rfl⟩ := inR_nat (n := 16) hx (by decide)
    simp only [hx, if_true, holds7 hT hz (show n < 2 ^ 31 by omega), bi_some, ite_b2i, hz2, nle (show n < 2 ^ 31 by omega) (show z < 2 ^ 31 by omega), bV_e, bS_e]
    by_cases hn : n ≤ z
    · have g1 := check1 h hT hz hn h16 n 100 (Nat.le_refl _) (by omega)
      have g2 : fX12_check_28 100 (pI M 55 11 0) (nI n) 0 = _ := check12 h hb hT2 h16 n 0 100 (by omega) (by omega)
      rw [Nat.sub_self] at g1
      have g1 : fX11_check_30 100 S (-1) (nI n + (-1)) = _ := g1
      have e1 : nI n - 1 = nI n + (-1) := by rw [Int32.sub_eq_add_neg]
      simp only [hn, decide_true, if_true, e1, g1, g2]
      exact ⟨_, _, _, rfl, rfl, h.clr⟩
    · simp only [hn, decide_false, Bool.false_eq_true, if_false]
      exact ⟨_, _, _, rfl, rfl, h⟩
  · simp only [hx]
    exact ⟨_, _, _, rfl, rfl, h⟩
