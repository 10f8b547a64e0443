-- the way
def ab (x : Int32) : Int32 := if 0 ≤ x then x else 0 - x
theorem size12 (S : St) (x : Int32) : fX12_size S x = some (ab x, S) := by
  unfold fX12_size ab
  by_cases h : 0 ≤ x
  · rw [if_pos h, if_pos h]
  · rw [if_neg h, if_neg h]
    simp
theorem ab_0 : ab 0 = 0 := by decide
theorem ab_u (x : Int32) : (if 0 ≤ x then x else 0 - x) = ab x := rfl
def stW (r : Nat → Int32) (s : Int32 × Int32 × Int32) (i : Nat) : Int32 × Int32 × Int32 := if r i = -1 then s else (if s.2.1 = -1 then s.1 else s.1 + ab (r i - s.2.1), r i, if s.2.2 = -1 then r i else s.2.2)
def wayW (r : Nat → Int32) : Int32 × Int32 × Int32 := itr (stW r) 0 12 (0, -1, -1)
theorem way4 (S : St) : fX4_way S = some ((wayW (S.1 9)).1, S) := by
  unfold fX4_way
  refine loop_up (F := fun k (s : Int32 × Int32 × Int32) i => fX4_way_6 k S s.1 s.2.1 (nI i)) (stW (S.1 9)) (fun s => some (s.1, S)) 12 ?_ ?_ 12 100 (0, -1, -1) 0 rfl (by decide)
  · intro k s i hi
    show bX4_way_6 _ _ _ _ _ = _
    unfold bX4_way_6 fX4_way_43
    rw [li 12, if_neg (by rw [nle (by decide) (by omega)]; omega)]
    simp only [inbT hi (show 12 < 2 ^ 31 by decide), if_true, nI_clamp (show i < 2 ^ 31 by omega), bV_e, nI_1, stW, ab_u]
    by_cases h1 : S.1 9 i = -1
    · simp only [h1, if_true]
    · by_cases h2 : s.2.1 = -1
      · simp only [h1, h2, if_true, if_false]
        simp
      · simp only [h1, h2, if_false]
  · intro k s
    show bX4_way_6 _ _ _ _ _ = _
    unfold bX4_way_6
    rw [if_pos (by decide)]
theorem wayBack4 (S : St) : fX4_wayBack S = some (ab ((wayW (S.1 9)).2.1 - (wayW (S.1 9)).2.2), S) := by
  unfold fX4_wayBack
  refine loop_up (F := fun k (s : Int32 × Int32 × Int32) i => fX4_wayBack_6 k S s.2.2 s.2.1 (nI i)) (stW (S.1 9)) (fun s => some (ab (s.2.1 - s.2.2), S)) 12 ?_ ?_ 12 100 (0, -1, -1) 0 rfl (by decide)
  · intro k s i hi
    show bX4_wayBack_6 _ _ _ _ _ = _
    unfold bX4_wayBack_6 fX4_wayBack_37
    rw [li 12, if_neg (by rw [nle (by decide) (by omega)]; omega)]
    simp only [inbT hi (show 12 < 2 ^ 31 by decide), if_true, nI_clamp (show i < 2 ^ 31 by omega), bV_e, nI_1, stW]
    by_cases h1 : S.1 9 i = -1
    · simp only [h1, if_true]
    · by_cases h2 : s.2.2 = -1
      · simp only [h1, h2, if_true, if_false]
      · simp only [h1, h2, if_false]
  · intro k s
    show bX4_wayBack_6 _ _ _ _ _ = _
    unfold bX4_wayBack_6
    rw [if_pos (by decide)]
    rfl
theorem wayOf12 (M : St) (x : Int32) : fX12_wayOf M x = some (if x = 0 then (wayW (M.1 59)).1 else if (wayW (M.1 59)).2.2 = -1 then (wayW (M.1 59)).1 else (wayW (M.1 59)).1 + ab ((wayW (M.1 59)).2.1 - (wayW (M.1 59)).2.2), M) := by
  unfold fX12_wayOf
  refine loop_up (F := fun k (s : Int32 × Int32 × Int32) i => fX12_wayOf_10 k M x s.1 s.2.1 s.2.2 (nI i)) (stW (M.1 59)) (fun s => some (if x = 0 then s.1 else if s.2.2 = -1 then s.1 else s.1 + ab (s.2.1 - s.2.2), M)) 12 ?_ ?_ 12 100 (0, -1, -1) 0 rfl (by decide)
  · intro k s i hi
    show bX12_wayOf_10 _ _ _ _ _ _ _ = _
    unfold bX12_wayOf_10 fX12_wayOf_51 fX12_wayOf_66
    rw [li 12, if_neg (by rw [nle (by decide) (by omega)]; omega)]
    simp only [inbT hi (show 12 < 2 ^ 31 by decide), if_true, nI_clamp (show i < 2 ^ 31 by omega), bV_e, nI_1, stW, size12, bi_some]
    by_cases h1 : M.1 59 i = -1
    · simp only [h1, if_true]
    · by_cases h2 : s.2.1 = -1 <;> by_cases h3 : s.2.2 = -1 <;> simp only [h1, h2, h3, if_true, if_false]
  · intro k s
    show bX12_wayOf_10 _ _ _ _ _ _ _ = _
    unfold bX12_wayOf_10 fX12_wayOf_102
    rw [if_pos (by decide)]
    simp only [size12, bi_some]
    by_cases h1 : x = 0 <;> by_cases h2 : s.2.2 = -1 <;> simp [h1, h2]
theorem itr_cg {σ : Type} {f g : σ → Nat → σ} : ∀ n i s, (∀ s j, i ≤ j → j < i + n → f s j = g s j) → itr f i n s = itr g i n s := by
  intro n
  induction n with
  | zero => intro i s _; rfl
  | succ n ih =>
    intro i s h
    show itr f (i + 1) n (f s i) = itr g (i + 1) n (g s i)
    rw [h s i (Nat.le_refl _) (by omega)]
    exact ih (i + 1) _ (fun s j h1 h2 => h s j (by omega) (by omega))
theorem wayW_cg {r r2 : Nat → Int32} (h : ∀ i, i < 12 → r i = r2 i) : wayW r = wayW r2 :=
  itr_cg 12 0 _ (fun s j _ h2 => by
    have : r j = r2 j := h j (by omega)
    unfold stW
    rw [this])
theorem wayW_inv (r : Nat → Int32) : (wayW r).2.2 = -1 → (wayW r).2.1 = -1 := by
  have := itr_inv (f := stW r) (fun _ s => s.2.2 = -1 → s.2.1 = -1) (fun s i hs => by
    unfold stW
    by_cases h1 : r i = -1
    · rw [if_pos h1]; exact hs
    · rw [if_neg h1]
      intro h2
      by_cases h3 : s.2.2 = -1
      · simp only [h3, if_true] at h2; exact absurd h2 h1
      · simp only [h3, if_false] at h2) 12 0 (0, -1, -1) (fun _ => rfl)
  exact this
theorem Rel.rotaEq {S M : St} (h : Rel S M) : wayW (S.1 9) = wayW (M.1 59) := wayW_cg fun i hi => (h.2.2.1 i hi).1
-- things seen by the rota
theorem seenRota {S M : St} (h : Rel S M) : ∃ v, fX4_thingsSeen (S.2.2 0) S = some (v, S) ∧ fX12_seenByRota M = some (v, M) := by
  refine ⟨itr (fun (x : Int32) i => if M.1 59 i = -1 then x else x ||| nI (seenN M (gv (M.1 59 i)) i)) 0 12 0, ?_, ?_⟩
  · unfold fX4_thingsSeen
    refine loop_up (F := fun k y i => fX4_thingsSeen_4 (S.2.2 0) k S y (nI i)) (fun (x : Int32) i => if M.1 59 i = -1 then x else x ||| nI (seenN M (gv (M.1 59 i)) i)) (fun y => some (y, S)) 12 ?_ ?_ 12 100 0 0 rfl (by decide)
    · intro k y i hi
      show bX4_thingsSeen_4 _ _ _ _ _ = _
      unfold bX4_thingsSeen_4
      rw [li 12, if_neg (by rw [nle (by decide) (by omega)]; omega)]
      obtain ⟨e1, e2⟩ := h.2.2.1 i hi
      simp only [inbT hi (show 12 < 2 ^ 31 by decide), if_true, nI_clamp (show i < 2 ^ 31 by omega), e1, bV_e, nI_1]
      rcases e2 with e2 | ⟨a, ha, e2, hb⟩
      · simp only [e2, view8m1, bi_some, if_true]
        simp
      · have hne : ¬ nI a = -1 := nm1 (by omega)
        simp only [e2, view8 h ha hi, bi_some, hb, if_true, hne, if_false, gv_nI (show a < 2 ^ 31 by omega)]
    · intro k y
      show bX4_thingsSeen_4 _ _ _ _ _ = _
      unfold bX4_thingsSeen_4
      rw [if_pos (by decide)]
  · unfold fX12_seenByRota
    refine loop_up (F := fun k y i => fX12_seenByRota_4 k M y (nI i)) (fun (x : Int32) i => if M.1 59 i = -1 then x else x ||| nI (seenN M (gv (M.1 59 i)) i)) (fun y => some (y, M)) 12 ?_ ?_ 12 100 0 0 rfl (by decide)
    · intro k y i hi
      show bX12_seenByRota_4 _ _ _ _ = _
      unfold bX12_seenByRota_4
      rw [li 12, if_neg (by rw [nle (by decide) (by omega)]; omega)]
      obtain ⟨e1, e2⟩ := h.2.2.1 i hi
      simp only [inbT hi (show 12 < 2 ^ 31 by decide), if_true, nI_clamp (show i < 2 ^ 31 by omega), bV_e, nI_1]
      rcases e2 with e2 | ⟨a, ha, e2, hb⟩
      · simp only [e2, if_true]
      · have hne : ¬ nI a = -1 := nm1 (by omega)
        simp only [e2, hne, if_false, seenBy12 h.1 ha (show i < 2 ^ 31 by omega), bi_some, gv_nI (show a < 2 ^ 31 by omega)]
    · intro k y
      show bX12_seenByRota_4 _ _ _ _ = _
      unfold bX12_seenByRota_4
      rw [if_pos (by decide)]
theorem sim_rotaIs (S M : St) (x : Int32) (h : Rel S M) : ∃ v S1 M1, fX11_rotaIs S x = some (v, S1) ∧ fX12_rotaIs M x = some (v, M1) ∧ Rel S1 M1 := by
  obtain ⟨vs, s1, s2⟩ := seenRota h
  have hw := h.rotaEq
  unfold fX11_rotaIs fX12_rotaIs
  simp only [isTurn11, isTurn12, bi_some, ite_b2i, way4, wayBack4, wayOf12, hw, s1, s2, h.2.1.1, if_true]
  by_cases hx : inR x 0 11 = true
  · obtain ⟨t, ht, rfl⟩ := tu_nat hx
    obtain ⟨vo, o1, o2⟩ := orNone_eq S M (M.1 59 t)
    simp only [hx, if_true, holder4 ht, bi_some, (h.2.2.1 t ht).1, o1, o2, inbT ht (show 12 < 2 ^ 31 by decide), nI_clamp (show t < 2 ^ 31 by omega)]
    exact ⟨_, _, _, rfl, rfl, h⟩
  · have h10 : ¬ (1 : Int32) = 0 := by decide
    simp only [hx, Bool.false_eq_true, if_false, h10]
    refine par (fun _ => ⟨_, _, _, rfl, rfl, h⟩) (fun _ => ?_)
    refine par (fun _ => ?_) (fun _ => ?_)
    · by_cases hf : (wayW (M.1 59)).2.2 = -1
      · have hl := wayW_inv _ hf
        simp only [hf, hl, if_true]
        refine ⟨_, _, _, rfl, ?_, h⟩
        have : ab (-1 - -1) = 0 := by decide
        rw [this]
        simp
      · simp only [hf, if_false]
        exact ⟨_, _, _, rfl, rfl, h⟩
    refine par (fun _ => ⟨_, _, _, rfl, rfl, h⟩) (fun _ => ?_)
    exact ⟨_, _, _, rfl, rfl, h⟩
-- if swapped
theorem pI_pI_row (S : St) (o a b : Nat) (v w : Int32) : (pI (pI S o a v) o b w).1 o = upd (upd (S.1 o) a v) b w := by rw [pI_arr, pI_arr]
theorem swap_back (S : St) (o a b : Nat) : pI (pI (pI (pI S o a (S.1 o b)) o b (S.1 o a)) o a ((pI (pI S o a (S.1 o b)) o b (S.1 o a)).1 o b)) o b ((pI (pI S o a (S.1 o b)) o b (S.1 o a)).1 o a) = S := by
  refine Prod.ext ?_ rfl
  funext x y
  simp only [pI]
  by_cases hx : x = o
  · subst hx
    by_cases h1 : y = b <;> by_cases h2 : y = a <;> by_cases h3 : a = b <;> simp_all
  · simp [hx]
theorem exch4 {S : St} {a b : Nat} (ha : a < 12) (hb : b < 12) : fX4_exchange S (nI a) (nI b) = some (pI (pI S 9 a (S.1 9 b)) 9 b (S.1 9 a)) := by
  unfold fX4_exchange
  simp only [holder4 ha, holder4 hb, bi_some, give4 ha, give4 hb, bv_some]
theorem chg12 {M : St} {a b : Nat} (ha : a < 12) (hb : b < 12) : fX12_changesTurns M (nI a) (nI b) = some (pI (pI M 59 a (M.1 59 b)) 59 b (M.1 59 a)) := by
  unfold fX12_changesTurns
  simp only [inbT ha (show 12 < 2 ^ 31 by decide), inbT hb (show 12 < 2 ^ 31 by decide), if_true, nI_clamp (show a < 2 ^ 31 by omega), nI_clamp (show b < 2 ^ 31 by omega), bV_e, bS_e]
theorem sim_ifSwapped (S M : St) (x y : Int32) (h : Rel S M) : ∃ v S1 M1, fX11_ifSwapped S x y = some (v, S1) ∧ fX12_ifSwapped M x y = some (v, M1) ∧ Rel S1 M1 := by
  unfold fX11_ifSwapped fX12_ifSwapped fX11_ifSwapped_26
  simp only [isTurn11, isTurn12, bi_some, ite_b2i]
  by_cases hx : inR x 0 11 = true
  · by_cases hy : inR y 0 11 = true
    · obtain ⟨a, ha, rfl⟩ := tu_nat hx
      obtain ⟨b, hb, rfl⟩ := tu_nat hy
      have hw : wayW ((pI (pI S 9 a (S.1 9 b)) 9 b (S.1 9 a)).1 9) = wayW ((pI (pI M 59 a (M.1 59 b)) 59 b (M.1 59 a)).1 59) := by
        apply wayW_cg
        intro i hi
        rw [pI_pI_row, pI_pI_row, (h.2.2.1 a ha).1, (h.2.2.1 b hb).1]
        unfold upd
        rw [(h.2.2.1 i hi).1]
      unfold fX4_wayIfSwapped
      simp only [hx, hy, if_true, exch4 ha hb, chg12 ha hb, bv_some, way4, wayOf12, bi_some, hw, swap_back]
      exact ⟨_, _, _, rfl, rfl, h⟩
    · simp only [hx, hy, if_true]
      exact ⟨_, _, _, rfl, rfl, h⟩
  · simp only [hx]
    exact ⟨_, _, _, rfl, rfl, h⟩
-- next
theorem seen_tb {M : St} {a t p : Nat} (hp : p < 16) (hb : (tN M).testBit p = true) : (seenN M a t).testBit p = seeB M a p t := by
  unfold seenN
  rw [setN_tb]
  simp [hp, hb]
theorem next_loop {S M : St} (h : Rel S M) {a p t : Nat} (ha : a < 16) (hp : p < 16) (ht : t < 12) (hb : (hN M).testBit a = true) (hq : (tN M).testBit p = true) : ∀ n i k, i + n = 12 → n < k → ∃ v, fX4_turnsTill_3 (S.2.2 0) k S (nI a) (nI p) (nI t) (nI i) = some (v, S) ∧ fX12_next_28 k M (nI a) (nI p) (nI t) (nI i) = some (v, M) := by
  intro n
  induction n with
  | zero =>
    intro i k h1 h2
    obtain ⟨k, rfl⟩ : ∃ k', k = k' + 1 := ⟨k - 1, by omega⟩
    have : i = 12 := by omega
    subst this
    refine ⟨-2, ?_, ?_⟩
    · show bX4_turnsTill_3 _ _ _ _ _ _ _ = _
      unfold bX4_turnsTill_3
      rw [if_pos (by decide)]
    · show bX12_next_28 _ _ _ _ _ _ = _
      unfold bX12_next_28
      rw [if_pos (by decide)]
  | succ n ih =>
    intro i k h1 h2
    obtain ⟨k, rfl⟩ : ∃ k', k = k' + 1 := ⟨k - 1, by omega⟩
    obtain ⟨v, i1, i2⟩ := ih (i + 1) k (by omega) (by omega)
    have hm : nI t + nI i - (nI t + nI i) / 12 * 12 = nI ((t + i) % 12) := by rw [nI_add, li 12]; exact rem_nI (by omega) (by decide) (by decide)
    have hm2 : (t + i) % 12 < 12 := Nat.mod_lt _ (by decide)
    have e1 : fX4_turnsTill_3 (S.2.2 0) (k + 1) S (nI a) (nI p) (nI t) (nI i) = (if M.1 59 ((t + i) % 12) = nI a then (if seeB M a p ((t + i) % 12) = true then some (nI i, S) else some (v, S)) else some (v, S)) := by
      show bX4_turnsTill_3 _ _ _ _ _ _ _ = _
      unfold bX4_turnsTill_3
      rw [li 12, if_neg (by rw [nle (by decide) (by omega)]; omega), ← li 12]
      have := seenN_lt M a ((t + i) % 12)
      simp only [hm, bV_e, holder4 hm2, bi_some, (h.2.2.1 _ hm2).1, view8 h ha hm2, hb, if_true, hs_prop, hsB_nI (show seenN M a ((t + i) % 12) < 2 ^ 31 by omega) (show p < 32 by omega), seen_tb hp hq, nI_1, i1]
    have e2 : fX12_next_28 (k + 1) M (nI a) (nI p) (nI t) (nI i) = (if M.1 59 ((t + i) % 12) = nI a then (if seeB M a p ((t + i) % 12) = true then some (nI i, M) else some (v, M)) else some (v, M)) := by
      show bX12_next_28 _ _ _ _ _ _ = _
      unfold bX12_next_28
      rw [li 12, if_neg (by rw [nle (by decide) (by omega)]; omega), ← li 12]
      simp only [hm, bV_e, inbT hm2 (show 12 < 2 ^ 31 by decide), if_true, nI_clamp (show (t + i) % 12 < 2 ^ 31 by omega), isSeen12 h.1 ha hp (show (t + i) % 12 < 2 ^ 31 by omega), bi_some, ite_b2i, nI_1, i2]
    rw [e1, e2]
    by_cases c1 : M.1 59 ((t + i) % 12) = nI a
    · by_cases c2 : seeB M a p ((t + i) % 12) = true
      · simp only [c1, c2, if_true]
        exact ⟨_, rfl, rfl⟩
      · simp only [c1, c2, if_true]
        exact ⟨_, rfl, rfl⟩
    · simp only [c1, if_false]
      exact ⟨_, rfl, rfl⟩
theorem sim_next (S M : St) (x y z : Int32) (h : Rel S M) : ∃ v S1 M1, fX11_next S x y z = some (v, S1) ∧ fX12_next M x y z = some (v, M1) ∧ Rel S1 M1 := by
  have e7 := h.2.1.2.2.2.1
  have e8 := h.2.1.2.2.2.2.1
  unfold fX11_next fX12_next fX4_turnsTill
  simp only [hasHouse8, hasThing8, isTurn11, isTurn12, isHouse12, isThing12, bi_some, ite_b2i, e7, e8, h.2.1.1, if_true]
  by_cases hx : hoB (M.1 55 8) x = true
  · by_cases hy : hoB (M.1 55 9) y = true
    · by_cases hz : inR z 0 11 = true
      · obtain ⟨a, ha, rfl, hb⟩ := h.told hx
        obtain ⟨p, hp, rfl, hq⟩ := h.toldT hy
        obtain ⟨t, ht, rfl⟩ := tu_nat hz
        obtain ⟨v, i1, i2⟩ := next_loop h ha hp ht hb hq 12 0 100 rfl (by decide)
        have i1 : fX4_turnsTill_3 (S.2.2 0) 100 S (nI a) (nI p) (nI t) 0 = some (v, S) := i1
        have i2 : fX12_next_28 100 M (nI a) (nI p) (nI t) 0 = some (v, M) := i2
        simp only [hx, hy, hz, if_true, i1, i2, bi_some]
        exact ⟨_, _, _, rfl, rfl, h⟩
      · simp only [hx, hy, hz, if_true]
        exact ⟨_, _, _, rfl, rfl, h⟩
    · simp only [hx, hy, if_true]
      exact ⟨_, _, _, rfl, rfl, h⟩
  · simp only [hx]
    exact ⟨_, _, _, rfl, rfl, h⟩
