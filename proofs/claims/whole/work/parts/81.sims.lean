-- shortest: the two reckonings
def Mn (F : Nat) (P : Nat → Prop) (v : Nat) : Prop := (v = F ∧ ∀ c, ¬ P c) ∨ (P v ∧ v < F ∧ ∀ c, P c → v ≤ c)
theorem Mn.le {F : Nat} {P : Nat → Prop} {v : Nat} (h : Mn F P v) : v ≤ F := by
  rcases h with ⟨h, _⟩ | ⟨_, h, _⟩ <;> omega
theorem Mn.cg {F : Nat} {P Q : Nat → Prop} {v : Nat} (h : Mn F P v) (e : ∀ c, P c ↔ Q c) : Mn F Q v := by
  have : P = Q := funext fun c => propext (e c)
  rw [← this]
  exact h
theorem Mn.two {F : Nat} {P Q : Nat → Prop} {v u : Nat} (h : Mn F P v) (h2 : Mn F Q u) : Mn F (fun c => P c ∨ Q c) (min v u) := by
  rcases h with ⟨rfl, h⟩ | ⟨a1, a2, a3⟩
  · rcases h2 with ⟨rfl, h2⟩ | ⟨b1, b2, b3⟩
    · exact Or.inl ⟨by omega, fun c hc => hc.elim (h c) (h2 c)⟩
    · rw [show min v u = u by omega]
      exact Or.inr ⟨Or.inr b1, b2, fun c hc => hc.elim (fun z => absurd z (h c)) (b3 c)⟩
  · rcases h2 with ⟨rfl, h2⟩ | ⟨b1, b2, b3⟩
    · rw [show min v u = v by omega]
      exact Or.inr ⟨Or.inl a1, a2, fun c hc => hc.elim (a3 c) (fun z => absurd z (h2 c))⟩
    · by_cases e : v ≤ u
      · rw [show min v u = v by omega]
        exact Or.inr ⟨Or.inl a1, a2, fun c hc => hc.elim (a3 c) (fun z => by have := b3 c z; omega)⟩
      · rw [show min v u = u by omega]
        exact Or.inr ⟨Or.inr b1, b2, fun c hc => hc.elim (fun z => by have := a3 c z; omega) (b3 c)⟩
theorem Mn.no {F : Nat} {P : Nat → Prop} (h : ∀ c, ¬ P c) : Mn F P F := Or.inl ⟨rfl, h⟩
theorem Mn.one {F : Nat} {a : Nat} (h : a < F) : Mn F (fun c => c = a) a := Or.inr ⟨rfl, h, fun c hc => by omega⟩
theorem Mn.sh {F : Nat} {P : Nat → Prop} {v : Nat} (d : Nat) (h : Mn F P v) (hl : v < F) (hd : v + d < F) : Mn F (fun c => ∃ a, P a ∧ c = a + d) (v + d) := by
  rcases h with ⟨h, _⟩ | ⟨a1, a2, a3⟩
  · omega
  · exact Or.inr ⟨⟨v, a1, rfl⟩, hd, fun c ⟨a, ha, e⟩ => by have := a3 a ha; omega⟩
def dst (a b : Nat) : Nat := (a - b) + (b - a)
theorem dst_ab : ∀ a, a < 16 → ∀ b, b < 16 → ab (nI a - nI b) = nI (dst a b) := by decide +kernel
theorem dst_bd {a b : Nat} (ha : a < 16) (hb : b < 16) : dst a b ≤ 15 := by unfold dst; omega
theorem dst_tri (a b c : Nat) : dst a c ≤ dst a b + dst b c := by unfold dst; omega
theorem dst_self (a : Nat) : dst a a = 0 := by unfold dst; omega
theorem dst_sym (a b : Nat) : dst a b = dst b a := by unfold dst; omega
def RM (by_ : Nat → Nat → Nat) (ho : Nat → Bool) : Nat → Nat → Nat → Nat → Nat → Prop
  | 0, met, last, w, f => met = 0 ∧ last = 16 ∧ w = 0 ∧ f = 0
  | t + 1, met, last, w, f => RM by_ ho t met last w f ∨ ∃ met0 last0 w0 f0, last < 16 ∧ ho last = true ∧ by_ last t ≠ 0 ∧ RM by_ ho t met0 last0 w0 f0 ∧ met = met0 ||| by_ last t ∧ ((last0 = 16 ∧ w = 0 ∧ f = last) ∨ (last0 < 16 ∧ w = w0 + dst last last0 ∧ f = f0))
def RC (by_ : Nat → Nat → Nat) (wi : Nat → Nat) (n : Nat) : Nat → Nat → Nat → Nat → Nat → Prop
  | 0, _, _, _, _ => False
  | t + 1, set, j, w, f => RC by_ wi n t set j w f ∨ ∃ s0, s0 < 2 ^ n ∧ j < n ∧ set = s0 ||| by_ (wi j) t ∧ set ≠ s0 ∧ ((s0 = 0 ∧ w = 0 ∧ f = wi j) ∨ (s0 ≠ 0 ∧ ∃ i w0, i < n ∧ RC by_ wi n t s0 i w0 f ∧ w = w0 + dst (wi j) (wi i)))
/-- what holds of wishes told of the street -/
def WiH (by_ : Nat → Nat → Nat) (ho : Nat → Bool) (wi : Nat → Nat) (n : Nat) : Prop := (∀ h t, by_ h t < 2 ^ n) ∧ (∀ j, j < n → wi j < 16 ∧ ho (wi j) = true) ∧ ∀ h t, by_ h t ≠ 0 → ∃ k, k < n ∧ wi k = h
theorem or_ge (a b : Nat) : a ≤ a ||| b := Nat.left_le_or
theorem or_ge2 (a b : Nat) : b ≤ a ||| b := Nat.right_le_or
theorem RC_bd {by_ : Nat → Nat → Nat} {ho : Nat → Bool} {wi : Nat → Nat} {n : Nat} (hW : WiH by_ ho wi n) : ∀ t s j w f, RC by_ wi n t s j w f → j < n ∧ s < 2 ^ n ∧ s ≠ 0 ∧ f < 16 ∧ w ≤ 15 * t
  | 0, _, _, _, _, h => h.elim
  | t + 1, s, j, w, f, h => by
    rcases h with h | ⟨s0, h1, h2, h3, h4, h5⟩
    · obtain ⟨a1, a2, a3, a4, a5⟩ := RC_bd hW t s j w f h
      exact ⟨a1, a2, a3, a4, by omega⟩
    · have hs : s < 2 ^ n := by rw [h3]; exact Nat.or_lt_two_pow h1 (hW.1 _ _)
      have hwj := (hW.2.1 j h2).1
      refine ⟨h2, hs, ?_, ?_⟩
      · have := or_ge s0 (by_ (wi j) t)
        intro e
        omega
      · rcases h5 with ⟨e1, e2, e3⟩ | ⟨e1, i, w0, e2, e3, e4⟩
        · omega
        · obtain ⟨_, _, _, b4, b5⟩ := RC_bd hW t s0 i w0 f e3
          have := dst_bd hwj (hW.2.1 i e2).1
          omega
theorem RM_bd {by_ : Nat → Nat → Nat} {ho : Nat → Bool} {wi : Nat → Nat} {n : Nat} (hW : WiH by_ ho wi n) : ∀ t s l w f, RM by_ ho t s l w f → s < 2 ^ n ∧ f < 16 ∧ w ≤ 15 * t ∧ ((l = 16 ∧ s = 0 ∧ w = 0 ∧ f = 0) ∨ (l < 16 ∧ s ≠ 0))
  | 0, s, l, w, f, h => by
    obtain ⟨rfl, rfl, rfl, rfl⟩ := h
    have := Nat.two_pow_pos n
    omega
  | t + 1, s, l, w, f, h => by
    rcases h with h | ⟨s0, l0, w0, f0, h1, h2, h3, h4, h5, h6⟩
    · have := RM_bd hW t s l w f h
      omega
    · obtain ⟨a1, a2, a3, a4⟩ := RM_bd hW t s0 l0 w0 f0 h4
      have hs : s < 2 ^ n := by rw [h5]; exact Nat.or_lt_two_pow a1 (hW.1 _ _)
      have := or_ge2 s0 (by_ l t)
      refine ⟨hs, ?_, ?_, Or.inr ⟨h1, by omega⟩⟩
      · omega
      · rcases h6 with ⟨e1, e2, e3⟩ | ⟨e1, e2, e3⟩
        · omega
        · have := dst_bd h1 e1
          omega
theorem RC_RM {by_ : Nat → Nat → Nat} {ho : Nat → Bool} {wi : Nat → Nat} {n : Nat} (hW : WiH by_ ho wi n) : ∀ t s j w f, RC by_ wi n t s j w f → RM by_ ho t s (wi j) w f
  | 0, _, _, _, _, h => h.elim
  | t + 1, s, j, w, f, h => by
    rcases h with h | ⟨s0, h1, h2, h3, h4, h5⟩
    · exact Or.inl (RC_RM hW t s j w f h)
    · obtain ⟨q1, q2⟩ := hW.2.1 j h2
      have hne : by_ (wi j) t ≠ 0 := by
        intro e
        rw [e, Nat.or_zero] at h3
        exact h4 h3
      rcases h5 with ⟨rfl, e2, e3⟩ | ⟨e1, i, w0, e2, e3, e4⟩
      · refine Or.inr ⟨0, 16, 0, 0, q1, q2, hne, ?_, h3, Or.inl ⟨rfl, e2, e3⟩⟩
        clear h3 h4 hne
        induction t with
        | zero => exact ⟨rfl, rfl, rfl, rfl⟩
        | succ t ih => exact Or.inl ih
      · exact Or.inr ⟨s0, wi i, w0, f, q1, q2, hne, RC_RM hW t s0 i w0 f e3, h3, Or.inr ⟨(hW.2.1 i e2).1, e4, rfl⟩⟩
theorem RM_RC {by_ : Nat → Nat → Nat} {ho : Nat → Bool} {wi : Nat → Nat} {n : Nat} (hW : WiH by_ ho wi n) : ∀ t s l w f, RM by_ ho t s l w f → s ≠ 0 → ∃ j w', RC by_ wi n t s j w' f ∧ w' + dst l (wi j) ≤ w
  | 0, s, _, _, _, h, h0 => absurd h.1 h0
  | t + 1, s, l, w, f, h, h0 => by
    rcases h with h | ⟨s0, l0, w0, f0, h1, h2, h3, h4, h5, h6⟩
    · obtain ⟨j, w', a1, a2⟩ := RM_RC hW t s l w f h h0
      exact ⟨j, w', Or.inl a1, a2⟩
    · obtain ⟨b1, b2, b3, b4⟩ := RM_bd hW t s0 l0 w0 f0 h4
      obtain ⟨k, k1, k2⟩ := hW.2.2 l t h3
      have hor := or_ge2 s0 (by_ l t)
      rcases h6 with ⟨e1, e2, e3⟩ | ⟨e1, e2, e3⟩
      · have es : s0 = 0 := by omega
        subst es
        refine ⟨k, 0, Or.inr ⟨0, Nat.two_pow_pos n, k1, by rw [k2]; exact h5, by omega, Or.inl ⟨rfl, rfl, by rw [k2]; exact e3⟩⟩, ?_⟩
        rw [k2, dst_self]
        omega
      · have es : s0 ≠ 0 := by omega
        obtain ⟨j, w', a1, a2⟩ := RM_RC hW t s0 l0 w0 f0 h4 es
        by_cases z : s = s0
        · refine ⟨j, w', Or.inl (by rw [z, e3]; exact a1), ?_⟩
          have := dst_tri l l0 (wi j)
          omega
        · refine ⟨k, w' + dst l (wi j), Or.inr ⟨s0, b1, k1, by rw [k2]; exact h5, z, Or.inr ⟨es, j, w', (RC_bd hW t s0 j w' f0 a1).1, by rw [e3]; exact a1, by rw [k2]⟩⟩, ?_⟩
          rw [k2, dst_self, e2]
          have := dst_tri l l0 (wi j)
          omega
theorem nI_mn {a b : Nat} (ha : a < 2 ^ 31) (hb : b < 2 ^ 31) : (if nI a < nI b then nI a else nI b) = nI (min a b) := by
  simp only [nlt ha hb]
  by_cases h : a < b
  · rw [if_pos h, show min a b = a by omega]
  · rw [if_neg h, show min a b = b by omega]
theorem nI_mn2 {a b : Nat} (ha : a < 2 ^ 31) (hb : b < 2 ^ 31) : (if nI b ≤ nI a then nI b else nI a) = nI (min a b) := by
  simp only [nle hb ha]
  by_cases h : b ≤ a
  · rw [if_pos h, show min a b = b by omega]
  · rw [if_neg h, show min a b = a by omega]
/-- rows 10 to 14 alone may differ -/
def Ext (S S' : St) : Prop := S'.2 = S.2 ∧ ∀ j, j < 10 ∨ 14 < j → S'.1 j = S.1 j
theorem Ext.rf (S : St) : Ext S S := ⟨rfl, fun _ _ => rfl⟩
theorem Ext.tr {S S1 S2 : St} (h : Ext S S1) (h2 : Ext S1 S2) : Ext S S2 := ⟨h2.1.trans h.1, fun j hj => (h2.2 j hj).trans (h.2 j hj)⟩
theorem Ext.put {S S1 : St} (h : Ext S S1) {o : Nat} (h1 : 10 ≤ o) (h2 : o ≤ 14) (k : Nat) (v : Int32) : Ext S (pI S1 o k v) := ⟨h.1, fun j hj => (pI_row S1 v (by omega)).trans (h.2 j hj)⟩
theorem Ext.eqC {S M S' : St} (hr : Rel S M) (h : Ext S S') : EqC S S' := ⟨by rw [h.1], fun o k hc => by
  have : o < 10 ∨ 14 < o := by
    rcases Nat.lt_or_ge o 10 with z | z
    · exact Or.inl z
    · rcases Nat.lt_or_ge 14 o with z2 | z2
      · exact Or.inr z2
      · exact absurd hc (hr.nc z (by omega) k)
  rw [h.2 o this]⟩
-- the class: one turn
def WiC (S : St) (wi wd : Nat → Nat) (n : Nat) : Prop := S.1 10 4 = nI n ∧ ∀ j, j < n → S.1 11 j = nI (wi j) ∧ S.1 12 j = nI (wd j)
def CeC (S : St) (n : Nat) (P : Nat → Nat → Nat → Nat → Prop) : Prop := ∀ p, p < 2 ^ n → ∀ j, j < n → ∃ v, S.1 14 (p * 6 + j) = nI v ∧ Mn 1000000 (fun c => ∃ w f, P p j w f ∧ c = 16 * w + f) v
def CoP (by_ : Nat → Nat → Nat) (wi : Nat → Nat) (n t s j w f : Nat) : Prop := (s = 0 ∧ w = 0 ∧ f = wi j) ∨ (s ≠ 0 ∧ ∃ i w0, i < n ∧ RC by_ wi n t s i w0 f ∧ w = w0 + dst (wi j) (wi i))
theorem cost10 {by_ : Nat → Nat → Nat} {ho : Nat → Bool} {wi wd : Nat → Nat} {n t s j : Nat} (hW : WiH by_ ho wi n) (h6 : n ≤ 6) (ht : t < 12) {S : St} (hI : WiC S wi wd n) (hs : s < 2 ^ n) (hj : j < n) (hc : ∀ i, i < n → ∃ v, S.1 14 (s * 6 + i) = nI v ∧ Mn 1000000 (fun c => ∃ w f, RC by_ wi n t s i w f ∧ c = 16 * w + f) v) : ∃ v, Mn 1000000 (fun c => ∃ w f, CoP by_ wi n t s j w f ∧ c = 16 * w + f) v ∧ fX10_costTo S (nI s) (nI (wi j)) = some (nI v, S) := by
  have hp : 2 ^ n ≤ 64 := Nat.pow_le_pow_right (by decide) h6
  have hwj := (hW.2.1 j hj).1
  unfold fX10_costTo
  by_cases h0 : s = 0
  · subst h0
    refine ⟨wi j, (Mn.one (F := 1000000) (a := wi j) (by omega)).cg (fun c => ?_), if_pos rfl⟩
    constructor
    · intro e
      exact ⟨0, wi j, Or.inl ⟨rfl, rfl, rfl⟩, by omega⟩
    · rintro ⟨w, f, (⟨_, e1, e2⟩ | ⟨e, _⟩), e3⟩
      · omega
      · exact absurd rfl e
  · rw [if_neg (by rw [li 0, neq (by omega) (by decide)]; exact h0)]
    have key := loop_inv (F := fun f (v : Nat) i => fX10_costTo_12 f S (nI s) (nI (wi j)) (nI v) (nI i)) (fun i v => Mn 1000000 (fun c => ∃ i' w0 f, i' < i ∧ RC by_ wi n t s i' w0 f ∧ c = 16 * (w0 + dst (wi j) (wi i')) + f) v) (fun v => some (nI v, S)) n (fun f v i hi hm => by
      obtain ⟨u, u1, u2⟩ := hc i hi
      have hwi := (hW.2.1 i hi).1
      have hd := dst_bd hwj hwi
      have hv := hm.le
      have hu := u2.le
      have hb : ∃ S1 : Nat, bX10_costTo_12 (fX10_costTo_12 f) S (nI s) (nI (wi j)) (nI v) (nI i) = fX10_costTo_12 f S (nI s) (nI (wi j)) (nI S1) (nI (i + 1)) ∧ Mn 1000000 (fun c => ∃ i' w0 f, i' < i + 1 ∧ RC by_ wi n t s i' w0 f ∧ c = 16 * (w0 + dst (wi j) (wi i')) + f) S1 := by
        unfold bX10_costTo_12
        have ix : nI s * 6 + nI i = nI (s * 6 + i) := by rw [li 6, pk_mul, nI_add]
        have e11 := (hI.2 i hi).1
        rw [hI.1, if_neg (by rw [nle (by omega) (by omega)]; omega), ix, if_pos (inbT (by omega) (by decide)), nI_clamp (by omega), u1, bV_e]
        simp only [nI_clamp (show i < 2 ^ 31 by omega), e11, ab_u, dst_ab _ hwj _ hwi, bV_e, nI_1, inbT (show i < 6 by omega) (show 6 < 2 ^ 31 by decide), if_true, li 16, pk_mul, nI_add, li 1000000, nle (show 1000000 < 2 ^ 31 by decide) (show u < 2 ^ 31 by omega)]
        by_cases hf : 1000000 ≤ u
        · rw [if_pos hf]
          refine ⟨v, rfl, hm.cg (fun c => ⟨fun ⟨i', w0, f, a1, a2, a3⟩ => ⟨i', w0, f, by omega, a2, a3⟩, fun ⟨i', w0, f, a1, a2, a3⟩ => ?_⟩)⟩
          by_cases e : i' = i
          · subst e
            rcases u2 with ⟨_, n2⟩ | ⟨_, n3, _⟩
            · exact absurd ⟨w0, f, a2, rfl⟩ (n2 _)
            · omega
          · exact ⟨i', w0, f, by omega, a2, a3⟩
        · rw [if_neg hf]
          have hub : u ≤ 16 * (15 * t) + 15 := by
            rcases u2 with ⟨n1, _⟩ | ⟨⟨w, f, n1, n2⟩, _, _⟩
            · omega
            · obtain ⟨_, _, _, b4, b5⟩ := RC_bd hW t s i w f n1
              omega
          rw [nI_mn (by omega) (by omega)]
          refine ⟨_, rfl, ?_⟩
          have := hm.two (u2.sh (16 * dst (wi j) (wi i)) (by omega) (by omega))
          rw [Nat.min_comm] at this
          refine this.cg (fun c => ?_)
          constructor
          · rintro (⟨i', w0, f, a1, a2, a3⟩ | ⟨a, ⟨w0, f, a2, a3⟩, a4⟩)
            · exact ⟨i', w0, f, by omega, a2, a3⟩
            · exact ⟨i, w0, f, by omega, a2, by omega⟩
          · rintro ⟨i', w0, f, a1, a2, a3⟩
            by_cases e : i' = i
            · subst e
              exact Or.inr ⟨16 * w0 + f, ⟨w0, f, a2, rfl⟩, by omega⟩
            · exact Or.inl ⟨i', w0, f, by omega, a2, a3⟩
      exact hb) (fun f v hm => by
      show bX10_costTo_12 _ _ _ _ _ _ = _
      unfold bX10_costTo_12
      rw [hI.1, if_pos (by rw [nle (by omega) (by omega)]; omega)]) n 100 1000000 0 (by omega) (by omega) (Mn.no (fun c ⟨i', _, _, a, _⟩ => absurd a (Nat.not_lt_zero _)))
    obtain ⟨v, k1, k2⟩ := key
    refine ⟨v, k1.cg (fun c => ?_), k2⟩
    constructor
    · rintro ⟨i, w0, f, a1, a2, a3⟩
      exact ⟨_, f, Or.inr ⟨h0, i, w0, a1, a2, rfl⟩, a3⟩
    · rintro ⟨w, f, (⟨e, _⟩ | ⟨_, i, w0, a1, a2, rfl⟩), a3⟩
      · exact absurd e h0
      · exact ⟨i, w0, f, a1, a2, a3⟩
