-- one turn of the class
def StC (by_ : Nat → Nat → Nat) (wi : Nat → Nat) (n t lo p j w f : Nat) : Prop := RC by_ wi n t p j w f ∨ ∃ s0, lo ≤ s0 ∧ s0 < 2 ^ n ∧ p = s0 ||| by_ (wi j) t ∧ p ≠ s0 ∧ CoP by_ wi n t s0 j w f
theorem StC_top {by_ : Nat → Nat → Nat} {wi : Nat → Nat} {n t p j w f : Nat} : StC by_ wi n t (2 ^ n) p j w f ↔ RC by_ wi n t p j w f := by
  constructor
  · rintro (h | ⟨s0, h1, h2, _⟩)
    · exact h
    · omega
  · exact Or.inl
theorem StC_0 {by_ : Nat → Nat → Nat} {wi : Nat → Nat} {n t p j w f : Nat} (hj : j < n) : StC by_ wi n t 0 p j w f ↔ RC by_ wi n (t + 1) p j w f := by
  constructor
  · rintro (h | ⟨s0, h1, h2, h3, h4, h5⟩)
    · exact Or.inl h
    · exact Or.inr ⟨s0, h2, hj, h3, h4, h5⟩
  · rintro (h | ⟨s0, h2, _, h3, h4, h5⟩)
    · exact Or.inl h
    · exact Or.inr ⟨s0, Nat.zero_le _, h2, h3, h4, h5⟩
theorem StC_own {by_ : Nat → Nat → Nat} {wi : Nat → Nat} {n t s j w f : Nat} : StC by_ wi n t (s + 1) s j w f ↔ RC by_ wi n t s j w f := by
  constructor
  · rintro (h | ⟨s0, h1, h2, h3, h4, h5⟩)
    · exact h
    · have := or_ge s0 (by_ (wi j) t)
      omega
  · exact Or.inl
theorem StC_st {by_ : Nat → Nat → Nat} {wi : Nat → Nat} {n t s p j w f : Nat} (hs : s < 2 ^ n) : StC by_ wi n t s p j w f ↔ StC by_ wi n t (s + 1) p j w f ∨ (p = s ||| by_ (wi j) t ∧ p ≠ s ∧ CoP by_ wi n t s j w f) := by
  constructor
  · rintro (h | ⟨s0, h1, h2, h3, h4, h5⟩)
    · exact Or.inl (Or.inl h)
    · by_cases e : s0 = s
      · subst e; exact Or.inr ⟨h3, h4, h5⟩
      · exact Or.inl (Or.inr ⟨s0, by omega, h2, h3, h4, h5⟩)
  · rintro ((h | ⟨s0, h1, h2, h3, h4, h5⟩) | ⟨h3, h4, h5⟩)
    · exact Or.inl h
    · exact Or.inr ⟨s0, by omega, h2, h3, h4, h5⟩
    · exact Or.inr ⟨s, Nat.le_refl _, hs, h3, h4, h5⟩
def MxC (by_ : Nat → Nat → Nat) (wi : Nat → Nat) (n t s k p j w f : Nat) : Prop := if j < k then StC by_ wi n t s p j w f else StC by_ wi n t (s + 1) p j w f
def GaC (S : St) (by_ : Nat → Nat → Nat) (wi : Nat → Nat) (n t : Nat) : Prop := ∀ j, j < n → S.1 13 j = nI (by_ (wi j) t)
theorem CeC.cg {S : St} {n : Nat} {P Q : Nat → Nat → Nat → Nat → Prop} (h : CeC S n P) (e : ∀ p j, p < 2 ^ n → j < n → ∀ w f, P p j w f ↔ Q p j w f) : CeC S n Q := by
  intro p hp j hj
  obtain ⟨v, h1, h2⟩ := h p hp j hj
  refine ⟨v, h1, h2.cg (fun c => ?_)⟩
  constructor
  · rintro ⟨w, f, a1, a2⟩
    exact ⟨w, f, (e p j hp hj w f).mp a1, a2⟩
  · rintro ⟨w, f, a1, a2⟩
    exact ⟨w, f, (e p j hp hj w f).mpr a1, a2⟩
def TtI (S0 S : St) (by_ : Nat → Nat → Nat) (wi wd : Nat → Nat) (n t : Nat) : Prop := Ext S0 S ∧ WiC S wi wd n ∧ GaC S by_ wi n t
theorem TtI.put {S0 S : St} {by_ : Nat → Nat → Nat} {wi wd : Nat → Nat} {n t : Nat} (h : TtI S0 S by_ wi wd n t) (k : Nat) (v : Int32) : TtI S0 (pI S 14 k v) by_ wi wd n t := by
  refine ⟨h.1.put (by decide) (by decide) _ _, ⟨?_, fun j hj => ?_⟩, fun j hj => ?_⟩
  · rw [pI_row S v (by decide)]; exact h.2.1.1
  · rw [pI_row S v (by decide), pI_row S v (by decide)]; exact h.2.1.2 j hj
  · rw [pI_row S v (by decide)]; exact h.2.2 j hj
theorem tt59 {by_ : Nat → Nat → Nat} {ho : Nat → Bool} {wi wd : Nat → Nat} {n t s o : Nat} (hW : WiH by_ ho wi n) (h6 : n ≤ 6) (ht : t < 12) (hs : s < 2 ^ n) (rc : St → Int32 → Option St) {S0 S : St} (hI : TtI S0 S by_ wi wd n t) (hC : CeC S n (StC by_ wi n t (s + 1))) : ∃ S', TtI S0 S' by_ wi wd n t ∧ CeC S' n (StC by_ wi n t s) ∧ fX10_tryTurn_59 o rc 100 S (nI s) 0 = rc S' (nI s + (-1)) := by
  have hp : 2 ^ n ≤ 64 := Nat.pow_le_pow_right (by decide) h6
  have key := loop_inv (F := fun f S k => fX10_tryTurn_59 o rc f S (nI s) (nI k)) (fun k S => TtI S0 S by_ wi wd n t ∧ CeC S n (MxC by_ wi n t s k)) (fun S => rc S (nI s + (-1))) n (fun f S k hk hq => by
      obtain ⟨q1, q2⟩ := hq
      have hb := hW.1 (wi k) t
      have hor : s ||| by_ (wi k) t < 2 ^ n := Nat.or_lt_two_pow hs hb
      have e13 := q1.2.2 k hk
      have e11 := (q1.2.1.2 k hk).1
      have e10 := q1.2.1.1
      have hb2 : ∃ S1, bX10_tryTurn_59 o rc (fX10_tryTurn_59 o rc f) S (nI s) (nI k) = fX10_tryTurn_59 o rc f S1 (nI s) (nI (k + 1)) ∧ TtI S0 S1 by_ wi wd n t ∧ CeC S1 n (MxC by_ wi n t s (k + 1)) := by
        unfold bX10_tryTurn_59
        rw [e10, if_neg (by rw [nle (by omega) (by omega)]; omega), if_pos (inbT (by omega) (by decide)), nI_clamp (by omega), e13, or_nI, bV_e]
        by_cases e : s ||| by_ (wi k) t = s
        · refine ⟨S, ?_, q1, q2.cg (fun p j hp hj w f => ?_)⟩
          · rw [e, if_pos rfl, bV_e, nI_1]
          · unfold MxC
            by_cases c1 : j < k
            · rw [if_pos c1, if_pos (by omega)]
            · rw [if_neg c1]
              by_cases c2 : j = k
              · subst c2
                rw [if_pos (by omega), StC_st hs]
                constructor
                · exact Or.inl
                · rintro (z | ⟨z1, z2, _⟩)
                  · exact z
                  · omega
              · rw [if_neg (by omega)]
        · obtain ⟨v, v1, v2⟩ := cost10 hW h6 ht q1.2.1 hs hk (fun i hi => by
            obtain ⟨u, u1, u2⟩ := q2 s hs i hi
            refine ⟨u, u1, u2.cg (fun c => ?_)⟩
            have : ∀ w f, MxC by_ wi n t s k s i w f ↔ RC by_ wi n t s i w f := by
              intro w f
              unfold MxC
              by_cases c1 : i < k
              · rw [if_pos c1, StC_st hs, StC_own]
                constructor
                · rintro (z | ⟨_, z2, _⟩)
                  · exact z
                  · exact absurd rfl z2
                · exact Or.inl
              · rw [if_neg c1, StC_own]
            constructor
            · rintro ⟨w, f, a1, a2⟩; exact ⟨w, f, (this w f).mp a1, a2⟩
            · rintro ⟨w, f, a1, a2⟩; exact ⟨w, f, (this w f).mpr a1, a2⟩)
          obtain ⟨u, u1, u2⟩ := q2 (s ||| by_ (wi k) t) hor k hk
          have hv := v1.le
          have hu := u2.le
          have ix : nI (s ||| by_ (wi k) t) * 6 + nI k = nI ((s ||| by_ (wi k) t) * 6 + k) := by rw [li 6, pk_mul, nI_add]
          rw [if_neg (by rw [neq (by omega) (by omega)]; exact e), ix, bV_e, if_pos (inbT (by omega) (by decide)), if_pos (inbT (by omega) (by decide)), e11, v2, bi_some, if_pos (inbT (by omega) (by decide)), nI_clamp (by omega), u1, nI_mn (by omega) (by omega), bS_e, bV_e, nI_1]
          refine ⟨_, rfl, q1.put _ _, fun p hp2 j hj => ?_⟩
          by_cases c : p = s ||| by_ (wi k) t ∧ j = k
          · obtain ⟨rfl, rfl⟩ := c
            refine ⟨_, pI_same _ _ _ _, ?_⟩
            rw [Nat.min_comm]
            refine (u2.two v1).cg (fun c => ?_)
            have : ∀ w f, MxC by_ wi n t s (j + 1) (s ||| by_ (wi j) t) j w f ↔ MxC by_ wi n t s j (s ||| by_ (wi j) t) j w f ∨ CoP by_ wi n t s j w f := by
              intro w f
              unfold MxC
              rw [if_pos (by omega), if_neg (by omega), StC_st hs]
              constructor
              · rintro (z | ⟨_, _, z⟩)
                · exact Or.inl z
                · exact Or.inr z
              · rintro (z | z)
                · exact Or.inl z
                · exact Or.inr ⟨rfl, e, z⟩
            constructor
            · rintro (⟨w, f, a1, a2⟩ | ⟨w, f, a1, a2⟩)
              · exact ⟨w, f, (this w f).mpr (Or.inl a1), a2⟩
              · exact ⟨w, f, (this w f).mpr (Or.inr a1), a2⟩
            · rintro ⟨w, f, a1, a2⟩
              rcases (this w f).mp a1 with z | z
              · exact Or.inl ⟨w, f, z, a2⟩
              · exact Or.inr ⟨w, f, z, a2⟩
          · obtain ⟨x, x1, x2⟩ := q2 p hp2 j hj
            refine ⟨x, ?_, x2.cg (fun y => ?_)⟩
            · rw [pI_cell S _ (by
                rintro ⟨_, z⟩
                apply c
                omega)]
              exact x1
            · have : ∀ w f, MxC by_ wi n t s (k + 1) p j w f ↔ MxC by_ wi n t s k p j w f := by
                intro w f
                unfold MxC
                by_cases c1 : j < k
                · rw [if_pos c1, if_pos (by omega)]
                · rw [if_neg c1]
                  by_cases c2 : j = k
                  · subst c2
                    rw [if_pos (by omega), StC_st hs]
                    constructor
                    · rintro (z | ⟨z1, _, _⟩)
                      · exact z
                      · exact absurd ⟨z1, rfl⟩ c
                    · exact Or.inl
                  · rw [if_neg (by omega)]
              constructor
              · rintro ⟨w, f, a1, a2⟩; exact ⟨w, f, (this w f).mpr a1, a2⟩
              · rintro ⟨w, f, a1, a2⟩; exact ⟨w, f, (this w f).mp a1, a2⟩
      exact hb2) (fun f S hq => by
      show bX10_tryTurn_59 o _ _ _ _ _ = _
      unfold bX10_tryTurn_59
      rw [hq.1.2.1.1, if_pos (by rw [nle (by omega) (by omega)]; omega), bV_e]) n 100 S 0 (by omega) (by omega) ⟨hI, hC.cg (fun p j _ _ w f => by
        unfold MxC
        rw [if_neg (Nat.not_lt_zero _)])⟩
  obtain ⟨S', ⟨k1, k2⟩, k3⟩ := key
  refine ⟨S', k1, k2.cg (fun p j _ hj w f => ?_), k3⟩
  unfold MxC
  rw [if_pos hj]
theorem tt52 {by_ : Nat → Nat → Nat} {ho : Nat → Bool} {wi wd : Nat → Nat} {n t o : Nat} (hW : WiH by_ ho wi n) (h6 : n ≤ 6) (ht : t < 12) {S0 S : St} (hI : TtI S0 S by_ wi wd n t) (hC : CeC S n (RC by_ wi n t)) : ∃ S', TtI S0 S' by_ wi wd n t ∧ CeC S' n (RC by_ wi n (t + 1)) ∧ fX10_tryTurn_52 o 100 S (nI (2 ^ n) + (-1)) = some S' := by
  have hp : 2 ^ n ≤ 64 := Nat.pow_le_pow_right (by decide) h6
  have key := loop_dn (F := fun f S i => fX10_tryTurn_52 o f S (nI i + (-1))) (fun i S => TtI S0 S by_ wi wd n t ∧ CeC S n (StC by_ wi n t i)) (fun S => some S) (2 ^ n) (fun f S i hi hq => by
      obtain ⟨S', a1, a2, a3⟩ := tt59 (o := o) hW h6 ht hi (fX10_tryTurn_52 o f) hq.1 hq.2
      refine ⟨S', ?_, a1, a2⟩
      show bX10_tryTurn_52 o _ _ _ = _
      unfold bX10_tryTurn_52
      rw [pk_m1, if_neg (nI_pos (show i < 2 ^ 31 by omega))]
      exact a3) (fun f S hq => by
      show bX10_tryTurn_52 o _ _ _ = _
      unfold bX10_tryTurn_52
      rw [if_pos (by decide)]) (2 ^ n) 100 S (Nat.le_refl _) (by omega) ⟨hI, hC.cg (fun p j _ _ w f => StC_top.symm)⟩
  obtain ⟨S', ⟨k1, k2⟩, k3⟩ := key
  exact ⟨S', k1, k2.cg (fun p j _ hj w f => StC_0 hj), k3⟩
def byN (M : St) (b : Nat → Nat) (n h t : Nat) : Nat := setN (fun k => decide (b (2 * k) = h) && seeB M h (b (2 * k + 1)) t) n
theorem grant10 {S : St} {wi wd : Nat → Nat} {n : Nat} (hI : WiC S wi wd n) (h6 : n ≤ 6) (hwi : ∀ j, j < n → wi j < 256) (hwd : ∀ j, j < n → wd j < 16) {seen h : Nat} (hs : seen < 65536) (hh : h < 16) : fX10_granted S (nI seen) (nI h) = some (nI (setN (fun k => decide (wi k = h) && seen.testBit (wd k)) n), S) := by
  unfold fX10_granted
  refine set_loop (F := fun f x i => fX10_granted_5 f S (nI seen) (nI h) x (nI i)) _ n (by omega) (fun x => some (x, S)) (fun f x i hi => ?_) (fun f x => ?_) (by omega)
  · have := hwi i hi
    have := hwd i hi
    show bX10_granted_5 _ _ _ _ _ _ = _
    unfold bX10_granted_5
    rw [hI.1, if_neg (by rw [nle (by omega) (by omega)]; omega)]
    simp only [inbT (show i < 6 by omega) (show 6 < 2 ^ 31 by decide), if_true, nI_clamp (show i < 2 ^ 31 by omega), (hI.2 i hi).1, (hI.2 i hi).2, neq (show wi i < 2 ^ 31 by omega) (show h < 2 ^ 31 by omega), hs_prop, hsB_nI (show seen < 2 ^ 31 by omega) (show wd i < 32 by omega), bV_e, nI_1]
    by_cases c1 : wi i = h <;> by_cases c2 : seen.testBit (wd i) = true <;> simp [c1, c2]
  · show bX10_granted_5 _ _ _ _ _ _ = _
    unfold bX10_granted_5
    rw [hI.1, if_pos (by rw [nle (by omega) (by omega)]; omega)]
theorem try10 {S M : St} (h : Rel S M) {b : Nat → Nat} {n t : Nat} (h6 : n ≤ 6) (ht : t < 12) (ho : ∀ j, j < n → b (2 * j) < 16 ∧ (hN M).testBit (b (2 * j)) = true) (hth : ∀ j, j < n → b (2 * j + 1) < 16 ∧ (tN M).testBit (b (2 * j + 1)) = true) (hW : WiH (byN M b n) (fun a => (hN M).testBit a) (fun j => b (2 * j)) n) (hI : WiC S (fun j => b (2 * j)) (fun j => b (2 * j + 1)) n) (hC : CeC S n (RC (byN M b n) (fun j => b (2 * j)) n t)) : ∃ S', Ext S S' ∧ WiC S' (fun j => b (2 * j)) (fun j => b (2 * j + 1)) n ∧ CeC S' n (RC (byN M b n) (fun j => b (2 * j)) n (t + 1)) ∧ fX10_tryTurn (S.2.2 0) S (nI t) = some S' := by
  have key := loop_inv (F := fun f S1 i => fX10_tryTurn_2 (S.2.2 0) f S1 (nI t) (nI i)) (fun i S1 => Ext S S1 ∧ S1.1 10 = S.1 10 ∧ S1.1 11 = S.1 11 ∧ S1.1 12 = S.1 12 ∧ S1.1 14 = S.1 14 ∧ ∀ j, j < i → S1.1 13 j = nI (byN M b n (b (2 * j)) t)) (fun S1 => fX10_tryTurn_52 (S.2.2 0) 100 S1 (nI (2 ^ n) + (-1))) n (fun f S1 i hi hq => by
      obtain ⟨q1, q2, q3, q4, q5, q6⟩ := hq
      have hr : Rel S1 M := h.keep (q1.eqC h) (EqM.rf M)
      have et : S1.2.2 0 = S.2.2 0 := by rw [q1.1]
      have hI1 : WiC S1 (fun j => b (2 * j)) (fun j => b (2 * j + 1)) n := by
        unfold WiC
        rw [q2, q3, q4]
        exact hI
      obtain ⟨o1, o2⟩ := ho i hi
      have hsn := seenN_lt M (b (2 * i)) t
      have hg := grant10 hI1 h6 (fun j hj => by have := (ho j hj).1; show b (2 * j) < 256; omega) (fun j hj => (hth j hj).1) hsn o1
      have eb : setN (fun k => decide (b (2 * k) = b (2 * i)) && (seenN M (b (2 * i)) t).testBit (b (2 * k + 1))) n = byN M b n (b (2 * i)) t := by
        unfold byN
        apply setN_congr
        intro k hk
        obtain ⟨z1, z2⟩ := hth k hk
        rw [seen_tb z1 z2]
      rw [eb] at hg
      have hv := view8 hr o1 ht
      rw [if_pos o2, et] at hv
      have e11 : S1.1 11 i = nI (b (2 * i)) := (hI1.2 i hi).1
      refine ⟨pI S1 13 i (nI (byN M b n (b (2 * i)) t)), ?_, q1.put (by decide) (by decide) _ _, ?_, ?_, ?_, ?_, fun j hj => ?_⟩
      · show bX10_tryTurn_2 _ _ _ _ _ = _
        unfold bX10_tryTurn_2
        rw [hI1.1, if_neg (by rw [nle (by omega) (by omega)]; omega), if_pos (inbT (by omega) (by decide)), nI_clamp (by omega), e11, hv, bi_some, if_pos (inbT (by omega) (by decide)), e11, hg, bi_some, if_pos (inbT (by omega) (by decide)), bS_e, bV_e, nI_1]
      · rw [pI_row _ _ (by decide)]; exact q2
      · rw [pI_row _ _ (by decide)]; exact q3
      · rw [pI_row _ _ (by decide)]; exact q4
      · rw [pI_row _ _ (by decide)]; exact q5
      · by_cases e : j = i
        · subst e; rw [pI_same]
        · rw [pI_cell _ _ (by omega)]; exact q6 j (by omega)) (fun f S1 hq => by
      have e10 : S1.1 10 4 = nI n := by rw [hq.2.1]; exact hI.1
      show bX10_tryTurn_2 _ _ _ _ _ = _
      unfold bX10_tryTurn_2
      rw [e10, if_pos (by rw [nle (by omega) (by omega)]; omega), bit1 (by omega), Int32.sub_eq_add_neg, bV_e]) n 100 S 0 (by omega) (by omega) ⟨Ext.rf S, rfl, rfl, rfl, rfl, fun j hj => absurd hj (Nat.not_lt_zero _)⟩
  obtain ⟨S1, ⟨k1, k2, k3, k4, k5, k6⟩, k7⟩ := key
  have hI1 : WiC S1 (fun j => b (2 * j)) (fun j => b (2 * j + 1)) n := by
    unfold WiC
    rw [k2, k3, k4]
    exact hI
  obtain ⟨S', a1, a2, a3⟩ := tt52 (o := S.2.2 0) hW h6 ht ⟨k1, hI1, k6⟩ (show CeC S1 n _ by unfold CeC; rw [k5]; exact hC)
  exact ⟨S', a1.1, a1.2.1, a2, k7.trans a3⟩
