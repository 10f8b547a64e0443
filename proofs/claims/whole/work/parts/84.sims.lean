-- the model's least
def CeM (M : St) (o n : Nat) (P : Nat → Nat → Nat → Nat → Prop) : Prop := ∀ p, p < 2 ^ n → ∀ l, l ≤ 16 → ∃ v, M.1 o (17 * p + l) = nI v ∧ Mn 100000000 (fun c => ∃ w f, P p l w f ∧ c = 32 * w + f) v
theorem CeM.cg {M : St} {o n : Nat} {P Q : Nat → Nat → Nat → Nat → Prop} (h : CeM M o n P) (e : ∀ p l, p < 2 ^ n → l ≤ 16 → ∀ w f, P p l w f ↔ Q p l w f) : CeM M o n Q := by
  intro p hp j hj
  obtain ⟨v, h1, h2⟩ := h p hp j hj
  refine ⟨v, h1, h2.cg (fun c => ?_)⟩
  constructor
  · rintro ⟨w, f, a1, a2⟩
    exact ⟨w, f, (e p j hp hj w f).mp a1, a2⟩
  · rintro ⟨w, f, a1, a2⟩
    exact ⟨w, f, (e p j hp hj w f).mpr a1, a2⟩
/-- what one step from (met0, last0) with house l at turn t gives -/
def OnM (by_ : Nat → Nat → Nat) (ho : Nat → Bool) (t met0 last0 met l w f : Nat) : Prop := ∃ w0 f0, RM by_ ho t met0 last0 w0 f0 ∧ met = met0 ||| by_ l t ∧ ((last0 = 16 ∧ w = 0 ∧ f = l) ∨ (last0 < 16 ∧ w = w0 + dst l last0 ∧ f = f0))
def StM (by_ : Nat → Nat → Nat) (ho : Nat → Bool) (t h a c met l w f : Nat) : Prop := RM by_ ho t met l w f ∨ (l < 16 ∧ ho l = true ∧ by_ l t ≠ 0 ∧ ∃ met0 last0, (l < h ∨ (l = h ∧ (met0 < a ∨ (met0 = a ∧ last0 < c)))) ∧ OnM by_ ho t met0 last0 met l w f)
theorem StM_0 {by_ : Nat → Nat → Nat} {ho : Nat → Bool} {t met l w f : Nat} : StM by_ ho t 0 0 0 met l w f ↔ RM by_ ho t met l w f := by
  constructor
  · rintro (h | ⟨_, _, _, m0, l0, h, _⟩)
    · exact h
    · omega
  · exact Or.inl
theorem StM_end {by_ : Nat → Nat → Nat} {ho : Nat → Bool} {t met l w f : Nat} : StM by_ ho t 16 0 0 met l w f ↔ RM by_ ho (t + 1) met l w f := by
  constructor
  · rintro (h | ⟨h1, h2, h3, m0, l0, h4, w0, f0, h5, h6, h7⟩)
    · exact Or.inl h
    · exact Or.inr ⟨m0, l0, w0, f0, h1, h2, h3, h5, h6, h7⟩
  · rintro (h | ⟨m0, l0, w0, f0, h1, h2, h3, h5, h6, h7⟩)
    · exact Or.inl h
    · exact Or.inr ⟨h1, h2, h3, m0, l0, Or.inl h1, w0, f0, h5, h6, h7⟩
theorem StM_skip {by_ : Nat → Nat → Nat} {ho : Nat → Bool} {t h met l w f : Nat} (hn : ho h = false ∨ by_ h t = 0) : StM by_ ho t h 0 0 met l w f ↔ StM by_ ho t (h + 1) 0 0 met l w f := by
  constructor
  · rintro (z | ⟨h1, h2, h3, m0, l0, h4, h5⟩)
    · exact Or.inl z
    · exact Or.inr ⟨h1, h2, h3, m0, l0, by omega, h5⟩
  · rintro (z | ⟨h1, h2, h3, m0, l0, h4, h5⟩)
    · exact Or.inl z
    · refine Or.inr ⟨h1, h2, h3, m0, l0, ?_, h5⟩
      by_cases e : l = h
      · subst e
        rcases hn with hn | hn
        · rw [hn] at h2; cases h2
        · exact absurd hn h3
      · omega
theorem StM_row {by_ : Nat → Nat → Nat} {ho : Nat → Bool} {wi : Nat → Nat} {n : Nat} (hW : WiH by_ ho wi n) {t h a met l w f : Nat} : StM by_ ho t h a 17 met l w f ↔ StM by_ ho t h (a + 1) 0 met l w f := by
  constructor
  · rintro (z | ⟨h1, h2, h3, m0, l0, h4, h5⟩)
    · exact Or.inl z
    · exact Or.inr ⟨h1, h2, h3, m0, l0, by omega, h5⟩
  · rintro (z | ⟨h1, h2, h3, m0, l0, h4, h5⟩)
    · exact Or.inl z
    · refine Or.inr ⟨h1, h2, h3, m0, l0, ?_, h5⟩
      obtain ⟨w0, f0, q1, _⟩ := h5
      have := RM_bd hW t m0 l0 w0 f0 q1
      omega
theorem StM_all {by_ : Nat → Nat → Nat} {ho : Nat → Bool} {wi : Nat → Nat} {n : Nat} (hW : WiH by_ ho wi n) {t h met l w f : Nat} : StM by_ ho t h (2 ^ n) 0 met l w f ↔ StM by_ ho t (h + 1) 0 0 met l w f := by
  constructor
  · rintro (z | ⟨h1, h2, h3, m0, l0, h4, h5⟩)
    · exact Or.inl z
    · exact Or.inr ⟨h1, h2, h3, m0, l0, by omega, h5⟩
  · rintro (z | ⟨h1, h2, h3, m0, l0, h4, h5⟩)
    · exact Or.inl z
    · refine Or.inr ⟨h1, h2, h3, m0, l0, ?_, h5⟩
      obtain ⟨w0, f0, q1, _⟩ := h5
      have := RM_bd hW t m0 l0 w0 f0 q1
      omega
theorem StM_st {by_ : Nat → Nat → Nat} {ho : Nat → Bool} {t h a c met l w f : Nat} (h16 : h < 16) (hh : ho h = true) (hb : by_ h t ≠ 0) : StM by_ ho t h a (c + 1) met l w f ↔ StM by_ ho t h a c met l w f ∨ (l = h ∧ OnM by_ ho t a c met h w f) := by
  constructor
  · rintro (z | ⟨h1, h2, h3, m0, l0, h4, h5⟩)
    · exact Or.inl (Or.inl z)
    · by_cases e : l = h ∧ m0 = a ∧ l0 = c
      · obtain ⟨rfl, rfl, rfl⟩ := e
        exact Or.inr ⟨rfl, h5⟩
      · exact Or.inl (Or.inr ⟨h1, h2, h3, m0, l0, by omega, h5⟩)
  · rintro ((z | ⟨h1, h2, h3, m0, l0, h4, h5⟩) | ⟨rfl, h5⟩)
    · exact Or.inl z
    · exact Or.inr ⟨h1, h2, h3, m0, l0, by omega, h5⟩
    · exact Or.inr ⟨h16, hh, hb, a, c, by omega, h5⟩
/-- rows 87 and 88 alone may differ -/
def Exm (M M' : St) : Prop := M'.2 = M.2 ∧ ∀ j, j ≠ 87 → j ≠ 88 → M'.1 j = M.1 j
theorem Exm.rf (M : St) : Exm M M := ⟨rfl, fun _ _ _ => rfl⟩
theorem Exm.put {M M1 : St} (h : Exm M M1) {o : Nat} (ho : o = 87 ∨ o = 88) (k : Nat) (v : Int32) : Exm M (pI M1 o k v) := ⟨h.1, fun j h1 h2 => (pI_row M1 v (by omega)).trans (h.2 j h1 h2)⟩
theorem Exm.tr {M M1 M2 : St} (h : Exm M M1) (h2 : Exm M1 M2) : Exm M M2 := ⟨h2.1.trans h.1, fun j a b => (h2.2 j a b).trans (h.2 j a b)⟩
theorem Exm.eqM {M M' : St} (h : Exm M M') : EqM M M' := fun o k hc => by rw [h.2 o (by unfold coreM at hc; omega) (by unfold coreM at hc; omega)]
theorem ch29 {by_ : Nat → Nat → Nat} {ho : Nat → Bool} {wi : Nat → Nat} {n t h a : Nat} (hW : WiH by_ ho wi n) (h6 : n ≤ 6) (ht : t < 12) (h16 : h < 16) (hh : ho h = true) (hb : by_ h t ≠ 0) (ha : a < 2 ^ n) (rc : St → Int32 → Int32 → Int32 → Int32 → Option St) {M0 M : St} (hE : Exm M0 M) (hC : CeM M 87 n (RM by_ ho t)) (hD : CeM M 88 n (StM by_ ho t h a 0)) : ∃ M', Exm M0 M' ∧ M'.1 87 = M.1 87 ∧ CeM M' 88 n (StM by_ ho t h (a + 1) 0) ∧ fX12_choosesHouse_29 rc 100 M (nI h) (nI n) (nI (by_ h t)) (nI a) 0 = rc M' (nI h) (nI n) (nI (by_ h t)) (nI (a + 1)) := by
  have hp : 2 ^ n ≤ 64 := Nat.pow_le_pow_right (by decide) h6
  have hbl := hW.1 h t
  have hor : a ||| by_ h t < 2 ^ n := Nat.or_lt_two_pow ha hbl
  have key := loop_inv (F := fun f M1 c => fX12_choosesHouse_29 rc f M1 (nI h) (nI n) (nI (by_ h t)) (nI a) (nI c)) (fun c M1 => Exm M0 M1 ∧ M1.1 87 = M.1 87 ∧ CeM M1 88 n (StM by_ ho t h a c)) (fun M1 => rc M1 (nI h) (nI n) (nI (by_ h t)) (nI (a + 1))) 17 (fun f M1 c hc hq => by
      obtain ⟨q1, q2, q3⟩ := hq
      obtain ⟨u, u1, u2⟩ := hC a ha c (by omega)
      have hu := u2.le
      have hb2 : ∃ M2, bX12_choosesHouse_29 rc (fX12_choosesHouse_29 rc f) M1 (nI h) (nI n) (nI (by_ h t)) (nI a) (nI c) = fX12_choosesHouse_29 rc f M2 (nI h) (nI n) (nI (by_ h t)) (nI a) (nI (c + 1)) ∧ Exm M0 M2 ∧ M2.1 87 = M.1 87 ∧ CeM M2 88 n (StM by_ ho t h a (c + 1)) := by
        unfold bX12_choosesHouse_29
        have x1 : ∀ S, fX12_stateOf S (nI a) (nI c) = some (nI (17 * a + c), S) := fun S => by
          unfold fX12_stateOf
          rw [li 17, pk_mul, nI_add]
        have x2 : ∀ S, fX12_stateOf S (nI a ||| nI (by_ h t)) (nI h) = some (nI (17 * (a ||| by_ h t) + h), S) := fun S => by
          unfold fX12_stateOf
          rw [or_nI, li 17, pk_mul, nI_add]
        rw [li 16, if_neg (by rw [nlt (by decide) (by omega)]; omega), x1, bi_some, if_pos (inbT (by omega) (by decide)), nI_clamp (by omega), q2, u1, bV_e]
        by_cases c1 : u < 100000000
        · -- the value
          have hv : ∃ v, v < 100000000 ∧ Mn 100000000 (fun y => ∃ w f, OnM by_ ho t a c (a ||| by_ h t) h w f ∧ y = 32 * w + f) v ∧ (if nI c = nI 16 then (fX12_choosesHouse_85 rc (fX12_choosesHouse_29 rc f) M1 (nI h) (nI n) (nI (by_ h t)) (nI a) (nI c) (nI h)) else (bi (fX12_size M1 (nI h - nI c)) fun r7 S2 => fX12_choosesHouse_85 rc (fX12_choosesHouse_29 rc f) S2 (nI h) (nI n) (nI (by_ h t)) (nI a) (nI c) (nI u + ((32 : Int32) * r7)))) = fX12_choosesHouse_85 rc (fX12_choosesHouse_29 rc f) M1 (nI h) (nI n) (nI (by_ h t)) (nI a) (nI c) (nI v) := by
            rcases u2 with ⟨z, _⟩ | ⟨⟨w, f1, z1, z2⟩, z3, z4⟩
            · omega
            · obtain ⟨b1, b2, b3, b4⟩ := RM_bd hW t a c w f1 z1
              by_cases e : c = 16
              · subst e
                refine ⟨h, by omega, (Mn.one (F := 100000000) (a := h) (by omega)).cg (fun y => ?_), by rw [if_pos rfl]⟩
                constructor
                · intro ey
                  exact ⟨0, h, ⟨w, f1, z1, rfl, Or.inl ⟨rfl, rfl, rfl⟩⟩, by omega⟩
                · rintro ⟨w2, f2, ⟨w0, f0, _, _, (⟨_, e1, e2⟩ | ⟨e, _⟩)⟩, e3⟩
                  · omega
                  · omega
              · have hc16 : c < 16 := by omega
                have hd := dst_bd h16 hc16
                refine ⟨u + 32 * dst h c, by omega, ?_, ?_⟩
                · have m1 : Mn 100000000 (fun y => ∃ w f, RM by_ ho t a c w f ∧ y = 32 * w + f) u := Or.inr ⟨⟨w, f1, z1, z2⟩, z3, z4⟩
                  refine (m1.sh (32 * dst h c) c1 (by omega)).cg (fun y => ?_)
                  constructor
                  · rintro ⟨x, ⟨w0, f0, y1, y2⟩, y3⟩
                    exact ⟨_, f0, ⟨w0, f0, y1, rfl, Or.inr ⟨hc16, rfl, rfl⟩⟩, by omega⟩
                  · rintro ⟨w2, f2, ⟨w0, f0, y1, _, (⟨e1, _⟩ | ⟨_, e2, e3⟩)⟩, y3⟩
                    · omega
                    · exact ⟨32 * w0 + f0, ⟨w0, f0, y1, rfl⟩, by omega⟩
                · rw [if_neg (by rw [neq (by omega) (by decide)]; exact e), size12, bi_some, dst_ab _ h16 _ hc16, li 32, pk_mul, nI_add]
          obtain ⟨v, v1, v2, v3⟩ := hv
          obtain ⟨y, y1, y2⟩ := q3 (a ||| by_ h t) hor h (by omega)
          have hy := y2.le
          have hlt : nI u < (100000000 : Int32) := by rw [li 100000000, nlt (by omega) (by decide)]; exact c1
          rw [if_pos hlt, v3]
          unfold fX12_choosesHouse_85
          rw [x2, bi_some, if_pos (inbT (by omega) (by decide)), nI_clamp (by omega), y1, min12, bi_some, nI_mn2 (by omega) (by omega), if_pos (inbT (by omega) (by decide)), bS_e, bV_e, nI_1]
          refine ⟨_, rfl, q1.put (Or.inr rfl) _ _, by rw [pI_row _ _ (by decide)]; exact q2, fun p hp2 l hl => ?_⟩
          by_cases cc : p = a ||| by_ h t ∧ l = h
          · obtain ⟨rfl, rfl⟩ := cc
            refine ⟨_, pI_same _ _ _ _, (y2.two v2).cg (fun k => ?_)⟩
            constructor
            · rintro (⟨w, f1, a1, a2⟩ | ⟨w, f1, a1, a2⟩)
              · exact ⟨w, f1, (StM_st h16 hh hb).mpr (Or.inl a1), a2⟩
              · exact ⟨w, f1, (StM_st h16 hh hb).mpr (Or.inr ⟨rfl, a1⟩), a2⟩
            · rintro ⟨w, f1, a1, a2⟩
              rcases (StM_st h16 hh hb).mp a1 with z | ⟨_, z⟩
              · exact Or.inl ⟨w, f1, z, a2⟩
              · exact Or.inr ⟨w, f1, z, a2⟩
          · obtain ⟨x, k1, k2⟩ := q3 p hp2 l hl
            refine ⟨x, ?_, k2.cg (fun k => ?_)⟩
            · rw [pI_cell _ _ (by
                rintro ⟨_, z⟩
                apply cc
                omega)]
              exact k1
            · constructor
              · rintro ⟨w, f1, a1, a2⟩
                exact ⟨w, f1, (StM_st h16 hh hb).mpr (Or.inl a1), a2⟩
              · rintro ⟨w, f1, a1, a2⟩
                rcases (StM_st h16 hh hb).mp a1 with z | ⟨z1, w0, f0, z2, z3, z4⟩
                · exact ⟨w, f1, z, a2⟩
                · exact absurd ⟨z3, z1⟩ cc
        · have hge : ¬ nI u < (100000000 : Int32) := by rw [li 100000000, nlt (by omega) (by decide)]; exact c1
          rw [if_neg hge, bV_e, nI_1]
          refine ⟨M1, rfl, q1, q2, q3.cg (fun p l hp2 hl w f1 => ?_)⟩
          rw [StM_st h16 hh hb]
          constructor
          · exact Or.inl
          · rintro (z | ⟨_, w0, f0, z2, _, _⟩)
            · exact z
            · rcases u2 with ⟨_, z⟩ | ⟨_, z, _⟩
              · exact absurd ⟨w0, f0, z2, rfl⟩ (z _)
              · omega
      exact hb2) (fun f M1 hq => by
      show bX12_choosesHouse_29 _ _ _ _ _ _ _ _ = _
      unfold bX12_choosesHouse_29
      rw [if_pos (by decide), bV_e, nI_1]) 17 100 M 0 rfl (by decide) ⟨hE, rfl, hD⟩
  obtain ⟨M', ⟨k1, k2, k3⟩, k4⟩ := key
  exact ⟨M', k1, k2, k3.cg (fun p l _ _ w f => StM_row hW), k4⟩
theorem met12 {M : St} {b : Nat → Nat} (hM : IvS M) (hb : ∀ j, b j < 256) (hT : TapM b M) {n h t : Nat} (h6 : n ≤ 6) (h16 : h < 16) (ht : t < 12) (hth : ∀ j, j < n → b (2 * j + 1) < 16) : fX12_metBy M (nI h) (nI t) (nI n) = some (nI (byN M b n h t), M) := by
  unfold fX12_metBy byN
  refine set_loop (F := fun f x i => fX12_metBy_6 f M (nI h) (nI t) (nI n) x (nI i)) _ n (by omega) (fun x => some (x, M)) (fun f x i hi => ?_) (fun f x => ?_) (by omega)
  · have := hb (2 * i)
    have x1 : (2 : Int32) * nI i = nI (2 * i) := by rw [li 2, pk_mul]
    have x2 : nI (2 * i) + 1 = nI (2 * i + 1) := nI_1 _
    show bX12_metBy_6 _ _ _ _ _ _ _ = _
    unfold bX12_metBy_6
    rw [if_neg (by rw [nle (by omega) (by omega)]; omega), x1, x2]
    simp only [oct12 hb hT (show 2 * i < 260 by omega), oct12 hb hT (show 2 * i + 1 < 260 by omega), bi_some, isSeen12 hM h16 (hth i hi) (show t < 2 ^ 31 by omega), ite_b2i, neq (show b (2 * i) < 2 ^ 31 by omega) (show h < 2 ^ 31 by omega), bV_e, nI_1]
    by_cases c1 : b (2 * i) = h <;> by_cases c2 : seeB M h (b (2 * i + 1)) t = true <;> simp [c1, c2]
  · show bX12_metBy_6 _ _ _ _ _ _ _ = _
    unfold bX12_metBy_6
    rw [if_pos (by rw [nle (by omega) (by omega)]; omega)]
theorem byN_eqM {M M' : St} (h : EqM M M') (b : Nat → Nat) (n : Nat) : byN M' b n = byN M b n := by
  funext a t
  unfold byN seeB
  rw [h.row (o := 60) (by simp [coreM]), h.row (o := 61) (by simp [coreM]), h.row (o := 62) (by simp [coreM]), h.row (o := 63) (by simp [coreM])]
theorem ch12 {S M0 M : St} (hr : Rel S M0) {b : Nat → Nat} (hb : ∀ j, b j < 256) (hT : TapM b M0) {n h t : Nat} (h6 : n ≤ 6) (ht : t < 12) (h16 : h < 16) (hth : ∀ j, j < n → b (2 * j + 1) < 16) (hW : WiH (byN M0 b n) (fun a => (hN M0).testBit a) (fun j => b (2 * j)) n) (hE : Exm M0 M) (hh : (hN M0).testBit h = true) (hC : CeM M 87 n (RM (byN M0 b n) (fun a => (hN M0).testBit a) t)) (hD : CeM M 88 n (StM (byN M0 b n) (fun a => (hN M0).testBit a) t h 0 0)) : ∃ M', Exm M0 M' ∧ M'.1 87 = M.1 87 ∧ CeM M' 88 n (StM (byN M0 b n) (fun a => (hN M0).testBit a) t (h + 1) 0 0) ∧ fX12_choosesHouse M (nI h) (nI t) (nI n) = some M' := by
  have hp : 2 ^ n ≤ 64 := Nat.pow_le_pow_right (by decide) h6
  have hr1 : Rel S M := hr.keep (EqC.rf S) hE.eqM
  have hT1 : TapM b M := fun j hj => by rw [hE.2 64 (by decide) (by decide)]; exact hT j hj
  have hm := met12 hr1.1 hb hT1 h6 h16 ht hth
  rw [byN_eqM hE.eqM] at hm
  have hbl := hW.1 h t
  unfold fX12_choosesHouse
  rw [hm, bi_some]
  by_cases c : byN M0 b n h t = 0
  · refine ⟨M, hE, rfl, hD.cg (fun p l _ _ w f => StM_skip (Or.inr c)), ?_⟩
    rw [c]
    exact if_pos rfl
  · have key := loop_inv (F := fun f M1 a => fX12_choosesHouse_18 f M1 (nI h) (nI n) (nI (byN M0 b n h t)) (nI a)) (fun a M1 => Exm M0 M1 ∧ M1.1 87 = M.1 87 ∧ CeM M1 88 n (StM (byN M0 b n) (fun a => (hN M0).testBit a) t h a 0)) (fun M1 => some M1) (2 ^ n) (fun f M1 a ha hq => by
      obtain ⟨q1, q2, q3⟩ := hq
      obtain ⟨M2, r1, r2, r3, r4⟩ := ch29 hW h6 ht h16 hh c ha (fX12_choosesHouse_18 f) q1 (show CeM M1 87 n _ by unfold CeM; rw [q2]; exact hC) q3
      refine ⟨M2, ?_, r1, r2.trans q2, r3⟩
      show bX12_choosesHouse_18 _ _ _ _ _ _ = _
      unfold bX12_choosesHouse_18
      rw [bit1 (by omega), if_neg (by rw [nle (by omega) (by omega)]; omega)]
      exact r4) (fun f M1 hq => by
      show bX12_choosesHouse_18 _ _ _ _ _ _ = _
      unfold bX12_choosesHouse_18
      rw [bit1 (by omega), if_pos (by rw [nle (by omega) (by omega)]; omega)]) (2 ^ n) 100 M 0 (by omega) (by omega) ⟨hE, rfl, hD⟩
    obtain ⟨M', ⟨k1, k2, k3⟩, k4⟩ := key
    refine ⟨M', k1, k2, k3.cg (fun p l _ _ w f => StM_all hW), ?_⟩
    rw [if_neg (show ¬ nI (byN M0 b n h t) = 0 from fun e => c ((neq (b := 0) (by omega) (by decide)).mp e))]
    exact k4
