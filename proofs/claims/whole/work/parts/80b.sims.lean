-- the model's sets
def cvN (w : Nat → Nat) (s : Nat) : Nat := orN (fun a => if s.testBit a = true then w a else 0) 16
theorem cvN_tb (w : Nat → Nat) (s j : Nat) : (cvN w s).testBit j = true ↔ ∃ a, a < 16 ∧ s.testBit a = true ∧ (w a).testBit j = true := by
  unfold cvN
  rw [orN_tb]
  constructor
  · rintro ⟨a, ha, hb⟩
    by_cases q : s.testBit a = true
    · rw [if_pos q] at hb
      exact ⟨a, ha, q, hb⟩
    · rw [if_neg q, Nat.zero_testBit] at hb
      cases hb
  · rintro ⟨a, ha, q, hb⟩
    exact ⟨a, ha, by rw [if_pos q]; exact hb⟩
theorem cvN_lt {w : Nat → Nat} (hw : ∀ a, w a < 65536) (s : Nat) : cvN w s < 65536 := orN_lt _ (fun a => by
  have := hw a
  show (if s.testBit a = true then w a else 0) < 65536
  split <;> omega) 16
theorem cvN_all (w : Nat → Nat) (s : Nat) : cvN w s = orN w 16 ↔ covs w s (orN w 16) := by
  constructor
  · intro e j hj
    rw [← e] at hj
    exact (cvN_tb w s j).mp hj
  · intro hc
    apply Nat.eq_of_testBit_eq
    intro j
    rw [Bool.eq_iff_iff, cvN_tb]
    constructor
    · rintro ⟨a, ha, _, hb⟩
      exact (orN_tb w j 16).mpr ⟨a, ha, hb⟩
    · intro hj
      exact hc j hj
theorem low_and {s : Nat} (h0 : s ≠ 0) (h : s < 65536) : s &&& (s - 1) = cb s (lowN s) := by
  obtain ⟨l1, l2, l3⟩ := lowN_spec h0 h
  have hl := l2
  generalize lowN s = l at *
  have em : s % 2 ^ (l + 1) = 2 ^ l := by
    apply Nat.eq_of_testBit_eq
    intro i
    rw [Nat.testBit_mod_two_pow, Nat.testBit_two_pow]
    by_cases e : i = l
    · subst e; simp [l1]
    · by_cases e2 : i < l
      · rw [l3 i e2]
        have : ¬ l = i := by omega
        simp [this]
      · have e3 : ¬ l = i := by omega
        have e4 : ¬ i < l + 1 := by omega
        simp [e3, e4]
  have es := Nat.div_add_mod s (2 ^ (l + 1))
  rw [em] at es
  have hp : 0 < 2 ^ l := Nat.two_pow_pos l
  have hp2 : 2 ^ (l + 1) = 2 ^ l + 2 ^ l := by rw [Nat.pow_succ]; omega
  generalize s / 2 ^ (l + 1) = q at es
  have e1 : s - 1 = 2 ^ (l + 1) * q + (2 ^ l - 1) := by omega
  apply Nat.eq_of_testBit_eq
  intro i
  rw [cb_tb h (by omega), Nat.testBit_and]
  by_cases e : i < l
  · rw [l3 i e]; rfl
  · by_cases e2 : i = l
    · subst e2
      rw [e1, Nat.testBit_two_pow_mul_add _ (by omega), if_pos (by omega), Nat.testBit_two_pow_sub_one]
      simp
    · have b1 : s.testBit i = q.testBit (i - (l + 1)) := by
        rw [← es, Nat.testBit_two_pow_mul_add _ (by omega), if_neg (by omega)]
      have b2 : (s - 1).testBit i = q.testBit (i - (l + 1)) := by
        rw [e1, Nat.testBit_two_pow_mul_add _ (by omega), if_neg (by omega)]
      have e3 : ¬ l = i := by omega
      rw [b1, b2]
      simp [e3]
theorem cvN_low {w : Nat → Nat} {s : Nat} (h0 : s ≠ 0) (h : s < 65536) : cvN w s = cvN w (cb s (lowN s)) ||| w (lowN s) := by
  obtain ⟨l1, l2, l3⟩ := lowN_spec h0 h
  apply Nat.eq_of_testBit_eq
  intro j
  rw [Bool.eq_iff_iff, Nat.testBit_or, Bool.or_eq_true, cvN_tb, cvN_tb]
  constructor
  · rintro ⟨a, ha, q, hb⟩
    by_cases e : lowN s = a
    · subst e; exact Or.inr hb
    · exact Or.inl ⟨a, ha, by rw [cb_tb h (by omega), q]; simp [e], hb⟩
  · rintro (⟨a, ha, q, hb⟩ | hb)
    · rw [cb_tb h (by omega), Bool.and_eq_true] at q
      exact ⟨a, ha, q.1, hb⟩
    · exact ⟨lowN s, l2, l1, hb⟩
def SubH (h s : Nat) : Prop := ∀ a, s.testBit a = true → h.testBit a = true
theorem dif_0 {s h : Nat} (hs : s < 65536) (hh : h < 65536) : dif s h = 0 ↔ SubH h s := by
  constructor
  · intro e a ha
    have := dif_tb (i := a) hs hh
    rw [e, Nat.zero_testBit, ha] at this
    simpa using this
  · intro hsub
    apply Nat.eq_of_testBit_eq
    intro i
    rw [dif_tb hs hh, Nat.zero_testBit]
    cases q : s.testBit i with
    | false => rfl
    | true => rw [hsub i q]; rfl
def MBest (w : Nat → Nat) (h B : Nat) : Prop := B < 65536 ∧ SubH h B ∧ covs w B (orN w 16) ∧ ∀ s, s < 65536 → SubH h s → covs w s (orN w 16) → pcN B 16 < pcN s 16 ∨ (pcN B 16 = pcN s 16 ∧ B ≤ s)
theorem bs104s {M : St} {w : Nat → Nat} {h : Nat} (hw : ∀ a, w a < 65536) (hh : h < 65536) (e8 : M.1 55 8 = nI h) (h90 : ∀ s, s < 65536 → M.1 90 s = nI (cvN w s)) {b i f al : Nat} (ha : al < 65536) (hi : i < 65536) (p1 : b < 65536) : fX12_bestSet_104 (f + 1) M (nI al) (nI b) (nI (i + 1) + (-1)) = fX12_bestSet_104 f M (nI al) (nI (if dif i h = 0 ∧ cvN w i = al ∧ pcN i 16 ≤ pcN b 16 then i else b)) (nI i + (-1)) := by
  have hcv := cvN_lt hw i
  have hp1 := pcN_le b 16
  have hp2 := pcN_le i 16
  have hd := dif_le i h
  show bX12_bestSet_104 _ _ _ _ _ = _
  unfold bX12_bestSet_104
  rw [pk_m1, if_neg (nI_pos (show i < 2 ^ 31 by omega)), e8, dif_e (show i < 2 ^ 31 by omega), if_pos (inbT (show i < 65536 by omega) (show 65536 < 2 ^ 31 by decide)), nI_clamp (show i < 2 ^ 31 by omega), h90 i hi, bits12 M hi, bi_some, bits12 M p1, bi_some]
  have z1 : (nI (dif i h) = 0) = (dif i h = 0) := neq (b := 0) (by omega) (by decide)
  have z2 : (nI (cvN w i) = nI al) = (cvN w i = al) := neq (by omega) (by omega)
  have z3 : (nI (pcN b 16) < nI (pcN i 16)) = (pcN b 16 < pcN i 16) := nlt (by omega) (by omega)
  simp only [z1, z2, z3, bV_e]
  by_cases c1 : dif i h = 0
  · by_cases c2 : cvN w i = al
    · by_cases c3 : pcN b 16 < pcN i 16
      · rw [if_pos c1, if_pos c2, if_pos c3, if_neg (by omega)]
      · rw [if_pos c1, if_pos c2, if_neg c3, if_pos (by omega)]
    · rw [if_pos c1, if_neg c2, if_neg (fun z => c2 z.2.1)]
  · rw [if_neg c1, if_neg (fun z => c1 z.1)]
theorem bs104 {M : St} {w : Nat → Nat} {h : Nat} (hw : ∀ a, w a < 65536) (hh : h < 65536) (e8 : M.1 55 8 = nI h) (hc : covs w h (orN w 16)) (h90 : ∀ s, s < 65536 → M.1 90 s = nI (cvN w s)) : ∀ i f b, i ≤ 65536 → i < f → b < 65536 → SubH h b → covs w b (orN w 16) → (∀ s, i ≤ s → s < 65536 → SubH h s → covs w s (orN w 16) → pcN b 16 < pcN s 16 ∨ (pcN b 16 = pcN s 16 ∧ b ≤ s)) → ∃ B, MBest w h B ∧ fX12_bestSet_104 f M (nI (orN w 16)) (nI b) (nI i + (-1)) = some (nI B, M) := by
  have ho := orN_lt w hw 16
  intro i
  induction i with
  | zero =>
    intro f b h1 h2 p1 p2 p3 p4
    obtain ⟨f, rfl⟩ : ∃ f', f = f' + 1 := ⟨f - 1, by omega⟩
    refine ⟨b, ⟨p1, p2, p3, fun s hs => p4 s (Nat.zero_le _) hs⟩, ?_⟩
    show bX12_bestSet_104 _ _ _ _ _ = _
    unfold bX12_bestSet_104
    rw [if_pos (by decide)]
  | succ i ih =>
    intro f b h1 h2 p1 p2 p3 p4
    obtain ⟨f, rfl⟩ : ∃ f', f = f' + 1 := ⟨f - 1, by omega⟩
    rw [bs104s hw hh e8 h90 ho (by omega) p1]
    by_cases c : dif i h = 0 ∧ cvN w i = orN w 16 ∧ pcN i 16 ≤ pcN b 16
    · rw [if_pos c]
      obtain ⟨c1, c2, c3⟩ := c
      exact ih f i (by omega) (by omega) (by omega) ((dif_0 (by omega) hh).mp c1) ((cvN_all w i).mp c2) (fun s h1 h2 h3 h4 => by
        by_cases e : s = i
        · subst e; exact Or.inr ⟨rfl, Nat.le_refl _⟩
        · have := p4 s (by omega) h2 h3 h4
          omega)
    · rw [if_neg c]
      exact ih f b (by omega) (by omega) p1 p2 p3 (fun s h1 h2 h3 h4 => by
        by_cases e : s = i
        · subst e
          have c1 := (dif_0 (by omega) hh).mpr h3
          have c2 := (cvN_all w s).mpr h4
          exact Or.inl (by
            rcases Nat.lt_or_ge (pcN b 16) (pcN s 16) with z | z
            · exact z
            · exact absurd ⟨c1, c2, z⟩ c)
        · exact p4 s (by omega) h2 h3 h4)
theorem bs62 {M0 : St} {w : Nat → Nat} (hw : ∀ a, w a < 65536) (h89 : ∀ a, a < 16 → M0.1 89 a = nI (w a)) (x v : Int32) {fu : Nat} (hfu : 65536 < fu) : ∃ M', Ex 90 M0 M' ∧ (∀ s, s < 65536 → M'.1 90 s = nI (cvN w s)) ∧ fX12_bestSet_62 fu (pI M0 90 0 0) x v 1 = fX12_bestSet_104 70000 M' x v 65535 := by
  have c0 : cvN w 0 = 0 := by
    apply Nat.eq_of_testBit_eq
    intro j
    rw [Nat.zero_testBit]
    cases q : (cvN w 0).testBit j with
    | false => rfl
    | true =>
      obtain ⟨a, _, z, _⟩ := (cvN_tb w 0 j).mp q
      rw [Nat.zero_testBit] at z
      cases z
  have key := loop_inv (F := fun f M s => fX12_bestSet_62 f M x v (nI s)) (fun i M => 1 ≤ i ∧ Ex 90 M0 M ∧ ∀ s, s < i → M.1 90 s = nI (cvN w s)) (fun M => fX12_bestSet_104 70000 M x v 65535) 65536 (fun f M s hs hp => by
      obtain ⟨p0, p1, p2⟩ := hp
      have h0 : s ≠ 0 := by omega
      obtain ⟨l1, l2, l3⟩ := lowN_spec h0 hs
      have hlt := cb_lt hs (show lowN s < 31 by omega) l1
      refine ⟨pI M 90 s (nI (cvN w s)), ?_, by omega, p1.put _ _, fun j hj => ?_⟩
      · show bX12_bestSet_62 _ _ _ _ _ = _
        unfold bX12_bestSet_62
        have e1 : nI s &&& (nI s - 1) = nI (cb s (lowN s)) := by
          rw [← low_and h0 hs, li 1, pk_sub (by omega), and_nI]
        rw [li 65536, if_neg (by rw [nle (by decide) (by omega)]; omega)]
        simp only [e1, inbT (show cb s (lowN s) < 65536 by omega) (show 65536 < 2 ^ 31 by decide), lowest12 h0 hs, bi_some, inbT l2 (show 16 < 2 ^ 31 by decide), inbT hs (show 65536 < 2 ^ 31 by decide), if_true, nI_clamp (show s < 2 ^ 31 by omega), nI_clamp (show cb s (lowN s) < 2 ^ 31 by omega), nI_clamp (show lowN s < 2 ^ 31 by omega), p2 _ hlt, p1.2 89 (by decide), h89 _ l2, or_nI, bS_e, bV_e, nI_1, ← cvN_low h0 hs]
      · by_cases e : j = s
        · subst e; rw [pI_same]
        · rw [pI_cell _ _ (by omega)]; exact p2 j (by omega)) (fun f M hp => by
      show bX12_bestSet_62 _ _ _ _ _ = _
      unfold bX12_bestSet_62
      rw [if_pos (by decide)]) 65535 fu (pI M0 90 0 0) 1 (by decide) (by omega) ⟨by decide, (Ex.rf _ _).put _ _, fun s hs => by
        have : s = 0 := by omega
        subst this
        rw [pI_same, c0]
        rfl⟩
  obtain ⟨M', ⟨_, k1, k2⟩, k3⟩ := key
  exact ⟨M', k1, k2, k3⟩
