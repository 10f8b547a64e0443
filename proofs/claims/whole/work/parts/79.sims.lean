-- sale
theorem cnt_hi {q : Nat → Bool} {n : Nat} (h : ∀ i, n ≤ i → q i = false) : ∀ m, cnt q (n + m) = cnt q n
  | 0 => rfl
  | m + 1 => by
    rw [show n + (m + 1) = n + m + 1 by omega, cnt, cnt_hi h m, h (n + m) (by omega)]
    simp
theorem cnt_or1 {q : Nat → Bool} {t : Nat} (ht : q t = false) : ∀ n, t < n → cnt (fun i => q i || decide (t = i)) n = cnt q n + 1
  | 0, h => absurd h (Nat.not_lt_zero t)
  | n + 1, h => by
    rw [cnt, cnt]
    by_cases e : t = n
    · subst e
      rw [cnt_cg (r := q) (fun i hi => by
        have : t ≠ i := by omega
        simp [this])]
      simp [ht]
    · rw [cnt_or1 ht n (by omega)]
      simp [e]
      omega
theorem cnt_all {q : Nat → Bool} : ∀ n, (∀ i, i < n → q i = true) → cnt q n = n
  | 0, _ => rfl
  | n + 1, h => by
    rw [cnt, cnt_all n (fun i hi => h i (by omega)), h n (by omega)]
    rfl
theorem tb_pow {g n : Nat} (h : g < 2 ^ n) : ∀ i, n ≤ i → g.testBit i = false := fun i hi => Nat.testBit_lt_two_pow (Nat.lt_of_lt_of_le h (Nat.pow_le_pow_right (by decide) hi))
theorem pc_n {g n : Nat} (h : g < 2 ^ n) (hn : n ≤ 16) : pcN g 16 = cnt (fun i => g.testBit i) n := by
  rw [pcN_cnt]
  have := cnt_hi (q := fun i => g.testBit i) (tb_pow h) (16 - n)
  rw [show n + (16 - n) = 16 by omega] at this
  exact this
theorem pc_lt {g n t : Nat} (h : g < 2 ^ n) (hn : n ≤ 16) (ht : t < n) (hf : g.testBit t = false) : pcN g 16 < n := by
  rw [pc_n h hn]
  have h1 := cnt_or1 (q := fun i => g.testBit i) hf n ht
  have h2 := cnt_le (fun i => g.testBit i || decide (t = i)) n
  omega
theorem pc_ex {g n : Nat} (h : g < 2 ^ n) (hn : n ≤ 16) (hp : pcN g 16 < n) : ∃ t, t < n ∧ g.testBit t = false := by
  rcases Classical.em (∃ t, t < n ∧ g.testBit t = false) with z | z
  · exact z
  · exfalso
    rw [pc_n h hn, cnt_all n (fun i hi => by
      cases hq : g.testBit i with
      | true => rfl
      | false => exact absurd ⟨i, hi, hq⟩ z)] at hp
    omega
theorem pc_or {g t : Nat} (ht : t < 16) (hf : g.testBit t = false) : pcN (g ||| 2 ^ t) 16 = pcN g 16 + 1 := by
  rw [pcN_cnt, pcN_cnt, ← cnt_or1 (q := fun i => g.testBit i) hf 16 ht]
  apply cnt_cg
  intro i _
  rw [Nat.testBit_or, Nat.testBit_two_pow]
theorem or_lt {g n t : Nat} (h : g < 2 ^ n) (ht : t < n) : g ||| 2 ^ t < 2 ^ n := Nat.or_lt_two_pow h (Nat.pow_lt_pow_right (by decide) ht)
theorem or_gt {g t : Nat} (hf : g.testBit t = false) : g < g ||| 2 ^ t := by
  have h1 : g ≤ g ||| 2 ^ t := Nat.left_le_or
  have h2 : g ||| 2 ^ t ≠ g := by
    intro e
    have : (g ||| 2 ^ t).testBit t = true := by rw [Nat.testBit_or, Nat.testBit_two_pow]; simp
    rw [e, hf] at this
    cases this
  omega
def stS (b : Nat → Nat) (n g : Nat) (A : Nat → Nat) (cur t : Nat) : Nat := if g.testBit t = true then cur else max cur (b (n * pcN g 16 + t) + A (g ||| 2 ^ t))
def fmS (b : Nat → Nat) (n g : Nat) (A : Nat → Nat) : Nat := itr (stS b n g A) 0 n 0
def svN (b : Nat → Nat) (n : Nat) : Nat → Nat → Nat
  | 0, _ => 0
  | f + 1, g => fmS b n g (svN b n f)
theorem svN_bd {b : Nat → Nat} (hb : ∀ j, b j < 256) (n : Nat) : ∀ f g, svN b n f g ≤ 255 * f
  | 0, g => Nat.le_refl _
  | f + 1, g => by
    rw [svN]
    unfold fmS
    refine itr_bd (fun s i hs => ?_) n 0 _ (by omega)
    unfold stS
    have := svN_bd hb n f (g ||| 2 ^ i)
    have := hb (n * pcN g 16 + i)
    split <;> omega
theorem fmS_cg {b : Nat → Nat} {n g : Nat} (h : g < 2 ^ n) {A B : Nat → Nat} (hab : ∀ p, g < p → p < 2 ^ n → A p = B p) : fmS b n g A = fmS b n g B := by
  unfold fmS
  apply itr_cg
  intro s j _ hj
  unfold stS
  by_cases c : g.testBit j = true
  · rw [if_pos c, if_pos c]
  · have c : g.testBit j = false := by simpa using c
    rw [hab _ (or_gt c) (or_lt h (by omega))]
theorem svN_st {b : Nat → Nat} {n : Nat} : ∀ f g, 2 ^ n ≤ g + f → g < 2 ^ n → svN b n (f + 1) g = svN b n f g
  | 0, g, h, h2 => by omega
  | f + 1, g, h, h2 => by
    rw [svN, svN]
    exact fmS_cg h2 (fun p hp hp2 => svN_st f p (by omega) hp2)
def svV (b : Nat → Nat) (n g : Nat) : Nat := svN b n 300 g
theorem svV_eq {b : Nat → Nat} {n g : Nat} (h8 : n ≤ 8) (h : g < 2 ^ n) : svV b n g = fmS b n g (svV b n) := by
  have hp := pow_bd h8
  show svN b n (299 + 1) g = _
  rw [svN]
  exact fmS_cg h (fun p hp hp2 => (svN_st 299 p (by omega) hp2).symm)
theorem svV_bd {b : Nat → Nat} (hb : ∀ j, b j < 256) (n g : Nat) : svV b n g ≤ 76500 := svN_bd hb n 300 g
theorem stS_bd {b : Nat → Nat} (hb : ∀ j, b j < 256) {n g s t : Nat} (h : s ≤ 80000) : stS b n g (svV b n) s t ≤ 80000 := by
  have := svV_bd hb n (g ||| 2 ^ t)
  have := hb (n * pcN g 16 + t)
  unfold stS
  split <;> omega
theorem sell27 {S : St} {b : Nat → Nat} {z n g : Nat} (rc : St → Int32 → Int32 → Option (Int32 × St)) (hb : ∀ j, b j < 256) (hT : TapS b z S) (hz : z ≤ 260) (hn : n * n ≤ z) (h8 : n ≤ 8) (hg : g < 2 ^ n) (hA : ∀ p, g < p → p < 2 ^ n → S.1 17 p = nI (svV b n p)) : fX1_sell_27 rc 300 S (nI n) (nI g) (nI (pcN g 16)) 0 0 = rc (pI S 17 g (nI (svV b n g))) (nI n) (nI g + (-1)) := by
  have hp := pow_bd h8
  have key := loop_inv (F := fun f (s : Nat) j => fX1_sell_27 rc f S (nI n) (nI g) (nI (pcN g 16)) (nI s) (nI j)) (fun j s => s ≤ 80000 ∧ s = itr (stS b n g (svV b n)) 0 j 0) (fun s => rc (pI S 17 g (nI s)) (nI n) (nI g + (-1))) n (fun f s j hj hp => by
    obtain ⟨hs, p2⟩ := hp
    refine ⟨stS b n g (svV b n) s j, ?_, stS_bd hb hs, by rw [itr_sc, ← p2, Nat.zero_add]⟩
    show bX1_sell_27 _ _ _ _ _ _ _ _ = _
    unfold bX1_sell_27
    rw [if_neg (by rw [nle (by omega) (by omega)]; omega)]
    simp only [hs0, hsB_nI (show g < 2 ^ 31 by omega) (show j < 32 by omega), bV_e, nI_1]
    unfold stS
    cases c : g.testBit j with
    | true =>
      simp
    | false =>
      have hor := or_lt hg hj
      have := svV_bd hb n (g ||| 2 ^ j)
      have := hb (n * pcN g 16 + j)
      simp only [if_true, worth1 hT hz hn (pc_lt hg (by omega) hj c) hj, bi_some, bit1 (show j < 31 by omega), or_nI, inbT (show g ||| 2 ^ j < 256 by omega) (show 256 < 2 ^ 31 by decide), nI_clamp (show g ||| 2 ^ j < 2 ^ 31 by omega), hA _ (or_gt c) hor, nI_add, nI_mx (show s < 2 ^ 31 by omega) (show b (n * pcN g 16 + j) + svV b n (g ||| 2 ^ j) < 2 ^ 31 by omega)]
      simp) (fun f s hp => by
    show bX1_sell_27 _ _ _ _ _ _ _ _ = _
    unfold bX1_sell_27
    rw [if_pos (by rw [nle (by omega) (by omega)]; omega), if_pos (inbT (by omega) (by decide)), nI_clamp (by omega)]
    simp only [bS_e, bV_e]) n 300 0 0 (by omega) (by omega) ⟨by omega, rfl⟩
  obtain ⟨s, ⟨_, k1⟩, k2⟩ := key
  rw [k1] at k2
  rw [svV_eq h8 hg]
  exact k2
theorem sell1 {S0 : St} {b : Nat → Nat} {z n : Nat} (hb : ∀ j, b j < 256) (hT : TapS b z S0) (hz : z ≤ 260) (hn : n * n ≤ z) (h8 : n ≤ 8) : ∃ S', Ex 17 S0 S' ∧ (∀ p, p < 2 ^ n → S'.1 17 p = nI (svV b n p)) ∧ fX1_sell S0 (nI n) = some (nI (svV b n 0), S') := by
  have hp := pow_bd h8
  have hp1 : 0 < 2 ^ n := Nat.two_pow_pos n
  have key := loop_dn (F := fun f S i => fX1_sell_12 f S (nI n) (nI i + (-1))) (fun i S => Ex 17 S0 S ∧ ∀ p, i ≤ p → p < 2 ^ n → S.1 17 p = nI (svV b n p)) (fun S => some (S.1 17 0, S)) (2 ^ n) (fun f S i hi hp => by
      obtain ⟨p1, p2⟩ := hp
      refine ⟨pI S 17 i (nI (svV b n i)), ?_, p1.put _ _, fun p hp hp2 => ?_⟩
      · show bX1_sell_12 _ _ _ _ = _
        unfold bX1_sell_12
        rw [pk_m1, if_neg (nI_pos (by omega)), bitCount6 S (show i < 65536 by omega), bi_some]
        exact sell27 _ hb (p1.tapS (by decide) (by decide) hT) hz hn h8 hi (fun p hp hp2 => p2 p (by omega) hp2)
      · by_cases e : p = i
        · subst e; rw [pI_same]
        · rw [pI_cell _ _ (by omega)]; exact p2 p (by omega) hp2) (fun f S hp => by
      show bX1_sell_12 _ _ _ _ = _
      unfold bX1_sell_12
      rw [if_pos (by decide)]) (2 ^ n) 300 S0 (Nat.le_refl _) (by omega) ⟨Ex.rf _ _, fun p h1 h2 => by omega⟩
  obtain ⟨S', ⟨k1, k2⟩, k3⟩ := key
  refine ⟨S', k1, fun p hp => k2 p (Nat.zero_le _) hp, ?_⟩
  rw [k2 0 (Nat.le_refl _) hp1] at k3
  unfold fX1_sell
  rw [bit1 (by omega), li 256, if_neg (by rw [nlt (by decide) (by omega)]; omega), bV_e]
  have e : nI (2 ^ n) - 1 = nI (2 ^ n) + (-1) := Int32.sub_eq_add_neg _ _
  rw [e]
  exact k3
theorem lays25 {M0 : St} {b : Nat → Nat} {n g : Nat} (rc : St → Int32 → Int32 → Option St) (hb : ∀ j, b j < 256) (hT : TapM b M0) (hn : n * n ≤ 260) (h8 : n ≤ 8) (hg : g < 2 ^ n) (hA : ∀ p, g < p → p < 2 ^ n → M0.1 92 p = nI (svV b n p)) (h0 : M0.1 92 g = 0) : ∃ M', (Ex 92 M0 M' ∧ (∀ p, g < p → p < 2 ^ n → M'.1 92 p = nI (svV b n p)) ∧ M'.1 92 g = nI (svV b n g)) ∧ fX12_laysSale_25 rc 300 M0 (nI n) (nI g) (nI (pcN g 16)) 0 = rc M' (nI n) (nI g + (-1)) := by
  have hp := pow_bd h8
  have key := loop_inv (F := fun f S j => fX12_laysSale_25 rc f S (nI n) (nI g) (nI (pcN g 16)) (nI j)) (fun j S => Ex 92 M0 S ∧ (∀ p, g < p → p < 2 ^ n → S.1 92 p = nI (svV b n p)) ∧ S.1 92 g = nI (itr (stS b n g (svV b n)) 0 j 0) ∧ itr (stS b n g (svV b n)) 0 j 0 ≤ 80000) (fun S => rc S (nI n) (nI g + (-1))) n (fun f S j hj hp => by
    obtain ⟨p1, p2, p3, p4⟩ := hp
    have hT2 := p1.tapM (by decide) hT
    have hsc := itr_sc (stS b n g (svV b n)) 0 j 0
    rw [Nat.zero_add] at hsc
    generalize itr (stS b n g (svV b n)) 0 j 0 = s at hsc p3 p4
    rw [hsc]
    have hst := stS_bd hb (n := n) (g := g) (t := j) p4
    have hor := or_lt hg hj
    have := svV_bd hb n (g ||| 2 ^ j)
    have := hb (n * pcN g 16 + j)
    cases c : g.testBit j with
    | true =>
      refine ⟨S, ?_, p1, p2, ?_, hst⟩
      · show bX12_laysSale_25 _ _ _ _ _ _ _ = _
        unfold bX12_laysSale_25
        rw [if_neg (by rw [nle (by omega) (by omega)]; omega)]
        simp only [has12, hsB_nI (show g < 2 ^ 31 by omega) (show j < 32 by omega), bi_some, ite_b2i, c, if_true, bV_e, nI_1]
      · rw [p3]
        unfold stS
        rw [if_pos c]
    | false =>
      refine ⟨pI S 92 g (nI (max s (b (n * pcN g 16 + j) + svV b n (g ||| 2 ^ j)))), ?_, p1.put _ _, fun p hp hp2 => ?_, ?_, hst⟩
      · show bX12_laysSale_25 _ _ _ _ _ _ _ = _
        unfold bX12_laysSale_25
        rw [if_neg (by rw [nle (by omega) (by omega)]; omega)]
        simp only [has12, hsB_nI (show g < 2 ^ 31 by omega) (show j < 32 by omega), bi_some, ite_b2i, c, Bool.false_eq_true, if_false, if_true, bV_e, bS_e, nI_1, worth12 hb hT2 hn (pc_lt hg (by omega) hj c) hj, bit1 (show j < 31 by omega), or_nI, inbT (show g ||| 2 ^ j < 256 by omega) (show 256 < 2 ^ 31 by decide), inbT (show g < 256 by omega) (show 256 < 2 ^ 31 by decide), nI_clamp (show g ||| 2 ^ j < 2 ^ 31 by omega), nI_clamp (show g < 2 ^ 31 by omega), p2 _ (or_gt c) hor, p3, nI_add, max12, nI_mx2 (show s < 2 ^ 31 by omega) (show b (n * pcN g 16 + j) + svV b n (g ||| 2 ^ j) < 2 ^ 31 by omega)]
      · rw [pI_cell _ _ (by omega)]; exact p2 p hp hp2
      · rw [pI_same]
        unfold stS
        rw [c]
        simp) (fun f S hp => by
    show bX12_laysSale_25 _ _ _ _ _ _ _ = _
    unfold bX12_laysSale_25
    rw [if_pos (by rw [nle (by omega) (by omega)]; omega)]
    simp only [bV_e]) n 300 M0 0 (by omega) (by omega) ⟨Ex.rf _ _, hA, h0, by show 0 ≤ 80000; omega⟩
  obtain ⟨M', ⟨k1, k2, k3, _⟩, k4⟩ := key
  refine ⟨M', ⟨k1, k2, ?_⟩, k4⟩
  rw [k3, svV_eq h8 hg]
  rfl
theorem lays12 {M0 : St} {b : Nat → Nat} {n : Nat} (hb : ∀ j, b j < 256) (hT : TapM b M0) (hn : n * n ≤ 260) (h8 : n ≤ 8) : ∃ M', Ex 92 M0 M' ∧ (∀ p, p < 2 ^ n → M'.1 92 p = nI (svV b n p)) ∧ fX12_laysSale M0 (nI n) = some M' := by
  have hp := pow_bd h8
  have hp1 : 0 < 2 ^ n := Nat.two_pow_pos n
  have key := loop_dn (F := fun f S i => fX12_laysSale_6 f S (nI n) (nI i + (-1))) (fun i S => Ex 92 M0 S ∧ ∀ p, i ≤ p → p < 2 ^ n → S.1 92 p = nI (svV b n p)) (fun S => some S) (2 ^ n) (fun f S i hi hp => by
      obtain ⟨p1, p2⟩ := hp
      obtain ⟨M', ⟨q1, q2, q3⟩, q4⟩ := lays25 (M0 := pI S 92 i 0) (fX12_laysSale_6 f) hb ((p1.put i 0).tapM (by decide) hT) hn h8 hi (fun p hp hp2 => by rw [pI_cell _ _ (by omega)]; exact p2 p (by omega) hp2) (pI_same _ _ _ _)
      refine ⟨M', ?_, (p1.put i 0).tr q1, fun p hp hp2 => ?_⟩
      · show bX12_laysSale_6 _ _ _ _ = _
        unfold bX12_laysSale_6
        rw [pk_m1, if_neg (nI_pos (by omega)), bits12 S (show i < 65536 by omega), bi_some, if_pos (inbT (by omega) (by decide)), nI_clamp (by omega)]
        exact q4
      · by_cases e : p = i
        · subst e; exact q3
        · exact q2 p (by omega) hp2) (fun f S hp => by
      show bX12_laysSale_6 _ _ _ _ = _
      unfold bX12_laysSale_6
      rw [if_pos (by decide)]) (2 ^ n) 300 M0 (Nat.le_refl _) (by omega) ⟨Ex.rf _ _, fun p h1 h2 => by omega⟩
  obtain ⟨M', ⟨k1, k2⟩, k3⟩ := key
  refine ⟨M', k1, fun p hp => k2 p (Nat.zero_le _) hp, ?_⟩
  unfold fX12_laysSale
  rw [bit1 (by omega), bV_e]
  have e : nI (2 ^ n) - 1 = nI (2 ^ n) + (-1) := Int32.sub_eq_add_neg _ _
  rw [e]
  exact k3
def Hit (b : Nat → Nat) (n g t : Nat) : Prop := g.testBit t = false ∧ b (n * pcN g 16 + t) + svV b n (g ||| 2 ^ t) = svV b n g
theorem itS_ge (b : Nat → Nat) (n g : Nat) (A : Nat → Nat) : ∀ m t, t < m → g.testBit t = false → b (n * pcN g 16 + t) + A (g ||| 2 ^ t) ≤ itr (stS b n g A) 0 m 0
  | 0, t, h, _ => absurd h (Nat.not_lt_zero t)
  | m + 1, t, h, hf => by
    rw [itr_sc, Nat.zero_add]
    by_cases e : t = m
    · subst e
      rw [stS, if_neg (by rw [hf]; decide)]
      omega
    · have := itS_ge b n g A m t (by omega) hf
      generalize itr (stS b n g A) 0 m 0 = s at this ⊢
      unfold stS
      split <;> omega
theorem itS_at (b : Nat → Nat) (n g : Nat) (A : Nat → Nat) : ∀ m, itr (stS b n g A) 0 m 0 = 0 ∨ ∃ t, t < m ∧ g.testBit t = false ∧ b (n * pcN g 16 + t) + A (g ||| 2 ^ t) = itr (stS b n g A) 0 m 0
  | 0 => Or.inl rfl
  | m + 1 => by
    rw [itr_sc, Nat.zero_add]
    have ih := itS_at b n g A m
    generalize itr (stS b n g A) 0 m 0 = s at ih
    unfold stS
    cases c : g.testBit m with
    | true =>
      simp only [if_true]
      rcases ih with z | ⟨t, h1, h2, h3⟩
      · exact Or.inl z
      · exact Or.inr ⟨t, by omega, h2, h3⟩
    | false =>
      simp only [Bool.false_eq_true, if_false]
      rcases Nat.le_total s (b (n * pcN g 16 + m) + A (g ||| 2 ^ m)) with z | z
      · right
        exact ⟨m, by omega, c, by omega⟩
      · rw [Nat.max_eq_left z]
        rcases ih with y | ⟨t, h1, h2, h3⟩
        · exact Or.inl y
        · exact Or.inr ⟨t, by omega, h2, h3⟩
theorem hit_ex {b : Nat → Nat} {n g : Nat} (h8 : n ≤ 8) (h : g < 2 ^ n) (hp : pcN g 16 < n) : ∃ t, (t < n ∧ Hit b n g t) ∧ ∀ j, j < t → ¬ Hit b n g j := by
  have hex : ∃ t, t < n ∧ Hit b n g t := by
    obtain ⟨t0, h1, h2⟩ := pc_ex h (by omega) hp
    have hv := svV_eq (b := b) h8 h
    unfold fmS at hv
    rcases itS_at b n g (svV b n) n with z | ⟨t, t1, t2, t3⟩
    · have := itS_ge b n g (svV b n) n t0 h1 h2
      exact ⟨t0, h1, h2, by omega⟩
    · exact ⟨t, t1, t2, by rw [t3, hv]⟩
  obtain ⟨t, h1, h2⟩ := pk_least (fun t => t < n ∧ Hit b n g t) hex
  exact ⟨t, h1, fun j hj hh => h2 j hj ⟨by omega, hh⟩⟩
theorem turnOf1 {S : St} {b : Nat → Nat} {z n g t : Nat} (hb : ∀ j, b j < 256) (hT : TapS b z S) (hz : z ≤ 260) (hn : n * n ≤ z) (h8 : n ≤ 8) (hg : g < 2 ^ n) (hA : ∀ p, p < 2 ^ n → S.1 17 p = nI (svV b n p)) (ht : t < n) (h1 : Hit b n g t) (h2 : ∀ j, j < t → ¬ Hit b n g j) : ∀ m i f, i + m = t → m < f → fX1_turnOf_3 f S (nI (pcN g 16)) (nI g) (nI n) (nI i) = some (nI t, S) := by
  have hp := pow_bd h8
  intro m
  have step : ∀ i f, i < n → fX1_turnOf_3 (f + 1) S (nI (pcN g 16)) (nI g) (nI n) (nI i) = (if g.testBit i = true then fX1_turnOf_3 f S (nI (pcN g 16)) (nI g) (nI n) (nI (i + 1)) else if b (n * pcN g 16 + i) + svV b n (g ||| 2 ^ i) = svV b n g then some (nI i, S) else fX1_turnOf_3 f S (nI (pcN g 16)) (nI g) (nI n) (nI (i + 1))) := by
    intro i f hi
    show bX1_turnOf_3 _ _ _ _ _ _ = _
    unfold bX1_turnOf_3 fX1_turnOf_30
    rw [if_neg (by rw [nle (by omega) (by omega)]; omega), li 256, if_neg (by rw [nle (by decide) (by omega)]; omega)]
    simp only [hs0, hsB_nI (show g < 2 ^ 31 by omega) (show i < 32 by omega), bV_e, nI_1]
    cases c : g.testBit i with
    | true =>
      simp
    | false =>
      have hor := or_lt hg hi
      have := svV_bd hb n (g ||| 2 ^ i)
      have := svV_bd hb n g
      have := hb (n * pcN g 16 + i)
      have h10 : ¬ (1 : Int32) = 0 := by decide
      simp only [if_true, h10, if_false, worth1 hT hz hn (pc_lt hg (by omega) hi c) hi, bi_some, bit1 (show i < 31 by omega), or_nI, inbT (show g ||| 2 ^ i < 256 by omega) (show 256 < 2 ^ 31 by decide), inbT (show g < 256 by omega) (show 256 < 2 ^ 31 by decide), nI_clamp (show g ||| 2 ^ i < 2 ^ 31 by omega), nI_clamp (show g < 2 ^ 31 by omega), hA _ hor, hA _ hg, nI_add, neq (show b (n * pcN g 16 + i) + svV b n (g ||| 2 ^ i) < 2 ^ 31 by omega) (show svV b n g < 2 ^ 31 by omega)]
      simp
  induction m with
  | zero =>
    intro i f e1 e2
    obtain ⟨f, rfl⟩ : ∃ k', f = k' + 1 := ⟨f - 1, by omega⟩
    have : i = t := by omega
    subst this
    rw [step i f ht, if_neg (by rw [h1.1]; decide), if_pos h1.2]
  | succ m ih =>
    intro i f e1 e2
    obtain ⟨f, rfl⟩ : ∃ k', f = k' + 1 := ⟨f - 1, by omega⟩
    rw [step i f (by omega)]
    cases c : g.testBit i with
    | true => rw [if_pos rfl]; exact ih (i + 1) f (by omega) (by omega)
    | false =>
      rw [if_neg (by decide), if_neg (fun q => h2 i (by omega) ⟨c, q⟩)]
      exact ih (i + 1) f (by omega) (by omega)
theorem sale76 {M : St} {b : Nat → Nat} {n g t : Nat} (rc : St → Int32 → Int32 → Int32 → Int32 → Option (Int32 × St)) (x : Int32) (hb : ∀ j, b j < 256) (hT : TapM b M) (hn : n * n ≤ 260) (h8 : n ≤ 8) (hg : g < 2 ^ n) (hA : ∀ p, p < 2 ^ n → M.1 92 p = nI (svV b n p)) (ht : t < n) (h1 : Hit b n g t) (h2 : ∀ j, j < t → ¬ Hit b n g j) : ∀ m i f, i + m = t → m < f → fX12_sale_76 rc f M (nI n) x (nI g) (nI (pcN g 16)) (nI i) = (if nI t = x then some (nI (pcN g 16), M) else rc M (nI n) x (nI (g ||| 2 ^ t)) (nI (pcN g 16 + 1))) := by
  have hp := pow_bd h8
  intro m
  have step : ∀ i f, i < n → fX12_sale_76 rc (f + 1) M (nI n) x (nI g) (nI (pcN g 16)) (nI i) = (if g.testBit i = true then fX12_sale_76 rc f M (nI n) x (nI g) (nI (pcN g 16)) (nI (i + 1)) else if b (n * pcN g 16 + i) + svV b n (g ||| 2 ^ i) = svV b n g then (if nI i = x then some (nI (pcN g 16), M) else rc M (nI n) x (nI (g ||| 2 ^ i)) (nI (pcN g 16 + 1))) else fX12_sale_76 rc f M (nI n) x (nI g) (nI (pcN g 16)) (nI (i + 1))) := by
    intro i f hi
    show bX12_sale_76 _ _ _ _ _ _ _ _ = _
    unfold bX12_sale_76 fX12_sale_115
    simp only [has12, hsB_nI (show g < 2 ^ 31 by omega) (show i < 32 by omega), bi_some, ite_b2i, bV_e, nI_1]
    cases c : g.testBit i with
    | true =>
      simp
    | false =>
      have hor := or_lt hg hi
      have := svV_bd hb n (g ||| 2 ^ i)
      have := svV_bd hb n g
      have := hb (n * pcN g 16 + i)
      simp only [Bool.false_eq_true, if_false, if_true, worth12 hb hT hn (pc_lt hg (by omega) hi c) hi, bi_some, bit1 (show i < 31 by omega), or_nI, inbT (show g ||| 2 ^ i < 256 by omega) (show 256 < 2 ^ 31 by decide), inbT (show g < 256 by omega) (show 256 < 2 ^ 31 by decide), nI_clamp (show g ||| 2 ^ i < 2 ^ 31 by omega), nI_clamp (show g < 2 ^ 31 by omega), hA _ hor, hA _ hg, nI_add, neq (show b (n * pcN g 16 + i) + svV b n (g ||| 2 ^ i) < 2 ^ 31 by omega) (show svV b n g < 2 ^ 31 by omega)]
  induction m with
  | zero =>
    intro i f e1 e2
    obtain ⟨f, rfl⟩ : ∃ k', f = k' + 1 := ⟨f - 1, by omega⟩
    have : i = t := by omega
    subst this
    rw [step i f ht, if_neg (by rw [h1.1]; decide), if_pos h1.2]
  | succ m ih =>
    intro i f e1 e2
    obtain ⟨f, rfl⟩ : ∃ k', f = k' + 1 := ⟨f - 1, by omega⟩
    rw [step i f (by omega)]
    cases c : g.testBit i with
    | true => rw [if_pos rfl]; exact ih (i + 1) f (by omega) (by omega)
    | false =>
      rw [if_neg (by decide), if_neg (fun q => h2 i (by omega) ⟨c, q⟩)]
      exact ih (i + 1) f (by omega) (by omega)
theorem buyers {S M : St} {b : Nat → Nat} {z n : Nat} (x : Int32) (hb : ∀ j, b j < 256) (hT : TapS b z S) (hT2 : TapM b M) (hz : z ≤ 260) (hn : n * n ≤ z) (h8 : n ≤ 8) (hA : ∀ p, p < 2 ^ n → S.1 17 p = nI (svV b n p)) (hA2 : ∀ p, p < 2 ^ n → M.1 92 p = nI (svV b n p)) : ∀ m g f, pcN g 16 + m = n → m < f → g < 2 ^ n → ∃ v, fX1_buyerOf_5 f S x (nI n) (nI g) (nI (pcN g 16)) = some (v, S) ∧ fX12_sale_67 f M (nI n) x (nI g) (nI (pcN g 16)) = some (v, M) := by
  intro m
  induction m with
  | zero =>
    intro g f e1 e2 hg
    obtain ⟨f, rfl⟩ : ∃ k', f = k' + 1 := ⟨f - 1, by omega⟩
    refine ⟨-1, ?_, ?_⟩
    · show bX1_buyerOf_5 _ _ _ _ _ _ = _
      unfold bX1_buyerOf_5
      rw [if_pos (by rw [nle (by omega) (by omega)]; omega)]
    · show bX12_sale_67 _ _ _ _ _ _ = _
      unfold bX12_sale_67
      rw [if_pos (by rw [nle (by omega) (by omega)]; omega)]
  | succ m ih =>
    intro g f e1 e2 hg
    obtain ⟨f, rfl⟩ : ∃ k', f = k' + 1 := ⟨f - 1, by omega⟩
    obtain ⟨t, ⟨t1, t2⟩, t3⟩ := hit_ex (b := b) h8 hg (by omega)
    have hpc := pc_or (show t < 16 by omega) t2.1
    obtain ⟨v, i1, i2⟩ := ih (g ||| 2 ^ t) f (by omega) (by omega) (or_lt hg t1)
    rw [hpc] at i1 i2
    have g1 : fX1_turnOf S (nI (pcN g 16)) (nI g) (nI n) = some (nI t, S) := turnOf1 hb hT hz hn h8 hg hA t1 t2 t3 t 0 100 (by omega) (by omega)
    have g2 : fX12_sale_76 (fX12_sale_67 f) 100 M (nI n) x (nI g) (nI (pcN g 16)) 0 = _ := sale76 (fX12_sale_67 f) x hb hT2 (by omega) h8 hg hA2 t1 t2 t3 t 0 100 (by omega) (by omega)
    have f1 : fX1_buyerOf_5 (f + 1) S x (nI n) (nI g) (nI (pcN g 16)) = (if nI t = x then some (nI (pcN g 16), S) else some (v, S)) := by
      show bX1_buyerOf_5 _ _ _ _ _ _ = _
      unfold bX1_buyerOf_5
      rw [if_neg (by rw [nle (by omega) (by omega)]; omega)]
      simp only [g1, bi_some, bV_e, nI_1, bit1 (show t < 31 by omega), or_nI, i1]
    have f2 : fX12_sale_67 (f + 1) M (nI n) x (nI g) (nI (pcN g 16)) = (if nI t = x then some (nI (pcN g 16), M) else some (v, M)) := by
      show bX12_sale_67 _ _ _ _ _ _ = _
      unfold bX12_sale_67
      rw [if_neg (by rw [nle (by omega) (by omega)]; omega), g2, i2]
    rw [f1, f2]
    by_cases c : nI t = x
    · rw [if_pos c, if_pos c]
      exact ⟨_, rfl, rfl⟩
    · rw [if_neg c, if_neg c]
      exact ⟨_, rfl, rfl⟩
theorem sim_sale (S M : St) (x y : Int32) (h : Rel S M) : ∃ v S1 M1, fX11_sale S x y = some (v, S1) ∧ fX12_sale M x y = some (v, M1) ∧ Rel S1 M1 := by
  obtain ⟨b, z, hz, hb, hT, hT2, hz2⟩ := h.tap
  unfold fX11_sale fX12_sale fX11_sale_43 fX12_sale_27 fX11_sale_71
  simp only [in12, bi_some, ite_b2i, rng2, i0, i2, i8]
  by_cases hx : inR x 2 8 = true
  · obtain ⟨n, h2, h8, rfl⟩ := inR_natL (m := 2) (n := 8) hx (by decide)
    have hnn : n * n ≤ 64 := Nat.mul_le_mul h8 h8
    have e1 : (nI n - 1).toInt = (n : Int) - 1 := by rw [li 1, pk_sub (by omega), nI_toInt (by omega)]; omega
    simp only [hx, if_true, e1, pk_mul, holds7 hT hz (show n * n < 2 ^ 31 by omega), bi_some, ite_b2i, hz2, nle (show n * n < 2 ^ 31 by omega) (show z < 2 ^ 31 by omega), bS_e, Ilt y, i0, nI_toInt (show n < 2 ^ 31 by omega)]
    by_cases hn : n * n ≤ z
    · obtain ⟨S', a1, a2, a3⟩ := sell1 hb hT hz hn h8
      obtain ⟨M', b1, b2, b3⟩ := lays12 (M0 := pI M 55 11 0) hb (hT2.clr 0) (by omega) h8
      have hr : Rel (pI S' 1 1 0) M' := h.done (a1.eqC (h.nc (by decide) (by decide))) (b1.eqM (by unfold coreM; omega))
      by_cases hy : y = 100
      · subst hy
        have n1 : ¬ inR 100 0 ((n : Int) - 1) = true := by
          rw [inR_t, i100]
          omega
        simp only [hn, n1, decide_true, if_true, Bool.false_eq_true, if_false, a3, b3, bi_some, bv_some, clear7, b2 0 (Nat.two_pow_pos n)]
        exact ⟨_, _, _, rfl, rfl, hr⟩
      · by_cases hy2 : inR y 0 ((n : Int) - 1) = true
        · have hy3 := inR_t.mp hy2
          have c1 : ¬ y.toInt < 0 := by omega
          have c2 : y.toInt < n := by omega
          obtain ⟨v, g1, g2⟩ := buyers y hb (a1.tapS (by decide) (by decide) hT) (b1.tapM (by decide) (hT2.clr 0)) hz hn h8 a2 b2 n 0 100 (by rw [pcN_0]; omega) (by omega) (Nat.two_pow_pos n)
          rw [pcN_0] at g1 g2
          have g1 : fX1_buyerOf S' y (nI n) = some (v, S') := g1
          have g2 : fX12_sale_67 100 M' (nI n) y 0 0 = some (v, M') := g2
          simp only [hn, hy, hy2, c1, c2, decide_true, if_true, if_false, a3, b3, bi_some, bv_some, clear7, g1, g2]
          exact ⟨_, _, _, rfl, rfl, hr⟩
        · have hy3 : y.toInt < 0 ∨ ¬ y.toInt < n := by
            rw [inR_t] at hy2
            omega
          simp only [hn, hy, hy2, decide_true, if_true, Bool.false_eq_true, if_false]
          rcases hy3 with c | c
          · simp only [c, if_true]
            exact ⟨_, _, _, rfl, rfl, h⟩
          · simp only [c, if_false, ite_self]
            exact ⟨_, _, _, rfl, rfl, h⟩
    · simp only [hn, decide_false, Bool.false_eq_true, if_false, ite_self]
      exact ⟨_, _, _, rfl, rfl, h⟩
  · simp only [hx]
    exact ⟨_, _, _, rfl, rfl, h⟩
