-- second
def wv (M : St) (a : Nat) : Nat := if (hN M).testBit a = true then everN M a else 0
theorem wv_lt (M : St) (a : Nat) : wv M a < 65536 := by
  have := everN_lt M a
  unfold wv
  split <;> omega
def covs (w : Nat → Nat) (s miss : Nat) : Prop := ∀ j, miss.testBit j = true → ∃ a, a < 16 ∧ s.testBit a = true ∧ (w a).testBit j = true
def subs (c : Nat → Nat) (n s : Nat) : Prop := ∀ a, s.testBit a = true → ∃ i, i < n ∧ c i = a
def dif (m v : Nat) : Nat := m &&& (nI v ^^^ (-1 : Int32)).toBitVec.toNat
theorem dif_e {m v : Nat} (h : m < 2 ^ 31) : nI m &&& (nI v ^^^ (-1 : Int32)) = nI (dif m v) := and_any h _
theorem dif_le (m v : Nat) : dif m v ≤ m := Nat.and_le_left
theorem dif_tb {m v i : Nat} (h : m < 65536) (hv : v < 65536) : (dif m v).testBit i = (m.testBit i && !v.testBit i) := by
  unfold dif
  rw [Nat.testBit_and]
  by_cases hi : i < 32
  · rw [not_tb hi, BitVec.getLsbD_ofNat]
    simp [hi]
  · rw [tb_big h (by omega)]
    simp
theorem lt_of_tb {v n : Nat} (h : ∀ i, n ≤ i → v.testBit i = false) : v < 2 ^ n := Nat.lt_pow_two_of_testBit _ h
theorem ge_of_tb {v n : Nat} (h : v.testBit n = true) : 2 ^ n ≤ v := by
  rcases Nat.lt_or_ge v (2 ^ n) with z | z
  · rw [Nat.testBit_lt_two_pow z] at h; cases h
  · exact z
theorem tb_lt {x y i : Nat} (hx : x.testBit i = false) (hy : y.testBit i = true) (hz : ∀ j, i < j → x.testBit j = y.testBit j) : x < y := by
  have hq : x / 2 ^ (i + 1) = y / 2 ^ (i + 1) := by
    apply Nat.eq_of_testBit_eq
    intro j
    rw [Nat.testBit_div_two_pow, Nat.testBit_div_two_pow]
    exact hz _ (by omega)
  have h1 : x % 2 ^ (i + 1) < 2 ^ i := lt_of_tb fun j hj => by
    rw [Nat.testBit_mod_two_pow]
    by_cases e : j = i
    · subst e; rw [hx, Bool.and_false]
    · have : ¬ j < i + 1 := by omega
      simp [this]
  have h2 : 2 ^ i ≤ y % 2 ^ (i + 1) := ge_of_tb (by rw [Nat.testBit_mod_two_pow, hy]; simp)
  have h3 := Nat.div_add_mod x (2 ^ (i + 1))
  have h4 := Nat.div_add_mod y (2 ^ (i + 1))
  rw [hq] at h3
  omega
theorem cb_or {s j : Nat} (h : s < 65536) (hj : j < 31) (hb : s.testBit j = true) : cb s j ||| 2 ^ j = s := by
  apply Nat.eq_of_testBit_eq
  intro i
  rw [Nat.testBit_or, cb_tb h hj, Nat.testBit_two_pow]
  by_cases e : j = i
  · subst e; simp [hb]
  · simp [e]
theorem pc_cb {s j : Nat} (h : s < 65536) (hj : j < 16) (hb : s.testBit j = true) : pcN s 16 = pcN (cb s j) 16 + 1 := by
  have h1 := pc_or (g := cb s j) hj (by rw [cb_tb h (by omega)]; simp)
  rw [cb_or h (by omega) hb] at h1
  exact h1
theorem or_ad {v c : Nat} (h : v < 2 ^ c) : v ||| 2 ^ c = v + 2 ^ c := by
  have := Nat.two_pow_add_eq_or_of_lt h 1
  rw [Nat.mul_one] at this
  rw [Nat.or_comm, ← this, Nat.add_comm]
theorem pc_pos {s : Nat} (h0 : s ≠ 0) (h : s < 65536) : 0 < pcN s 16 := by
  obtain ⟨j, hj, hb⟩ := ex_bit h0 h
  rw [pc_cb h hj hb]
  omega
theorem cov0 {w : Nat → Nat} {miss : Nat} (h0 : miss ≠ 0) (h : miss < 65536) : ¬ covs w 0 miss := by
  intro hc
  obtain ⟨j, hj, hb⟩ := ex_bit h0 h
  obtain ⟨a, _, h2, _⟩ := hc j hb
  rw [Nat.zero_testBit] at h2
  cases h2
def LwS (w c : Nat → Nat) (n k miss : Nat) (r : Int32) : Prop := (r = -1 ∧ ∀ s, s < 65536 → subs c n s → pcN s 16 ≤ k → ¬ covs w s miss) ∨ ∃ v, r = nI v ∧ v < 65536 ∧ subs c n v ∧ pcN v 16 ≤ k ∧ covs w v miss ∧ ∀ s, s < 65536 → subs c n s → pcN s 16 ≤ k → covs w s miss → v ≤ s
theorem lws_0 (w c : Nat → Nat) (n k : Nat) : LwS w c n k 0 0 := by
  refine Or.inr ⟨0, rfl, by decide, fun a ha => ?_, by rw [pcN_0]; omega, fun j hj => ?_, fun s _ _ _ _ => Nat.zero_le _⟩
  · rw [Nat.zero_testBit] at ha; cases ha
  · rw [Nat.zero_testBit] at hj; cases hj
theorem subs_dn {c : Nat → Nat} {n s : Nat} (h : subs c (n + 1) s) (hb : s.testBit (c n) = false) : subs c n s := by
  intro a ha
  obtain ⟨i, hi, e⟩ := h a ha
  by_cases z : i = n
  · subst z; rw [e, ha] at hb; cases hb
  · exact ⟨i, by omega, e⟩
theorem lws_s {w c : Nat → Nat} {n k miss : Nat} (hw : ∀ a, w a < 65536) (hc : ∀ i, i < n → c i < c n) (hcn : c n < 16) (hm : miss < 65536) {r1 r2 : Int32} (h1 : LwS w c n (k + 1) miss r1) (h2 : LwS w c n k (dif miss (w (c n))) r2) : LwS w c (n + 1) (k + 1) miss (if r1 = -1 then if r2 = -1 then -1 else r2 ||| ((1 : Int32) <<< (nI (c n) &&& 31)) else r1) := by
  have small : ∀ {v}, subs c n v → v < 2 ^ c n := fun {v} hv => lt_of_tb fun i hi => by
    cases q : v.testBit i with
    | false => rfl
    | true =>
      obtain ⟨j, hj, e⟩ := hv i q
      have := hc j hj
      omega
  have hs2 : ∀ s, s < 65536 → subs c (n + 1) s → pcN s 16 ≤ k + 1 → covs w s miss → s.testBit (c n) = true → subs c n (cb s (c n)) ∧ pcN (cb s (c n)) 16 ≤ k ∧ covs w (cb s (c n)) (dif miss (w (c n))) := by
    intro s hs hsub hp hcv hb
    refine ⟨?_, ?_, ?_⟩
    · apply subs_dn
      · intro a ha
        rw [cb_tb hs (by omega), Bool.and_eq_true] at ha
        exact hsub a ha.1
      · rw [cb_tb hs (by omega)]; simp
    · have := pc_cb hs hcn hb
      omega
    · intro j hj
      rw [dif_tb hm (hw _), Bool.and_eq_true] at hj
      obtain ⟨a, ha, q1, q2⟩ := hcv j hj.1
      refine ⟨a, ha, ?_, q2⟩
      rw [cb_tb hs (by omega), q1]
      by_cases e : c n = a
      · subst e
        rw [q2] at hj
        simp at hj
      · simp [e]
  rcases h1 with ⟨e1, n1⟩ | ⟨v, e1, v1, v2, v3, v4, v5⟩
  · rw [if_pos e1]
    have hin : ∀ s, s < 65536 → subs c (n + 1) s → pcN s 16 ≤ k + 1 → covs w s miss → s.testBit (c n) = true := by
      intro s hs hsub hp hcv
      cases q : s.testBit (c n) with
      | true => rfl
      | false => exact absurd hcv (n1 s hs (subs_dn hsub q) hp)
    rcases h2 with ⟨e2, n2⟩ | ⟨v, e2, v1, v2, v3, v4, v5⟩
    · rw [if_pos e2]
      refine Or.inl ⟨rfl, fun s hs hsub hp hcv => ?_⟩
      obtain ⟨a1, a2, a3⟩ := hs2 s hs hsub hp hcv (hin s hs hsub hp hcv)
      exact n2 _ (Nat.lt_of_le_of_lt (cb_le _ _) hs) a1 a2 a3
    · rw [if_neg (by rw [e2]; exact nm1 (by omega)), e2, bit1 (by omega), or_nI]
      have hlt := small v2
      have hf : v.testBit (c n) = false := Nat.testBit_lt_two_pow hlt
      refine Or.inr ⟨_, rfl, or_lt (n := 16) v1 hcn, ?_, ?_, ?_, ?_⟩
      · intro a ha
        rw [Nat.testBit_or, Nat.testBit_two_pow, Bool.or_eq_true] at ha
        rcases ha with q | q
        · obtain ⟨i, hi, e⟩ := v2 a q
          exact ⟨i, by omega, e⟩
        · exact ⟨n, by omega, by simpa using q⟩
      · rw [pc_or hcn hf]; omega
      · intro j hj
        by_cases q : (w (c n)).testBit j = true
        · exact ⟨c n, hcn, by rw [Nat.testBit_or, Nat.testBit_two_pow]; simp, q⟩
        · obtain ⟨a, ha, q1, q2⟩ := v4 j (by rw [dif_tb hm (hw _), hj]; simpa using q)
          exact ⟨a, ha, by rw [Nat.testBit_or, q1]; rfl, q2⟩
      · intro s hs hsub hp hcv
        have hb := hin s hs hsub hp hcv
        obtain ⟨a1, a2, a3⟩ := hs2 s hs hsub hp hcv hb
        have := v5 _ (Nat.lt_of_le_of_lt (cb_le _ _) hs) a1 a2 a3
        have e3 := cb_or hs (show c n < 31 by omega) hb
        rw [or_ad (small a1)] at e3
        rw [or_ad hlt]
        omega
  · rw [if_neg (by rw [e1]; exact nm1 (by omega))]
    refine Or.inr ⟨v, e1, v1, fun a ha => ?_, v3, v4, fun s hs hsub hp hcv => ?_⟩
    · obtain ⟨i, hi, e⟩ := v2 a ha
      exact ⟨i, by omega, e⟩
    · cases q : s.testBit (c n) with
      | false => exact v5 s hs (subs_dn hsub q) hp hcv
      | true =>
        have := ge_of_tb q
        have := small v2
        omega
def CaS (S : St) (t : Nat) (c : Nat → Nat) (m : Nat) : Prop := m ≤ 16 ∧ (∀ i, i < m → S.1 (t + 7) i = nI (c i) ∧ c i < 16) ∧ ∀ i j, i < j → j < m → c i < c j
theorem wholeV {S M : St} (h : Rel S M) {a : Nat} (ha : a < 16) : fX8_wholeView (S.2.2 0) S (nI a) = some (nI (wv M a), S) := wholeView8 h ha
theorem lw8 {S M : St} (h : Rel S M) {c : Nat → Nat} {m : Nat} (hC : CaS S (S.2.2 0) c m) : ∀ n f k miss, n < f → n ≤ m → k ≤ 16 → miss < 65536 → ∃ r, LwS (wv M) c n k miss r ∧ fLW f (S.2.2 0) S (nI n) (nI k) (nI miss) = some (r, S) := by
  intro n
  induction n with
  | zero =>
    intro f k miss hf hn hk hm
    obtain ⟨f, rfl⟩ : ∃ f', f = f' + 1 := ⟨f - 1, by omega⟩
    show ∃ r, _ ∧ fX8_leastWatchers (fLW f) _ _ _ _ _ = _
    unfold fX8_leastWatchers
    by_cases h0 : miss = 0
    · subst h0
      exact ⟨0, lws_0 _ _ _ _, if_pos rfl⟩
    · refine ⟨-1, Or.inl ⟨rfl, fun s hs hsub _ hcv => ?_⟩, ?_⟩
      · have : s = 0 := by
          apply Nat.eq_of_testBit_eq
          intro i
          rw [Nat.zero_testBit]
          cases q : s.testBit i with
          | false => rfl
          | true =>
            obtain ⟨j, hj, _⟩ := hsub i q
            omega
        rw [this] at hcv
        exact cov0 h0 hm hcv
      · rw [if_neg (by rw [li 0, neq (by omega) (by decide)]; exact h0), if_pos (by decide)]
  | succ n ih =>
    intro f k miss hf hn hk hm
    obtain ⟨f, rfl⟩ : ∃ f', f = f' + 1 := ⟨f - 1, by omega⟩
    show ∃ r, _ ∧ fX8_leastWatchers (fLW f) _ _ _ _ _ = _
    unfold fX8_leastWatchers
    by_cases h0 : miss = 0
    · subst h0
      exact ⟨0, lws_0 _ _ _ _, if_pos rfl⟩
    · have hm16 := hC.1
      rw [if_neg (show ¬ nI miss = 0 by rw [li 0, neq (by omega) (by decide)]; exact h0), if_neg (show ¬ nI (n + 1) ≤ 0 by rw [li 0, nle (by omega) (by decide)]; omega), if_neg (show ¬ (16 : Int32) < nI (n + 1) by rw [li 16, nlt (by decide) (by omega)]; omega)]
      cases k with
      | zero =>
        refine ⟨-1, Or.inl ⟨rfl, fun s hs hsub hp hcv => ?_⟩, if_neg (by decide)⟩
        by_cases e : s = 0
        · rw [e] at hcv
          exact cov0 h0 hm hcv
        · have := pc_pos e hs
          omega
      | succ k =>
        obtain ⟨g1, g2⟩ := hC.2.1 n (by omega)
        have hc : ∀ i, i < n → c i < c n := fun i hi => hC.2.2 i n hi (by omega)
        obtain ⟨r1, p1, q1⟩ := ih f (k + 1) miss (by omega) (by omega) (by omega) hm
        obtain ⟨r2, p2, q2⟩ := ih f k (dif miss (wv M (c n))) (by omega) (by omega) (by omega) (Nat.lt_of_le_of_lt (dif_le _ _) hm)
        refine ⟨_, lws_s (wv_lt M) hc g2 hm p1 p2, ?_⟩
        have e1 : ∀ a, nI (a + 1) - (1 : Int32) = nI a := fun a => by rw [Int32.sub_eq_add_neg, pk_m1]
        rw [if_pos (show 0 < nI (k + 1) by rw [li 0, nlt (by decide) (by omega)]; omega)]
        simp only [e1, q1, bi_some, inbT (show n < 16 by omega) (show 16 < 2 ^ 31 by decide), if_true, nI_clamp (show n < 2 ^ 31 by omega), g1, bV_e, wholeV h g2, dif_e (show miss < 2 ^ 31 by omega), q2]
        by_cases z1 : r1 = -1
        · by_cases z2 : r2 = -1
          · simp only [z1, z2, if_true]
          · simp only [z1, z2, if_true, if_false]
        · simp only [z1, if_false]
-- the candidates
def nsF (w c : Nat → Nat) (a : Nat) : Nat → Nat → Bool
  | 0, _ => true
  | n + 1, i => decide (w (c i) ≠ w a) && nsF w c a n (i + 1)
theorem nsF_t {w c : Nat → Nat} {a : Nat} : ∀ n i, nsF w c a n i = true ↔ ∀ j, i ≤ j → j < i + n → w (c j) ≠ w a
  | 0, i => by
    constructor
    · intro _ j h1 h2; omega
    · intro _; rfl
  | n + 1, i => by
    rw [nsF, Bool.and_eq_true, nsF_t n (i + 1), decide_eq_true_eq]
    constructor
    · rintro ⟨h1, h2⟩ j h3 h4
      by_cases e : j = i
      · subst e; exact h1
      · exact h2 j (by omega) (by omega)
    · intro h
      exact ⟨h i (by omega) (by omega), fun j h1 h2 => h j (by omega) (by omega)⟩
theorem ga27 {S M : St} (h : Rel S M) {c : Nat → Nat} {m a : Nat} (rc : St → Int32 → Int32 → Option (Int32 × St)) (hC : CaS S (S.2.2 0) c m) (ha : a < 16) : ∀ n i f (an : Bool), i + n = m → n < f → fX8_gatherCandidates_27 (S.2.2 0) rc f S (nI m) (nI a) (b2i an) (nI i) = fX8_gatherCandidates_68 (S.2.2 0) rc S (nI m) (nI a) (b2i (an && nsF (wv M) c a n i)) := by
  intro n
  have hm := hC.1
  induction n with
  | zero =>
    intro i f an h1 h2
    obtain ⟨f, rfl⟩ : ∃ f', f = f' + 1 := ⟨f - 1, by omega⟩
    have : i = m := by omega
    subst this
    show bX8_gatherCandidates_27 _ _ _ _ _ _ _ _ = _
    unfold bX8_gatherCandidates_27
    rw [if_pos (by rw [nle (by omega) (by omega)]; omega), nsF, Bool.and_true]
  | succ n ih =>
    intro i f an h1 h2
    obtain ⟨f, rfl⟩ : ∃ f', f = f' + 1 := ⟨f - 1, by omega⟩
    show bX8_gatherCandidates_27 _ _ _ _ _ _ _ _ = _
    unfold bX8_gatherCandidates_27
    rw [if_neg (by rw [nle (by omega) (by omega)]; omega)]
    cases an with
    | false => rw [b2i_f, if_pos rfl, Bool.false_and, b2i_f]
    | true =>
      obtain ⟨g1, g2⟩ := hC.2.1 i (by omega)
      have := wv_lt M a
      have := wv_lt M (c i)
      rw [if_neg (by decide), if_pos (inbT (by omega) (by decide))]
      simp only [nI_clamp (show i < 2 ^ 31 by omega), g1, wholeV h g2, wholeV h ha, bi_some, bV_e, nI_1, neq (show wv M (c i) < 2 ^ 31 by omega) (show wv M a < 2 ^ 31 by omega)]
      rw [nsF]
      by_cases e : wv M (c i) = wv M a
      · rw [if_pos e]
        have := ih (i + 1) f false (by omega) (by omega)
        rw [b2i_f] at this
        rw [this]
        simp [e]
      · rw [if_neg e]
        have := ih (i + 1) f true (by omega) (by omega)
        rw [b2i_t] at this
        rw [this]
        simp [e]
def GaP (S0 M : St) (i : Nat) (s : St × Nat) : Prop := EqC S0 s.1 ∧ s.2 ≤ i ∧ ∃ c, CaS s.1 (S0.2.2 0) c s.2 ∧ (∀ j, j < s.2 → c j < i) ∧ ∀ a, a < i → wv M a ≠ 0 → ∃ j, j < s.2 ∧ c j ≤ a ∧ wv M (c j) = wv M a
theorem nc7 {S M : St} (h : Rel S M) (k : Nat) : ¬ coreC (S.2.2 0) (S.2.2 2) (S.2.2 0 + 7) k := by
  have h1 := h.2.1.1
  have h2 := h.2.2.2.2.2.2.2.1
  unfold isT at h1
  unfold isL at h2
  unfold coreC
  omega
theorem ga_step {S0 M : St} (h0 : Rel S0 M) (f : Nat) (s : St × Nat) (i : Nat) (hi : i < 16) (hp : GaP S0 M i s) : ∃ s1 : St × Nat, fX8_gatherCandidates_4 (S0.2.2 0) (f + 1) s.1 (nI s.2) (nI i) = fX8_gatherCandidates_4 (S0.2.2 0) f s1.1 (nI s1.2) (nI (i + 1)) ∧ GaP S0 M (i + 1) s1 := by
  obtain ⟨S, m⟩ := s
  obtain ⟨p1, p2, c, p3, p4, p5⟩ := hp
  have h : Rel S M := h0.keep p1 (EqM.rf M)
  have et : S.2.2 0 = S0.2.2 0 := by rw [p1.1]
  have p2 : m ≤ i := p2
  have hw := wv_lt M i
  have nx : nsF (wv M) c i m 0 = true ↔ ∀ j, j < m → wv M (c j) ≠ wv M i := by
    rw [nsF_t]
    constructor
    · intro q j hj; exact q j (by omega) (by omega)
    · intro q j _ hj; exact q j (by omega)
  have hb : fX8_gatherCandidates_4 (S0.2.2 0) (f + 1) S (nI m) (nI i) = fX8_gatherCandidates_68 (S0.2.2 0) (fX8_gatherCandidates_4 (S0.2.2 0) f) S (nI m) (nI i) (b2i (decide (wv M i ≠ 0) && nsF (wv M) c i m 0)) := by
    show bX8_gatherCandidates_4 _ _ _ _ _ = _
    unfold bX8_gatherCandidates_4
    rw [li 16, if_neg (by rw [nle (by decide) (by omega)]; omega), ← et, wholeV h hi, bi_some]
    have g1 := ga27 h (fX8_gatherCandidates_4 (S.2.2 0) f) (by rw [et]; exact p3) hi m 0 100 false (by omega) (by omega)
    have g2 := ga27 h (fX8_gatherCandidates_4 (S.2.2 0) f) (by rw [et]; exact p3) hi m 0 100 true (by omega) (by omega)
    have e0 : (nI (wv M i) = 0) = (wv M i = 0) := neq (b := 0) (by omega) (by decide)
    by_cases e : wv M i = 0
    · rw [if_pos (by rw [e0]; exact e), e]
      exact g1
    · rw [if_neg (by rw [e0]; exact e)]
      have : decide (wv M i ≠ 0) = true := by simpa using e
      rw [this]
      exact g2
  cases q : (decide (wv M i ≠ 0) && nsF (wv M) c i m 0) with
  | false =>
    refine ⟨(S, m), ?_, p1, by show m ≤ i + 1; omega, c, p3, fun j hj => by have := p4 j hj; omega, fun a ha hwa => ?_⟩
    · show fX8_gatherCandidates_4 _ _ S (nI m) _ = _
      rw [hb, q]
      unfold fX8_gatherCandidates_68
      rw [b2i_f, if_pos rfl, bV_e, nI_1]
    · by_cases e : a = i
      · subst e
        have hd : decide (wv M a ≠ 0) = true := by simpa using hwa
        rw [hd, Bool.true_and] at q
        have q2 : ¬ ∀ j, j < m → wv M (c j) ≠ wv M a := by rw [← nx, q]; simp
        rcases Classical.em (∃ j, j < m ∧ wv M (c j) = wv M a) with ⟨j, z1, z2⟩ | z
        · exact ⟨j, z1, by have := p4 j z1; omega, z2⟩
        · exact absurd (fun j hj e => z ⟨j, hj, e⟩) q2
      · exact p5 a (by omega) hwa
  | true =>
    rw [Bool.and_eq_true] at q
    have q1 : wv M i ≠ 0 := by simpa using q.1
    refine ⟨(pI S (S0.2.2 0 + 7) m (nI i), m + 1), ?_, p1.tr ?_, by show m + 1 ≤ i + 1; omega, fun j => if j = m then i else c j, ⟨by show m + 1 ≤ 16; omega, fun j hj => ?_, fun j k hj hk => ?_⟩, fun j hj => ?_, fun a ha hwa => ?_⟩
    · show fX8_gatherCandidates_4 _ _ S (nI m) _ = _
      rw [hb, q.1, q.2]
      unfold fX8_gatherCandidates_68
      rw [Bool.true_and, b2i_t, if_neg (by decide), if_pos (inbT (by omega) (by decide)), nI_clamp (by omega)]
      simp only [bS_e, bV_e, nI_1]
    · have := nc7 h m
      rw [← et]
      exact EqC.put this
    · have hj : j < m + 1 := hj
      show (pI S (S0.2.2 0 + 7) m (nI i)).1 _ j = nI (if j = m then i else c j) ∧ (if j = m then i else c j) < 16
      by_cases e : j = m
      · subst e
        rw [pI_same, if_pos rfl]
        exact ⟨rfl, hi⟩
      · rw [pI_cell S _ (by omega), if_neg e]
        exact p3.2.1 j (by show j < m; omega)
    · have hk : k < m + 1 := hk
      show (if j = m then i else c j) < (if k = m then i else c k)
      rw [if_neg (by omega)]
      by_cases e : k = m
      · rw [if_pos e]
        exact p4 j (by show j < m; omega)
      · rw [if_neg e]
        exact p3.2.2 j k hj (by show k < m; omega)
    · have hj : j < m + 1 := hj
      show (if j = m then i else c j) < i + 1
      by_cases e : j = m
      · rw [if_pos e]; omega
      · rw [if_neg e]
        have := p4 j (by show j < m; omega)
        omega
    · by_cases e : a = i
      · subst e
        refine ⟨m, by show m < m + 1; omega, ?_, ?_⟩
        · show (if m = m then a else c m) ≤ a
          rw [if_pos rfl]
          omega
        · show wv M (if m = m then a else c m) = wv M a
          rw [if_pos rfl]
      · obtain ⟨j, z1, z2, z3⟩ := p5 a (by omega) hwa
        have z1 : j < m := z1
        refine ⟨j, by show j < m + 1; omega, ?_, ?_⟩
        · show (if j = m then i else c j) ≤ a
          rw [if_neg (by omega)]
          exact z2
        · show wv M (if j = m then i else c j) = wv M a
          rw [if_neg (by omega)]
          exact z3
theorem gather8 {S0 M : St} (h0 : Rel S0 M) : ∃ S' m, GaP S0 M 16 (S', m) ∧ fX8_gatherCandidates (S0.2.2 0) S0 = some (nI m, S') := by
  have key := loop_inv (F := fun f (s : St × Nat) i => fX8_gatherCandidates_4 (S0.2.2 0) f s.1 (nI s.2) (nI i)) (GaP S0 M) (fun s => some (nI s.2, s.1)) 16 (fun f s i hi hp => ga_step h0 f s i hi hp) (fun f s hp => by
    show bX8_gatherCandidates_4 _ _ _ _ _ = _
    unfold bX8_gatherCandidates_4
    rw [if_pos (by decide)]) 16 100 (S0, 0) 0 rfl (by decide) ⟨EqC.rf S0, Nat.le_refl _, fun _ => 0, ⟨Nat.zero_le _, fun i hi => absurd hi (Nat.not_lt_zero _), fun i j _ hj => absurd hj (Nat.not_lt_zero _)⟩, fun j hj => absurd hj (Nat.not_lt_zero _), fun a ha => absurd ha (Nat.not_lt_zero _)⟩
  obtain ⟨⟨S', m⟩, k1, k2⟩ := key
  exact ⟨S', m, k1, k2⟩
-- all candidates together
def KN (c : Nat → Nat) : Nat → Nat
  | 0 => 0
  | n + 1 => KN c n ||| 2 ^ c n
theorem KN_tb (c : Nat → Nat) (a : Nat) : ∀ n, (KN c n).testBit a = true ↔ ∃ i, i < n ∧ c i = a
  | 0 => by
    rw [KN, Nat.zero_testBit]
    constructor
    · intro h; cases h
    · rintro ⟨i, hi, _⟩; omega
  | n + 1 => by
    rw [KN, Nat.testBit_or, Bool.or_eq_true, KN_tb c a n, Nat.testBit_two_pow, decide_eq_true_eq]
    constructor
    · rintro (⟨i, h1, h2⟩ | h)
      · exact ⟨i, by omega, h2⟩
      · exact ⟨n, by omega, h⟩
    · rintro ⟨i, h1, h2⟩
      by_cases e : i = n
      · subst e; exact Or.inr h2
      · exact Or.inl ⟨i, by omega, h2⟩
theorem KN_pc {c : Nat → Nat} {m : Nat} (h1 : ∀ i, i < m → c i < 16) (h2 : ∀ i j, i < j → j < m → c i < c j) : ∀ n, n ≤ m → KN c n < 65536 ∧ pcN (KN c n) 16 = n
  | 0, _ => ⟨by show (0 : Nat) < 65536; decide, pcN_0 16⟩
  | n + 1, h => by
    obtain ⟨a1, a2⟩ := KN_pc h1 h2 n (by omega)
    refine ⟨or_lt (n := 16) a1 (h1 n (by omega)), ?_⟩
    rw [KN, pc_or (h1 n (by omega)), a2]
    cases q : (KN c n).testBit (c n) with
    | false => rfl
    | true =>
      obtain ⟨i, z1, z2⟩ := (KN_tb c _ n).mp q
      have := h2 i n z1 (by omega)
      omega
def KBest (w c : Nat → Nat) (m B : Nat) : Prop := B < 65536 ∧ subs c m B ∧ covs w B (orN w 16) ∧ ∀ s, s < 65536 → subs c m s → covs w s (orN w 16) → pcN B 16 < pcN s 16 ∨ (pcN B 16 = pcN s 16 ∧ B ≤ s)
theorem fw38 {S M : St} (h : Rel S M) {c : Nat → Nat} {m : Nat} (hC : CaS S (S.2.2 0) c m) (hall : covs (wv M) (KN c m) (orN (wv M) 16)) : ∀ n k f, k + n = m + 1 → n < f → (∀ s, s < 65536 → subs c m s → covs (wv M) s (orN (wv M) 16) → k ≤ pcN s 16) → ∃ B, KBest (wv M) c m B ∧ fX8_fewestWatchers_38 (S.2.2 0) f S (nI m) (nI (orN (wv M) 16)) (-1) (nI k) = some (nI B, S) := by
  have hm := hC.1
  intro n
  induction n with
  | zero =>
    intro k f h1 h2 hk
    obtain ⟨a1, a2⟩ := KN_pc (fun i hi => (hC.2.1 i hi).2) hC.2.2 m (Nat.le_refl _)
    have := hk _ a1 (fun a ha => (KN_tb c a m).mp ha) hall
    omega
  | succ n ih =>
    intro k f h1 h2 hk
    obtain ⟨f, rfl⟩ : ∃ f', f = f' + 1 := ⟨f - 1, by omega⟩
    have ho := orN_lt (wv M) (wv_lt M) 16
    obtain ⟨r, p1, p2⟩ := lw8 h hC m 20 k (orN (wv M) 16) (by omega) (Nat.le_refl _) (by omega) ho
    have hb : fX8_fewestWatchers_38 (S.2.2 0) (f + 1) S (nI m) (nI (orN (wv M) 16)) (-1) (nI k) = fX8_fewestWatchers_38 (S.2.2 0) f S (nI m) (nI (orN (wv M) 16)) r (nI (k + 1)) := by
      show bX8_fewestWatchers_38 _ _ _ _ _ _ _ = _
      unfold bX8_fewestWatchers_38
      rw [if_neg (by rw [nlt (by omega) (by omega)]; omega), if_pos rfl, p2, bi_some, bV_e, nI_1]
    rw [hb]
    rcases p1 with ⟨rfl, n1⟩ | ⟨v, rfl, v1, v2, v3, v4, v5⟩
    · exact ih (k + 1) f (by omega) (by omega) (fun s hs hsub hcv => by
        have := hk s hs hsub hcv
        have := n1 s hs hsub
        by_cases e : pcN s 16 ≤ k
        · exact absurd hcv (this e)
        · omega)
    · have hv := hk v v1 v2 v4
      obtain ⟨f, rfl⟩ : ∃ f', f = f' + 1 := ⟨f - 1, by omega⟩
      refine ⟨v, ⟨v1, v2, v4, fun s hs hsub hcv => ?_⟩, ?_⟩
      · have := hk s hs hsub hcv
        by_cases e : pcN s 16 ≤ k
        · exact Or.inr ⟨by omega, v5 s hs hsub e hcv⟩
        · exact Or.inl (by omega)
      · show bX8_fewestWatchers_38 _ _ _ _ _ _ _ = _
        unfold bX8_fewestWatchers_38 fX8_fewestWatchers_64
        rw [if_neg (nm1 (show v < 2 ^ 31 by omega)), ite_self, if_neg (by rw [li 0, nlt (by omega) (by decide)]; omega)]
theorem fewest8 {S0 M : St} (h0 : Rel S0 M) : ∃ S' c m B, EqC S0 S' ∧ (∀ a, a < 16 → wv M a ≠ 0 → ∃ j, j < m ∧ c j ≤ a ∧ wv M (c j) = wv M a) ∧ KBest (wv M) c m B ∧ fX8_fewestWatchers (S0.2.2 0) S0 = some (nI B, S') := by
  obtain ⟨S, m, ⟨p1, p2, c, p3, p4, p5⟩, p6⟩ := gather8 h0
  have h : Rel S M := h0.keep p1 (EqM.rf M)
  have et : S.2.2 0 = S0.2.2 0 := by rw [p1.1]
  have p3 : CaS S (S0.2.2 0) c m := p3
  have p5 : ∀ a, a < 16 → wv M a ≠ 0 → ∃ j, j < m ∧ c j ≤ a ∧ wv M (c j) = wv M a := p5
  have hm := p3.1
  have hor : orN (fun i => wv M (c i)) m = orN (wv M) 16 := by
    apply Nat.eq_of_testBit_eq
    intro j
    rw [Bool.eq_iff_iff, orN_tb, orN_tb]
    constructor
    · rintro ⟨i, hi, hb⟩
      exact ⟨c i, (p3.2.1 i hi).2, hb⟩
    · rintro ⟨a, ha, hb⟩
      obtain ⟨i, z1, z2, z3⟩ := p5 a ha (by
        intro e
        rw [e, Nat.zero_testBit] at hb
        cases hb)
      exact ⟨i, z1, by rw [z3]; exact hb⟩
  have hall : covs (wv M) (KN c m) (orN (wv M) 16) := by
    intro j hj
    rw [← hor, orN_tb] at hj
    obtain ⟨i, hi, hb⟩ := hj
    exact ⟨c i, (p3.2.1 i hi).2, (KN_tb c _ m).mpr ⟨i, hi, rfl⟩, hb⟩
  rw [← et] at p3
  obtain ⟨B, k1, k2⟩ := fw38 h p3 hall (m + 1) 0 100 (by omega) (by omega) (fun _ _ _ _ => Nat.zero_le _)
  refine ⟨S, c, m, B, p1, p5, k1, ?_⟩
  unfold fX8_fewestWatchers
  rw [p6, bi_some, ← et]
  have key := loop_up (F := fun f (x : Nat) i => fX8_fewestWatchers_9 (S.2.2 0) f S (nI m) (nI x) (nI i)) (fun x i => x ||| wv M (c i)) (fun x => fX8_fewestWatchers_38 (S.2.2 0) 100 S (nI m) (nI x) (-1) 0) m (fun f x i hi => by
    obtain ⟨g1, g2⟩ := p3.2.1 i hi
    show bX8_fewestWatchers_9 _ _ _ _ _ _ = _
    unfold bX8_fewestWatchers_9
    rw [if_neg (by rw [nle (by omega) (by omega)]; omega), if_pos (inbT (by omega) (by decide)), nI_clamp (by omega), g1, wholeV h g2, bi_some]
    simp only [bV_e, or_nI, nI_1]) (fun f x => by
    show bX8_fewestWatchers_9 _ _ _ _ _ _ = _
    unfold bX8_fewestWatchers_9
    rw [if_pos (by rw [nle (by omega) (by omega)]; omega)]) m 100 0 0 (by omega) (by omega)
  have ei : ∀ k, itr (fun x i => x ||| wv M (c i)) 0 k 0 = orN (fun i => wv M (c i)) k := by
    intro k
    induction k with
    | zero => rfl
    | succ k ih => rw [itr_sc, ih, orN, Nat.zero_add]
  rw [ei, hor] at key
  exact key.trans k2
