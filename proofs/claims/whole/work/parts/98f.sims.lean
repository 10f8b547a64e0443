-- the two small machines
def wk (o : Nat) (S : St) (i t : Nat) : Option St := fX2_work_19 o (300 - t) S (nI i) (nI t)
def mk (f : Nat) (M : St) (to n k : Nat) : Option (Int32 × St) := fX12_reckonsTo_16 f M (nI to) (nI n) 0 (nI k)
def wd (kind num : Nat) : Int32 := nI (16 * num + kind)
def cw (op v : Nat) : Int32 := nI (1048576 * op + v)
theorem wd_kind {kind num : Nat} (hk : kind < 16) : wd kind num &&& 15 = nI kind := by
  unfold wd
  rw [li 15, and_nI, show (15 : Nat) = 2 ^ 4 - 1 from rfl, Nat.and_two_pow_sub_one_eq_mod, show (16 * num + kind) % 2 ^ 4 = kind by omega]
theorem wd_num {kind num : Nat} (hk : kind < 16) (hn : num < 1000000) : wd kind num >>> ((4 : Int32) &&& 31) = nI num := by
  unfold wd
  have := shr_nI (a := 16 * num + kind) (k := 4) (by omega) (by decide)
  rw [li 4, this, show (16 * num + kind) / 2 ^ 4 = num by omega]
theorem wd_ne {kind num : Nat} (h0 : 0 < kind) (hk : kind < 16) (hn : num < 1000000) : ¬ wd kind num = 0 := by
  unfold wd
  rw [li 0, neq (by omega) (by decide)]
  omega
theorem wd_e {kind num : Nat} (hk : kind < 16) (hn : num < 1000000) : (nI num <<< ((4 : Int32) &&& 31)) ||| nI kind = wd kind num := by
  unfold wd
  have h1 := shl_nI (a := num) (k := 4) (by decide) (by omega)
  have h2 := Nat.two_pow_add_eq_or_of_lt (i := 4) (b := kind) (by omega) num
  rw [li 4, h1, or_nI, show num * 2 ^ 4 = 2 ^ 4 * num by omega, ← h2]
theorem cw_op {op v : Nat} (ho : op < 16) (hv : v < 1048576) : cw op v / 1048576 = nI op := by
  unfold cw
  rw [li 1048576, nI_div (by omega) (by decide) (by decide), show (1048576 * op + v) / 1048576 = op by omega]
theorem cw_v {op v : Nat} (ho : op < 16) (hv : v < 1048576) : cw op v - cw op v / 1048576 * 1048576 = nI v := by
  unfold cw
  rw [li 1048576, rem_nI (by omega) (by decide) (by decide), show (1048576 * op + v) % 1048576 = v by omega]
theorem wk_st {o i t sc kind num : Nat} {S : St} (ht : t ≤ i) (hi : i < sc) (hs : sc ≤ 288) (h7 : S.1 o 7 = nI sc) (h10 : S.1 o 10 = 0) (hc : S.1 (o + 4) i = wd kind num) (h0 : 0 < kind) (hk : kind < 14) (hn : num < 1000000) : wk o S i t = if kind = 12 then (if S.1 o 9 = 0 then wk o S (i + 1) (t + 1) else wk o S num (t + 1)) else if kind = 13 then (if S.1 o 9 = 0 then wk o S num (t + 1) else wk o S (i + 1) (t + 1)) else bv (fX2_takeStep o S (nI kind) (nI num)) fun S1 => wk o S1 (i + 1) (t + 1) := by
  unfold wk
  obtain ⟨f, hf⟩ : ∃ f, 300 - t = f + 1 := ⟨299 - t, by omega⟩
  have hf2 : 300 - (t + 1) = f := by omega
  rw [hf, hf2]
  show bX2_work_19 o (fX2_work_19 o f) S (nI i) (nI t) = _
  unfold bX2_work_19 fX2_work_90 fX2_work_108 fX2_work_109 fX2_work_124
  rw [if_neg (show ¬ (288 : Int32) ≤ nI t by rw [li 288, nle (by decide) (by omega)]; omega), if_pos h10, if_neg (show ¬ nI i < 0 from nI_pos (by omega)), h7, if_neg (show ¬ nI sc ≤ nI i by rw [nle (by omega) (by omega)]; omega), if_pos (inbT (show i < 288 by omega) (by decide)), nI_clamp (by omega), hc, if_neg (wd_ne h0 (by omega) hn), if_pos (inbT (show i < 288 by omega) (by decide)), wd_kind (by omega), bV_e, if_pos (inbT (show i < 288 by omega) (by decide)), wd_num (by omega) hn, bV_e, li 12, li 13]
  simp only [bV_e, nI_1]
  have e12 : (nI kind = nI 12) = (kind = 12) := neq (by omega) (by decide)
  have e13 : (nI kind = nI 13) = (kind = 13) := neq (by omega) (by decide)
  have e12' : (nI 12 ≤ nI kind) = (12 ≤ kind) := nle (by decide) (by omega)
  by_cases c1 : kind = 12
  · subst c1
    rw [if_pos rfl, if_pos rfl, if_neg (show ¬ nI 12 = nI 13 by decide)]
    by_cases c2 : S.1 o 9 = 0
    · rw [if_pos c2, if_pos c2, if_pos trivial, if_pos (show nI 12 ≤ nI 12 by decide)]
    · rw [if_neg c2, if_neg c2, if_neg (by decide), if_pos (show nI 12 ≤ nI 12 by decide)]
  · rw [if_neg (show ¬ nI kind = nI 12 by rw [e12]; exact c1), if_neg c1]
    by_cases c3 : kind = 13
    · subst c3
      rw [if_pos rfl, if_pos rfl]
      by_cases c2 : S.1 o 9 = 0
      · rw [if_pos c2, if_pos c2, if_neg (by decide), if_pos (show nI 12 ≤ nI 13 by decide)]
      · rw [if_neg c2, if_neg c2, if_pos trivial, if_pos (show nI 12 ≤ nI 13 by decide)]
    · rw [if_neg (show ¬ nI kind = nI 13 by rw [e13]; exact c3), if_neg c3, if_pos trivial, if_neg (show ¬ nI 12 ≤ nI kind by rw [e12']; omega)]
theorem wk_stop {o i t : Nat} {S : St} (h : S.1 (o + 4) i = 0) (hi : i < 288) (ht : t ≤ 300 - 1) : wk o S i t = some S := by
  unfold wk
  obtain ⟨f, hf⟩ : ∃ f, 300 - t = f + 1 := ⟨299 - t, by omega⟩
  rw [hf]
  show bX2_work_19 _ _ _ _ _ = _
  unfold bX2_work_19
  rw [if_neg (show ¬ nI i < 0 from nI_pos (by omega)), if_pos (inbT hi (by decide)), nI_clamp (by omega), h, if_pos rfl]
  simp only [ite_self]
theorem wk_ref {o i t : Nat} {S : St} (h : S.1 o 10 ≠ 0) (ht : t ≤ 299) : wk o S i t = some S := by
  unfold wk
  obtain ⟨f, hf⟩ : ∃ f, 300 - t = f + 1 := ⟨299 - t, by omega⟩
  rw [hf]
  show bX2_work_19 _ _ _ _ _ = _
  unfold bX2_work_19
  rw [if_neg h, ite_self]
-- steps of the class
theorem tk_num {o s v : Nat} {S : St} (h8 : S.1 o 8 = nI s) (hs : s < 32) : fX2_takeStep o S (nI 1) (nI v) = some (pI (pI S (o + 6) s (nI v)) o 8 (nI (s + 1))) := by
  unfold fX2_takeStep fX2_takeStep_35 fX2_takeStep_66
  rw [if_neg (by decide), if_pos (show nI 1 = 1 from rfl), h8, if_neg (show ¬ (32 : Int32) ≤ nI s by rw [li 32, nle (by decide) (by omega)]; omega), if_pos (show nI 1 = 1 from rfl), if_pos (inbT hs (by decide)), nI_clamp (by omega), bS_e, pI_row _ _ (by omega), h8, nI_1, bS_e]
theorem tk_let {o s v : Nat} {S : St} (h8 : S.1 o 8 = nI s) (hs : s < 32) (hv : v < 9) : fX2_takeStep o S (nI 2) (nI v) = some (pI (pI S (o + 6) s (S.1 (o + 5) v)) o 8 (nI (s + 1))) := by
  have hl : fX2_letterValue o S (nI v) = some (S.1 (o + 5) v, S) := by
    unfold fX2_letterValue
    rw [if_neg (show ¬ nI v < 0 from nI_pos (by omega)), if_neg (show ¬ (9 : Int32) ≤ nI v by rw [li 9, nle (by decide) (by omega)]; omega), if_pos (inbT hv (by decide)), nI_clamp (by omega)]
  unfold fX2_takeStep fX2_takeStep_35 fX2_takeStep_66
  rw [if_neg (by decide), if_neg (by decide), if_pos (show nI 2 = 2 from rfl), h8, if_neg (show ¬ (32 : Int32) ≤ nI s by rw [li 32, nle (by decide) (by omega)]; omega), if_neg (by decide), hl, bi_some, if_pos (inbT hs (by decide)), nI_clamp (by omega), bS_e, pI_row _ _ (by omega), h8, nI_1, bS_e]
theorem tk_not {o : Nat} {S : St} {h : Bool} (h9 : S.1 o 9 = b2i h) (x : Int32) : fX2_takeStep o S (nI 11) x = some (pI S o 9 (b2i (!h))) := by
  unfold fX2_takeStep
  rw [if_pos (show nI 11 = 11 from rfl), h9]
  cases h
  · rw [b2i_f, if_pos rfl, bS_e]; rfl
  · rw [b2i_t, if_neg (by decide), bS_e]; rfl
/-- what an op gives: none if refused -/
def opV (op : Nat) (a c : Int32) : Option Int32 := if op = 2 then some (a + c) else if op = 3 then some (a - c) else if op = 4 then some (a * c) else if c = 0 then none else if op = 5 then some (a / c) else some (a - a / c * c)
theorem tk_bin {o s op : Nat} {S : St} (h8 : S.1 o 8 = nI (s + 2)) (hs : s + 2 ≤ 32) (h2 : 2 ≤ op) (h6 : op ≤ 6) (x : Int32) : fX2_takeStep o S (nI (op + 1)) x = some (match opV op (S.1 (o + 6) s) (S.1 (o + 6) (s + 1)) with
    | some r => pI (pI S o 8 (nI (s + 1))) (o + 6) s r
    | none => pI (pI (pI S o 8 (nI (s + 1))) o 10 1) (o + 6) s 0) := by
  have e1 : nI (s + 2) - 1 = nI (s + 1) := by rw [Int32.sub_eq_add_neg, pk_m1]
  have e2 : nI (s + 1) - 1 = nI s := by rw [Int32.sub_eq_add_neg, pk_m1]
  have ek : ∀ q, q < 20 → (nI (op + 1) = (OfNat.ofNat q : Int32)) = (op + 1 = q) := fun q hq => by rw [li q]; exact neq (by omega) (by omega)
  unfold fX2_takeStep fX2_reckon
  rw [if_neg (show ¬ nI (op + 1) = 11 by rw [ek 11 (by decide)]; omega), if_neg (show ¬ nI (op + 1) = 1 by rw [ek 1 (by decide)]; omega), if_neg (show ¬ nI (op + 1) = 2 by rw [ek 2 (by decide)]; omega), h8, if_neg (show ¬ nI (s + 2) < (2 : Int32) by rw [li 2, nlt (by omega) (by decide)]; omega), e1, bS_e, pI_same, e2, if_pos (inbT (show s < 32 by omega) (by decide)), nI_clamp (show s < 2 ^ 31 by omega), bV_e, if_pos (inbT (show s + 1 < 32 by omega) (by decide)), nI_clamp (show s + 1 < 2 ^ 31 by omega), bV_e, if_neg (show ¬ (8 : Int32) ≤ nI (op + 1) by rw [li 8, nle (by decide) (by omega)]; omega), pI_row _ _ (show o + 6 ≠ o by omega)]
  generalize S.1 (o + 6) s = a
  generalize S.1 (o + 6) (s + 1) = c
  have h : op = 2 ∨ op = 3 ∨ op = 4 ∨ op = 5 ∨ op = 6 := by omega
  unfold opV
  rcases h with rfl | rfl | rfl | rfl | rfl
  · rw [if_pos (show nI (2 + 1) = 3 from rfl), bi_some, if_pos (inbT (show s < 32 by omega) (by decide)), bS_e, if_pos rfl]
  · rw [if_neg (by decide), if_pos (show nI (3 + 1) = 4 from rfl), bi_some, if_pos (inbT (show s < 32 by omega) (by decide)), bS_e, if_neg (by decide), if_pos rfl]
  · rw [if_neg (by decide), if_neg (by decide), if_pos (show nI (4 + 1) = 5 from rfl), bi_some, if_pos (inbT (show s < 32 by omega) (by decide)), bS_e, if_neg (by decide), if_neg (by decide), if_pos rfl]
  · rw [if_neg (by decide), if_neg (by decide), if_neg (by decide), if_neg (show ¬ (5 : Nat) = 2 by decide), if_neg (show ¬ (5 : Nat) = 3 by decide), if_neg (show ¬ (5 : Nat) = 4 by decide)]
    by_cases c0 : c = 0
    · rw [if_pos c0, if_pos c0, bS_e, bi_some, if_pos (inbT (show s < 32 by omega) (by decide)), bS_e]
    · rw [if_neg c0, if_neg c0, if_pos (show nI (5 + 1) = 6 from rfl), if_neg c0, bi_some, if_pos (inbT (show s < 32 by omega) (by decide)), bS_e, if_pos rfl]
  · rw [if_neg (by decide), if_neg (by decide), if_neg (by decide), if_neg (show ¬ (6 : Nat) = 2 by decide), if_neg (show ¬ (6 : Nat) = 3 by decide), if_neg (show ¬ (6 : Nat) = 4 by decide)]
    by_cases c0 : c = 0
    · rw [if_pos c0, if_pos c0, bS_e, bi_some, if_pos (inbT (show s < 32 by omega) (by decide)), bS_e]
    · rw [if_neg c0, if_neg c0, if_neg (show ¬ nI (6 + 1) = 6 by decide), if_neg c0, bi_some, if_pos (inbT (show s < 32 by omega) (by decide)), bS_e, if_neg (show ¬ (6 : Nat) = 5 by decide), if_neg c0]
def cmB (op : Nat) (a c : Int32) : Bool := if op = 7 then decide (a < c) else if op = 8 then decide (c < a) else decide (a = c)
theorem tk_cmp {o op : Nat} {S : St} (h8 : S.1 o 8 = nI 2) (h7 : 7 ≤ op) (h9 : op ≤ 9) (x : Int32) : fX2_takeStep o S (nI (op + 1)) x = some (pI (pI (pI S o 8 (nI 1)) o 8 (nI 0)) o 9 (b2i (cmB op (S.1 (o + 6) 0) (S.1 (o + 6) 1)))) := by
  have ek : ∀ q, q < 20 → (nI (op + 1) = (OfNat.ofNat q : Int32)) = (op + 1 = q) := fun q hq => by rw [li q]; exact neq (by omega) (by omega)
  have hle : ∀ a c : Int32, (a ≤ c) = ¬ (c < a) := fun a c => by rw [Ile, Ilt]; exact propext (by omega)
  unfold fX2_takeStep fX2_takeStep_211
  rw [if_neg (show ¬ nI (op + 1) = 11 by rw [ek 11 (by decide)]; omega), if_neg (show ¬ nI (op + 1) = 1 by rw [ek 1 (by decide)]; omega), if_neg (show ¬ nI (op + 1) = 2 by rw [ek 2 (by decide)]; omega), h8, if_neg (show ¬ nI 2 < (2 : Int32) by decide), show nI 2 - 1 = nI 1 from by decide, bS_e, pI_same, show nI 1 - 1 = nI 0 from by decide, if_pos (inbT (show 0 < 32 by decide) (by decide)), nI_clamp (by decide), bV_e, if_pos (inbT (show 1 < 32 by decide) (by decide)), nI_clamp (by decide), bV_e, if_pos (show (8 : Int32) ≤ nI (op + 1) by rw [li 8, nle (by decide) (by omega)]; omega), bS_e, pI_row _ _ (show o + 6 ≠ o by omega)]
  generalize S.1 (o + 6) 0 = a
  generalize S.1 (o + 6) 1 = c
  rw [if_pos (Or.inl rfl), if_pos (Or.inr rfl), bS_e, bS_e]
  unfold cmB
  have h : op = 7 ∨ op = 8 ∨ op = 9 := by omega
  rcases h with rfl | rfl | rfl
  · rw [if_pos (show nI (7 + 1) = 8 from rfl), if_pos rfl]
    by_cases q : a < c
    · rw [if_neg (by rw [hle]; exact fun w => w q), show decide (a < c) = true by simpa using q]; rfl
    · rw [if_pos (by rw [hle]; exact q), show decide (a < c) = false by simpa using q]; rfl
  · rw [if_neg (show ¬ nI (8 + 1) = 8 by decide), if_pos (show nI (8 + 1) = 9 from rfl), if_neg (show ¬ (8 : Nat) = 7 by decide), if_pos rfl]
    by_cases q : c < a
    · rw [if_neg (by rw [hle]; exact fun w => w q), show decide (c < a) = true by simpa using q]; rfl
    · rw [if_pos (by rw [hle]; exact q), show decide (c < a) = false by simpa using q]; rfl
  · rw [if_neg (show ¬ nI (9 + 1) = 8 by decide), if_neg (show ¬ nI (9 + 1) = 9 by decide), if_neg (show ¬ (9 : Nat) = 7 by decide), if_neg (show ¬ (9 : Nat) = 8 by decide)]
    by_cases q : a = c
    · rw [if_pos q, show decide (a = c) = true by simpa using q]; rfl
    · rw [if_neg q, show decide (a = c) = false by simpa using q]; rfl
