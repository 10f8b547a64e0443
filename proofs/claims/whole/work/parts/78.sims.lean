-- the most swaps at once
theorem bit1 {j : Nat} (h : j < 31) : (1 : Int32) <<< (nI j &&& 31) = nI (2 ^ j) := by
  have hp : 2 ^ j ≤ 2 ^ 30 := Nat.pow_le_pow_right (by decide) (by omega)
  have := shl_nI (a := 1) (k := j) (by omega) (by omega)
  rw [li 1, this, Nat.one_mul]
/-- q without the bit j -/
def cb (q j : Nat) : Nat := q &&& (nI (2 ^ j) ^^^ (-1 : Int32)).toBitVec.toNat
theorem cb_e {q j : Nat} (h : q < 2 ^ 31) (hj : j < 31) : nI q &&& (((1 : Int32) <<< (nI j &&& 31)) ^^^ (-1 : Int32)) = nI (cb q j) := by
  rw [bit1 hj, and_any h]
  rfl
theorem cb_le (q j : Nat) : cb q j ≤ q := Nat.and_le_left
theorem cb_tb {q j i : Nat} (h : q < 65536) (hj : j < 31) : (cb q j).testBit i = (q.testBit i && !decide (j = i)) := by
  unfold cb
  rw [Nat.testBit_and]
  by_cases hi : i < 32
  · rw [not_tb hi, BitVec.getLsbD_ofNat, Nat.testBit_two_pow]
    simp [hi]
  · rw [tb_big h (by omega)]
    simp
theorem cb_lt {q j : Nat} (h : q < 65536) (hj : j < 31) (hq : q.testBit j = true) : cb q j < q := by
  have h1 := cb_le q j
  have h2 : cb q j ≠ q := by
    intro e
    have := cb_tb (i := j) h hj
    rw [e, hq] at this
    simp at this
  omega
def stM (b : Nat → Nat) (n a rest : Nat) (A : Nat → Nat) (cur j : Nat) : Nat := if (rest.testBit j && wsB b n a j) = true then max cur (1 + A (cb rest j)) else cur
def fmM (b : Nat → Nat) (n q : Nat) (A : Nat → Nat) : Nat := itr (stM b n (lowN q) (cb q (lowN q)) A) 0 n (A (cb q (lowN q)))
def bsN (b : Nat → Nat) (n : Nat) : Nat → Nat → Nat
  | 0, _ => 0
  | f + 1, q => if q = 0 then 0 else fmM b n q (bsN b n f)
theorem itr_bd {f : Nat → Nat → Nat} {B : Nat} (hf : ∀ s i, s ≤ B → f s i ≤ B) : ∀ n i s, s ≤ B → itr f i n s ≤ B := by
  intro n
  induction n with
  | zero => intro i s h; exact h
  | succ n ih => intro i s h; exact ih (i + 1) (f s i) (hf s i h)
theorem bsN_bd (b : Nat → Nat) (n : Nat) : ∀ f q, bsN b n f q ≤ f
  | 0, q => Nat.le_refl _
  | f + 1, q => by
    rw [bsN]
    split
    · omega
    · unfold fmM
      refine itr_bd (fun s i hs => ?_) n 0 _ (by have := bsN_bd b n f (cb q (lowN q)); omega)
      unfold stM
      have := bsN_bd b n f (cb (cb q (lowN q)) i)
      split <;> omega
theorem fmM_cg {b : Nat → Nat} {n q : Nat} (h0 : q ≠ 0) (h : q < 65536) {A B : Nat → Nat} (hab : ∀ p, p < q → A p = B p) : fmM b n q A = fmM b n q B := by
  obtain ⟨l1, l2, l3⟩ := lowN_spec h0 h
  have hc : cb q (lowN q) < q := cb_lt h (by omega) l1
  unfold fmM
  rw [hab _ hc]
  apply itr_cg
  intro s j _ _
  unfold stM
  rw [hab _ (Nat.lt_of_le_of_lt (cb_le _ j) hc)]
theorem bsN_st {b : Nat → Nat} {n : Nat} : ∀ f q, q < f → q < 65536 → bsN b n (f + 1) q = bsN b n f q
  | 0, q, h, _ => by omega
  | f + 1, q, h, h2 => by
    rw [bsN, bsN]
    by_cases c : q = 0
    · rw [if_pos c, if_pos c]
    · rw [if_neg c, if_neg c]
      exact fmM_cg c h2 (fun p hp => bsN_st f p (by omega) (by omega))
def bsV (b : Nat → Nat) (n q : Nat) : Nat := bsN b n 300 q
theorem bsV_eq {b : Nat → Nat} {n q : Nat} (h0 : q ≠ 0) (h : q < 256) : bsV b n q = fmM b n q (bsV b n) := by
  show bsN b n (299 + 1) q = _
  rw [bsN, if_neg h0]
  exact fmM_cg h0 (by omega) (fun p hp => (bsN_st 299 p (by omega) (by omega)).symm)
theorem bsV_bd (b : Nat → Nat) (n q : Nat) : bsV b n q ≤ 300 := bsN_bd b n 300 q
theorem pow_bd {n : Nat} (h : n ≤ 8) : 2 ^ n ≤ 256 := Nat.pow_le_pow_right (by decide) h
theorem itr_add {σ : Type} (f : σ → Nat → σ) : ∀ m i k s, itr f i (m + k) s = itr f (i + m) k (itr f i m s)
  | 0, i, k, s => by rw [Nat.zero_add]; rfl
  | m + 1, i, k, s => by
    rw [show m + 1 + k = (m + k) + 1 by omega]
    show itr f (i + 1) (m + k) (f s i) = _
    rw [itr_add f m (i + 1) k (f s i), show i + (m + 1) = i + 1 + m by omega]
    rfl
theorem itr_id {σ : Type} {f : σ → Nat → σ} : ∀ m i s, (∀ s j, i ≤ j → j < i + m → f s j = s) → itr f i m s = s
  | 0, _, _, _ => rfl
  | m + 1, i, s, h => by
    show itr f (i + 1) m (f s i) = s
    rw [h s i (Nat.le_refl _) (by omega)]
    exact itr_id m (i + 1) s (fun s j h1 h2 => h s j (by omega) (by omega))
theorem itr_sc {σ : Type} (f : σ → Nat → σ) (i m : Nat) (s : σ) : itr f i (m + 1) s = f (itr f i m s) (i + m) := itr_add f m i 1 s
theorem stM_bd {b : Nat → Nat} {n a rest s j : Nat} (h : s ≤ 400) : stM b n a rest (bsV b n) s j ≤ 400 := by
  have := bsV_bd b n (cb rest j)
  unfold stM
  split <;> omega
theorem msa51 {S : St} {b : Nat → Nat} {z n q a rest : Nat} (rc : St → Int32 → Int32 → Option (Int32 × St)) (hb : ∀ j, b j < 256) (hT : TapS b z S) (hz : z ≤ 260) (hn : n * n ≤ z) (h8 : n ≤ 8) (hq : q < 256) (hr : rest < q) (ha : a < n) (hA : ∀ p, p < q → S.1 17 p = nI (bsV b n p)) {c0 : Nat} (hc0 : c0 ≤ 400) : fX1_mostSwapsAtOnce_51 rc 300 S (nI n) (nI q) (nI a) (nI rest) (nI c0) (nI (a + 1)) = rc (pI S 17 q (nI (itr (stM b n a rest (bsV b n)) (a + 1) (n - (a + 1)) c0))) (nI n) (nI (q + 1)) := by
  have key := loop_inv (F := fun f (s : Nat) j => fX1_mostSwapsAtOnce_51 rc f S (nI n) (nI q) (nI a) (nI rest) (nI s) (nI j)) (fun j s => a + 1 ≤ j ∧ s ≤ 400 ∧ s = itr (stM b n a rest (bsV b n)) (a + 1) (j - (a + 1)) c0) (fun s => rc (pI S 17 q (nI s)) (nI n) (nI (q + 1))) n (fun f s j hj hp => by
    obtain ⟨p0, hs, p2⟩ := hp
    refine ⟨stM b n a rest (bsV b n) s j, ?_, by omega, stM_bd hs, ?_⟩
    · show bX1_mostSwapsAtOnce_51 _ _ _ _ _ _ _ _ _ = _
      unfold bX1_mostSwapsAtOnce_51
      have hle := cb_le rest j
      rw [if_neg (by rw [nle (by omega) (by omega)]; omega)]
      have hbd := bsV_bd b n (cb rest j)
      simp only [hs_prop, hsB_nI (show rest < 2 ^ 31 by omega) (show j < 32 by omega), would1 hb hT hz hn ha hj, bi_some, ite_b2i, bV_e, nI_1, cb_e (show rest < 2 ^ 31 by omega) (show j < 31 by omega), inbT (show cb rest j < 256 by omega) (show 256 < 2 ^ 31 by decide), if_true, nI_clamp (show cb rest j < 2 ^ 31 by omega), hA (cb rest j) (by omega)]
      have e1 : (1 : Int32) + nI (bsV b n (cb rest j)) = nI (1 + bsV b n (cb rest j)) := by rw [li 1, nI_add]
      simp only [e1, nI_mx (show s < 2 ^ 31 by omega) (show 1 + bsV b n (cb rest j) < 2 ^ 31 by omega)]
      unfold stM
      by_cases c1 : rest.testBit j = true
      · by_cases c2 : wsB b n a j = true
        · simp [c1, c2]
        · simp [c1, c2]
      · simp [c1]
    · rw [show j + 1 - (a + 1) = (j - (a + 1)) + 1 by omega, itr_sc, ← p2, show a + 1 + (j - (a + 1)) = j by omega]) (fun f s hp => by
    show bX1_mostSwapsAtOnce_51 _ _ _ _ _ _ _ _ _ = _
    unfold bX1_mostSwapsAtOnce_51
    rw [if_pos (by rw [nle (by omega) (by omega)]; omega), if_pos (inbT (by omega) (by decide)), nI_clamp (by omega)]
    simp only [bS_e, bV_e, nI_1]) (n - (a + 1)) 300 c0 (a + 1) (by omega) (by omega) ⟨Nat.le_refl _, hc0, by rw [Nat.sub_self]; rfl⟩
  obtain ⟨s, ⟨_, _, k1⟩, k2⟩ := key
  rw [k1] at k2
  exact k2
theorem low_n {q n : Nat} (h0 : q ≠ 0) (h : q < 2 ^ n) (h8 : n ≤ 8) : lowN q < n ∧ q.testBit (lowN q) = true ∧ (∀ j, j < lowN q → q.testBit j = false) := by
  have := pow_bd h8
  obtain ⟨l1, l2, l3⟩ := lowN_spec h0 (show q < 65536 by omega)
  refine ⟨?_, l1, l3⟩
  rcases Nat.lt_or_ge (lowN q) n with z | z
  · exact z
  · have := Nat.testBit_lt_two_pow (Nat.lt_of_lt_of_le h (Nat.pow_le_pow_right (by decide) z))
    rw [this] at l1
    cases l1
theorem val_q {b : Nat → Nat} {q n : Nat} (h0 : q ≠ 0) (h : q < 2 ^ n) (h8 : n ≤ 8) : itr (stM b n (lowN q) (cb q (lowN q)) (bsV b n)) (lowN q + 1) (n - (lowN q + 1)) (bsV b n (cb q (lowN q))) = bsV b n q := by
  have hp := pow_bd h8
  obtain ⟨l1, l2, l3⟩ := low_n h0 h h8
  rw [bsV_eq h0 (by omega)]
  unfold fmM
  rw [show n = (lowN q + 1) + (n - (lowN q + 1)) by omega]
  generalize hk : n - (lowN q + 1) = k
  rw [show lowN q + 1 + k = n by omega, show itr (stM b n (lowN q) (cb q (lowN q)) (bsV b n)) 0 n (bsV b n (cb q (lowN q))) = itr (stM b n (lowN q) (cb q (lowN q)) (bsV b n)) 0 ((lowN q + 1) + k) (bsV b n (cb q (lowN q))) by rw [show lowN q + 1 + k = n by omega], itr_add, itr_id (lowN q + 1), Nat.zero_add, show n - (lowN q + 1) = k by omega]
  intro s j _ hj
  unfold stM
  have : (cb q (lowN q)).testBit j = false := by
    rw [cb_tb (by omega) (by omega)]
    by_cases e : lowN q = j
    · simp [e]
    · rw [l3 j (by omega)]
      rfl
  rw [this]
  simp
theorem msa9 {S0 : St} {b : Nat → Nat} {z n : Nat} (hb : ∀ j, b j < 256) (hT : TapS b z S0) (hz : z ≤ 260) (hn : n * n ≤ z) (h8 : n ≤ 8) (h0 : S0.1 17 0 = 0) : ∃ S', Ex 17 S0 S' ∧ fX1_mostSwapsAtOnce_9 300 S0 (nI n) 1 = some (nI (bsV b n (2 ^ n - 1)), S') := by
  have hp := pow_bd h8
  have hp1 : 0 < 2 ^ n := Nat.two_pow_pos n
  have key := loop_inv (F := fun f S i => fX1_mostSwapsAtOnce_9 f S (nI n) (nI i)) (fun i S => 1 ≤ i ∧ Ex 17 S0 S ∧ ∀ p, p < i → S.1 17 p = nI (bsV b n p)) (fun S => some (S.1 17 (2 ^ n - 1), S)) (2 ^ n) (fun f S q hq hp => by
      obtain ⟨p0, p1, p2⟩ := hp
      have hq0 : q ≠ 0 := by omega
      obtain ⟨l1, l2, l3⟩ := low_n hq0 hq h8
      have hcl : cb q (lowN q) < q := cb_lt (by omega) (by omega) l2
      have hbd := bsV_bd b n (cb q (lowN q))
      refine ⟨pI S 17 q (nI (bsV b n q)), ?_, by omega, p1.put _ _, fun p hp => ?_⟩
      · show bX1_mostSwapsAtOnce_9 _ _ _ _ = _
        unfold bX1_mostSwapsAtOnce_9
        rw [bit1 (by omega), if_neg (by rw [nle (by omega) (by omega)]; omega), li 256, if_neg (by rw [nle (by decide) (by omega)]; omega)]
        simp only [ntz6 hq0 (show q < 256 by omega), bi_some, bV_e, cb_e (show q < 2 ^ 31 by omega) (show lowN q < 31 by omega), inbT (show cb q (lowN q) < 256 by omega) (show 256 < 2 ^ 31 by decide), if_true, nI_clamp (show cb q (lowN q) < 2 ^ 31 by omega), p2 _ hcl, nI_1]
        rw [msa51 _ hb (p1.tapS (by decide) (by decide) hT) hz hn h8 (by omega) hcl l1 p2 (by omega), val_q hq0 hq h8]
      · by_cases e : p = q
        · subst e; rw [pI_same]
        · rw [pI_cell _ _ (by omega)]; exact p2 p (by omega)) (fun f S hp => by
      show bX1_mostSwapsAtOnce_9 _ _ _ _ = _
      unfold bX1_mostSwapsAtOnce_9 fX1_mostSwapsAtOnce_122
      rw [bit1 (by omega), if_pos (by rw [nle (by omega) (by omega)]; omega), li 8, if_neg (by rw [nlt (by decide) (by omega)]; omega), li 1, pk_sub (by omega), if_pos (inbT (by omega) (by decide)), nI_clamp (by omega)]) (2 ^ n - 1) 300 S0 1 (by omega) (by omega) ⟨Nat.le_refl _, Ex.rf _ _, fun p hp => by
        have : p = 0 := by omega
        subst this
        rw [h0]
        rfl⟩
  obtain ⟨S', ⟨_, k1, k2⟩, k3⟩ := key
  rw [k2 _ (by omega)] at k3
  exact ⟨S', k1, k3⟩
theorem mam53 {M0 : St} {b : Nat → Nat} {n q a rest : Nat} (rc : St → Int32 → Int32 → Option (Int32 × St)) (hb : ∀ j, b j < 256) (hT : TapM b M0) (hn : n * n ≤ 260) (h8 : n ≤ 8) (hq : q < 256) (hr : rest < q) (ha : a < n) (hA : ∀ p, p < q → M0.1 92 p = nI (bsV b n p)) {c0 : Nat} (hc0 : c0 ≤ 400) (hq2 : M0.1 92 q = nI c0) : ∃ M', (Ex 92 M0 M' ∧ (∀ p, p < q → M'.1 92 p = nI (bsV b n p)) ∧ M'.1 92 q = nI (itr (stM b n a rest (bsV b n)) 0 n c0)) ∧ fX12_mostAtOnce_53 rc 300 M0 (nI n) (nI q) (nI a) (nI rest) 0 = rc M' (nI n) (nI (q + 1)) := by
  have key := loop_inv (F := fun f S j => fX12_mostAtOnce_53 rc f S (nI n) (nI q) (nI a) (nI rest) (nI j)) (fun j S => Ex 92 M0 S ∧ (∀ p, p < q → S.1 92 p = nI (bsV b n p)) ∧ S.1 92 q = nI (itr (stM b n a rest (bsV b n)) 0 j c0) ∧ itr (stM b n a rest (bsV b n)) 0 j c0 ≤ 400) (fun S => rc S (nI n) (nI (q + 1))) n (fun f S j hj hp => by
    obtain ⟨p1, p2, p3, p4⟩ := hp
    have hT2 := p1.tapM (by decide) hT
    have hle := cb_le rest j
    have hbd := bsV_bd b n (cb rest j)
    have hsc := itr_sc (stM b n a rest (bsV b n)) 0 j c0
    rw [Nat.zero_add] at hsc
    generalize itr (stM b n a rest (bsV b n)) 0 j c0 = s at hsc p3 p4
    rw [hsc]
    have hst := stM_bd (b := b) (n := n) (a := a) (rest := rest) (j := j) p4
    have e1 : (1 : Int32) + nI (bsV b n (cb rest j)) = nI (1 + bsV b n (cb rest j)) := by rw [li 1, nI_add]
    have step : fX12_mostAtOnce_53 rc (f + 1) S (nI n) (nI q) (nI a) (nI rest) (nI j) = fX12_mostAtOnce_53 rc f (if (rest.testBit j && wsB b n a j) = true then pI S 92 q (nI (max s (1 + bsV b n (cb rest j)))) else S) (nI n) (nI q) (nI a) (nI rest) (nI (j + 1)) := by
      show bX12_mostAtOnce_53 _ _ _ _ _ _ _ _ = _
      unfold bX12_mostAtOnce_53
      rw [if_neg (by rw [nle (by omega) (by omega)]; omega)]
      simp only [has12, hsB_nI (show rest < 2 ^ 31 by omega) (show j < 32 by omega), would12 hb hT2 hn ha hj, bi_some, ite_b2i, bV_e, bS_e, nI_1, cb_e (show rest < 2 ^ 31 by omega) (show j < 31 by omega), inbT (show cb rest j < 256 by omega) (show 256 < 2 ^ 31 by decide), inbT (show q < 256 by omega) (show 256 < 2 ^ 31 by decide), if_true, nI_clamp (show cb rest j < 2 ^ 31 by omega), nI_clamp (show q < 2 ^ 31 by omega), p2 (cb rest j) (by omega), p3, e1, max12, nI_mx2 (show s < 2 ^ 31 by omega) (show 1 + bsV b n (cb rest j) < 2 ^ 31 by omega)]
      by_cases c1 : rest.testBit j = true
      · by_cases c2 : wsB b n a j = true
        · simp [c1, c2]
        · simp [c1, c2]
      · simp [c1]
    by_cases hc : (rest.testBit j && wsB b n a j) = true
    · rw [if_pos hc] at step
      refine ⟨_, step, p1.put _ _, fun p hp => ?_, ?_, hst⟩
      · rw [pI_cell _ _ (by omega)]; exact p2 p hp
      · rw [pI_same]
        unfold stM
        rw [if_pos hc]
    · rw [if_neg hc] at step
      refine ⟨_, step, p1, p2, ?_, hst⟩
      rw [p3]
      unfold stM
      rw [if_neg hc]) (fun f S hp => by
    show bX12_mostAtOnce_53 _ _ _ _ _ _ _ _ = _
    unfold bX12_mostAtOnce_53
    rw [if_pos (by rw [nle (by omega) (by omega)]; omega)]
    simp only [bV_e, nI_1]) n 300 M0 0 (by omega) (by omega) ⟨Ex.rf _ _, hA, hq2, hc0⟩
  obtain ⟨M', ⟨k1, k2, k3, _⟩, k4⟩ := key
  exact ⟨M', ⟨k1, k2, k3⟩, k4⟩
theorem mam2 {M0 : St} {b : Nat → Nat} {n : Nat} (hb : ∀ j, b j < 256) (hT : TapM b M0) (hn : n * n ≤ 260) (h8 : n ≤ 8) : ∃ M', Ex 92 M0 M' ∧ fX12_mostAtOnce M0 (nI n) = some (nI (bsV b n (2 ^ n - 1)), M') := by
  have hp := pow_bd h8
  have hp1 : 0 < 2 ^ n := Nat.two_pow_pos n
  have key := loop_inv (F := fun f S i => fX12_mostAtOnce_2 f S (nI n) (nI i)) (fun i S => Ex 92 M0 S ∧ ∀ p, p < i → S.1 92 p = nI (bsV b n p)) (fun S => some (S.1 92 (2 ^ n - 1), S)) (2 ^ n) (fun f S q hq hp => by
      obtain ⟨p1, p2⟩ := hp
      by_cases hq0 : q = 0
      · subst hq0
        refine ⟨pI S 92 0 0, ?_, p1.put _ _, fun p hp => ?_⟩
        · show bX12_mostAtOnce_2 _ _ _ _ = _
          unfold bX12_mostAtOnce_2
          rw [bit1 (by omega), if_neg (by rw [nle (by omega) (by omega)]; omega), if_pos (inbT (by decide) (by decide)), nI_clamp (by decide)]
          simp only [bS_e, bV_e, nI_1]
          rw [if_pos nI_0]
        · have : p = 0 := by omega
          subst this
          rw [pI_same]
          rfl
      · obtain ⟨l1, l2, l3⟩ := low_n hq0 hq h8
        have hcl : cb q (lowN q) < q := cb_lt (by omega) (by omega) l2
        have hbd := bsV_bd b n (cb q (lowN q))
        have q1 : Ex 92 M0 (pI (pI S 92 q 0) 92 q ((pI S 92 q 0).1 92 (cb q (lowN q)))) := (p1.put _ _).put _ _
        have q0 : (pI S 92 q 0).1 92 (cb q (lowN q)) = nI (bsV b n (cb q (lowN q))) := by rw [pI_cell _ _ (by omega)]; exact p2 _ hcl
        obtain ⟨M', ⟨r1, r2, r3⟩, r4⟩ := mam53 (M0 := pI (pI S 92 q 0) 92 q ((pI S 92 q 0).1 92 (cb q (lowN q)))) (fX12_mostAtOnce_2 f) hb (q1.tapM (by decide) hT) hn h8 (by omega) hcl l1 (fun p hp => by
          rw [pI_cell _ _ (by omega), pI_cell _ _ (by omega)]; exact p2 p hp) (show bsV b n (cb q (lowN q)) ≤ 400 by omega) (by rw [pI_same, q0])
        refine ⟨M', ?_, q1.tr r1, fun p hp => ?_⟩
        · show bX12_mostAtOnce_2 _ _ _ _ = _
          unfold bX12_mostAtOnce_2
          have hne : ¬ nI q = 0 := by rw [li 0, neq (by omega) (Nat.le_of_ble_eq_true rfl)]; exact hq0
          rw [bit1 (by omega), if_neg (by rw [nle (by omega) (by omega)]; omega), if_pos (inbT (by omega) (by decide)), nI_clamp (by omega)]
          simp only [bS_e, hne, if_false, lowest12 (M := pI S 92 q 0) hq0 (show q < 65536 by omega), bi_some, bV_e, cb_e (show q < 2 ^ 31 by omega) (show lowN q < 31 by omega), inbT (show cb q (lowN q) < 256 by omega) (show 256 < 2 ^ 31 by decide), inbT (show q < 256 by omega) (show 256 < 2 ^ 31 by decide), if_true, nI_clamp (show cb q (lowN q) < 2 ^ 31 by omega)]
          exact r4
        · by_cases e : p = q
          · subst e
            rw [r3, bsV_eq hq0 (by omega)]
            rfl
          · exact r2 p (by omega)) (fun f S hp => by
      show bX12_mostAtOnce_2 _ _ _ _ = _
      unfold bX12_mostAtOnce_2
      rw [bit1 (by omega), if_pos (by rw [nle (by omega) (by omega)]; omega), li 1, pk_sub (by omega), if_pos (inbT (by omega) (by decide)), nI_clamp (by omega)]) (2 ^ n) 300 M0 0 (by omega) (by omega) ⟨Ex.rf _ _, fun p hp => absurd hp (Nat.not_lt_zero p)⟩
  obtain ⟨M', ⟨k1, k2⟩, k3⟩ := key
  rw [k2 _ (by omega)] at k3
  exact ⟨M', k1, k3⟩
theorem sim_swaps (S M : St) (x y : Int32) (h : Rel S M) : ∃ v S1 M1, fX11_swaps S x y = some (v, S1) ∧ fX12_swaps M x y = some (v, M1) ∧ Rel S1 M1 := by
  obtain ⟨b, z, hz, hb, hT, hT2, hz2⟩ := h.tap
  unfold fX11_swaps fX12_swaps fX11_swaps_58
  simp only [in12, bi_some, ite_b2i, rng2, i0, i1, i2, i8]
  by_cases hx : inR x 2 8 = true
  · obtain ⟨n, h2, h8, rfl⟩ := inR_natL (m := 2) (n := 8) hx (by decide)
    have hnn : n * n ≤ 64 := Nat.mul_le_mul h8 h8
    by_cases hy : inR y 0 1 = true
    · simp only [hx, hy, if_true, pk_mul, holds7 hT hz (show n * n < 2 ^ 31 by omega), bi_some, ite_b2i, hz2, nle (show n * n < 2 ^ 31 by omega) (show z < 2 ^ 31 by omega), bS_e]
      by_cases hn : n * n ≤ z
      · have ht0 : TapS b z (pI S 17 0 0) := (Ex.put (Ex.rf 17 S) 0 0).tapS (by decide) (by decide) hT
        obtain ⟨S', a1, a2⟩ := msa9 (S0 := pI S 17 0 0) hb ht0 hz hn h8 (pI_same _ _ _ _)
        have a2 : fX1_mostSwapsAtOnce S (nI n) = _ := a2
        obtain ⟨M', b1, b2⟩ := mam2 (M0 := pI M 55 11 0) hb (hT2.clr 0) (by omega) h8
        obtain ⟨w, hw, rfl⟩ := inR_nat (n := 1) hy (by decide)
        have hw2 : w = 0 ∨ w = 1 := by omega
        rcases hw2 with rfl | rfl
        · have d1 : ¬ nI 0 = 1 := by decide
          simp only [hn, decide_true, if_true, nI_0, d1, if_false, will1 hb hT hz hn h8, swap52 hb (hT2.clr 0) (show n * n ≤ 260 by omega) h8, bi_some, clear7, bv_some]
          have d1 : ¬ (0 : Int32) = 1 := by decide
          simp only [d1, if_false]
          exact ⟨_, _, _, rfl, rfl, h.clr⟩
        · have d1 : ¬ nI 1 = 0 := by decide
          have d2 : nI 1 = 1 := rfl
          have d3 : ¬ (1 : Int32) = 0 := by decide
          simp only [hn, decide_true, if_true, d2, d3, if_false, a2, b2, bi_some, clear7, bv_some]
          exact ⟨_, _, _, rfl, rfl, h.done (((Ex.put (Ex.rf 17 S) 0 0).tr a1).eqC (h.nc (by decide) (by decide))) (b1.eqM (by unfold coreM; omega))⟩
      · simp only [hn, decide_false, Bool.false_eq_true, if_false]
        exact ⟨_, _, _, rfl, rfl, h⟩
    · simp only [hx, hy, if_true]
      exact ⟨_, _, _, rfl, rfl, h⟩
  · simp only [hx]
    exact ⟨_, _, _, rfl, rfl, h⟩
