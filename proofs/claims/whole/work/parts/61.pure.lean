-- loops
def itr {σ : Type} (f : σ → Nat → σ) : Nat → Nat → σ → σ
  | _, 0, s => s
  | i, n + 1, s => itr f (i + 1) n (f s i)
theorem loop_up {σ R : Type} {F : Nat → σ → Nat → Option R} (step : σ → Nat → σ) (ex : σ → Option R) (N : Nat) (hs : ∀ k s i, i < N → F (k + 1) s i = F k (step s i) (i + 1)) (he : ∀ k s, F (k + 1) s N = ex s) : ∀ n k s i, i + n = N → n < k → F k s i = ex (itr step i n s) := by
  intro n
  induction n with
  | zero =>
    intro k s i h1 h2
    obtain ⟨k, rfl⟩ : ∃ k', k = k' + 1 := ⟨k - 1, by omega⟩
    have : i = N := by omega
    subst this
    exact he k s
  | succ n ih =>
    intro k s i h1 h2
    obtain ⟨k, rfl⟩ : ∃ k', k = k' + 1 := ⟨k - 1, by omega⟩
    rw [hs k s i (by omega)]
    exact ih k (step s i) (i + 1) (by omega) (by omega)
theorem itr_inv {σ : Type} {f : σ → Nat → σ} (P : Nat → σ → Prop) (hs : ∀ s i, P i s → P (i + 1) (f s i)) : ∀ n i s, P i s → P (i + n) (itr f i n s) := by
  intro n
  induction n with
  | zero => intro i s h; exact h
  | succ n ih =>
    intro i s h
    have := ih (i + 1) (f s i) (hs s i h)
    rw [show i + (n + 1) = i + 1 + n by omega]
    exact this
theorem itr_invB {σ : Type} {f : σ → Nat → σ} (P : Nat → σ → Prop) {N : Nat} (hs : ∀ s i, i < N → P i s → P (i + 1) (f s i)) : ∀ n i s, i + n ≤ N → P i s → P (i + n) (itr f i n s) := by
  intro n
  induction n with
  | zero => intro i s _ h; exact h
  | succ n ih =>
    intro i s hn h
    have := ih (i + 1) (f s i) (by omega) (hs s i (by omega) h)
    rw [show i + (n + 1) = i + 1 + n by omega]
    exact this
-- comparisons of small numbers
theorem nle {a b : Nat} (ha : a < 2 ^ 31) (hb : b < 2 ^ 31) : (nI a ≤ nI b) = (a ≤ b) := propext (nI_leI ha hb)
theorem nlt {a b : Nat} (ha : a < 2 ^ 31) (hb : b < 2 ^ 31) : (nI a < nI b) = (a < b) := propext (nI_ltI ha hb)
theorem neq {a b : Nat} (ha : a < 2 ^ 31) (hb : b < 2 ^ 31) : (nI a = nI b) = (a = b) := propext (nI_eq ha hb)
theorem nm1 {a : Nat} (ha : a < 2 ^ 31) : ¬ nI a = -1 := by
  rw [Ieq, nI_toInt ha, im1]
  omega
theorem m1n {a : Nat} (ha : a < 2 ^ 31) : ¬ (-1 : Int32) = nI a := fun h => nm1 ha h.symm
theorem inbI {j N : Nat} (hj : j < 2 ^ 31) : inb (nI j) N = decide (j < N) := by
  unfold inb
  rw [nI_clamp hj]
  have : (0 : Int32) ≤ nI j := nI_pos' hj
  simp [this]
theorem inbT {j N : Nat} (h : j < N) (hN : N < 2 ^ 31) : inb (nI j) N = true := by rw [inbI (by omega)]; simpa using h
-- sets
def setN (q : Nat → Bool) : Nat → Nat
  | 0 => 0
  | n + 1 => setN q n ||| (if q n then 2 ^ n else 0)
theorem setN_lt (q : Nat → Bool) : ∀ n, setN q n < 2 ^ n
  | 0 => Nat.one_pos
  | n + 1 => by
    have h := setN_lt q n
    rw [setN]
    apply Nat.or_lt_two_pow
    · rw [Nat.pow_succ]; omega
    · split
      · rw [Nat.pow_succ]; have := Nat.two_pow_pos n; omega
      · exact Nat.two_pow_pos _
theorem setN_tb (q : Nat → Bool) : ∀ n i, (setN q n).testBit i = (decide (i < n) && q i)
  | 0, i => by simp [setN]
  | n + 1, i => by
    rw [setN, Nat.testBit_or, setN_tb q n i]
    by_cases h : q n = true
    · rw [if_pos h, Nat.testBit_two_pow]
      by_cases h2 : n = i
      · subst h2; simp [h]
      · have : (i < n + 1) = (i < n) := propext ⟨fun z => by omega, fun z => by omega⟩
        simp [h2, this]
    · have hf : q n = false := by simpa using h
      rw [if_neg h, Nat.zero_testBit, Bool.or_false]
      by_cases h2 : n = i
      · subst h2; simp [hf]
      · have : (i < n + 1) = (i < n) := propext ⟨fun z => by omega, fun z => by omega⟩
        simp [this]
theorem setN_congr {q r : Nat → Bool} : ∀ {n}, (∀ i, i < n → q i = r i) → setN q n = setN r n
  | 0, _ => rfl
  | n + 1, h => by rw [setN, setN, setN_congr (fun i hi => h i (by omega)), h n (by omega)]
theorem set_loop {R : Type} {F : Nat → Int32 → Nat → Option R} (q : Nat → Bool) (N : Nat) (hN : N ≤ 16) (ex : Int32 → Option R) (hs : ∀ k x i, i < N → F (k + 1) x i = F k (if q i = true then x ||| ((1 : Int32) <<< (nI i &&& 31)) else x) (i + 1)) (he : ∀ k x, F (k + 1) x N = ex x) {k : Nat} (hk : N < k) : F k 0 0 = ex (nI (setN q N)) := by
  have h := loop_up (F := F) (fun x i => if q i = true then x ||| ((1 : Int32) <<< (nI i &&& 31)) else x) ex N hs he N k 0 0 (by omega) hk
  rw [h]
  congr 1
  have := itr_invB (f := fun (x : Int32) i => if q i = true then x ||| ((1 : Int32) <<< (nI i &&& 31)) else x) (fun i x => x = nI (setN q i)) (N := 16) (fun x i hi hx => by
    show (if q i = true then x ||| ((1 : Int32) <<< (nI i &&& 31)) else x) = nI (setN q i ||| (if q i then 2 ^ i else 0))
    have e1 : (1 : Int32) <<< (nI i &&& 31) = nI (2 ^ i) := by
      have := shl_nI (a := 1) (k := i) (by omega) (by
        have : 2 ^ i ≤ 2 ^ 16 := Nat.pow_le_pow_right (by decide) (by omega)
        omega)
      rw [li 1, this, Nat.one_mul]
    by_cases h : q i = true
    · rw [if_pos h, if_pos h, hx, e1, or_nI]
    · rw [if_neg h, if_neg h, hx, Nat.or_zero]) N 0 0 (by omega) rfl
  rw [Nat.zero_add] at this
  exact this
-- a check over all numbers below a power of two
def chk (p : Nat → Bool) : Nat → Nat → Bool
  | 0, b => p b
  | k + 1, b => chk p k b && chk p k (b + 2 ^ k)
theorem chk_spec {p : Nat → Bool} : ∀ {k b : Nat}, chk p k b = true → ∀ a, b ≤ a → a < b + 2 ^ k → p a = true
  | 0, b, h, a, h1, h2 => by
    have : a = b := by simp at h2; omega
    subst this
    exact h
  | k + 1, b, h, a, h1, h2 => by
    rw [chk, Bool.and_eq_true] at h
    rw [Nat.pow_succ] at h2
    rcases Nat.lt_or_ge a (b + 2 ^ k) with q | q
    · exact chk_spec h.1 a h1 q
    · exact chk_spec h.2 a q (by omega)
-- how many bits
def pcN (a : Nat) : Nat → Nat
  | 0 => 0
  | n + 1 => pcN a n + a / 2 ^ n % 2
theorem pcN_le (a : Nat) : ∀ n, pcN a n ≤ n
  | 0 => Nat.le_refl _
  | n + 1 => by have := pcN_le a n; rw [pcN]; omega
theorem bits12_loop (S : St) {a : Nat} (ha : a < 65536) : ∀ n i k, i + n = 16 → n < k → fX12_bits_4 k S (nI a) (nI (pcN a i)) (nI i) = some (nI (pcN a 16), S) := by
  intro n
  induction n with
  | zero =>
    intro i k h1 h2
    obtain ⟨k, rfl⟩ : ∃ k', k = k' + 1 := ⟨k - 1, by omega⟩
    have : i = 16 := by omega
    subst this
    show bX12_bits_4 _ _ _ _ _ = _
    unfold bX12_bits_4
    rw [if_pos (by decide)]
  | succ n ih =>
    intro i k h1 h2
    obtain ⟨k, rfl⟩ : ∃ k', k = k' + 1 := ⟨k - 1, by omega⟩
    show bX12_bits_4 _ _ _ _ _ = _
    unfold bX12_bits_4
    rw [li 16, if_neg (by rw [nle (by decide) (by omega)]; omega)]
    simp only [bV_e]
    rw [shr_nI (by omega) (by omega), li 1, and_nI, nI_add, nI_add, Nat.and_one_is_mod]
    exact ih (i + 1) k (by omega) (by omega)
theorem bits12 (S : St) {a : Nat} (ha : a < 65536) : fX12_bits S (nI a) = some (nI (pcN a 16), S) := bits12_loop S ha 16 0 100 rfl (by decide)
def sw1 (a : Nat) : Nat := Nat.sub a (Nat.land (Nat.div a 2) 1431655765)
def sw2 (v : Nat) : Nat := Nat.add (Nat.land v 858993459) (Nat.land (Nat.div v 4) 858993459)
def sw3 (v : Nat) : Nat := Nat.land (Nat.add v (Nat.div v 16)) 252645135
def sw4 (v : Nat) : Nat := Nat.add v (Nat.div v 256)
def sw5 (v : Nat) : Nat := Nat.land (Nat.add v (Nat.div v 65536)) 63
def swar (a : Nat) : Nat := sw5 (sw4 (sw3 (sw2 (sw1 a))))
def pcR (a : Nat) : Nat := Nat.add (Nat.add (Nat.add (Nat.add (Nat.add (Nat.add (Nat.add (Nat.add (Nat.add (Nat.add (Nat.add (Nat.add (Nat.add (Nat.add (Nat.add (Nat.add (0) (Nat.mod (Nat.div a 1) 2)) (Nat.mod (Nat.div a 2) 2)) (Nat.mod (Nat.div a 4) 2)) (Nat.mod (Nat.div a 8) 2)) (Nat.mod (Nat.div a 16) 2)) (Nat.mod (Nat.div a 32) 2)) (Nat.mod (Nat.div a 64) 2)) (Nat.mod (Nat.div a 128) 2)) (Nat.mod (Nat.div a 256) 2)) (Nat.mod (Nat.div a 512) 2)) (Nat.mod (Nat.div a 1024) 2)) (Nat.mod (Nat.div a 2048) 2)) (Nat.mod (Nat.div a 4096) 2)) (Nat.mod (Nat.div a 8192) 2)) (Nat.mod (Nat.div a 16384) 2)) (Nat.mod (Nat.div a 32768) 2)
def chR : Nat → Nat → Bool
  | 0, b => Nat.beq (swar b) (pcR b)
  | k + 1, b => match chR k b with
    | true => chR k (Nat.add b (Nat.pow 2 k))
    | false => false
theorem chR_spec : ∀ {k b : Nat}, chR k b = true → ∀ a, b ≤ a → a < b + 2 ^ k → swar a = pcR a
  | 0, b, h, a, h1, h2 => by
    have : a = b := by simp at h2; omega
    subst this
    exact Nat.eq_of_beq_eq_true h
  | k + 1, b, h, a, h1, h2 => by
    rw [chR] at h
    rw [Nat.pow_succ] at h2
    cases hq : chR k b with
    | false => rw [hq] at h; cases h
    | true =>
      rw [hq] at h
      have h : chR k (b + 2 ^ k) = true := h
      rcases Nat.lt_or_ge a (b + 2 ^ k) with q | q
      · exact chR_spec hq a h1 q
      · exact chR_spec h a q (by omega)
theorem swar_0 : chR 12 0 = true := by decide +kernel
theorem swar_1 : chR 12 4096 = true := by decide +kernel
theorem swar_2 : chR 12 8192 = true := by decide +kernel
theorem swar_3 : chR 12 12288 = true := by decide +kernel
theorem swar_4 : chR 12 16384 = true := by decide +kernel
theorem swar_5 : chR 12 20480 = true := by decide +kernel
theorem swar_6 : chR 12 24576 = true := by decide +kernel
theorem swar_7 : chR 12 28672 = true := by decide +kernel
theorem swar_8 : chR 12 32768 = true := by decide +kernel
theorem swar_9 : chR 12 36864 = true := by decide +kernel
theorem swar_10 : chR 12 40960 = true := by decide +kernel
theorem swar_11 : chR 12 45056 = true := by decide +kernel
theorem swar_12 : chR 12 49152 = true := by decide +kernel
theorem swar_13 : chR 12 53248 = true := by decide +kernel
theorem swar_14 : chR 12 57344 = true := by decide +kernel
theorem swar_15 : chR 12 61440 = true := by decide +kernel
theorem swar_eq {a : Nat} (ha : a < 65536) : swar a = pcN a 16 := by
  have e : pcR a = pcN a 16 := rfl
  rw [← e]
  rcases Nat.lt_or_ge a 4096 with h0 | h0
  · exact chR_spec swar_0 a (by omega) (by omega)
  rcases Nat.lt_or_ge a 8192 with h1 | h1
  · exact chR_spec swar_1 a (by omega) (by omega)
  rcases Nat.lt_or_ge a 12288 with h2 | h2
  · exact chR_spec swar_2 a (by omega) (by omega)
  rcases Nat.lt_or_ge a 16384 with h3 | h3
  · exact chR_spec swar_3 a (by omega) (by omega)
  rcases Nat.lt_or_ge a 20480 with h4 | h4
  · exact chR_spec swar_4 a (by omega) (by omega)
  rcases Nat.lt_or_ge a 24576 with h5 | h5
  · exact chR_spec swar_5 a (by omega) (by omega)
  rcases Nat.lt_or_ge a 28672 with h6 | h6
  · exact chR_spec swar_6 a (by omega) (by omega)
  rcases Nat.lt_or_ge a 32768 with h7 | h7
  · exact chR_spec swar_7 a (by omega) (by omega)
  rcases Nat.lt_or_ge a 36864 with h8 | h8
  · exact chR_spec swar_8 a (by omega) (by omega)
  rcases Nat.lt_or_ge a 40960 with h9 | h9
  · exact chR_spec swar_9 a (by omega) (by omega)
  rcases Nat.lt_or_ge a 45056 with h10 | h10
  · exact chR_spec swar_10 a (by omega) (by omega)
  rcases Nat.lt_or_ge a 49152 with h11 | h11
  · exact chR_spec swar_11 a (by omega) (by omega)
  rcases Nat.lt_or_ge a 53248 with h12 | h12
  · exact chR_spec swar_12 a (by omega) (by omega)
  rcases Nat.lt_or_ge a 57344 with h13 | h13
  · exact chR_spec swar_13 a (by omega) (by omega)
  rcases Nat.lt_or_ge a 61440 with h14 | h14
  · exact chR_spec swar_14 a (by omega) (by omega)
  exact chR_spec swar_15 a (by omega) (by omega)
theorem us31 : ∀ k, k < 32 → (((nI k).toUInt32 &&& Int32.toUInt32 31).toBitVec % 32).toNat = k := by decide +kernel
theorem ushr_nI {a k : Nat} (ha : a < 2 ^ 32) (hk : k < 32) : ((nI a).toUInt32 >>> ((nI k).toUInt32 &&& Int32.toUInt32 31)).toInt32 = nI (a / 2 ^ k) := pk_ushrN ha _ k (us31 k hk)
theorem bitCount6 (S : St) {a : Nat} (ha : a < 65536) : fJ6_bitCount_0f7a4 S (nI a) = some (nI (pcN a 16), S) := by
  unfold fJ6_bitCount_0f7a4
  simp only [bV_e]
  have h1 : a / 2 &&& 1431655765 ≤ a := Nat.le_trans Nat.and_le_left (by omega)
  rw [li 1, li 2, li 4, li 8, li 16, li 1431655765, li 858993459, li 252645135, li 63]
  rw [ushr_nI (by omega) (by decide), show 2 ^ 1 = 2 from rfl, and_nI, pk_sub h1]
  have b1 : a - (a / 2 &&& 1431655765) < 65536 := by omega
  generalize hv1 : a - (a / 2 &&& 1431655765) = v1 at b1 ⊢
  rw [ushr_nI (by omega) (by decide), show 2 ^ 2 = 4 from rfl, and_nI, and_nI, nI_add]
  have b2 : (v1 &&& 858993459) + (v1 / 4 &&& 858993459) < 131072 := by
    have := @Nat.and_le_left v1 858993459
    have := @Nat.and_le_left (v1 / 4) 858993459
    omega
  generalize hv2 : (v1 &&& 858993459) + (v1 / 4 &&& 858993459) = v2 at b2 ⊢
  rw [ushr_nI (by omega) (by decide), show 2 ^ 4 = 16 from rfl, nI_add, and_nI]
  have b3 : (v2 + v2 / 16) &&& 252645135 < 262144 := by
    have := @Nat.and_le_left (v2 + v2 / 16) 252645135
    omega
  generalize hv3 : (v2 + v2 / 16) &&& 252645135 = v3 at b3 ⊢
  rw [ushr_nI (by omega) (by decide), show 2 ^ 8 = 256 from rfl, nI_add]
  have b4 : v3 + v3 / 256 < 524288 := by omega
  generalize hv4 : v3 + v3 / 256 = v4 at b4 ⊢
  rw [ushr_nI (by omega) (by decide), show 2 ^ 16 = 65536 from rfl, nI_add, and_nI]
  rw [← swar_eq ha]
  subst hv4 hv3 hv2 hv1
  rfl
