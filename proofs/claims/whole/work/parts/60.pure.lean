-- pure: small words
theorem bi_some {α β : Type} (a : α) (S : St) (k : α → St → Option β) : bi (some (a, S)) k = k a S := rfl
theorem bv_some {β : Type} (S : St) (k : St → Option β) : bv (some S) k = k S := rfl
theorem bV_e {α β : Type} (e : α) (k : α → Option β) : bV e k = k e := rfl
theorem bS_e {β : Type} (e : St) (k : St → Option β) : bS e k = k e := rfl
def b2i (b : Bool) : Int32 := if b = true then 1 else 0
theorem b2i_0 (b : Bool) : (b2i b = 0) = (b = false) := by cases b <;> simp [b2i]
theorem b2i_1 (b : Bool) : (b2i b = 1) = (b = true) := by cases b <;> simp [b2i]
theorem b2i_01 (b : Bool) : b2i b = 0 ∨ b2i b = 1 := by cases b <;> simp [b2i]
theorem b2i_t : b2i true = 1 := rfl
theorem b2i_f : b2i false = 0 := rfl
theorem ite_b2i {α : Type} (b : Bool) (x y : α) : (if b2i b = 0 then x else y) = if b = true then y else x := by cases b <;> simp [b2i]
theorem ite_b2i1 {α : Type} (b : Bool) (x y : α) : (if b2i b = 1 then x else y) = if b = true then x else y := by cases b <;> simp [b2i]
theorem ite_gB {α : Type} (b : Bool) (x : α) (y : α) : (if b2i b = 0 ∨ b2i b = 1 then x else y) = x := if_pos (b2i_01 b)
theorem li (n : Nat) : (OfNat.ofNat n : Int32) = nI n := rfl
theorem i0 : (0 : Int32).toInt = 0 := by decide
theorem i1 : (1 : Int32).toInt = 1 := by decide
theorem i2 : (2 : Int32).toInt = 2 := by decide
theorem i3 : (3 : Int32).toInt = 3 := by decide
theorem i6 : (6 : Int32).toInt = 6 := by decide
theorem i8 : (8 : Int32).toInt = 8 := by decide
theorem i11 : (11 : Int32).toInt = 11 := by decide
theorem i12 : (12 : Int32).toInt = 12 := by decide
theorem i15 : (15 : Int32).toInt = 15 := by decide
theorem i16 : (16 : Int32).toInt = 16 := by decide
theorem i20 : (20 : Int32).toInt = 20 := by decide
theorem i60 : (60 : Int32).toInt = 60 := by decide
theorem i100 : (100 : Int32).toInt = 100 := by decide
theorem i200 : (200 : Int32).toInt = 200 := by decide
theorem i240 : (240 : Int32).toInt = 240 := by decide
theorem i260 : (260 : Int32).toInt = 260 := by decide
theorem i65535 : (65535 : Int32).toInt = 65535 := by decide
theorem im1 : (-1 : Int32).toInt = -1 := by decide
theorem im2 : (-2 : Int32).toInt = -2 := by decide
theorem Ilt (a b : Int32) : (a < b) = (a.toInt < b.toInt) := propext Int32.lt_iff_toInt_lt
theorem Ile (a b : Int32) : (a ≤ b) = (a.toInt ≤ b.toInt) := propext Int32.le_iff_toInt_le
theorem Ieq (a b : Int32) : (a = b) = (a.toInt = b.toInt) := propext Int32.toInt_inj.symm
/-- a ≤ x ≤ b -/
def inR (x : Int32) (a b : Int) : Bool := decide (a ≤ x.toInt) && decide (x.toInt ≤ b)
theorem inR_t {x : Int32} {a b : Int} : inR x a b = true ↔ a ≤ x.toInt ∧ x.toInt ≤ b := by simp [inR]
theorem inR_nat {x : Int32} {n : Nat} (h : inR x 0 n = true) (hn : n < 2 ^ 31) : ∃ j : Nat, j ≤ n ∧ x = nI j := by
  rw [inR_t] at h
  refine ⟨x.toInt.toNat, by omega, ?_⟩
  rw [Ieq, nI_toInt (by omega)]
  omega
theorem inR_nI {j n : Nat} (hj : j < 2 ^ 31) : inR (nI j) 0 n = decide (j ≤ n) := by
  rw [Bool.eq_iff_iff, inR_t, nI_toInt hj]
  simp
theorem in12 (S : St) (x a b : Int32) : fX12_in S x a b = some (b2i (inR x a.toInt b.toInt), S) := by
  unfold fX12_in fX12_in_14 inR b2i
  simp only [Ilt]
  by_cases h1 : x.toInt < a.toInt
  · have : ¬ a.toInt ≤ x.toInt := by omega
    simp [h1, this]
  · by_cases h2 : b.toInt < x.toInt
    · have : ¬ x.toInt ≤ b.toInt := by omega
      simp [h1, h2, this]
    · have e1 : a.toInt ≤ x.toInt := by omega
      have e2 : x.toInt ≤ b.toInt := by omega
      simp [h1, h2, e1, e2]
theorem isTurn11 (S : St) (x : Int32) : fX11_isTurn S x = some (b2i (inR x 0 11), S) := by
  unfold fX11_isTurn fX11_isTurn_14 inR b2i
  simp only [Ilt, Ile, i0, i12]
  by_cases h1 : x.toInt < 0
  · have : ¬ 0 ≤ x.toInt := by omega
    simp [h1, this]
  · by_cases h2 : 12 ≤ x.toInt
    · have : ¬ x.toInt ≤ 11 := by omega
      simp [h1, h2, this]
    · have e1 : 0 ≤ x.toInt := by omega
      have e2 : x.toInt ≤ 11 := by omega
      simp [h1, h2, e1, e2]
theorem isTurn12 (S : St) (x : Int32) : fX12_isTurn S x = some (b2i (inR x 0 11), S) := by
  unfold fX12_isTurn
  simp only [in12, bi_some, i0, i11]
  simp [b2i_01]
def hsB (x k : Int32) : Bool := decide ((x >>> (k &&& 31)) &&& 1 = 1)
theorem has12 (S : St) (x k : Int32) : fX12_has S x k = some (b2i (hsB x k), S) := by
  unfold fX12_has hsB b2i
  by_cases h : (x >>> (k &&& 31)) &&& 1 = 1 <;> simp [h]
def hoB (set x : Int32) : Bool := inR x 0 15 && hsB set x
theorem isHouse12 (S : St) (x : Int32) : fX12_isHouse S x = some (b2i (hoB (S.1 55 8) x), S) := by
  unfold fX12_isHouse fX12_isHouse_25 hoB
  simp only [in12, has12, bi_some, ite_b2i, i0, i15]
  by_cases h1 : inR x 0 15 = true <;> by_cases h2 : hsB (S.1 55 8) x = true <;> simp [h1, h2, b2i]
theorem isThing12 (S : St) (x : Int32) : fX12_isThing S x = some (b2i (hoB (S.1 55 9) x), S) := by
  unfold fX12_isThing fX12_isThing_25 hoB
  simp only [in12, has12, bi_some, ite_b2i, i0, i15]
  by_cases h1 : inR x 0 15 = true <;> by_cases h2 : hsB (S.1 55 9) x = true <;> simp [h1, h2, b2i]
theorem hasHouse8 (o : Nat) (S : St) (x : Int32) : fX8_hasHouse o S x = some (b2i (hoB (S.1 o 7) x), S) := by
  unfold fX8_hasHouse fX8_hasHouse_26 hoB hsB inR b2i
  simp only [Ilt, Ile, i0, i16]
  by_cases h1 : x.toInt < 0
  · have : ¬ 0 ≤ x.toInt := by omega
    simp [h1, this]
  · by_cases h2 : 16 ≤ x.toInt
    · have : ¬ x.toInt ≤ 15 := by omega
      simp [h1, h2, this]
    · have e1 : 0 ≤ x.toInt := by omega
      have e2 : x.toInt ≤ 15 := by omega
      by_cases h3 : ((S.1 o 7) >>> (x &&& 31)) &&& 1 = 1 <;> simp [h1, h2, e1, e2, h3]
theorem hasThing8 (o : Nat) (S : St) (x : Int32) : fX8_hasThing o S x = some (b2i (hoB (S.1 o 8) x), S) := by
  unfold fX8_hasThing fX8_hasThing_26 hoB hsB inR b2i
  simp only [Ilt, Ile, i0, i16]
  by_cases h1 : x.toInt < 0
  · have : ¬ 0 ≤ x.toInt := by omega
    simp [h1, this]
  · by_cases h2 : 16 ≤ x.toInt
    · have : ¬ x.toInt ≤ 15 := by omega
      simp [h1, h2, this]
    · have e1 : 0 ≤ x.toInt := by omega
      have e2 : x.toInt ≤ 15 := by omega
      by_cases h3 : ((S.1 o 8) >>> (x &&& 31)) &&& 1 = 1 <;> simp [h1, h2, e1, e2, h3]
-- bits of a set
theorem sh31 : ∀ k, k < 32 → ((nI k &&& 31).toBitVec.smod 32).toNat = k := by decide +kernel
theorem shr_nI {a k : Nat} (ha : a < 2 ^ 31) (hk : k < 32) : nI a >>> (nI k &&& 31) = nI (a / 2 ^ k) := pk_shrN ha _ k (sh31 k hk)
theorem shl_nI {a k : Nat} (hk : k < 32) (h : a * 2 ^ k < 2 ^ 32) : nI a <<< (nI k &&& 31) = nI (a * 2 ^ k) := pk_shlN _ k (sh31 k hk) h
theorem and_nI (a b : Nat) : nI a &&& nI b = nI (a &&& b) := by
  apply Int32.toBitVec_inj.mp
  apply BitVec.eq_of_toNat_eq
  show (BitVec.ofNat 32 a &&& BitVec.ofNat 32 b).toNat = (BitVec.ofNat 32 (a &&& b)).toNat
  simp [BitVec.toNat_and, BitVec.toNat_ofNat, Nat.and_mod_two_pow]
theorem or_nI (a b : Nat) : nI a ||| nI b = nI (a ||| b) := by
  apply Int32.toBitVec_inj.mp
  apply BitVec.eq_of_toNat_eq
  show (BitVec.ofNat 32 a ||| BitVec.ofNat 32 b).toNat = (BitVec.ofNat 32 (a ||| b)).toNat
  simp [BitVec.toNat_or, BitVec.toNat_ofNat, Nat.or_mod_two_pow]
theorem tb_div (a k : Nat) : a.testBit k = decide (a / 2 ^ k % 2 = 1) := by
  rw [Nat.testBit_eq_decide_div_mod_eq]
theorem hsB_nI {a k : Nat} (ha : a < 2 ^ 31) (hk : k < 32) : hsB (nI a) (nI k) = a.testBit k := by
  unfold hsB
  rw [shr_nI ha hk, li 1, and_nI, Nat.and_one_is_mod, tb_div]
  have h1 : a / 2 ^ k % 2 < 2 ^ 31 := by omega
  rw [Bool.eq_iff_iff, decide_eq_true_eq, decide_eq_true_eq]
  exact nI_eq h1 (by decide)
