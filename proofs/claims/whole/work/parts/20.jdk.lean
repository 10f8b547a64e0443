def fJ6_bitCount_0f7a4 (S : St) (x0 : Int32) : Option (Int32 × St) :=
  bV ((x0 - (((x0.toUInt32 >>> ((1 : Int32).toUInt32 &&& Int32.toUInt32 31)).toInt32) &&& (1431655765 : Int32)))) fun v1 => bV (((v1 &&& (858993459 : Int32)) + (((v1.toUInt32 >>> ((2 : Int32).toUInt32 &&& Int32.toUInt32 31)).toInt32) &&& (858993459 : Int32)))) fun v2 => bV (((v2 + ((v2.toUInt32 >>> ((4 : Int32).toUInt32 &&& Int32.toUInt32 31)).toInt32)) &&& (252645135 : Int32))) fun v3 => bV ((v3 + ((v3.toUInt32 >>> ((8 : Int32).toUInt32 &&& Int32.toUInt32 31)).toInt32))) fun v4 => bV ((v4 + ((v4.toUInt32 >>> ((16 : Int32).toUInt32 &&& Int32.toUInt32 31)).toInt32))) fun v5 => some ((v5 &&& (63 : Int32)), S)
theorem wfJ6_bitCount_0f7a4 {lo n : Nat} {X : CX} (hX : Ok RJ6 cJ6_bitCount_0f7a4 (some .int) lo n 1 X) {rr : Int32 × St} (hq : rs X = (some (.int rr.1), rr.2)) {S : St} {x0 : Int32} (hres : fJ6_bitCount_0f7a4 S x0 = some rr) : Wat lo n 0 1 X 0 [(0, .int x0)] [] S := by
  unfold fJ6_bitCount_0f7a4 at hres
  refine q_iload_n 1 hX 0 dJ6_bitCount_0f7a4_0 rfl rfl rfl ?_
  refine q_iload_n 2 hX 0 dJ6_bitCount_0f7a4_1 rfl rfl rfl ?_
  refine q_iconst 3 hX dJ6_bitCount_0f7a4_2 rfl kI_1 ?_
  refine q_iushr 4 hX dJ6_bitCount_0f7a4_3 rfl ?_
  refine q_ldcw 7 hX dJ6_bitCount_0f7a4_4 rfl gw0 ?_
  refine q_iand 8 hX dJ6_bitCount_0f7a4_7 rfl ?_
  refine q_isub 9 hX dJ6_bitCount_0f7a4_8 rfl ?_
  refine q_istoreB_n 10 (lv0 := []) hX dJ6_bitCount_0f7a4_9 rfl rfl (by decide) rfl hres (fun v1 hres => ?_)
  refine q_iload_n 11 hX 0 dJ6_bitCount_0f7a4_10 rfl rfl rfl ?_
  refine q_ldcw 14 hX dJ6_bitCount_0f7a4_11 rfl gw1 ?_
  refine q_iand 15 hX dJ6_bitCount_0f7a4_14 rfl ?_
  refine q_iload_n 16 hX 0 dJ6_bitCount_0f7a4_15 rfl rfl rfl ?_
  refine q_iconst 17 hX dJ6_bitCount_0f7a4_16 rfl kI_2 ?_
  refine q_iushr 18 hX dJ6_bitCount_0f7a4_17 rfl ?_
  refine q_ldcw 21 hX dJ6_bitCount_0f7a4_18 rfl gw1 ?_
  refine q_iand 22 hX dJ6_bitCount_0f7a4_21 rfl ?_
  refine q_iadd 23 hX dJ6_bitCount_0f7a4_22 rfl ?_
  refine q_istoreB_n 24 (lv0 := []) hX dJ6_bitCount_0f7a4_23 rfl rfl (by decide) rfl hres (fun v2 hres => ?_)
  refine q_iload_n 25 hX 0 dJ6_bitCount_0f7a4_24 rfl rfl rfl ?_
  refine q_iload_n 26 hX 0 dJ6_bitCount_0f7a4_25 rfl rfl rfl ?_
  refine q_iconst 27 hX dJ6_bitCount_0f7a4_26 rfl kI_4 ?_
  refine q_iushr 28 hX dJ6_bitCount_0f7a4_27 rfl ?_
  refine q_iadd 29 hX dJ6_bitCount_0f7a4_28 rfl ?_
  refine q_ldcw 32 hX dJ6_bitCount_0f7a4_29 rfl gw2 ?_
  refine q_iand 33 hX dJ6_bitCount_0f7a4_32 rfl ?_
  refine q_istoreB_n 34 (lv0 := []) hX dJ6_bitCount_0f7a4_33 rfl rfl (by decide) rfl hres (fun v3 hres => ?_)
  refine q_iload_n 35 hX 0 dJ6_bitCount_0f7a4_34 rfl rfl rfl ?_
  refine q_iload_n 36 hX 0 dJ6_bitCount_0f7a4_35 rfl rfl rfl ?_
  refine q_bipush 38 hX dJ6_bitCount_0f7a4_36 rfl kB_8 ?_
  refine q_iushr 39 hX dJ6_bitCount_0f7a4_38 rfl ?_
  refine q_iadd 40 hX dJ6_bitCount_0f7a4_39 rfl ?_
  refine q_istoreB_n 41 (lv0 := []) hX dJ6_bitCount_0f7a4_40 rfl rfl (by decide) rfl hres (fun v4 hres => ?_)
  refine q_iload_n 42 hX 0 dJ6_bitCount_0f7a4_41 rfl rfl rfl ?_
  refine q_iload_n 43 hX 0 dJ6_bitCount_0f7a4_42 rfl rfl rfl ?_
  refine q_bipush 45 hX dJ6_bitCount_0f7a4_43 rfl kB_16 ?_
  refine q_iushr 46 hX dJ6_bitCount_0f7a4_45 rfl ?_
  refine q_iadd 47 hX dJ6_bitCount_0f7a4_46 rfl ?_
  refine q_istoreB_n 48 (lv0 := []) hX dJ6_bitCount_0f7a4_47 rfl rfl (by decide) rfl hres (fun v5 hres => ?_)
  refine q_iload_n 49 hX 0 dJ6_bitCount_0f7a4_48 rfl rfl rfl ?_
  refine q_bipush 51 hX dJ6_bitCount_0f7a4_49 rfl kB_63 ?_
  refine q_iand 52 hX dJ6_bitCount_0f7a4_51 rfl ?_
  exact q_iret hX (eqi hq hres) dJ6_bitCount_0f7a4_52
theorem cJ6_bitCount_0f7a49 {lo n : Nat} {l : Launch} {w : WD} (hj : Dj w lo n) {rr : Int32 × St} {S : St} {x0 : Int32} (hres : fJ6_bitCount_0f7a4 S x0 = some rr) : Ct l yJ6_bitCount_0f7a4 cJ6_bitCount_0f7a4 1 (some .int) 0 w lo n [.int x0] S (some (.int rr.1), rr.2) := by
  refine Ct.of (lv := [(0, .int x0)]) hj (by decide +kernel) (Nat.le_of_ble_eq_true rfl) rfl ?_
  rintro X rfl rfl hq hX
  exact wfJ6_bitCount_0f7a4 hX hq hres
def fJ6_numberOfTrailingZeros_0f7a4_74 (S : St) (x0 : Int32) (x1 : Int32) : Option (Int32 × St) :=
  some ((x1 + ((x0.toUInt32 >>> ((1 : Int32).toUInt32 &&& Int32.toUInt32 31)).toInt32)), S)
theorem wfJ6_numberOfTrailingZeros_0f7a4_74 {lo n : Nat} {X : CX} (hX : Ok RJ6 cJ6_numberOfTrailingZeros_0f7a4 (some .int) lo n 2 X) {rr : Int32 × St} (hq : rs X = (some (.int rr.1), rr.2)) {S : St} {x0 : Int32} {x1 : Int32} (hres : fJ6_numberOfTrailingZeros_0f7a4_74 S x0 x1 = some rr) : Wat lo n 0 2 X 74 [(0, .int x0), (1, .int x1)] [] S := by
  unfold fJ6_numberOfTrailingZeros_0f7a4_74 at hres
  refine q_iload_n 75 hX 1 dJ6_numberOfTrailingZeros_0f7a4_74 rfl rfl rfl ?_
  refine q_iload_n 76 hX 0 dJ6_numberOfTrailingZeros_0f7a4_75 rfl rfl rfl ?_
  refine q_iconst 77 hX dJ6_numberOfTrailingZeros_0f7a4_76 rfl kI_1 ?_
  refine q_iushr 78 hX dJ6_numberOfTrailingZeros_0f7a4_77 rfl ?_
  refine q_iadd 79 hX dJ6_numberOfTrailingZeros_0f7a4_78 rfl ?_
  exact q_iret hX (eqi hq hres) dJ6_numberOfTrailingZeros_0f7a4_79
def fJ6_numberOfTrailingZeros_0f7a4_62 (S : St) (x0 : Int32) (x1 : Int32) : Option (Int32 × St) :=
  if x0 ≤ (4 : Int32) then (fJ6_numberOfTrailingZeros_0f7a4_74 S x0 x1) else (bV (x1 + (2 : Int32)) fun v1 => bV ((x0.toUInt32 >>> ((2 : Int32).toUInt32 &&& Int32.toUInt32 31)).toInt32) fun v2 => fJ6_numberOfTrailingZeros_0f7a4_74 S v2 v1)
theorem wfJ6_numberOfTrailingZeros_0f7a4_62 {lo n : Nat} {X : CX} (hX : Ok RJ6 cJ6_numberOfTrailingZeros_0f7a4 (some .int) lo n 2 X) {rr : Int32 × St} (hq : rs X = (some (.int rr.1), rr.2)) {S : St} {x0 : Int32} {x1 : Int32} (hres : fJ6_numberOfTrailingZeros_0f7a4_62 S x0 x1 = some rr) : Wat lo n 0 2 X 62 [(0, .int x0), (1, .int x1)] [] S := by
  unfold fJ6_numberOfTrailingZeros_0f7a4_62 at hres
  refine q_iload_n 63 hX 0 dJ6_numberOfTrailingZeros_0f7a4_62 rfl rfl rfl ?_
  refine q_iconst 64 hX dJ6_numberOfTrailingZeros_0f7a4_63 rfl kI_4 ?_
  refine q_icmp_le 67 hX 74 dJ6_numberOfTrailingZeros_0f7a4_64 rfl (by decide) (fun hc => ?_) (fun hc => ?_)
  · have hres := it_t hc hres
    exact q_sub [0, 1] rfl (wfJ6_numberOfTrailingZeros_0f7a4_74 hX hq hres)
  · have hres := it_f hc hres
    refine q_iincB 70 1 (lv0 := [(0, .int x0)]) hX dJ6_numberOfTrailingZeros_0f7a4_67 rfl rfl kI_2 (by decide) rfl hres (fun v1 hres => ?_)
    refine q_iload_n 71 hX 1 dJ6_numberOfTrailingZeros_0f7a4_70 rfl rfl rfl ?_
    refine q_iconst 72 hX dJ6_numberOfTrailingZeros_0f7a4_71 rfl kI_2 ?_
    refine q_iushr 73 hX dJ6_numberOfTrailingZeros_0f7a4_72 rfl ?_
    refine q_istoreB_n 74 (lv0 := [(1, .int v1)]) hX dJ6_numberOfTrailingZeros_0f7a4_73 rfl rfl (by decide) rfl hres (fun v2 hres => ?_)
    exact q_sub [0, 1] rfl (wfJ6_numberOfTrailingZeros_0f7a4_74 hX hq hres)
def fJ6_numberOfTrailingZeros_0f7a4_49 (S : St) (x0 : Int32) (x1 : Int32) : Option (Int32 × St) :=
  if x0 ≤ (16 : Int32) then (fJ6_numberOfTrailingZeros_0f7a4_62 S x0 x1) else (bV (x1 + (4 : Int32)) fun v1 => bV ((x0.toUInt32 >>> ((4 : Int32).toUInt32 &&& Int32.toUInt32 31)).toInt32) fun v2 => fJ6_numberOfTrailingZeros_0f7a4_62 S v2 v1)
theorem wfJ6_numberOfTrailingZeros_0f7a4_49 {lo n : Nat} {X : CX} (hX : Ok RJ6 cJ6_numberOfTrailingZeros_0f7a4 (some .int) lo n 2 X) {rr : Int32 × St} (hq : rs X = (some (.int rr.1), rr.2)) {S : St} {x0 : Int32} {x1 : Int32} (hres : fJ6_numberOfTrailingZeros_0f7a4_49 S x0 x1 = some rr) : Wat lo n 0 2 X 49 [(0, .int x0), (1, .int x1)] [] S := by
  unfold fJ6_numberOfTrailingZeros_0f7a4_49 at hres
  refine q_iload_n 50 hX 0 dJ6_numberOfTrailingZeros_0f7a4_49 rfl rfl rfl ?_
  refine q_bipush 52 hX dJ6_numberOfTrailingZeros_0f7a4_50 rfl kB_16 ?_
  refine q_icmp_le 55 hX 62 dJ6_numberOfTrailingZeros_0f7a4_52 rfl (by decide) (fun hc => ?_) (fun hc => ?_)
  · have hres := it_t hc hres
    exact q_sub [0, 1] rfl (wfJ6_numberOfTrailingZeros_0f7a4_62 hX hq hres)
  · have hres := it_f hc hres
    refine q_iincB 58 1 (lv0 := [(0, .int x0)]) hX dJ6_numberOfTrailingZeros_0f7a4_55 rfl rfl kI_4 (by decide) rfl hres (fun v1 hres => ?_)
    refine q_iload_n 59 hX 1 dJ6_numberOfTrailingZeros_0f7a4_58 rfl rfl rfl ?_
    refine q_iconst 60 hX dJ6_numberOfTrailingZeros_0f7a4_59 rfl kI_4 ?_
    refine q_iushr 61 hX dJ6_numberOfTrailingZeros_0f7a4_60 rfl ?_
    refine q_istoreB_n 62 (lv0 := [(1, .int v1)]) hX dJ6_numberOfTrailingZeros_0f7a4_61 rfl rfl (by decide) rfl hres (fun v2 hres => ?_)
    exact q_sub [0, 1] rfl (wfJ6_numberOfTrailingZeros_0f7a4_62 hX hq hres)
def fJ6_numberOfTrailingZeros_0f7a4_34 (S : St) (x0 : Int32) (x1 : Int32) : Option (Int32 × St) :=
  if x0 ≤ (256 : Int32) then (fJ6_numberOfTrailingZeros_0f7a4_49 S x0 x1) else (bV (x1 + (8 : Int32)) fun v1 => bV ((x0.toUInt32 >>> ((8 : Int32).toUInt32 &&& Int32.toUInt32 31)).toInt32) fun v2 => fJ6_numberOfTrailingZeros_0f7a4_49 S v2 v1)
theorem wfJ6_numberOfTrailingZeros_0f7a4_34 {lo n : Nat} {X : CX} (hX : Ok RJ6 cJ6_numberOfTrailingZeros_0f7a4 (some .int) lo n 2 X) {rr : Int32 × St} (hq : rs X = (some (.int rr.1), rr.2)) {S : St} {x0 : Int32} {x1 : Int32} (hres : fJ6_numberOfTrailingZeros_0f7a4_34 S x0 x1 = some rr) : Wat lo n 0 2 X 34 [(0, .int x0), (1, .int x1)] [] S := by
  unfold fJ6_numberOfTrailingZeros_0f7a4_34 at hres
  refine q_iload_n 35 hX 0 dJ6_numberOfTrailingZeros_0f7a4_34 rfl rfl rfl ?_
  refine q_sipush 38 hX dJ6_numberOfTrailingZeros_0f7a4_35 rfl kS_256 ?_
  refine q_icmp_le 41 hX 49 dJ6_numberOfTrailingZeros_0f7a4_38 rfl (by decide) (fun hc => ?_) (fun hc => ?_)
  · have hres := it_t hc hres
    exact q_sub [0, 1] rfl (wfJ6_numberOfTrailingZeros_0f7a4_49 hX hq hres)
  · have hres := it_f hc hres
    refine q_iincB 44 1 (lv0 := [(0, .int x0)]) hX dJ6_numberOfTrailingZeros_0f7a4_41 rfl rfl kI_8 (by decide) rfl hres (fun v1 hres => ?_)
    refine q_iload_n 45 hX 1 dJ6_numberOfTrailingZeros_0f7a4_44 rfl rfl rfl ?_
    refine q_bipush 47 hX dJ6_numberOfTrailingZeros_0f7a4_45 rfl kB_8 ?_
    refine q_iushr 48 hX dJ6_numberOfTrailingZeros_0f7a4_47 rfl ?_
    refine q_istoreB_n 49 (lv0 := [(1, .int v1)]) hX dJ6_numberOfTrailingZeros_0f7a4_48 rfl rfl (by decide) rfl hres (fun v2 hres => ?_)
    exact q_sub [0, 1] rfl (wfJ6_numberOfTrailingZeros_0f7a4_49 hX hq hres)
def fJ6_numberOfTrailingZeros_0f7a4 (S : St) (x0 : Int32) : Option (Int32 × St) :=
  bV (((x0 ^^^ (-1 : Int32)) &&& (x0 - (1 : Int32)))) fun v1 => if 0 < v1 then (if v1 ≤ (65536 : Int32) then (fJ6_numberOfTrailingZeros_0f7a4_34 S v1 (1 : Int32)) else (bV ((1 : Int32) + (16 : Int32)) fun v2 => bV ((v1.toUInt32 >>> ((16 : Int32).toUInt32 &&& Int32.toUInt32 31)).toInt32) fun v3 => fJ6_numberOfTrailingZeros_0f7a4_34 S v3 v2)) else (some ((v1 &&& (32 : Int32)), S))
theorem wfJ6_numberOfTrailingZeros_0f7a4 {lo n : Nat} {X : CX} (hX : Ok RJ6 cJ6_numberOfTrailingZeros_0f7a4 (some .int) lo n 2 X) {rr : Int32 × St} (hq : rs X = (some (.int rr.1), rr.2)) {S : St} {x0 : Int32} (hres : fJ6_numberOfTrailingZeros_0f7a4 S x0 = some rr) : Wat lo n 0 2 X 0 [(0, .int x0)] [] S := by
  unfold fJ6_numberOfTrailingZeros_0f7a4 at hres
  refine q_iload_n 1 hX 0 dJ6_numberOfTrailingZeros_0f7a4_0 rfl rfl rfl ?_
  refine q_iconst 2 hX dJ6_numberOfTrailingZeros_0f7a4_1 rfl kI_m1 ?_
  refine q_ixor 3 hX dJ6_numberOfTrailingZeros_0f7a4_2 rfl ?_
  refine q_iload_n 4 hX 0 dJ6_numberOfTrailingZeros_0f7a4_3 rfl rfl rfl ?_
  refine q_iconst 5 hX dJ6_numberOfTrailingZeros_0f7a4_4 rfl kI_1 ?_
  refine q_isub 6 hX dJ6_numberOfTrailingZeros_0f7a4_5 rfl ?_
  refine q_iand 7 hX dJ6_numberOfTrailingZeros_0f7a4_6 rfl ?_
  refine q_istoreB_n 8 (lv0 := []) hX dJ6_numberOfTrailingZeros_0f7a4_7 rfl rfl (by decide) rfl hres (fun v1 hres => ?_)
  refine q_iload_n 9 hX 0 dJ6_numberOfTrailingZeros_0f7a4_8 rfl rfl rfl ?_
  refine q_if_gt 12 hX 17 dJ6_numberOfTrailingZeros_0f7a4_9 rfl (by decide) (fun hc => ?_) (fun hc => ?_)
  · have hres := it_t hc hres
    refine q_iconst 18 hX dJ6_numberOfTrailingZeros_0f7a4_17 rfl kI_1 ?_
    refine q_istore_n 19 (lv' := [(1, .int (1 : Int32)), (0, .int v1)]) hX dJ6_numberOfTrailingZeros_0f7a4_18 rfl rfl (by decide) rfl ?_
    refine q_iload_n 20 hX 1 dJ6_numberOfTrailingZeros_0f7a4_19 rfl rfl rfl ?_
    refine q_ldcw 23 hX dJ6_numberOfTrailingZeros_0f7a4_20 rfl gw3 ?_
    refine q_icmp_le 26 hX 34 dJ6_numberOfTrailingZeros_0f7a4_23 rfl (by decide) (fun hc => ?_) (fun hc => ?_)
    · have hres := it_t hc hres
      exact q_sub [1, 0] rfl (wfJ6_numberOfTrailingZeros_0f7a4_34 hX hq hres)
    · have hres := it_f hc hres
      refine q_iincB 29 0 (lv0 := [(0, .int v1)]) hX dJ6_numberOfTrailingZeros_0f7a4_26 rfl rfl kI_16 (by decide) rfl hres (fun v2 hres => ?_)
      refine q_iload_n 30 hX 1 dJ6_numberOfTrailingZeros_0f7a4_29 rfl rfl rfl ?_
      refine q_bipush 32 hX dJ6_numberOfTrailingZeros_0f7a4_30 rfl kB_16 ?_
      refine q_iushr 33 hX dJ6_numberOfTrailingZeros_0f7a4_32 rfl ?_
      refine q_istoreB_n 34 (lv0 := [(1, .int v2)]) hX dJ6_numberOfTrailingZeros_0f7a4_33 rfl rfl (by decide) rfl hres (fun v3 hres => ?_)
      exact q_sub [0, 1] rfl (wfJ6_numberOfTrailingZeros_0f7a4_34 hX hq hres)
  · have hres := it_f hc hres
    refine q_iload_n 13 hX 0 dJ6_numberOfTrailingZeros_0f7a4_12 rfl rfl rfl ?_
    refine q_bipush 15 hX dJ6_numberOfTrailingZeros_0f7a4_13 rfl kB_32 ?_
    refine q_iand 16 hX dJ6_numberOfTrailingZeros_0f7a4_15 rfl ?_
    exact q_iret hX (eqi hq hres) dJ6_numberOfTrailingZeros_0f7a4_16
theorem cJ6_numberOfTrailingZeros_0f7a49 {lo n : Nat} {l : Launch} {w : WD} (hj : Dj w lo n) {rr : Int32 × St} {S : St} {x0 : Int32} (hres : fJ6_numberOfTrailingZeros_0f7a4 S x0 = some rr) : Ct l yJ6_numberOfTrailingZeros_0f7a4 cJ6_numberOfTrailingZeros_0f7a4 2 (some .int) 0 w lo n [.int x0] S (some (.int rr.1), rr.2) := by
  refine Ct.of (lv := [(0, .int x0)]) hj (by decide +kernel) (Nat.le_of_ble_eq_true rfl) rfl ?_
  rintro X rfl rfl hq hX
  exact wfJ6_numberOfTrailingZeros_0f7a4 hX hq hres
def fJ0_isLatin1_aae02_17 (S : St) : Option (Int32 × St) :=
  some ((0 : Int32), S)
theorem wfJ0_isLatin1_aae02_17 {lo n : Nat} {X : CX} (hX : Ok RJ0 cJ0_isLatin1_aae02 (some .boolean) lo n 1 X) {rr : Int32 × St} (hq : rs X = (some (.int rr.1), rr.2)) {S : St} (hres : fJ0_isLatin1_aae02_17 S = some rr) : Wat lo n 0 1 X 17 [] [] S := by
  unfold fJ0_isLatin1_aae02_17 at hres
  refine q_iconst 18 hX dJ0_isLatin1_aae02_17 rfl kI_0 ?_
  exact q_zret hX (by decide) (eqi hq hres) dJ0_isLatin1_aae02_18
def fJ0_isLatin1_aae02 (S : St) : Option (Int32 × St) :=
  if (1 : Int32) = 0 then (fJ0_isLatin1_aae02_17 S) else (if (0 : Int32) = 0 then (some ((1 : Int32), S)) else (fJ0_isLatin1_aae02_17 S))
theorem wfJ0_isLatin1_aae02 {lo n : Nat} {X : CX} (hX : Ok RJ0 cJ0_isLatin1_aae02 (some .boolean) lo n 1 X) {rr : Int32 × St} (hq : rs X = (some (.int rr.1), rr.2)) {S : St} (hres : fJ0_isLatin1_aae02 S = some rr) : Wat lo n 0 1 X 0 [(0, .ref (sK X))] [] S := by
  unfold fJ0_isLatin1_aae02 at hres
  refine q_sStat 3 hX gw4 dJ0_isLatin1_aae02_0 rfl ?_
  refine q_if_eq 6 hX 17 dJ0_isLatin1_aae02_3 rfl (by decide) (fun hc => ?_) (fun hc => ?_)
  · have hres := it_t hc hres
    exact q_sub [] rfl (wfJ0_isLatin1_aae02_17 hX hq hres)
  · have hres := it_f hc hres
    refine q_aload_n 7 hX 0 dJ0_isLatin1_aae02_6 rfl rfl rfl ?_
    refine q_sCoder 10 hX gw5 dJ0_isLatin1_aae02_7 rfl ?_
    refine q_if_ne 13 hX 17 dJ0_isLatin1_aae02_10 rfl (by decide) (fun hc => ?_) (fun hc => ?_)
    · have hres := it_f hc hres
      exact q_sub [] rfl (wfJ0_isLatin1_aae02_17 hX hq hres)
    · have hres := it_t hc hres
      refine q_iconst 14 hX dJ0_isLatin1_aae02_13 rfl kI_1 ?_
      refine q_goto 18 hX dJ0_isLatin1_aae02_14 (by decide) ?_
      exact q_zret hX (by decide) (eqi hq hres) dJ0_isLatin1_aae02_18
theorem cJ0_isLatin1_aae029 {lo n : Nat} {l : Launch} {w : WD} (hj : Dj w lo n) {rr : Int32 × St} {S : St} (hres : fJ0_isLatin1_aae02 S = some rr) : Ct l yJ0_isLatin1_aae02 cJ0_isLatin1_aae02 1 (some .boolean) 0 w lo n [.ref w.2.2.2.2.2.1] S (some (.int rr.1), rr.2) := by
  refine Ct.of (lv := [(0, .ref w.2.2.2.2.2.1)]) hj (by decide +kernel) (Nat.le_of_ble_eq_true rfl) rfl ?_
  rintro X rfl rfl hq hX
  exact wfJ0_isLatin1_aae02 hX hq hres
def fJ0_coder_7d493 (S : St) : Option (Int32 × St) :=
  if (1 : Int32) = 0 then (some ((1 : Int32), S)) else (some ((0 : Int32), S))
theorem wfJ0_coder_7d493 {lo n : Nat} {X : CX} (hX : Ok RJ0 cJ0_coder_7d493 (some .byte) lo n 1 X) {rr : Int32 × St} (hq : rs X = (some (.int rr.1), rr.2)) {S : St} (hres : fJ0_coder_7d493 S = some rr) : Wat lo n 0 1 X 0 [(0, .ref (sK X))] [] S := by
  unfold fJ0_coder_7d493 at hres
  refine q_sStat 3 hX gw4 dJ0_coder_7d493_0 rfl ?_
  refine q_if_eq 6 hX 13 dJ0_coder_7d493_3 rfl (by decide) (fun hc => ?_) (fun hc => ?_)
  · have hres := it_t hc hres
    refine q_iconst 14 hX dJ0_coder_7d493_13 rfl kI_1 ?_
    exact q_bret hX (by decide) (eqi hq hres) dJ0_coder_7d493_14
  · have hres := it_f hc hres
    refine q_aload_n 7 hX 0 dJ0_coder_7d493_6 rfl rfl rfl ?_
    refine q_sCoder 10 hX gw5 dJ0_coder_7d493_7 rfl ?_
    refine q_goto 14 hX dJ0_coder_7d493_10 (by decide) ?_
    exact q_bret hX (by decide) (eqi hq hres) dJ0_coder_7d493_14
theorem cJ0_coder_7d4939 {lo n : Nat} {l : Launch} {w : WD} (hj : Dj w lo n) {rr : Int32 × St} {S : St} (hres : fJ0_coder_7d493 S = some rr) : Ct l yJ0_coder_7d493 cJ0_coder_7d493 1 (some .byte) 0 w lo n [.ref w.2.2.2.2.2.1] S (some (.int rr.1), rr.2) := by
  refine Ct.of (lv := [(0, .ref w.2.2.2.2.2.1)]) hj (by decide +kernel) (Nat.le_of_ble_eq_true rfl) rfl ?_
  rintro X rfl rfl hq hX
  exact wfJ0_coder_7d493 hX hq hres
def fJ0_length_8abf5 (S : St) : Option (Int32 × St) :=
  bi (fJ0_coder_7d493 S) fun r2 S1 => some (((9 : Int32) >>> (r2 &&& 31)), S1)
theorem wfJ0_length_8abf5 {lo n : Nat} {X : CX} (hX : Ok RJ0 cJ0_length_8abf5 (some .int) lo n 1 X) {rr : Int32 × St} (hq : rs X = (some (.int rr.1), rr.2)) {S : St} (hres : fJ0_length_8abf5 S = some rr) : Wat lo n 1 1 X 0 [(0, .ref (sK X))] [] S := by
  unfold fJ0_length_8abf5 at hres
  refine q_aload_n 1 hX 0 dJ0_length_8abf5_0 rfl rfl rfl ?_
  refine q_sValue 4 hX gw6 dJ0_length_8abf5_1 rfl ?_
  refine q_sLen 5 hX dJ0_length_8abf5_4 rfl ?_
  refine q_aload_n 6 hX 0 dJ0_length_8abf5_5 rfl rfl rfl ?_
  obtain ⟨r2, S1, hk1, hres⟩ := ob hres
  refine q_callKi 9 (st := [.int (9 : Int32)]) (As := []) hX (cJ0_coder_7d4939 hX.dj hk1) cv_RJ0_335 rfl (by decide) rfl (Nat.le_of_ble_eq_true rfl) dJ0_length_8abf5_6 rfl ?_
  refine q_ishr 10 hX dJ0_length_8abf5_9 rfl ?_
  exact q_iret hX (eqi hq hres) dJ0_length_8abf5_10
theorem cJ0_length_8abf59 {lo n : Nat} {l : Launch} {w : WD} (hj : Dj w lo n) {rr : Int32 × St} {S : St} (hres : fJ0_length_8abf5 S = some rr) : Ct l yJ0_length_8abf5 cJ0_length_8abf5 1 (some .int) 1 w lo n [.ref w.2.2.2.2.2.1] S (some (.int rr.1), rr.2) := by
  refine Ct.of (lv := [(0, .ref w.2.2.2.2.2.1)]) hj (by decide +kernel) (Nat.le_of_ble_eq_true rfl) rfl ?_
  rintro X rfl rfl hq hX
  exact wfJ0_length_8abf5 hX hq hres
def fJ1_canEncode_9a6ad_15 (S : St) : Option (Int32 × St) :=
  some ((0 : Int32), S)
theorem wfJ1_canEncode_9a6ad_15 {lo n : Nat} {X : CX} (hX : Ok RJ1 cJ1_canEncode_9a6ad (some .boolean) lo n 1 X) {rr : Int32 × St} (hq : rs X = (some (.int rr.1), rr.2)) {S : St} (hres : fJ1_canEncode_9a6ad_15 S = some rr) : Wat lo n 0 1 X 15 [] [] S := by
  unfold fJ1_canEncode_9a6ad_15 at hres
  refine q_iconst 16 hX dJ1_canEncode_9a6ad_15 rfl kI_0 ?_
  exact q_zret hX (by decide) (eqi hq hres) dJ1_canEncode_9a6ad_16
def fJ1_canEncode_9a6ad (S : St) (x0 : Int32) : Option (Int32 × St) :=
  if x0 < 0 then (fJ1_canEncode_9a6ad_15 S) else (if (255 : Int32) < x0 then (fJ1_canEncode_9a6ad_15 S) else (some ((1 : Int32), S)))
theorem wfJ1_canEncode_9a6ad {lo n : Nat} {X : CX} (hX : Ok RJ1 cJ1_canEncode_9a6ad (some .boolean) lo n 1 X) {rr : Int32 × St} (hq : rs X = (some (.int rr.1), rr.2)) {S : St} {x0 : Int32} (hres : fJ1_canEncode_9a6ad S x0 = some rr) : Wat lo n 0 1 X 0 [(0, .int x0)] [] S := by
  unfold fJ1_canEncode_9a6ad at hres
  refine q_iload_n 1 hX 0 dJ1_canEncode_9a6ad_0 rfl rfl rfl ?_
  refine q_if_lt 4 hX 15 dJ1_canEncode_9a6ad_1 rfl (by decide) (fun hc => ?_) (fun hc => ?_)
  · have hres := it_t hc hres
    exact q_sub [] rfl (wfJ1_canEncode_9a6ad_15 hX hq hres)
  · have hres := it_f hc hres
    refine q_iload_n 5 hX 0 dJ1_canEncode_9a6ad_4 rfl rfl rfl ?_
    refine q_sipush 8 hX dJ1_canEncode_9a6ad_5 rfl kS_255 ?_
    refine q_icmp_gt 11 hX 15 dJ1_canEncode_9a6ad_8 rfl (by decide) (fun hc => ?_) (fun hc => ?_)
    · have hres := it_t hc hres
      exact q_sub [] rfl (wfJ1_canEncode_9a6ad_15 hX hq hres)
    · have hres := it_f hc hres
      refine q_iconst 12 hX dJ1_canEncode_9a6ad_11 rfl kI_1 ?_
      refine q_goto 16 hX dJ1_canEncode_9a6ad_12 (by decide) ?_
      exact q_zret hX (by decide) (eqi hq hres) dJ1_canEncode_9a6ad_16
theorem cJ1_canEncode_9a6ad9 {lo n : Nat} {l : Launch} {w : WD} (hj : Dj w lo n) {rr : Int32 × St} {S : St} {x0 : Int32} (hres : fJ1_canEncode_9a6ad S x0 = some rr) : Ct l yJ1_canEncode_9a6ad cJ1_canEncode_9a6ad 1 (some .boolean) 0 w lo n [.int x0] S (some (.int rr.1), rr.2) := by
  refine Ct.of (lv := [(0, .int x0)]) hj (by decide +kernel) (Nat.le_of_ble_eq_true rfl) rfl ?_
  rintro X rfl rfl hq hX
  exact wfJ1_canEncode_9a6ad hX hq hres
def bJ1_indexOfChar_4cfef_7 (rc7 : St → Int32 → Int32 → Int32 → Option (Int32 × St)) (S : St) (x3 : Int32) (x4 : Int32) (x5 : Int32) : Option (Int32 × St) :=
  if x3 ≤ x5 then (some ((-1 : Int32), S)) else (if inb x5 9 = true then if (strB (x5.toNatClampNeg)) = x4 then (some (x5, S)) else (bV (x5 + (1 : Int32)) fun v2 => rc7 S x3 x4 v2) else none)
theorem wbJ1_indexOfChar_4cfef_7 {lo n : Nat} {X : CX} (hX : Ok RJ1 cJ1_indexOfChar_4cfef (some .int) lo n 6 X) {rr : Int32 × St} (hq : rs X = (some (.int rr.1), rr.2)) {rc7 : St → Int32 → Int32 → Int32 → Option (Int32 × St)} (hrc7 : ∀ (S : St) (x3 : Int32) (x4 : Int32) (x5 : Int32), rc7 S x3 x4 x5 = some rr → Wat lo n 0 6 X 7 [(0, .ref (sV X)), (3, .int x3), (4, .int x4), (5, .int x5)] [] S) {S : St} {x3 : Int32} {x4 : Int32} {x5 : Int32} (hres : bJ1_indexOfChar_4cfef_7 rc7 S x3 x4 x5 = some rr) : Wat lo n 0 6 X 7 [(0, .ref (sV X)), (3, .int x3), (4, .int x4), (5, .int x5)] [] S := by
  unfold bJ1_indexOfChar_4cfef_7 at hres
  refine q_iload 9 hX 3 dJ1_indexOfChar_4cfef_7 rfl rfl ?_
  refine q_iload_n 10 hX 1 dJ1_indexOfChar_4cfef_9 rfl rfl rfl ?_
  refine q_icmp_ge 13 hX 31 dJ1_indexOfChar_4cfef_10 rfl (by decide) (fun hc => ?_) (fun hc => ?_)
  · have hres := it_t hc hres
    refine q_iconst 32 hX dJ1_indexOfChar_4cfef_31 rfl kI_m1 ?_
    exact q_iret hX (eqi hq hres) dJ1_indexOfChar_4cfef_32
  · have hres := it_f hc hres
    refine q_aload_n 14 hX 0 dJ1_indexOfChar_4cfef_13 rfl rfl rfl ?_
    refine q_iload 16 hX 3 dJ1_indexOfChar_4cfef_14 rfl rfl ?_
    obtain ⟨hb1, hres⟩ := gd hres
    refine q_sByte 17 hX rfl hb1 dJ1_indexOfChar_4cfef_16 rfl ?_
    refine q_iload 19 hX 2 dJ1_indexOfChar_4cfef_17 rfl rfl ?_
    refine q_icmp_ne 22 hX 25 dJ1_indexOfChar_4cfef_19 rfl (by decide) (fun hc => ?_) (fun hc => ?_)
    · have hres := it_f hc hres
      refine q_iincB 28 3 (lv0 := [(0, .ref (sV X)), (3, .int x3), (4, .int x4)]) hX dJ1_indexOfChar_4cfef_25 rfl rfl kI_1 (by decide) rfl hres (fun v2 hres => ?_)
      refine q_goto 7 hX dJ1_indexOfChar_4cfef_28 (by decide) ?_
      exact q_sub [1, 2, 3, 0] rfl (hrc7 _ _ _ _ hres)
    · have hres := it_t hc hres
      refine q_iload 24 hX 3 dJ1_indexOfChar_4cfef_22 rfl rfl ?_
      exact q_iret hX (eqi hq hres) dJ1_indexOfChar_4cfef_24
def fJ1_indexOfChar_4cfef_7 : Nat → St → Int32 → Int32 → Int32 → Option (Int32 × St)
  | 0 => fun _ _ _ _ => none
  | k + 1 => fun S x3 x4 x5 => bJ1_indexOfChar_4cfef_7 (fJ1_indexOfChar_4cfef_7 k) S x3 x4 x5
theorem wfJ1_indexOfChar_4cfef_7 {lo n : Nat} {X : CX} (hX : Ok RJ1 cJ1_indexOfChar_4cfef (some .int) lo n 6 X) {rr : Int32 × St} (hq : rs X = (some (.int rr.1), rr.2)) (k : Nat) : ∀ (S : St) (x3 : Int32) (x4 : Int32) (x5 : Int32), fJ1_indexOfChar_4cfef_7 k S x3 x4 x5 = some rr → Wat lo n 0 6 X 7 [(0, .ref (sV X)), (3, .int x3), (4, .int x4), (5, .int x5)] [] S := by
  induction k with
  | zero => intro S x3 x4 x5 hres; exact absurd hres (by simp [fJ1_indexOfChar_4cfef_7])
  | succ k ih => intro S x3 x4 x5 hres; exact wbJ1_indexOfChar_4cfef_7 hX hq ih hres
def fJ1_indexOfChar_4cfef (S : St) (x1 : Int32) (x2 : Int32) (x3 : Int32) : Option (Int32 × St) :=
  bV (x1.toInt8.toInt32) fun v1 => fJ1_indexOfChar_4cfef_7 100 S x3 v1 x2
theorem wfJ1_indexOfChar_4cfef {lo n : Nat} {X : CX} (hX : Ok RJ1 cJ1_indexOfChar_4cfef (some .int) lo n 6 X) {rr : Int32 × St} (hq : rs X = (some (.int rr.1), rr.2)) {S : St} {x1 : Int32} {x2 : Int32} {x3 : Int32} (hres : fJ1_indexOfChar_4cfef S x1 x2 x3 = some rr) : Wat lo n 0 6 X 0 [(0, .ref (sV X)), (1, .int x1), (2, .int x2), (3, .int x3)] [] S := by
  unfold fJ1_indexOfChar_4cfef at hres
  refine q_iload_n 1 hX 1 dJ1_indexOfChar_4cfef_0 rfl rfl rfl ?_
  refine q_i2b 2 hX dJ1_indexOfChar_4cfef_1 rfl ?_
  refine q_istoreB 4 (lv0 := [(0, .ref (sV X)), (1, .int x1), (2, .int x2), (3, .int x3)]) hX dJ1_indexOfChar_4cfef_2 rfl (by decide) rfl hres (fun v1 hres => ?_)
  refine q_iload_n 5 hX 3 dJ1_indexOfChar_4cfef_4 rfl rfl rfl ?_
  refine q_istore 7 (lv' := [(5, .int x2), (4, .int v1), (0, .ref (sV X)), (1, .int x1), (2, .int x2), (3, .int x3)]) hX dJ1_indexOfChar_4cfef_5 rfl (by decide) rfl ?_
  exact q_sub [2, 5, 1, 0] rfl (wfJ1_indexOfChar_4cfef_7 hX hq _ _ _ _ _ hres)
theorem cJ1_indexOfChar_4cfef9 {lo n : Nat} {l : Launch} {w : WD} (hj : Dj w lo n) {rr : Int32 × St} {S : St} {x1 : Int32} {x2 : Int32} {x3 : Int32} (hres : fJ1_indexOfChar_4cfef S x1 x2 x3 = some rr) : Ct l yJ1_indexOfChar_4cfef cJ1_indexOfChar_4cfef 6 (some .int) 0 w lo n [.ref w.2.2.2.2.2.2, .int x1, .int x2, .int x3] S (some (.int rr.1), rr.2) := by
  refine Ct.of (lv := [(0, .ref w.2.2.2.2.2.2), (1, .int x1), (2, .int x2), (3, .int x3)]) hj (by decide +kernel) (Nat.le_of_ble_eq_true rfl) rfl ?_
  rintro X rfl rfl hq hX
  exact wfJ1_indexOfChar_4cfef hX hq hres
def fJ1_indexOf_4cfef (S : St) (x1 : Int32) (x2 : Int32) (x3 : Int32) : Option (Int32 × St) :=
  bi (fJ1_canEncode_9a6ad S x1) fun r2 S1 => if r2 = 0 then (some ((-1 : Int32), S1)) else (bV ((if x2 < (0 : Int32) then (0 : Int32) else x2)) fun v3 => bV ((if (9 : Int32) < x3 then (9 : Int32) else x3)) fun v4 => if v3 < v4 then (bi (fJ1_indexOfChar_4cfef S1 x1 v3 v4) fun r6 S2 => some (r6, S2)) else (some ((-1 : Int32), S1)))
theorem wfJ1_indexOf_4cfef {lo n : Nat} {X : CX} (hX : Ok RJ1 cJ1_indexOf_4cfef (some .int) lo n 4 X) {rr : Int32 × St} (hq : rs X = (some (.int rr.1), rr.2)) {S : St} {x1 : Int32} {x2 : Int32} {x3 : Int32} (hres : fJ1_indexOf_4cfef S x1 x2 x3 = some rr) : Wat lo n 1 4 X 0 [(0, .ref (sV X)), (1, .int x1), (2, .int x2), (3, .int x3)] [] S := by
  unfold fJ1_indexOf_4cfef at hres
  refine q_iload_n 1 hX 1 dJ1_indexOf_4cfef_0 rfl rfl rfl ?_
  obtain ⟨r2, S1, hk1, hres⟩ := ob hres
  refine q_callSi 4 (st := []) (As := [.int x1]) hX (cJ1_canEncode_9a6ad9 hX.dj hk1) cs_RJ1_88 rfl (by decide) rfl (Nat.le_of_ble_eq_true rfl) dJ1_indexOf_4cfef_1 rfl ?_
  refine q_if_ne 7 hX 9 dJ1_indexOf_4cfef_4 rfl (by decide) (fun hc => ?_) (fun hc => ?_)
  · have hres := it_f hc hres
    refine q_iload_n 10 hX 2 dJ1_indexOf_4cfef_9 rfl rfl rfl ?_
    refine q_iconst 11 hX dJ1_indexOf_4cfef_10 rfl kI_0 ?_
    refine q_max 14 hX mw_RJ1_92 (by decide) (Nat.le_of_ble_eq_true rfl) dJ1_indexOf_4cfef_11 rfl ?_
    refine q_istoreB_n 15 (lv0 := [(0, .ref (sV X)), (1, .int x1), (3, .int x3)]) hX dJ1_indexOf_4cfef_14 rfl rfl (by decide) rfl hres (fun v3 hres => ?_)
    refine q_iload_n 16 hX 3 dJ1_indexOf_4cfef_15 rfl rfl rfl ?_
    refine q_aload_n 17 hX 1 dJ1_indexOf_4cfef_16 rfl rfl rfl ?_
    refine q_sLen 18 hX dJ1_indexOf_4cfef_17 rfl ?_
    refine q_min 21 hX mw_RJ1_38 (by decide) (Nat.le_of_ble_eq_true rfl) dJ1_indexOf_4cfef_18 rfl ?_
    refine q_istoreB_n 22 (lv0 := [(2, .int v3), (0, .ref (sV X)), (1, .int x1)]) hX dJ1_indexOf_4cfef_21 rfl rfl (by decide) rfl hres (fun v4 hres => ?_)
    refine q_iload_n 23 hX 1 dJ1_indexOf_4cfef_22 rfl rfl rfl ?_
    refine q_iload_n 24 hX 0 dJ1_indexOf_4cfef_23 rfl rfl rfl ?_
    refine q_icmp_lt 27 hX 29 dJ1_indexOf_4cfef_24 rfl (by decide) (fun hc => ?_) (fun hc => ?_)
    · have hres := it_t hc hres
      refine q_aload_n 30 hX 2 dJ1_indexOf_4cfef_29 rfl rfl rfl ?_
      refine q_iload_n 31 hX 3 dJ1_indexOf_4cfef_30 rfl rfl rfl ?_
      refine q_iload_n 32 hX 1 dJ1_indexOf_4cfef_31 rfl rfl rfl ?_
      refine q_iload_n 33 hX 0 dJ1_indexOf_4cfef_32 rfl rfl rfl ?_
      obtain ⟨r6, S2, hk5, hres⟩ := ob hres
      refine q_callSi 36 (st := []) (As := [.ref (sV X), .int x1, .int v3, .int v4]) hX (cJ1_indexOfChar_4cfef9 hX.dj hk5) cs_RJ1_95 rfl (by decide) rfl (Nat.le_of_ble_eq_true rfl) dJ1_indexOf_4cfef_33 rfl ?_
      exact q_iret hX (eqi hq hres) dJ1_indexOf_4cfef_36
    · have hres := it_f hc hres
      refine q_iconst 28 hX dJ1_indexOf_4cfef_27 rfl kI_m1 ?_
      exact q_iret hX (eqi hq hres) dJ1_indexOf_4cfef_28
  · have hres := it_t hc hres
    refine q_iconst 8 hX dJ1_indexOf_4cfef_7 rfl kI_m1 ?_
    exact q_iret hX (eqi hq hres) dJ1_indexOf_4cfef_8
theorem cJ1_indexOf_4cfef9 {lo n : Nat} {l : Launch} {w : WD} (hj : Dj w lo n) {rr : Int32 × St} {S : St} {x1 : Int32} {x2 : Int32} {x3 : Int32} (hres : fJ1_indexOf_4cfef S x1 x2 x3 = some rr) : Ct l yJ1_indexOf_4cfef cJ1_indexOf_4cfef 4 (some .int) 1 w lo n [.ref w.2.2.2.2.2.2, .int x1, .int x2, .int x3] S (some (.int rr.1), rr.2) := by
  refine Ct.of (lv := [(0, .ref w.2.2.2.2.2.2), (1, .int x1), (2, .int x2), (3, .int x3)]) hj (by decide +kernel) (Nat.le_of_ble_eq_true rfl) rfl ?_
  rintro X rfl rfl hq hX
  exact wfJ1_indexOf_4cfef hX hq hres
def fJ0_indexOf_7cf53 (S : St) (x1 : Int32) (x2 : Int32) : Option (Int32 × St) :=
  bi (fJ0_isLatin1_aae02 S) fun r2 S1 => if r2 = 0 then (none) else (bi (fJ0_length_8abf5 S1) fun r4 S2 => bi (fJ1_indexOf_4cfef S2 x1 x2 r4) fun r6 S3 => some (r6, S3))
theorem wfJ0_indexOf_7cf53 {lo n : Nat} {X : CX} (hX : Ok RJ0 cJ0_indexOf_7cf53 (some .int) lo n 3 X) {rr : Int32 × St} (hq : rs X = (some (.int rr.1), rr.2)) {S : St} {x1 : Int32} {x2 : Int32} (hres : fJ0_indexOf_7cf53 S x1 x2 = some rr) : Wat lo n 2 3 X 0 [(0, .ref (sK X)), (1, .int x1), (2, .int x2)] [] S := by
  unfold fJ0_indexOf_7cf53 at hres
  refine q_aload_n 1 hX 0 dJ0_indexOf_7cf53_0 rfl rfl rfl ?_
  obtain ⟨r2, S1, hk1, hres⟩ := ob hres
  refine q_callKi 4 (st := []) (As := []) hX (cJ0_isLatin1_aae029 hX.dj hk1) cv_RJ0_492 rfl (by decide) rfl (Nat.le_of_ble_eq_true rfl) dJ0_indexOf_7cf53_1 rfl ?_
  refine q_if_eq 7 hX 23 dJ0_indexOf_7cf53_4 rfl (by decide) (fun hc => ?_) (fun hc => ?_)
  · have hres := it_t hc hres
    cases hres
  · have hres := it_f hc hres
    refine q_aload_n 8 hX 0 dJ0_indexOf_7cf53_7 rfl rfl rfl ?_
    refine q_sValue 11 hX gw6 dJ0_indexOf_7cf53_8 rfl ?_
    refine q_iload_n 12 hX 1 dJ0_indexOf_7cf53_11 rfl rfl rfl ?_
    refine q_iload_n 13 hX 2 dJ0_indexOf_7cf53_12 rfl rfl rfl ?_
    refine q_aload_n 14 hX 0 dJ0_indexOf_7cf53_13 rfl rfl rfl ?_
    obtain ⟨r4, S2, hk3, hres⟩ := ob hres
    refine q_callKi 17 (st := [.int x2, .int x1, .ref (sV X)]) (As := []) hX (cJ0_length_8abf59 hX.dj hk3) cv_RJ0_505 rfl (by decide) rfl (Nat.le_of_ble_eq_true rfl) dJ0_indexOf_7cf53_14 rfl ?_
    obtain ⟨r6, S3, hk5, hres⟩ := ob hres
    refine q_callSi 20 (st := []) (As := [.ref (sV X), .int x1, .int x2, .int r4]) hX (cJ1_indexOf_4cfef9 hX.dj hk5) cs_RJ0_637 rfl (by decide) rfl (Nat.le_of_ble_eq_true rfl) dJ0_indexOf_7cf53_17 rfl ?_
    refine q_goto 36 hX dJ0_indexOf_7cf53_20 (by decide) ?_
    exact q_iret hX (eqi hq hres) dJ0_indexOf_7cf53_36
theorem cJ0_indexOf_7cf539 {lo n : Nat} {l : Launch} {w : WD} (hj : Dj w lo n) {rr : Int32 × St} {S : St} {x1 : Int32} {x2 : Int32} (hres : fJ0_indexOf_7cf53 S x1 x2 = some rr) : Ct l yJ0_indexOf_7cf53 cJ0_indexOf_7cf53 3 (some .int) 2 w lo n [.ref w.2.2.2.2.2.1, .int x1, .int x2] S (some (.int rr.1), rr.2) := by
  refine Ct.of (lv := [(0, .ref w.2.2.2.2.2.1), (1, .int x1), (2, .int x2)]) hj (by decide +kernel) (Nat.le_of_ble_eq_true rfl) rfl ?_
  rintro X rfl rfl hq hX
  exact wfJ0_indexOf_7cf53 hX hq hres
def fJ0_indexOf_0f7a4 (S : St) (x1 : Int32) : Option (Int32 × St) :=
  bi (fJ0_indexOf_7cf53 S x1 (0 : Int32)) fun r2 S1 => some (r2, S1)
theorem wfJ0_indexOf_0f7a4 {lo n : Nat} {X : CX} (hX : Ok RJ0 cJ0_indexOf_0f7a4 (some .int) lo n 2 X) {rr : Int32 × St} (hq : rs X = (some (.int rr.1), rr.2)) {S : St} {x1 : Int32} (hres : fJ0_indexOf_0f7a4 S x1 = some rr) : Wat lo n 3 2 X 0 [(0, .ref (sK X)), (1, .int x1)] [] S := by
  unfold fJ0_indexOf_0f7a4 at hres
  refine q_aload_n 1 hX 0 dJ0_indexOf_0f7a4_0 rfl rfl rfl ?_
  refine q_iload_n 2 hX 1 dJ0_indexOf_0f7a4_1 rfl rfl rfl ?_
  refine q_iconst 3 hX dJ0_indexOf_0f7a4_2 rfl kI_0 ?_
  obtain ⟨r2, S1, hk1, hres⟩ := ob hres
  refine q_callKi 6 (st := []) (As := [.int x1, .int (0 : Int32)]) hX (cJ0_indexOf_7cf539 hX.dj hk1) cv_RJ0_633 rfl (by decide) rfl (Nat.le_of_ble_eq_true rfl) dJ0_indexOf_0f7a4_3 rfl ?_
  exact q_iret hX (eqi hq hres) dJ0_indexOf_0f7a4_6
theorem cJ0_indexOf_0f7a49 {lo n : Nat} {l : Launch} {w : WD} (hj : Dj w lo n) {rr : Int32 × St} {S : St} {x1 : Int32} (hres : fJ0_indexOf_0f7a4 S x1 = some rr) : Ct l yJ0_indexOf_0f7a4 cJ0_indexOf_0f7a4 2 (some .int) 3 w lo n [.ref w.2.2.2.2.2.1, .int x1] S (some (.int rr.1), rr.2) := by
  refine Ct.of (lv := [(0, .ref w.2.2.2.2.2.1), (1, .int x1)]) hj (by decide +kernel) (Nat.le_of_ble_eq_true rfl) rfl ?_
  rintro X rfl rfl hq hX
  exact wfJ0_indexOf_0f7a4 hX hq hres
