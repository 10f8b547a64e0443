def fJ6_bitCount_0f7a4 (S : St) (x0 : Int32) : Option (Int32 × St) :=
  bV ((x0 - (((x0.toUInt32 >>> ((1 : Int32).toUInt32 &&& Int32.toUInt32 31)).toInt32) &&& 1431655765))) fun v1 => bV (((v1 &&& 858993459) + (((v1.toUInt32 >>> ((2 : Int32).toUInt32 &&& Int32.toUInt32 31)).toInt32) &&& 858993459))) fun v2 => bV (((v2 + ((v2.toUInt32 >>> ((4 : Int32).toUInt32 &&& Int32.toUInt32 31)).toInt32)) &&& 252645135)) fun v3 => bV ((v3 + ((v3.toUInt32 >>> ((8 : Int32).toUInt32 &&& Int32.toUInt32 31)).toInt32))) fun v4 => bV ((v4 + ((v4.toUInt32 >>> ((16 : Int32).toUInt32 &&& Int32.toUInt32 31)).toInt32))) fun v5 => some ((v5 &&& 63), S)
theorem wfJ6_bitCount_0f7a4 {lo n : Nat} {X : CX} (hX : Ok RJ6 cJ6_bitCount_0f7a4 (some .int) lo n 1 X) {rr : Int32 × St} (hq : rs X = (some (.int rr.1), rr.2)) {S : St} {x0 : Int32} (hres : fJ6_bitCount_0f7a4 S x0 = some rr) : Wat lo n 0 1 X 0 [(0, .int x0)] [] S := by
  unfold fJ6_bitCount_0f7a4 at hres
  refine q_iload_n 1 hX 0 dJ6_bitCount_0f7a4_0 rfl rfl rfl ?_
  refine q_iload_n 2 hX 0 dJ6_bitCount_0f7a4_1 rfl rfl rfl ?_
  refine q_iconst 3 hX dJ6_bitCount_0f7a4_2 rfl kI_1 ?_
  refine q_iushr 4 hX dJ6_bitCount_0f7a4_3 rfl ?_
  refine q_ldcw 7 hX dJ6_bitCount_0f7a4_4 rfl gw0 ?_
  refine q_iand 8 hX dJ6_bitCount_0f7a4_7 rfl ?_
  refine q_isub 9 hX dJ6_bitCount_0f7a4_8 rfl ?_
  refine q_istoreB_n 10 (lv0 := []) hX dJ6_bitCount_0f7a4_9 rfl rfl (by decide) rfl hres (fun v1 hres => ?_)
  refine q_iload_n 11 hX 0 dJ6_bitCount_0f7a4_10 rfl rfl rfl ?_
  refine q_ldcw 14 hX dJ6_bitCount_0f7a4_11 rfl gw1 ?_
  refine q_iand 15 hX dJ6_bitCount_0f7a4_14 rfl ?_
  refine q_iload_n 16 hX 0 dJ6_bitCount_0f7a4_15 rfl rfl rfl ?_
  refine q_iconst 17 hX dJ6_bitCount_0f7a4_16 rfl kI_2 ?_
  refine q_iushr 18 hX dJ6_bitCount_0f7a4_17 rfl ?_
  refine q_ldcw 21 hX dJ6_bitCount_0f7a4_18 rfl gw1 ?_
  refine q_iand 22 hX dJ6_bitCount_0f7a4_21 rfl ?_
  refine q_iadd 23 hX dJ6_bitCount_0f7a4_22 rfl ?_
  refine q_istoreB_n 24 (lv0 := []) hX dJ6_bitCount_0f7a4_23 rfl rfl (by decide) rfl hres (fun v2 hres => ?_)
  refine q_iload_n 25 hX 0 dJ6_bitCount_0f7a4_24 rfl rfl rfl ?_
  refine q_iload_n 26 hX 0 dJ6_bitCount_0f7a4_25 rfl rfl rfl ?_
  refine q_iconst 27 hX dJ6_bitCount_0f7a4_26 rfl kI_4 ?_
  refine q_iushr 28 hX dJ6_bitCount_0f7a4_27 rfl ?_
  refine q_iadd 29 hX dJ6_bitCount_0f7a4_28 rfl ?_
  refine q_ldcw 32 hX dJ6_bitCount_0f7a4_29 rfl gw2 ?_
  refine q_iand 33 hX dJ6_bitCount_0f7a4_32 rfl ?_
  refine q_istoreB_n 34 (lv0 := []) hX dJ6_bitCount_0f7a4_33 rfl rfl (by decide) rfl hres (fun v3 hres => ?_)
  refine q_iload_n 35 hX 0 dJ6_bitCount_0f7a4_34 rfl rfl rfl ?_
  refine q_iload_n 36 hX 0 dJ6_bitCount_0f7a4_35 rfl rfl rfl ?_
  refine q_bipush 38 hX dJ6_bitCount_0f7a4_36 rfl kB_8 ?_
  refine q_iushr 39 hX dJ6_bitCount_0f7a4_38 rfl ?_
  refine q_iadd 40 hX dJ6_bitCount_0f7a4_39 rfl ?_
  refine q_istoreB_n 41 (lv0 := []) hX dJ6_bitCount_0f7a4_40 rfl rfl (by decide) rfl hres (fun v4 hres => ?_)
  refine q_iload_n 42 hX 0 dJ6_bitCount_0f7a4_41 rfl rfl rfl ?_
  refine q_iload_n 43 hX 0 dJ6_bitCount_0f7a4_42 rfl rfl rfl ?_
  refine q_bipush 45 hX dJ6_bitCount_0f7a4_43 rfl kB_16 ?_
  refine q_iushr 46 hX dJ6_bitCount_0f7a4_45 rfl ?_
  refine q_iadd 47 hX dJ6_bitCount_0f7a4_46 rfl ?_
  refine q_istoreB_n 48 (lv0 := []) hX dJ6_bitCount_0f7a4_47 rfl rfl (by decide) rfl hres (fun v5 hres => ?_)
  refine q_iload_n 49 hX 0 dJ6_bitCount_0f7a4_48 rfl rfl rfl ?_
  refine q_bipush 51 hX dJ6_bitCount_0f7a4_49 rfl kB_63 ?_
  refine q_iand 52 hX dJ6_bitCount_0f7a4_51 rfl ?_
  exact q_iret hX (eqi hq hres) dJ6_bitCount_0f7a4_52
theorem cJ6_bitCount_0f7a49 {lo n : Nat} {l : Launch} {w : WD} (hj : Dj w lo n) {rr : Int32 × St} {S : St} {x0 : Int32} (hres : fJ6_bitCount_0f7a4 S x0 = some rr) : Ct l yJ6_bitCount_0f7a4 cJ6_bitCount_0f7a4 1 (some .int) 0 w lo n [.int x0] S (some (.int rr.1), rr.2) := by
  refine Ct.of (lv := [(0, .int x0)]) hj (by decide +kernel) (by decide) rfl ?_
  rintro X rfl rfl hq hX
  exact wfJ6_bitCount_0f7a4 hX hq hres
def fJ6_numberOfTrailingZeros_0f7a4_74 (S : St) (x0 : Int32) (x1 : Int32) : Option (Int32 × St) :=
  some ((x1 + ((x0.toUInt32 >>> ((1 : Int32).toUInt32 &&& Int32.toUInt32 31)).toInt32)), S)
theorem wfJ6_numberOfTrailingZeros_0f7a4_74 {lo n : Nat} {X : CX} (hX : Ok RJ6 cJ6_numberOfTrailingZeros_0f7a4 (some .int) lo n 2 X) {rr : Int32 × St} (hq : rs X = (some (.int rr.1), rr.2)) {S : St} {x0 : Int32} {x1 : Int32} (hres : fJ6_numberOfTrailingZeros_0f7a4_74 S x0 x1 = some rr) : Wat lo n 0 2 X 74 [(0, .int x0), (1, .int x1)] [] S := by
  unfold fJ6_numberOfTrailingZeros_0f7a4_74 at hres
  refine q_iload_n 75 hX 1 dJ6_numberOfTrailingZeros_0f7a4_74 rfl rfl rfl ?_
  refine q_iload_n 76 hX 0 dJ6_numberOfTrailingZeros_0f7a4_75 rfl rfl rfl ?_
  refine q_iconst 77 hX dJ6_numberOfTrailingZeros_0f7a4_76 rfl kI_1 ?_
  refine q_iushr 78 hX dJ6_numberOfTrailingZeros_0f7a4_77 rfl ?_
  refine q_iadd 79 hX dJ6_numberOfTrailingZeros_0f7a4_78 rfl ?_
  exact q_iret hX (eqi hq hres) dJ6_numberOfTrailingZeros_0f7a4_79
def fJ6_numberOfTrailingZeros_0f7a4_62 (S : St) (x0 : Int32) (x1 : Int32) : Option (Int32 × St) :=
  if x0 ≤ 4 then (fJ6_numberOfTrailingZeros_0f7a4_74 S x0 x1) else (bV (x1 + 2) fun v1 => bV ((x0.toUInt32 >>> ((2 : Int32).toUInt32 &&& Int32.toUInt32 31)).toInt32) fun v2 => fJ6_numberOfTrailingZeros_0f7a4_74 S v2 v1)
theorem wfJ6_numberOfTrailingZeros_0f7a4_62 {lo n : Nat} {X : CX} (hX : Ok RJ6 cJ6_numberOfTrailingZeros_0f7a4 (some .int) lo n 2 X) {rr : Int32 × St} (hq : rs X = (some (.int rr.1), rr.2)) {S : St} {x0 : Int32} {x1 : Int32} (hres : fJ6_numberOfTrailingZeros_0f7a4_62 S x0 x1 = some rr) : Wat lo n 0 2 X 62 [(0, .int x0), (1, .int x1)] [] S := by
  unfold fJ6_numberOfTrailingZeros_0f7a4_62 at hres
  refine q_iload_n 63 hX 0 dJ6_numberOfTrailingZeros_0f7a4_62 rfl rfl rfl ?_
  refine q_iconst 64 hX dJ6_numberOfTrailingZeros_0f7a4_63 rfl kI_4 ?_
  refine q_icmp_le 67 hX 74 dJ6_numberOfTrailingZeros_0f7a4_64 rfl (by decide) (fun hc => ?_) (fun hc => ?_)
  · have hres := it_t hc hres
    exact q_sub [0, 1] rfl (wfJ6_numberOfTrailingZeros_0f7a4_74 hX hq hres)
  · have hres := it_f hc hres
    refine q_iincB 70 1 (lv0 := [(0, .int x0)]) hX dJ6_numberOfTrailingZeros_0f7a4_67 rfl rfl kI_2 (by decide) rfl hres (fun v1 hres => ?_)
    refine q_iload_n 71 hX 1 dJ6_numberOfTrailingZeros_0f7a4_70 rfl rfl rfl ?_
    refine q_iconst 72 hX dJ6_numberOfTrailingZeros_0f7a4_71 rfl kI_2 ?_
    refine q_iushr 73 hX dJ6_numberOfTrailingZeros_0f7a4_72 rfl ?_
    refine q_istoreB_n 74 (lv0 := [(1, .int v1)]) hX dJ6_numberOfTrailingZeros_0f7a4_73 rfl rfl (by decide) rfl hres (fun v2 hres => ?_)
    exact q_sub [0, 1] rfl (wfJ6_numberOfTrailingZeros_0f7a4_74 hX hq hres)
def fJ6_numberOfTrailingZeros_0f7a4_49 (S : St) (x0 : Int32) (x1 : Int32) : Option (Int32 × St) :=
  if x0 ≤ 16 then (fJ6_numberOfTrailingZeros_0f7a4_62 S x0 x1) else (bV (x1 + 4) fun v1 => bV ((x0.toUInt32 >>> ((4 : Int32).toUInt32 &&& Int32.toUInt32 31)).toInt32) fun v2 => fJ6_numberOfTrailingZeros_0f7a4_62 S v2 v1)
theorem wfJ6_numberOfTrailingZeros_0f7a4_49 {lo n : Nat} {X : CX} (hX : Ok RJ6 cJ6_numberOfTrailingZeros_0f7a4 (some .int) lo n 2 X) {rr : Int32 × St} (hq : rs X = (some (.int rr.1), rr.2)) {S : St} {x0 : Int32} {x1 : Int32} (hres : fJ6_numberOfTrailingZeros_0f7a4_49 S x0 x1 = some rr) : Wat lo n 0 2 X 49 [(0, .int x0), (1, .int x1)] [] S := by
  unfold fJ6_numberOfTrailingZeros_0f7a4_49 at hres
  refine q_iload_n 50 hX 0 dJ6_numberOfTrailingZeros_0f7a4_49 rfl rfl rfl ?_
  refine q_bipush 52 hX dJ6_numberOfTrailingZeros_0f7a4_50 rfl kB_16 ?_
  refine q_icmp_le 55 hX 62 dJ6_numberOfTrailingZeros_0f7a4_52 rfl (by decide) (fun hc => ?_) (fun hc => ?_)
  · have hres := it_t hc hres
    exact q_sub [0, 1] rfl (wfJ6_numberOfTrailingZeros_0f7a4_62 hX hq hres)
  · have hres := it_f hc hres
    refine q_iincB 58 1 (lv0 := [(0, .int x0)]) hX dJ6_numberOfTrailingZeros_0f7a4_55 rfl rfl kI_4 (by decide) rfl hres (fun v1 hres => ?_)
    refine q_iload_n 59 hX 1 dJ6_numberOfTrailingZeros_0f7a4_58 rfl rfl rfl ?_
    refine q_iconst 60 hX dJ6_numberOfTrailingZeros_0f7a4_59 rfl kI_4 ?_
    refine q_iushr 61 hX dJ6_numberOfTrailingZeros_0f7a4_60 rfl ?_
    refine q_istoreB_n 62 (lv0 := [(1, .int v1)]) hX dJ6_numberOfTrailingZeros_0f7a4_61 rfl rfl (by decide) rfl hres (fun v2 hres => ?_)
    exact q_sub [0, 1] rfl (wfJ6_numberOfTrailingZeros_0f7a4_62 hX hq hres)
def fJ6_numberOfTrailingZeros_0f7a4_34 (S : St) (x0 : Int32) (x1 : Int32) : Option (Int32 × St) :=
  if x0 ≤ 256 then (fJ6_numberOfTrailingZeros_0f7a4_49 S x0 x1) else (bV (x1 + 8) fun v1 => bV ((x0.toUInt32 >>> ((8 : Int32).toUInt32 &&& Int32.toUInt32 31)).toInt32) fun v2 => fJ6_numberOfTrailingZeros_0f7a4_49 S v2 v1)
theorem wfJ6_numberOfTrailingZeros_0f7a4_34 {lo n : Nat} {X : CX} (hX : Ok RJ6 cJ6_numberOfTrailingZeros_0f7a4 (some .int) lo n 2 X) {rr : Int32 × St} (hq : rs X = (some (.int rr.1), rr.2)) {S : St} {x0 : Int32} {x1 : Int32} (hres : fJ6_numberOfTrailingZeros_0f7a4_34 S x0 x1 = some rr) : Wat lo n 0 2 X 34 [(0, .int x0), (1, .int x1)] [] S := by
  unfold fJ6_numberOfTrailingZeros_0f7a4_34 at hres
  refine q_iload_n 35 hX 0 dJ6_numberOfTrailingZeros_0f7a4_34 rfl rfl rfl ?_
  refine q_sipush 38 hX dJ6_numberOfTrailingZeros_0f7a4_35 rfl kS_256 ?_
  refine q_icmp_le 41 hX 49 dJ6_numberOfTrailingZeros_0f7a4_38 rfl (by decide) (fun hc => ?_) (fun hc => ?_)
  · have hres := it_t hc hres
    exact q_sub [0, 1] rfl (wfJ6_numberOfTrailingZeros_0f7a4_49 hX hq hres)
  · have hres := it_f hc hres
    refine q_iincB 44 1 (lv0 := [(0, .int x0)]) hX dJ6_numberOfTrailingZeros_0f7a4_41 rfl rfl kI_8 (by decide) rfl hres (fun v1 hres => ?_)
    refine q_iload_n 45 hX 1 dJ6_numberOfTrailingZeros_0f7a4_44 rfl rfl rfl ?_
    refine q_bipush 47 hX dJ6_numberOfTrailingZeros_0f7a4_45 rfl kB_8 ?_
    refine q_iushr 48 hX dJ6_numberOfTrailingZeros_0f7a4_47 rfl ?_
    refine q_istoreB_n 49 (lv0 := [(1, .int v1)]) hX dJ6_numberOfTrailingZeros_0f7a4_48 rfl rfl (by decide) rfl hres (fun v2 hres => ?_)
    exact q_sub [0, 1] rfl (wfJ6_numberOfTrailingZeros_0f7a4_49 hX hq hres)
def fJ6_numberOfTrailingZeros_0f7a4 (S : St) (x0 : Int32) : Option (Int32 × St) :=
  bV (((x0 ^^^ (-1)) &&& (x0 - 1))) fun v1 => if 0 < v1 then (if v1 ≤ 65536 then (fJ6_numberOfTrailingZeros_0f7a4_34 S v1 1) else (bV (1 + 16) fun v2 => bV ((v1.toUInt32 >>> ((16 : Int32).toUInt32 &&& Int32.toUInt32 31)).toInt32) fun v3 => fJ6_numberOfTrailingZeros_0f7a4_34 S v3 v2)) else (some ((v1 &&& 32), S))
theorem wfJ6_numberOfTrailingZeros_0f7a4 {lo n : Nat} {X : CX} (hX : Ok RJ6 cJ6_numberOfTrailingZeros_0f7a4 (some .int) lo n 2 X) {rr : Int32 × St} (hq : rs X = (some (.int rr.1), rr.2)) {S : St} {x0 : Int32} (hres : fJ6_numberOfTrailingZeros_0f7a4 S x0 = some rr) : Wat lo n 0 2 X 0 [(0, .int x0)] [] S := by
  unfold fJ6_numberOfTrailingZeros_0f7a4 at hres
  refine q_iload_n 1 hX 0 dJ6_numberOfTrailingZeros_0f7a4_0 rfl rfl rfl ?_
  refine q_iconst 2 hX dJ6_numberOfTrailingZeros_0f7a4_1 rfl kI_m1 ?_
  refine q_ixor 3 hX dJ6_numberOfTrailingZeros_0f7a4_2 rfl ?_
  refine q_iload_n 4 hX 0 dJ6_numberOfTrailingZeros_0f7a4_3 rfl rfl rfl ?_
  refine q_iconst 5 hX dJ6_numberOfTrailingZeros_0f7a4_4 rfl kI_1 ?_
  refine q_isub 6 hX dJ6_numberOfTrailingZeros_0f7a4_5 rfl ?_
  refine q_iand 7 hX dJ6_numberOfTrailingZeros_0f7a4_6 rfl ?_
  refine q_istoreB_n 8 (lv0 := []) hX dJ6_numberOfTrailingZeros_0f7a4_7 rfl rfl (by decide) rfl hres (fun v1 hres => ?_)
  refine q_iload_n 9 hX 0 dJ6_numberOfTrailingZeros_0f7a4_8 rfl rfl rfl ?_
  refine q_if_gt 12 hX 17 dJ6_numberOfTrailingZeros_0f7a4_9 rfl (by decide) (fun hc => ?_) (fun hc => ?_)
  · have hres := it_t hc hres
    refine q_iconst 18 hX dJ6_numberOfTrailingZeros_0f7a4_17 rfl kI_1 ?_
    refine q_istore_n 19 (lv' := [(1, .int 1), (0, .int v1)]) hX dJ6_numberOfTrailingZeros_0f7a4_18 rfl rfl (by decide) rfl ?_
    refine q_iload_n 20 hX 1 dJ6_numberOfTrailingZeros_0f7a4_19 rfl rfl rfl ?_
    refine q_ldcw 23 hX dJ6_numberOfTrailingZeros_0f7a4_20 rfl gw3 ?_
    refine q_icmp_le 26 hX 34 dJ6_numberOfTrailingZeros_0f7a4_23 rfl (by decide) (fun hc => ?_) (fun hc => ?_)
    · have hres := it_t hc hres
      exact q_sub [1, 0] rfl (wfJ6_numberOfTrailingZeros_0f7a4_34 hX hq hres)
    · have hres := it_f hc hres
      refine q_iincB 29 0 (lv0 := [(0, .int v1)]) hX dJ6_numberOfTrailingZeros_0f7a4_26 rfl rfl kI_16 (by decide) rfl hres (fun v2 hres => ?_)
      refine q_iload_n 30 hX 1 dJ6_numberOfTrailingZeros_0f7a4_29 rfl rfl rfl ?_
      refine q_bipush 32 hX dJ6_numberOfTrailingZeros_0f7a4_30 rfl kB_16 ?_
      refine q_iushr 33 hX dJ6_numberOfTrailingZeros_0f7a4_32 rfl ?_
      refine q_istoreB_n 34 (lv0 := [(1, .int v2)]) hX dJ6_numberOfTrailingZeros_0f7a4_33 rfl rfl (by decide) rfl hres (fun v3 hres => ?_)
      exact q_sub [0, 1] rfl (wfJ6_numberOfTrailingZeros_0f7a4_34 hX hq hres)
  · have hres := it_f hc hres
    refine q_iload_n 13 hX 0 dJ6_numberOfTrailingZeros_0f7a4_12 rfl rfl rfl ?_
    refine q_bipush 15 hX dJ6_numberOfTrailingZeros_0f7a4_13 rfl kB_32 ?_
    refine q_iand 16 hX dJ6_numberOfTrailingZeros_0f7a4_15 rfl ?_
    exact q_iret hX (eqi hq hres) dJ6_numberOfTrailingZeros_0f7a4_16
theorem cJ6_numberOfTrailingZeros_0f7a49 {lo n : Nat} {l : Launch} {w : WD} (hj : Dj w lo n) {rr : Int32 × St} {S : St} {x0 : Int32} (hres : fJ6_numberOfTrailingZeros_0f7a4 S x0 = some rr) : Ct l yJ6_numberOfTrailingZeros_0f7a4 cJ6_numberOfTrailingZeros_0f7a4 2 (some .int) 0 w lo n [.int x0] S (some (.int rr.1), rr.2) := by
  refine Ct.of (lv := [(0, .int x0)]) hj (by decide +kernel) (by decide) rfl ?_
  rintro X rfl rfl hq hX
  exact wfJ6_numberOfTrailingZeros_0f7a4 hX hq hres
