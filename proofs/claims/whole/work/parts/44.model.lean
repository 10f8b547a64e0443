def bX12_rotas_108 (rc46 : St → Int32 → Int32 → Option (Int64 × St)) (rc108 : St → Int32 → Int32 → Int32 → Option (Int64 × St)) (S : St) (x1 : Int32) (x2 : Int32) (x3 : Int32) : Option (Int64 × St) :=
  if x1 < x3 then (bV (x2 + (1 : Int32)) fun v1 => rc46 S x1 v1) else (if inb x3 13 = true then if inb x3 13 = true then bS (pL S 93 (x3.toNatClampNeg) (S.2.1 94 (x3.toNatClampNeg))) fun S1 => bV (x3 + (1 : Int32)) fun v4 => rc108 S1 x1 x2 v4 else none else none)
theorem wbX12_rotas_108 {X : CX} (hX : Ok RX12 cX12_rotas (some .long) 55 40 4 X) {rr : Int64 × St} (hq : rs X = (some (.long rr.1), rr.2)) {rc46 : St → Int32 → Int32 → Option (Int64 × St)} (hrc46 : ∀ (S : St) (x1 : Int32) (x2 : Int32), rc46 S x1 x2 = some rr → Wat 55 40 1 4 X 46 [(0, .ref (ad X 55)), (1, .int x1), (2, .int x2)] [] S) {rc108 : St → Int32 → Int32 → Int32 → Option (Int64 × St)} (hrc108 : ∀ (S : St) (x1 : Int32) (x2 : Int32) (x3 : Int32), rc108 S x1 x2 x3 = some rr → Wat 55 40 1 4 X 108 [(0, .ref (ad X 55)), (1, .int x1), (2, .int x2), (3, .int x3)] [] S) {S : St} {x1 : Int32} {x2 : Int32} {x3 : Int32} (hres : bX12_rotas_108 rc46 rc108 S x1 x2 x3 = some rr) : Wat 55 40 1 4 X 108 [(0, .ref (ad X 55)), (1, .int x1), (2, .int x2), (3, .int x3)] [] S := by
  unfold bX12_rotas_108 at hres
  refine q_iload_n 109 hX 3 dX12_rotas_108 rfl rfl rfl ?_
  refine q_iload_n 110 hX 1 dX12_rotas_109 rfl rfl rfl ?_
  refine q_icmp_gt 113 hX 131 dX12_rotas_110 rfl (by decide) (fun hc => ?_) (fun hc => ?_)
  · have hres := it_t hc hres
    refine q_iincB 134 2 (lv0 := [(0, .ref (ad X 55)), (1, .int x1), (3, .int x3)]) hX dX12_rotas_131 rfl rfl kI_1 (by decide) rfl hres (fun v1 hres => ?_)
    refine q_goto 46 hX dX12_rotas_134 (by decide) ?_
    exact q_sub [1, 2, 0] rfl (hrc46 _ _ _ hres)
  · have hres := it_f hc hres
    refine q_aload_n 114 hX 0 dX12_rotas_113 rfl rfl rfl ?_
    refine q_getR 117 hX ci12 lf_RX12_123 fR_55_57 dX12_rotas_114 rfl ?_
    refine q_iload_n 118 hX 3 dX12_rotas_117 rfl rfl rfl ?_
    refine q_aload_n 119 hX 0 dX12_rotas_118 rfl rfl rfl ?_
    refine q_getR 122 hX ci12 lf_RX12_127 fR_55_58 dX12_rotas_119 rfl ?_
    refine q_iload_n 123 hX 3 dX12_rotas_122 rfl rfl rfl ?_
    obtain ⟨hb2, hres⟩ := gd hres
    refine q_lald 124 hX rfl aF_94 hb2 dX12_rotas_123 rfl ?_
    obtain ⟨hb3, hres⟩ := gd hres
    refine q_last 125 hX rfl aF_93 hb3 dX12_rotas_124 rfl ?_
    refine q_bS hres (fun S1 _ hres => ?_)
    refine q_iincB 128 3 (lv0 := [(0, .ref (ad X 55)), (1, .int x1), (2, .int x2)]) hX dX12_rotas_125 rfl rfl kI_1 (by decide) rfl hres (fun v4 hres => ?_)
    refine q_goto 108 hX dX12_rotas_128 (by decide) ?_
    exact q_sub [1, 2, 3, 0] rfl (hrc108 _ _ _ _ hres)
def fX12_rotas_108 (rc46 : St → Int32 → Int32 → Option (Int64 × St)) : Nat → St → Int32 → Int32 → Int32 → Option (Int64 × St)
  | 0 => fun _ _ _ _ => none
  | k + 1 => fun S x1 x2 x3 => bX12_rotas_108 rc46 (fX12_rotas_108 rc46 k) S x1 x2 x3
theorem wfX12_rotas_108 {X : CX} (hX : Ok RX12 cX12_rotas (some .long) 55 40 4 X) {rr : Int64 × St} (hq : rs X = (some (.long rr.1), rr.2)) {rc46 : St → Int32 → Int32 → Option (Int64 × St)} (hrc46 : ∀ (S : St) (x1 : Int32) (x2 : Int32), rc46 S x1 x2 = some rr → Wat 55 40 1 4 X 46 [(0, .ref (ad X 55)), (1, .int x1), (2, .int x2)] [] S) (k : Nat) : ∀ (S : St) (x1 : Int32) (x2 : Int32) (x3 : Int32), fX12_rotas_108 rc46 k S x1 x2 x3 = some rr → Wat 55 40 1 4 X 108 [(0, .ref (ad X 55)), (1, .int x1), (2, .int x2), (3, .int x3)] [] S := by
  induction k with
  | zero => intro S x1 x2 x3 hres; exact absurd hres (by simp [fX12_rotas_108])
  | succ k ih => intro S x1 x2 x3 hres; exact wbX12_rotas_108 hX hq hrc46 ih hres
def bX12_rotas_54 (rc46 : St → Int32 → Int32 → Option (Int64 × St)) (rc54 : St → Int32 → Int32 → Int32 → Option (Int64 × St)) (S : St) (x1 : Int32) (x2 : Int32) (x3 : Int32) : Option (Int64 × St) :=
  if x1 < x3 then (fX12_rotas_108 rc46 100 S x1 x2 (0 : Int32)) else (if x3 = 0 then (if inb x3 13 = true then bS (pL S 94 (x3.toNatClampNeg) (0 : Int64)) fun S2 => bV (x3 + (1 : Int32)) fun v6 => rc54 S2 x1 x2 v6 else none) else (if inb x3 13 = true then if inb (x3 - (1 : Int32)) 13 = true then if inb x3 13 = true then bS (pL S 94 (x3.toNatClampNeg) (((S.2.1 93 (x3.toNatClampNeg)) * ((x3 - (1 : Int32)).toInt64)) + ((S.2.1 93 ((x3 - (1 : Int32)).toNatClampNeg)) * (((x1 - x3) + (1 : Int32)).toInt64)))) fun S1 => bV (x3 + (1 : Int32)) fun v4 => rc54 S1 x1 x2 v4 else none else none else none))
theorem wbX12_rotas_54 {X : CX} (hX : Ok RX12 cX12_rotas (some .long) 55 40 4 X) {rr : Int64 × St} (hq : rs X = (some (.long rr.1), rr.2)) {rc46 : St → Int32 → Int32 → Option (Int64 × St)} (hrc46 : ∀ (S : St) (x1 : Int32) (x2 : Int32), rc46 S x1 x2 = some rr → Wat 55 40 1 4 X 46 [(0, .ref (ad X 55)), (1, .int x1), (2, .int x2)] [] S) {rc54 : St → Int32 → Int32 → Int32 → Option (Int64 × St)} (hrc54 : ∀ (S : St) (x1 : Int32) (x2 : Int32) (x3 : Int32), rc54 S x1 x2 x3 = some rr → Wat 55 40 1 4 X 54 [(0, .ref (ad X 55)), (1, .int x1), (2, .int x2), (3, .int x3)] [] S) {S : St} {x1 : Int32} {x2 : Int32} {x3 : Int32} (hres : bX12_rotas_54 rc46 rc54 S x1 x2 x3 = some rr) : Wat 55 40 1 4 X 54 [(0, .ref (ad X 55)), (1, .int x1), (2, .int x2), (3, .int x3)] [] S := by
  unfold bX12_rotas_54 at hres
  refine q_iload_n 55 hX 3 dX12_rotas_54 rfl rfl rfl ?_
  refine q_iload_n 56 hX 1 dX12_rotas_55 rfl rfl rfl ?_
  refine q_icmp_gt 59 hX 106 dX12_rotas_56 rfl (by decide) (fun hc => ?_) (fun hc => ?_)
  · have hres := it_t hc hres
    refine q_iconst 107 hX dX12_rotas_106 rfl kI_0 ?_
    refine q_istore_n 108 (lv' := [(3, .int (0 : Int32)), (0, .ref (ad X 55)), (1, .int x1), (2, .int x2)]) hX dX12_rotas_107 rfl rfl (by decide) rfl ?_
    exact q_sub [1, 2, 3, 0] rfl (wfX12_rotas_108 hX hq hrc46 _ _ _ _ _ hres)
  · have hres := it_f hc hres
    refine q_aload_n 60 hX 0 dX12_rotas_59 rfl rfl rfl ?_
    refine q_getR 63 hX ci12 lf_RX12_127 fR_55_58 dX12_rotas_60 rfl ?_
    refine q_iload_n 64 hX 3 dX12_rotas_63 rfl rfl rfl ?_
    refine q_iload_n 65 hX 3 dX12_rotas_64 rfl rfl rfl ?_
    refine q_if_ne 68 hX 72 dX12_rotas_65 rfl (by decide) (fun hc => ?_) (fun hc => ?_)
    · have hres := it_f hc hres
      refine q_aload_n 73 hX 0 dX12_rotas_72 rfl rfl rfl ?_
      refine q_getR 76 hX ci12 lf_RX12_123 fR_55_57 dX12_rotas_73 rfl ?_
      refine q_iload_n 77 hX 3 dX12_rotas_76 rfl rfl rfl ?_
      obtain ⟨hb1, hres⟩ := gd hres
      refine q_lald 78 hX rfl aF_93 hb1 dX12_rotas_77 rfl ?_
      refine q_iload_n 79 hX 3 dX12_rotas_78 rfl rfl rfl ?_
      refine q_iconst 80 hX dX12_rotas_79 rfl kI_1 ?_
      refine q_isub 81 hX dX12_rotas_80 rfl ?_
      refine q_i2l 82 hX dX12_rotas_81 rfl ?_
      refine q_lmul 83 hX dX12_rotas_82 rfl ?_
      refine q_aload_n 84 hX 0 dX12_rotas_83 rfl rfl rfl ?_
      refine q_getR 87 hX ci12 lf_RX12_123 fR_55_57 dX12_rotas_84 rfl ?_
      refine q_iload_n 88 hX 3 dX12_rotas_87 rfl rfl rfl ?_
      refine q_iconst 89 hX dX12_rotas_88 rfl kI_1 ?_
      refine q_isub 90 hX dX12_rotas_89 rfl ?_
      obtain ⟨hb2, hres⟩ := gd hres
      refine q_lald 91 hX rfl aF_93 hb2 dX12_rotas_90 rfl ?_
      refine q_iload_n 92 hX 1 dX12_rotas_91 rfl rfl rfl ?_
      refine q_iload_n 93 hX 3 dX12_rotas_92 rfl rfl rfl ?_
      refine q_isub 94 hX dX12_rotas_93 rfl ?_
      refine q_iconst 95 hX dX12_rotas_94 rfl kI_1 ?_
      refine q_iadd 96 hX dX12_rotas_95 rfl ?_
      refine q_i2l 97 hX dX12_rotas_96 rfl ?_
      refine q_lmul 98 hX dX12_rotas_97 rfl ?_
      refine q_ladd 99 hX dX12_rotas_98 rfl ?_
      obtain ⟨hb3, hres⟩ := gd hres
      refine q_last 100 hX rfl aF_94 hb3 dX12_rotas_99 rfl ?_
      refine q_bS hres (fun S1 _ hres => ?_)
      refine q_iincB 103 3 (lv0 := [(0, .ref (ad X 55)), (1, .int x1), (2, .int x2)]) hX dX12_rotas_100 rfl rfl kI_1 (by decide) rfl hres (fun v4 hres => ?_)
      refine q_goto 54 hX dX12_rotas_103 (by decide) ?_
      exact q_sub [1, 2, 3, 0] rfl (hrc54 _ _ _ _ hres)
    · have hres := it_t hc hres
      refine q_lconst 69 hX (v := 0) dX12_rotas_68 rfl (by decide) ?_
      refine q_goto 99 hX dX12_rotas_69 (by decide) ?_
      obtain ⟨hb5, hres⟩ := gd hres
      refine q_last 100 hX rfl aF_94 hb5 dX12_rotas_99 rfl ?_
      refine q_bS hres (fun S2 _ hres => ?_)
      refine q_iincB 103 3 (lv0 := [(0, .ref (ad X 55)), (1, .int x1), (2, .int x2)]) hX dX12_rotas_100 rfl rfl kI_1 (by decide) rfl hres (fun v6 hres => ?_)
      refine q_goto 54 hX dX12_rotas_103 (by decide) ?_
      exact q_sub [1, 2, 3, 0] rfl (hrc54 _ _ _ _ hres)
def fX12_rotas_54 (rc46 : St → Int32 → Int32 → Option (Int64 × St)) : Nat → St → Int32 → Int32 → Int32 → Option (Int64 × St)
  | 0 => fun _ _ _ _ => none
  | k + 1 => fun S x1 x2 x3 => bX12_rotas_54 rc46 (fX12_rotas_54 rc46 k) S x1 x2 x3
theorem wfX12_rotas_54 {X : CX} (hX : Ok RX12 cX12_rotas (some .long) 55 40 4 X) {rr : Int64 × St} (hq : rs X = (some (.long rr.1), rr.2)) {rc46 : St → Int32 → Int32 → Option (Int64 × St)} (hrc46 : ∀ (S : St) (x1 : Int32) (x2 : Int32), rc46 S x1 x2 = some rr → Wat 55 40 1 4 X 46 [(0, .ref (ad X 55)), (1, .int x1), (2, .int x2)] [] S) (k : Nat) : ∀ (S : St) (x1 : Int32) (x2 : Int32) (x3 : Int32), fX12_rotas_54 rc46 k S x1 x2 x3 = some rr → Wat 55 40 1 4 X 54 [(0, .ref (ad X 55)), (1, .int x1), (2, .int x2), (3, .int x3)] [] S := by
  induction k with
  | zero => intro S x1 x2 x3 hres; exact absurd hres (by simp [fX12_rotas_54])
  | succ k ih => intro S x1 x2 x3 hres; exact wbX12_rotas_54 hX hq hrc46 ih hres
def bX12_rotas_46 (rc46 : St → Int32 → Int32 → Option (Int64 × St)) (S : St) (x1 : Int32) (x2 : Int32) : Option (Int64 × St) :=
  if (12 : Int32) ≤ x2 then (if inb x1 13 = true then some ((S.2.1 93 (x1.toNatClampNeg)), S) else none) else (fX12_rotas_54 rc46 100 S x1 x2 (0 : Int32))
theorem wbX12_rotas_46 {X : CX} (hX : Ok RX12 cX12_rotas (some .long) 55 40 4 X) {rr : Int64 × St} (hq : rs X = (some (.long rr.1), rr.2)) {rc46 : St → Int32 → Int32 → Option (Int64 × St)} (hrc46 : ∀ (S : St) (x1 : Int32) (x2 : Int32), rc46 S x1 x2 = some rr → Wat 55 40 1 4 X 46 [(0, .ref (ad X 55)), (1, .int x1), (2, .int x2)] [] S) {S : St} {x1 : Int32} {x2 : Int32} (hres : bX12_rotas_46 rc46 S x1 x2 = some rr) : Wat 55 40 1 4 X 46 [(0, .ref (ad X 55)), (1, .int x1), (2, .int x2)] [] S := by
  unfold bX12_rotas_46 at hres
  refine q_iload_n 47 hX 2 dX12_rotas_46 rfl rfl rfl ?_
  refine q_bipush 49 hX dX12_rotas_47 rfl kB_12 ?_
  refine q_icmp_ge 52 hX 137 dX12_rotas_49 rfl (by decide) (fun hc => ?_) (fun hc => ?_)
  · have hres := it_t hc hres
    refine q_aload_n 138 hX 0 dX12_rotas_137 rfl rfl rfl ?_
    refine q_getR 141 hX ci12 lf_RX12_123 fR_55_57 dX12_rotas_138 rfl ?_
    refine q_iload_n 142 hX 1 dX12_rotas_141 rfl rfl rfl ?_
    obtain ⟨hb1, hres⟩ := gd hres
    refine q_lald 143 hX rfl aF_93 hb1 dX12_rotas_142 rfl ?_
    exact q_lret hX (eql hq hres) dX12_rotas_143
  · have hres := it_f hc hres
    refine q_iconst 53 hX dX12_rotas_52 rfl kI_0 ?_
    refine q_istore_n 54 (lv' := [(3, .int (0 : Int32)), (0, .ref (ad X 55)), (1, .int x1), (2, .int x2)]) hX dX12_rotas_53 rfl rfl (by decide) rfl ?_
    exact q_sub [1, 2, 3, 0] rfl (wfX12_rotas_54 hX hq hrc46 _ _ _ _ _ hres)
def fX12_rotas_46 : Nat → St → Int32 → Int32 → Option (Int64 × St)
  | 0 => fun _ _ _ => none
  | k + 1 => fun S x1 x2 => bX12_rotas_46 (fX12_rotas_46 k) S x1 x2
theorem wfX12_rotas_46 {X : CX} (hX : Ok RX12 cX12_rotas (some .long) 55 40 4 X) {rr : Int64 × St} (hq : rs X = (some (.long rr.1), rr.2)) (k : Nat) : ∀ (S : St) (x1 : Int32) (x2 : Int32), fX12_rotas_46 k S x1 x2 = some rr → Wat 55 40 1 4 X 46 [(0, .ref (ad X 55)), (1, .int x1), (2, .int x2)] [] S := by
  induction k with
  | zero => intro S x1 x2 hres; exact absurd hres (by simp [fX12_rotas_46])
  | succ k ih => intro S x1 x2 hres; exact wbX12_rotas_46 hX hq ih hres
def bX12_rotas_16 (rc16 : St → Int32 → Int32 → Option (Int64 × St)) (S : St) (x1 : Int32) (x2 : Int32) : Option (Int64 × St) :=
  if x1 < x2 then (fX12_rotas_46 100 S x1 (1 : Int32)) else (if x2 = (1 : Int32) then (if inb x2 13 = true then bS (pL S 93 (x2.toNatClampNeg) (x1.toInt64)) fun S2 => bV (x2 + (1 : Int32)) fun v4 => rc16 S2 x1 v4 else none) else (if inb x2 13 = true then bS (pL S 93 (x2.toNatClampNeg) (0 : Int64)) fun S1 => bV (x2 + (1 : Int32)) fun v2 => rc16 S1 x1 v2 else none))
theorem wbX12_rotas_16 {X : CX} (hX : Ok RX12 cX12_rotas (some .long) 55 40 4 X) {rr : Int64 × St} (hq : rs X = (some (.long rr.1), rr.2)) {rc16 : St → Int32 → Int32 → Option (Int64 × St)} (hrc16 : ∀ (S : St) (x1 : Int32) (x2 : Int32), rc16 S x1 x2 = some rr → Wat 55 40 1 4 X 16 [(0, .ref (ad X 55)), (1, .int x1), (2, .int x2)] [] S) {S : St} {x1 : Int32} {x2 : Int32} (hres : bX12_rotas_16 rc16 S x1 x2 = some rr) : Wat 55 40 1 4 X 16 [(0, .ref (ad X 55)), (1, .int x1), (2, .int x2)] [] S := by
  unfold bX12_rotas_16 at hres
  refine q_iload_n 17 hX 2 dX12_rotas_16 rfl rfl rfl ?_
  refine q_iload_n 18 hX 1 dX12_rotas_17 rfl rfl rfl ?_
  refine q_icmp_gt 21 hX 44 dX12_rotas_18 rfl (by decide) (fun hc => ?_) (fun hc => ?_)
  · have hres := it_t hc hres
    refine q_iconst 45 hX dX12_rotas_44 rfl kI_1 ?_
    refine q_istore_n 46 (lv' := [(2, .int (1 : Int32)), (0, .ref (ad X 55)), (1, .int x1)]) hX dX12_rotas_45 rfl rfl (by decide) rfl ?_
    exact q_sub [1, 2, 0] rfl (wfX12_rotas_46 hX hq _ _ _ _ hres)
  · have hres := it_f hc hres
    refine q_aload_n 22 hX 0 dX12_rotas_21 rfl rfl rfl ?_
    refine q_getR 25 hX ci12 lf_RX12_123 fR_55_57 dX12_rotas_22 rfl ?_
    refine q_iload_n 26 hX 2 dX12_rotas_25 rfl rfl rfl ?_
    refine q_iload_n 27 hX 2 dX12_rotas_26 rfl rfl rfl ?_
    refine q_iconst 28 hX dX12_rotas_27 rfl kI_1 ?_
    refine q_icmp_ne 31 hX 36 dX12_rotas_28 rfl (by decide) (fun hc => ?_) (fun hc => ?_)
    · have hres := it_f hc hres
      refine q_lconst 37 hX (v := 0) dX12_rotas_36 rfl (by decide) ?_
      obtain ⟨hb1, hres⟩ := gd hres
      refine q_last 38 hX rfl aF_93 hb1 dX12_rotas_37 rfl ?_
      refine q_bS hres (fun S1 _ hres => ?_)
      refine q_iincB 41 2 (lv0 := [(0, .ref (ad X 55)), (1, .int x1)]) hX dX12_rotas_38 rfl rfl kI_1 (by decide) rfl hres (fun v2 hres => ?_)
      refine q_goto 16 hX dX12_rotas_41 (by decide) ?_
      exact q_sub [1, 2, 0] rfl (hrc16 _ _ _ hres)
    · have hres := it_t hc hres
      refine q_iload_n 32 hX 1 dX12_rotas_31 rfl rfl rfl ?_
      refine q_i2l 33 hX dX12_rotas_32 rfl ?_
      refine q_goto 37 hX dX12_rotas_33 (by decide) ?_
      obtain ⟨hb3, hres⟩ := gd hres
      refine q_last 38 hX rfl aF_93 hb3 dX12_rotas_37 rfl ?_
      refine q_bS hres (fun S2 _ hres => ?_)
      refine q_iincB 41 2 (lv0 := [(0, .ref (ad X 55)), (1, .int x1)]) hX dX12_rotas_38 rfl rfl kI_1 (by decide) rfl hres (fun v4 hres => ?_)
      refine q_goto 16 hX dX12_rotas_41 (by decide) ?_
      exact q_sub [1, 2, 0] rfl (hrc16 _ _ _ hres)
def fX12_rotas_16 : Nat → St → Int32 → Int32 → Option (Int64 × St)
  | 0 => fun _ _ _ => none
  | k + 1 => fun S x1 x2 => bX12_rotas_16 (fX12_rotas_16 k) S x1 x2
theorem wfX12_rotas_16 {X : CX} (hX : Ok RX12 cX12_rotas (some .long) 55 40 4 X) {rr : Int64 × St} (hq : rs X = (some (.long rr.1), rr.2)) (k : Nat) : ∀ (S : St) (x1 : Int32) (x2 : Int32), fX12_rotas_16 k S x1 x2 = some rr → Wat 55 40 1 4 X 16 [(0, .ref (ad X 55)), (1, .int x1), (2, .int x2)] [] S := by
  induction k with
  | zero => intro S x1 x2 hres; exact absurd hres (by simp [fX12_rotas_16])
  | succ k ih => intro S x1 x2 hres; exact wbX12_rotas_16 hX hq ih hres
def fX12_rotas (S : St) (x1 : Int32) : Option (Int64 × St) :=
  bi (fX12_in S x1 (1 : Int32) (12 : Int32)) fun r2 S1 => if r2 = 0 then (some ((-1 : Int64), S1)) else (fX12_rotas_16 100 S1 x1 (0 : Int32))
theorem wfX12_rotas {X : CX} (hX : Ok RX12 cX12_rotas (some .long) 55 40 4 X) {rr : Int64 × St} (hq : rs X = (some (.long rr.1), rr.2)) {S : St} {x1 : Int32} (hres : fX12_rotas S x1 = some rr) : Wat 55 40 1 4 X 0 [(0, .ref (ad X 55)), (1, .int x1)] [] S := by
  unfold fX12_rotas at hres
  refine q_iload_n 1 hX 1 dX12_rotas_0 rfl rfl rfl ?_
  refine q_iconst 2 hX dX12_rotas_1 rfl kI_1 ?_
  refine q_bipush 4 hX dX12_rotas_2 rfl kB_12 ?_
  obtain ⟨r2, S1, hk1, hres⟩ := ob hres
  refine q_callSi 7 (st := []) (As := [.int x1, .int (1 : Int32), .int (12 : Int32)]) hX (cX12_in9 hX.dj hk1) cs_RX12_134 rfl (by decide) rfl (Nat.le_of_ble_eq_true rfl) dX12_rotas_4 rfl ?_
  refine q_if_ne 10 hX 14 dX12_rotas_7 rfl (by decide) (fun hc => ?_) (fun hc => ?_)
  · have hres := it_f hc hres
    refine q_iconst 15 hX dX12_rotas_14 rfl kI_0 ?_
    refine q_istore_n 16 (lv' := [(2, .int (0 : Int32)), (0, .ref (ad X 55)), (1, .int x1)]) hX dX12_rotas_15 rfl rfl (by decide) rfl ?_
    exact q_sub [1, 2, 0] rfl (wfX12_rotas_16 hX hq _ _ _ _ hres)
  · have hres := it_t hc hres
    refine q_ldc2 13 hX dX12_rotas_10 rfl gw1048 ?_
    exact q_lret hX (eql hq hres) dX12_rotas_13
theorem cX12_rotas9 {l : Launch} {w : WD} (hj : Dj w 55 40) {rr : Int64 × St} {S : St} {x1 : Int32} (hres : fX12_rotas S x1 = some rr) : Ct l yX12_rotas cX12_rotas 4 (some .long) 1 w 55 40 [.ref (w.1 55), .int x1] S (some (.long rr.1), rr.2) := by
  refine Ct.of (lv := [(0, .ref (w.1 55)), (1, .int x1)]) hj (by decide +kernel) (Nat.le_of_ble_eq_true rfl) rfl ?_
  rintro X rfl rfl hq hX
  exact wfX12_rotas hX hq hres
def bX12_areClear_2 (rc2 : St → Int32 → Int32 → Int32 → Option (Int32 × St)) (S : St) (x0 : Int32) (x2 : Int32) (x3 : Int32) : Option (Int32 × St) :=
  if x2 < x3 then (some ((1 : Int32), S)) else (bi (fX12_has S x0 x3) fun r2 S1 => if r2 = 0 then (bV (x3 + (1 : Int32)) fun v3 => rc2 S1 x0 x2 v3) else (some ((0 : Int32), S1)))
theorem wbX12_areClear_2 {X : CX} (hX : Ok RX12 cX12_areClear (some .boolean) 55 40 4 X) {rr : Int32 × St} (hq : rs X = (some (.int rr.1), rr.2)) {rc2 : St → Int32 → Int32 → Int32 → Option (Int32 × St)} (hrc2 : ∀ (S : St) (x0 : Int32) (x2 : Int32) (x3 : Int32), rc2 S x0 x2 x3 = some rr → Wat 55 40 1 4 X 2 [(0, .int x0), (2, .int x2), (3, .int x3)] [] S) {S : St} {x0 : Int32} {x2 : Int32} {x3 : Int32} (hres : bX12_areClear_2 rc2 S x0 x2 x3 = some rr) : Wat 55 40 1 4 X 2 [(0, .int x0), (2, .int x2), (3, .int x3)] [] S := by
  unfold bX12_areClear_2 at hres
  refine q_iload_n 3 hX 2 dX12_areClear_2 rfl rfl rfl ?_
  refine q_iload_n 4 hX 1 dX12_areClear_3 rfl rfl rfl ?_
  refine q_icmp_gt 7 hX 23 dX12_areClear_4 rfl (by decide) (fun hc => ?_) (fun hc => ?_)
  · have hres := it_t hc hres
    refine q_iconst 24 hX dX12_areClear_23 rfl kI_1 ?_
    exact q_zret hX (by decide) (eqi hq hres) dX12_areClear_24
  · have hres := it_f hc hres
    refine q_iload_n 8 hX 0 dX12_areClear_7 rfl rfl rfl ?_
    refine q_iload_n 9 hX 2 dX12_areClear_8 rfl rfl rfl ?_
    obtain ⟨r2, S1, hk1, hres⟩ := ob hres
    refine q_callSi 12 (st := []) (As := [.int x0, .int x3]) hX (cX12_has9 hX.dj hk1) cs_RX12_130 rfl (by decide) rfl (Nat.le_of_ble_eq_true rfl) dX12_areClear_9 rfl ?_
    refine q_if_eq 15 hX 17 dX12_areClear_12 rfl (by decide) (fun hc => ?_) (fun hc => ?_)
    · have hres := it_t hc hres
      refine q_iincB 20 2 (lv0 := [(0, .int x0), (2, .int x2)]) hX dX12_areClear_17 rfl rfl kI_1 (by decide) rfl hres (fun v3 hres => ?_)
      refine q_goto 2 hX dX12_areClear_20 (by decide) ?_
      exact q_sub [1, 2, 0] rfl (hrc2 _ _ _ _ hres)
    · have hres := it_f hc hres
      refine q_iconst 16 hX dX12_areClear_15 rfl kI_0 ?_
      exact q_zret hX (by decide) (eqi hq hres) dX12_areClear_16
def fX12_areClear_2 : Nat → St → Int32 → Int32 → Int32 → Option (Int32 × St)
  | 0 => fun _ _ _ _ => none
  | k + 1 => fun S x0 x2 x3 => bX12_areClear_2 (fX12_areClear_2 k) S x0 x2 x3
theorem wfX12_areClear_2 {X : CX} (hX : Ok RX12 cX12_areClear (some .boolean) 55 40 4 X) {rr : Int32 × St} (hq : rs X = (some (.int rr.1), rr.2)) (k : Nat) : ∀ (S : St) (x0 : Int32) (x2 : Int32) (x3 : Int32), fX12_areClear_2 k S x0 x2 x3 = some rr → Wat 55 40 1 4 X 2 [(0, .int x0), (2, .int x2), (3, .int x3)] [] S := by
  induction k with
  | zero => intro S x0 x2 x3 hres; exact absurd hres (by simp [fX12_areClear_2])
  | succ k ih => intro S x0 x2 x3 hres; exact wbX12_areClear_2 hX hq ih hres
def fX12_areClear (S : St) (x0 : Int32) (x1 : Int32) (x2 : Int32) : Option (Int32 × St) :=
  fX12_areClear_2 100 S x0 x2 x1
theorem wfX12_areClear {X : CX} (hX : Ok RX12 cX12_areClear (some .boolean) 55 40 4 X) {rr : Int32 × St} (hq : rs X = (some (.int rr.1), rr.2)) {S : St} {x0 : Int32} {x1 : Int32} {x2 : Int32} (hres : fX12_areClear S x0 x1 x2 = some rr) : Wat 55 40 1 4 X 0 [(0, .int x0), (1, .int x1), (2, .int x2)] [] S := by
  unfold fX12_areClear at hres
  refine q_iload_n 1 hX 1 dX12_areClear_0 rfl rfl rfl ?_
  refine q_istore_n 2 (lv' := [(3, .int x1), (0, .int x0), (1, .int x1), (2, .int x2)]) hX dX12_areClear_1 rfl rfl (by decide) rfl ?_
  exact q_sub [1, 3, 0] rfl (wfX12_areClear_2 hX hq _ _ _ _ _ hres)
theorem cX12_areClear9 {l : Launch} {w : WD} (hj : Dj w 55 40) {rr : Int32 × St} {S : St} {x0 : Int32} {x1 : Int32} {x2 : Int32} (hres : fX12_areClear S x0 x1 x2 = some rr) : Ct l yX12_areClear cX12_areClear 4 (some .boolean) 1 w 55 40 [.int x0, .int x1, .int x2] S (some (.int rr.1), rr.2) := by
  refine Ct.of (lv := [(0, .int x0), (1, .int x1), (2, .int x2)]) hj (by decide +kernel) (Nat.le_of_ble_eq_true rfl) rfl ?_
  rintro X rfl rfl hq hX
  exact wfX12_areClear hX hq hres
def bX12_tallFrom_3 (rc3 : St → Int32 → Int32 → Int32 → Int32 → Int32 → Option (Int32 × St)) (S : St) (x1 : Int32) (x2 : Int32) (x3 : Int32) (x4 : Int32) (x5 : Int32) : Option (Int32 × St) :=
  if x2 ≤ (x1 + x5) then (some (x5, S)) else (bi (fX12_octet S (x1 + x5)) fun r2 S1 => bi (fX12_areClear S1 r2 x3 x4) fun r4 S2 => if r4 = 0 then (some (x5, S2)) else (bV ((x5 + (1 : Int32))) fun v5 => rc3 S2 x1 x2 x3 x4 v5))
theorem wbX12_tallFrom_3 {X : CX} (hX : Ok RX12 cX12_tallFrom (some .int) 55 40 6 X) {rr : Int32 × St} (hq : rs X = (some (.int rr.1), rr.2)) {rc3 : St → Int32 → Int32 → Int32 → Int32 → Int32 → Option (Int32 × St)} (hrc3 : ∀ (S : St) (x1 : Int32) (x2 : Int32) (x3 : Int32) (x4 : Int32) (x5 : Int32), rc3 S x1 x2 x3 x4 x5 = some rr → Wat 55 40 2 6 X 3 [(0, .ref (ad X 55)), (1, .int x1), (2, .int x2), (3, .int x3), (4, .int x4), (5, .int x5)] [] S) {S : St} {x1 : Int32} {x2 : Int32} {x3 : Int32} {x4 : Int32} {x5 : Int32} (hres : bX12_tallFrom_3 rc3 S x1 x2 x3 x4 x5 = some rr) : Wat 55 40 2 6 X 3 [(0, .ref (ad X 55)), (1, .int x1), (2, .int x2), (3, .int x3), (4, .int x4), (5, .int x5)] [] S := by
  unfold bX12_tallFrom_3 at hres
  refine q_iload_n 4 hX 1 dX12_tallFrom_3 rfl rfl rfl ?_
  refine q_iload 6 hX 5 dX12_tallFrom_4 rfl rfl ?_
  refine q_iadd 7 hX dX12_tallFrom_6 rfl ?_
  refine q_iload_n 8 hX 2 dX12_tallFrom_7 rfl rfl rfl ?_
  refine q_icmp_ge 11 hX 37 dX12_tallFrom_8 rfl (by decide) (fun hc => ?_) (fun hc => ?_)
  · have hres := it_t hc hres
    refine q_iload 39 hX 5 dX12_tallFrom_37 rfl rfl ?_
    exact q_iret hX (eqi hq hres) dX12_tallFrom_39
  · have hres := it_f hc hres
    refine q_aload_n 12 hX 0 dX12_tallFrom_11 rfl rfl rfl ?_
    refine q_iload_n 13 hX 1 dX12_tallFrom_12 rfl rfl rfl ?_
    refine q_iload 15 hX 5 dX12_tallFrom_13 rfl rfl ?_
    refine q_iadd 16 hX dX12_tallFrom_15 rfl ?_
    obtain ⟨r2, S1, hk1, hres⟩ := ob hres
    refine q_callVi 19 (st := []) (As := [.int (x1 + x5)]) hX (cX12_octet9 hX.dj hk1) cv_RX12_400 ci12 oB_55 rfl (by decide) rfl (Nat.le_of_ble_eq_true rfl) dX12_tallFrom_16 rfl ?_
    refine q_iload_n 20 hX 3 dX12_tallFrom_19 rfl rfl rfl ?_
    refine q_iload 22 hX 4 dX12_tallFrom_20 rfl rfl ?_
    obtain ⟨r4, S2, hk3, hres⟩ := ob hres
    refine q_callSi 25 (st := []) (As := [.int r2, .int x3, .int x4]) hX (cX12_areClear9 hX.dj hk3) cs_RX12_442 rfl (by decide) rfl (Nat.le_of_ble_eq_true rfl) dX12_tallFrom_22 rfl ?_
    refine q_if_eq 28 hX 37 dX12_tallFrom_25 rfl (by decide) (fun hc => ?_) (fun hc => ?_)
    · have hres := it_t hc hres
      refine q_iload 39 hX 5 dX12_tallFrom_37 rfl rfl ?_
      exact q_iret hX (eqi hq hres) dX12_tallFrom_39
    · have hres := it_f hc hres
      refine q_iload 30 hX 5 dX12_tallFrom_28 rfl rfl ?_
      refine q_iconst 31 hX dX12_tallFrom_30 rfl kI_1 ?_
      refine q_iadd 32 hX dX12_tallFrom_31 rfl ?_
      refine q_istoreB 34 (lv0 := [(0, .ref (ad X 55)), (1, .int x1), (2, .int x2), (3, .int x3), (4, .int x4)]) hX dX12_tallFrom_32 rfl (by decide) rfl hres (fun v5 hres => ?_)
      refine q_goto 3 hX dX12_tallFrom_34 (by decide) ?_
      exact q_sub [1, 2, 3, 4, 5, 0] rfl (hrc3 _ _ _ _ _ _ hres)
def fX12_tallFrom_3 : Nat → St → Int32 → Int32 → Int32 → Int32 → Int32 → Option (Int32 × St)
  | 0 => fun _ _ _ _ _ _ => none
  | k + 1 => fun S x1 x2 x3 x4 x5 => bX12_tallFrom_3 (fX12_tallFrom_3 k) S x1 x2 x3 x4 x5
theorem wfX12_tallFrom_3 {X : CX} (hX : Ok RX12 cX12_tallFrom (some .int) 55 40 6 X) {rr : Int32 × St} (hq : rs X = (some (.int rr.1), rr.2)) (k : Nat) : ∀ (S : St) (x1 : Int32) (x2 : Int32) (x3 : Int32) (x4 : Int32) (x5 : Int32), fX12_tallFrom_3 k S x1 x2 x3 x4 x5 = some rr → Wat 55 40 2 6 X 3 [(0, .ref (ad X 55)), (1, .int x1), (2, .int x2), (3, .int x3), (4, .int x4), (5, .int x5)] [] S := by
  induction k with
  | zero => intro S x1 x2 x3 x4 x5 hres; exact absurd hres (by simp [fX12_tallFrom_3])
  | succ k ih => intro S x1 x2 x3 x4 x5 hres; exact wbX12_tallFrom_3 hX hq ih hres
def fX12_tallFrom (S : St) (x1 : Int32) (x2 : Int32) (x3 : Int32) (x4 : Int32) : Option (Int32 × St) :=
  fX12_tallFrom_3 100 S x1 x2 x3 x4 (0 : Int32)
theorem wfX12_tallFrom {X : CX} (hX : Ok RX12 cX12_tallFrom (some .int) 55 40 6 X) {rr : Int32 × St} (hq : rs X = (some (.int rr.1), rr.2)) {S : St} {x1 : Int32} {x2 : Int32} {x3 : Int32} {x4 : Int32} (hres : fX12_tallFrom S x1 x2 x3 x4 = some rr) : Wat 55 40 2 6 X 0 [(0, .ref (ad X 55)), (1, .int x1), (2, .int x2), (3, .int x3), (4, .int x4)] [] S := by
  unfold fX12_tallFrom at hres
  refine q_iconst 1 hX dX12_tallFrom_0 rfl kI_0 ?_
  refine q_istore 3 (lv' := [(5, .int (0 : Int32)), (0, .ref (ad X 55)), (1, .int x1), (2, .int x2), (3, .int x3), (4, .int x4)]) hX dX12_tallFrom_1 rfl (by decide) rfl ?_
  exact q_sub [1, 2, 3, 4, 5, 0] rfl (wfX12_tallFrom_3 hX hq _ _ _ _ _ _ _ hres)
theorem cX12_tallFrom9 {l : Launch} {w : WD} (hj : Dj w 55 40) {rr : Int32 × St} {S : St} {x1 : Int32} {x2 : Int32} {x3 : Int32} {x4 : Int32} (hres : fX12_tallFrom S x1 x2 x3 x4 = some rr) : Ct l yX12_tallFrom cX12_tallFrom 6 (some .int) 2 w 55 40 [.ref (w.1 55), .int x1, .int x2, .int x3, .int x4] S (some (.int rr.1), rr.2) := by
  refine Ct.of (lv := [(0, .ref (w.1 55)), (1, .int x1), (2, .int x2), (3, .int x3), (4, .int x4)]) hj (by decide +kernel) (Nat.le_of_ble_eq_true rfl) rfl ?_
  rintro X rfl rfl hq hX
  exact wfX12_tallFrom hX hq hres
def bX12_panes_63 (rc40 : St → Int32 → Int32 → Int32 → Int32 → Option (Int32 × St)) (rc63 : St → Int32 → Int32 → Int32 → Int32 → Int32 → Int32 → Int32 → Option (Int32 × St)) (S : St) (x1 : Int32) (x2 : Int32) (x3 : Int32) (x4 : Int32) (x5 : Int32) (x6 : Int32) (x7 : Int32) : Option (Int32 × St) :=
  if x1 ≤ x7 then (bV (x4 + (1 : Int32)) fun v1 => rc40 S x1 x2 x3 v1) else (if x6 < x5 then (bV (x4 + (1 : Int32)) fun v2 => rc40 S x1 x2 x3 v2) else (bi (fX12_tallFrom S x7 x1 x5 x6) fun r4 S1 => bi (fX12_max S1 x3 (r4 * ((x6 - x5) + (1 : Int32)))) fun r6 S2 => bV (x7 + (1 : Int32)) fun v7 => rc63 S2 x1 x2 r6 x4 x5 x6 v7))
theorem wbX12_panes_63 {X : CX} (hX : Ok RX12 cX12_panes (some .int) 55 40 8 X) {rr : Int32 × St} (hq : rs X = (some (.int rr.1), rr.2)) {rc40 : St → Int32 → Int32 → Int32 → Int32 → Option (Int32 × St)} (hrc40 : ∀ (S : St) (x1 : Int32) (x2 : Int32) (x3 : Int32) (x4 : Int32), rc40 S x1 x2 x3 x4 = some rr → Wat 55 40 3 8 X 40 [(0, .ref (ad X 55)), (1, .int x1), (2, .int x2), (3, .int x3), (4, .int x4)] [] S) {rc63 : St → Int32 → Int32 → Int32 → Int32 → Int32 → Int32 → Int32 → Option (Int32 × St)} (hrc63 : ∀ (S : St) (x1 : Int32) (x2 : Int32) (x3 : Int32) (x4 : Int32) (x5 : Int32) (x6 : Int32) (x7 : Int32), rc63 S x1 x2 x3 x4 x5 x6 x7 = some rr → Wat 55 40 3 8 X 63 [(0, .ref (ad X 55)), (1, .int x1), (2, .int x2), (3, .int x3), (4, .int x4), (5, .int x5), (6, .int x6), (7, .int x7)] [] S) {S : St} {x1 : Int32} {x2 : Int32} {x3 : Int32} {x4 : Int32} {x5 : Int32} {x6 : Int32} {x7 : Int32} (hres : bX12_panes_63 rc40 rc63 S x1 x2 x3 x4 x5 x6 x7 = some rr) : Wat 55 40 3 8 X 63 [(0, .ref (ad X 55)), (1, .int x1), (2, .int x2), (3, .int x3), (4, .int x4), (5, .int x5), (6, .int x6), (7, .int x7)] [] S := by
  unfold bX12_panes_63 at hres
  refine q_iload 65 hX 7 dX12_panes_63 rfl rfl ?_
  refine q_iload_n 66 hX 1 dX12_panes_65 rfl rfl rfl ?_
  refine q_icmp_ge 69 hX 106 dX12_panes_66 rfl (by decide) (fun hc => ?_) (fun hc => ?_)
  · have hres := it_t hc hres
    refine q_iincB 109 4 (lv0 := [(0, .ref (ad X 55)), (1, .int x1), (2, .int x2), (3, .int x3), (5, .int x5), (6, .int x6), (7, .int x7)]) hX dX12_panes_106 rfl rfl kI_1 (by decide) rfl hres (fun v1 hres => ?_)
    refine q_goto 40 hX dX12_panes_109 (by decide) ?_
    exact q_sub [1, 2, 3, 4, 0] rfl (hrc40 _ _ _ _ _ hres)
  · have hres := it_f hc hres
    refine q_iload 71 hX 5 dX12_panes_69 rfl rfl ?_
    refine q_iload 73 hX 6 dX12_panes_71 rfl rfl ?_
    refine q_icmp_gt 76 hX 106 dX12_panes_73 rfl (by decide) (fun hc => ?_) (fun hc => ?_)
    · have hres := it_t hc hres
      refine q_iincB 109 4 (lv0 := [(0, .ref (ad X 55)), (1, .int x1), (2, .int x2), (3, .int x3), (5, .int x5), (6, .int x6), (7, .int x7)]) hX dX12_panes_106 rfl rfl kI_1 (by decide) rfl hres (fun v2 hres => ?_)
      refine q_goto 40 hX dX12_panes_109 (by decide) ?_
      exact q_sub [1, 2, 3, 4, 0] rfl (hrc40 _ _ _ _ _ hres)
    · have hres := it_f hc hres
      refine q_iload_n 77 hX 3 dX12_panes_76 rfl rfl rfl ?_
      refine q_aload_n 78 hX 0 dX12_panes_77 rfl rfl rfl ?_
      refine q_iload 80 hX 7 dX12_panes_78 rfl rfl ?_
      refine q_iload_n 81 hX 1 dX12_panes_80 rfl rfl rfl ?_
      refine q_iload 83 hX 5 dX12_panes_81 rfl rfl ?_
      refine q_iload 85 hX 6 dX12_panes_83 rfl rfl ?_
      obtain ⟨r4, S1, hk3, hres⟩ := ob hres
      refine q_callVi 88 (st := [.int x3]) (As := [.int x7, .int x1, .int x5, .int x6]) hX (cX12_tallFrom9 hX.dj hk3) cv_RX12_445 ci12 oB_55 rfl (by decide) rfl (Nat.le_of_ble_eq_true rfl) dX12_panes_85 rfl ?_
      refine q_iload 90 hX 6 dX12_panes_88 rfl rfl ?_
      refine q_iload 92 hX 5 dX12_panes_90 rfl rfl ?_
      refine q_isub 93 hX dX12_panes_92 rfl ?_
      refine q_iconst 94 hX dX12_panes_93 rfl kI_1 ?_
      refine q_iadd 95 hX dX12_panes_94 rfl ?_
      refine q_imul 96 hX dX12_panes_95 rfl ?_
      obtain ⟨r6, S2, hk5, hres⟩ := ob hres
      refine q_callSi 99 (st := []) (As := [.int x3, .int (r4 * ((x6 - x5) + (1 : Int32)))]) hX (cX12_max9 hX.dj hk5) cs_RX12_362 rfl (by decide) rfl (Nat.le_of_ble_eq_true rfl) dX12_panes_96 rfl ?_
      refine q_istore_n 100 (lv' := [(3, .int r6), (0, .ref (ad X 55)), (1, .int x1), (2, .int x2), (4, .int x4), (5, .int x5), (6, .int x6), (7, .int x7)]) hX dX12_panes_99 rfl rfl (by decide) rfl ?_
      refine q_iincB 103 7 (lv0 := [(3, .int r6), (0, .ref (ad X 55)), (1, .int x1), (2, .int x2), (4, .int x4), (5, .int x5), (6, .int x6)]) hX dX12_panes_100 rfl rfl kI_1 (by decide) rfl hres (fun v7 hres => ?_)
      refine q_goto 63 hX dX12_panes_103 (by decide) ?_
      exact q_sub [2, 3, 4, 1, 5, 6, 7, 0] rfl (hrc63 _ _ _ _ _ _ _ _ hres)
def fX12_panes_63 (rc40 : St → Int32 → Int32 → Int32 → Int32 → Option (Int32 × St)) : Nat → St → Int32 → Int32 → Int32 → Int32 → Int32 → Int32 → Int32 → Option (Int32 × St)
  | 0 => fun _ _ _ _ _ _ _ _ => none
  | k + 1 => fun S x1 x2 x3 x4 x5 x6 x7 => bX12_panes_63 rc40 (fX12_panes_63 rc40 k) S x1 x2 x3 x4 x5 x6 x7
theorem wfX12_panes_63 {X : CX} (hX : Ok RX12 cX12_panes (some .int) 55 40 8 X) {rr : Int32 × St} (hq : rs X = (some (.int rr.1), rr.2)) {rc40 : St → Int32 → Int32 → Int32 → Int32 → Option (Int32 × St)} (hrc40 : ∀ (S : St) (x1 : Int32) (x2 : Int32) (x3 : Int32) (x4 : Int32), rc40 S x1 x2 x3 x4 = some rr → Wat 55 40 3 8 X 40 [(0, .ref (ad X 55)), (1, .int x1), (2, .int x2), (3, .int x3), (4, .int x4)] [] S) (k : Nat) : ∀ (S : St) (x1 : Int32) (x2 : Int32) (x3 : Int32) (x4 : Int32) (x5 : Int32) (x6 : Int32) (x7 : Int32), fX12_panes_63 rc40 k S x1 x2 x3 x4 x5 x6 x7 = some rr → Wat 55 40 3 8 X 63 [(0, .ref (ad X 55)), (1, .int x1), (2, .int x2), (3, .int x3), (4, .int x4), (5, .int x5), (6, .int x6), (7, .int x7)] [] S := by
  induction k with
  | zero => intro S x1 x2 x3 x4 x5 x6 x7 hres; exact absurd hres (by simp [fX12_panes_63])
  | succ k ih => intro S x1 x2 x3 x4 x5 x6 x7 hres; exact wbX12_panes_63 hX hq hrc40 ih hres
def bX12_panes_40 (rc40 : St → Int32 → Int32 → Int32 → Int32 → Option (Int32 × St)) (S : St) (x1 : Int32) (x2 : Int32) (x3 : Int32) (x4 : Int32) : Option (Int32 × St) :=
  if (x2 * x2) ≤ x4 then (some (x3, S)) else (if x2 = 0 then none else bV ((x4 / x2)) fun v2 => if x2 = 0 then none else bV ((x4 - x4 / x2 * x2)) fun v4 => fX12_panes_63 rc40 100 S x1 x2 x3 x4 v2 v4 (0 : Int32))
theorem wbX12_panes_40 {X : CX} (hX : Ok RX12 cX12_panes (some .int) 55 40 8 X) {rr : Int32 × St} (hq : rs X = (some (.int rr.1), rr.2)) {rc40 : St → Int32 → Int32 → Int32 → Int32 → Option (Int32 × St)} (hrc40 : ∀ (S : St) (x1 : Int32) (x2 : Int32) (x3 : Int32) (x4 : Int32), rc40 S x1 x2 x3 x4 = some rr → Wat 55 40 3 8 X 40 [(0, .ref (ad X 55)), (1, .int x1), (2, .int x2), (3, .int x3), (4, .int x4)] [] S) {S : St} {x1 : Int32} {x2 : Int32} {x3 : Int32} {x4 : Int32} (hres : bX12_panes_40 rc40 S x1 x2 x3 x4 = some rr) : Wat 55 40 3 8 X 40 [(0, .ref (ad X 55)), (1, .int x1), (2, .int x2), (3, .int x3), (4, .int x4)] [] S := by
  unfold bX12_panes_40 at hres
  refine q_iload 42 hX 4 dX12_panes_40 rfl rfl ?_
  refine q_iload_n 43 hX 2 dX12_panes_42 rfl rfl rfl ?_
  refine q_iload_n 44 hX 2 dX12_panes_43 rfl rfl rfl ?_
  refine q_imul 45 hX dX12_panes_44 rfl ?_
  refine q_icmp_ge 48 hX 112 dX12_panes_45 rfl (by decide) (fun hc => ?_) (fun hc => ?_)
  · have hres := it_t hc hres
    refine q_iload_n 113 hX 3 dX12_panes_112 rfl rfl rfl ?_
    exact q_iret hX (eqi hq hres) dX12_panes_113
  · have hres := it_f hc hres
    refine q_iload 50 hX 4 dX12_panes_48 rfl rfl ?_
    refine q_iload_n 51 hX 2 dX12_panes_50 rfl rfl rfl ?_
    obtain ⟨hn1, hres⟩ := gdn hres
    refine q_idiv 52 hX dX12_panes_51 rfl hn1 ?_
    refine q_istoreB 54 (lv0 := [(0, .ref (ad X 55)), (1, .int x1), (2, .int x2), (3, .int x3), (4, .int x4)]) hX dX12_panes_52 rfl (by decide) rfl hres (fun v2 hres => ?_)
    refine q_iload 56 hX 5 dX12_panes_54 rfl rfl ?_
    refine q_iload_n 57 hX 3 dX12_panes_56 rfl rfl rfl ?_
    obtain ⟨hn3, hres⟩ := gdn hres
    refine q_irem 58 hX dX12_panes_57 rfl hn3 ?_
    refine q_istoreB 60 (lv0 := [(5, .int v2), (0, .ref (ad X 55)), (1, .int x1), (2, .int x2), (3, .int x3), (4, .int x4)]) hX dX12_panes_58 rfl (by decide) rfl hres (fun v4 hres => ?_)
    refine q_iconst 61 hX dX12_panes_60 rfl kI_0 ?_
    refine q_istore 63 (lv' := [(7, .int (0 : Int32)), (6, .int v4), (5, .int v2), (0, .ref (ad X 55)), (1, .int x1), (2, .int x2), (3, .int x3), (4, .int x4)]) hX dX12_panes_61 rfl (by decide) rfl ?_
    exact q_sub [3, 4, 5, 6, 7, 2, 1, 0] rfl (wfX12_panes_63 hX hq hrc40 _ _ _ _ _ _ _ _ _ hres)
def fX12_panes_40 : Nat → St → Int32 → Int32 → Int32 → Int32 → Option (Int32 × St)
  | 0 => fun _ _ _ _ _ => none
  | k + 1 => fun S x1 x2 x3 x4 => bX12_panes_40 (fX12_panes_40 k) S x1 x2 x3 x4
theorem wfX12_panes_40 {X : CX} (hX : Ok RX12 cX12_panes (some .int) 55 40 8 X) {rr : Int32 × St} (hq : rs X = (some (.int rr.1), rr.2)) (k : Nat) : ∀ (S : St) (x1 : Int32) (x2 : Int32) (x3 : Int32) (x4 : Int32), fX12_panes_40 k S x1 x2 x3 x4 = some rr → Wat 55 40 3 8 X 40 [(0, .ref (ad X 55)), (1, .int x1), (2, .int x2), (3, .int x3), (4, .int x4)] [] S := by
  induction k with
  | zero => intro S x1 x2 x3 x4 hres; exact absurd hres (by simp [fX12_panes_40])
  | succ k ih => intro S x1 x2 x3 x4 hres; exact wbX12_panes_40 hX hq ih hres
def fX12_panes (S : St) (x1 : Int32) (x2 : Int32) : Option (Int32 × St) :=
  bi (fX12_in S x1 (1 : Int32) (6 : Int32)) fun r2 S1 => if r2 = 0 then (some ((-1 : Int32), S1)) else (bi (fX12_in S1 x2 (1 : Int32) (6 : Int32)) fun r4 S2 => if r4 = 0 then (some ((-1 : Int32), S2)) else (if x1 ≤ (S2.1 55 11) then (bS (pI S2 55 11 (0 : Int32)) fun S3 => fX12_panes_40 100 S3 x1 x2 (0 : Int32) (0 : Int32)) else (some ((-1 : Int32), S2))))
theorem wfX12_panes {X : CX} (hX : Ok RX12 cX12_panes (some .int) 55 40 8 X) {rr : Int32 × St} (hq : rs X = (some (.int rr.1), rr.2)) {S : St} {x1 : Int32} {x2 : Int32} (hres : fX12_panes S x1 x2 = some rr) : Wat 55 40 3 8 X 0 [(0, .ref (ad X 55)), (1, .int x1), (2, .int x2)] [] S := by
  unfold fX12_panes at hres
  refine q_iload_n 1 hX 1 dX12_panes_0 rfl rfl rfl ?_
  refine q_iconst 2 hX dX12_panes_1 rfl kI_1 ?_
  refine q_bipush 4 hX dX12_panes_2 rfl kB_6 ?_
  obtain ⟨r2, S1, hk1, hres⟩ := ob hres
  refine q_callSi 7 (st := []) (As := [.int x1, .int (1 : Int32), .int (6 : Int32)]) hX (cX12_in9 hX.dj hk1) cs_RX12_134 rfl (by decide) rfl (Nat.le_of_ble_eq_true rfl) dX12_panes_4 rfl ?_
  refine q_if_eq 10 hX 28 dX12_panes_7 rfl (by decide) (fun hc => ?_) (fun hc => ?_)
  · have hres := it_t hc hres
    refine q_iconst 29 hX dX12_panes_28 rfl kI_m1 ?_
    exact q_iret hX (eqi hq hres) dX12_panes_29
  · have hres := it_f hc hres
    refine q_iload_n 11 hX 2 dX12_panes_10 rfl rfl rfl ?_
    refine q_iconst 12 hX dX12_panes_11 rfl kI_1 ?_
    refine q_bipush 14 hX dX12_panes_12 rfl kB_6 ?_
    obtain ⟨r4, S2, hk3, hres⟩ := ob hres
    refine q_callSi 17 (st := []) (As := [.int x2, .int (1 : Int32), .int (6 : Int32)]) hX (cX12_in9 hX.dj hk3) cs_RX12_134 rfl (by decide) rfl (Nat.le_of_ble_eq_true rfl) dX12_panes_14 rfl ?_
    refine q_if_eq 20 hX 28 dX12_panes_17 rfl (by decide) (fun hc => ?_) (fun hc => ?_)
    · have hres := it_t hc hres
      refine q_iconst 29 hX dX12_panes_28 rfl kI_m1 ?_
      exact q_iret hX (eqi hq hres) dX12_panes_29
    · have hres := it_f hc hres
      refine q_iload_n 21 hX 1 dX12_panes_20 rfl rfl rfl ?_
      refine q_aload_n 22 hX 0 dX12_panes_21 rfl rfl rfl ?_
      refine q_getI 25 hX ci12 lf_RX12_162 fI_55_11 dX12_panes_22 rfl ?_
      refine q_icmp_le 28 hX 30 dX12_panes_25 rfl (by decide) (fun hc => ?_) (fun hc => ?_)
      · have hres := it_t hc hres
        refine q_aload_n 31 hX 0 dX12_panes_30 rfl rfl rfl ?_
        refine q_iconst 32 hX dX12_panes_31 rfl kI_0 ?_
        refine q_putI 35 hX ci12 lf_RX12_162 fI_55_11 (nar_i rfl) dX12_panes_32 rfl ?_
        refine q_bS hres (fun S3 _ hres => ?_)
        refine q_iconst 36 hX dX12_panes_35 rfl kI_0 ?_
        refine q_istore_n 37 (lv' := [(3, .int (0 : Int32)), (0, .ref (ad X 55)), (1, .int x1), (2, .int x2)]) hX dX12_panes_36 rfl rfl (by decide) rfl ?_
        refine q_iconst 38 hX dX12_panes_37 rfl kI_0 ?_
        refine q_istore 40 (lv' := [(4, .int (0 : Int32)), (3, .int (0 : Int32)), (0, .ref (ad X 55)), (1, .int x1), (2, .int x2)]) hX dX12_panes_38 rfl (by decide) rfl ?_
        exact q_sub [2, 3, 4, 1, 0] rfl (wfX12_panes_40 hX hq _ _ _ _ _ _ hres)
      · have hres := it_f hc hres
        refine q_iconst 29 hX dX12_panes_28 rfl kI_m1 ?_
        exact q_iret hX (eqi hq hres) dX12_panes_29
theorem cX12_panes9 {l : Launch} {w : WD} (hj : Dj w 55 40) {rr : Int32 × St} {S : St} {x1 : Int32} {x2 : Int32} (hres : fX12_panes S x1 x2 = some rr) : Ct l yX12_panes cX12_panes 8 (some .int) 3 w 55 40 [.ref (w.1 55), .int x1, .int x2] S (some (.int rr.1), rr.2) := by
  refine Ct.of (lv := [(0, .ref (w.1 55)), (1, .int x1), (2, .int x2)]) hj (by decide +kernel) (Nat.le_of_ble_eq_true rfl) rfl ?_
  rintro X rfl rfl hq hX
  exact wfX12_panes hX hq hres
def fX12_hasBy_34 (rc5 : St → Int32 → Int32 → Int32 → Int32 → Option (Int32 × St)) (S : St) (x1 : Int32) (x2 : Int32) (x3 : Int32) (x4 : Int32) : Option (Int32 × St) :=
  bi (fX12_octet S x4) fun r2 S1 => bi (fX12_max S1 x3 r2) fun r4 S2 => bV (x4 + (1 : Int32)) fun v5 => rc5 S2 x1 x2 r4 v5
theorem wfX12_hasBy_34 {X : CX} (hX : Ok RX12 cX12_hasBy (some .int) 55 40 5 X) {rr : Int32 × St} (hq : rs X = (some (.int rr.1), rr.2)) {rc5 : St → Int32 → Int32 → Int32 → Int32 → Option (Int32 × St)} (hrc5 : ∀ (S : St) (x1 : Int32) (x2 : Int32) (x3 : Int32) (x4 : Int32), rc5 S x1 x2 x3 x4 = some rr → Wat 55 40 1 5 X 5 [(0, .ref (ad X 55)), (1, .int x1), (2, .int x2), (3, .int x3), (4, .int x4)] [] S) {S : St} {x1 : Int32} {x2 : Int32} {x3 : Int32} {x4 : Int32} (hres : fX12_hasBy_34 rc5 S x1 x2 x3 x4 = some rr) : Wat 55 40 1 5 X 34 [(0, .ref (ad X 55)), (1, .int x1), (2, .int x2), (3, .int x3), (4, .int x4)] [] S := by
  unfold fX12_hasBy_34 at hres
  refine q_iload_n 35 hX 3 dX12_hasBy_34 rfl rfl rfl ?_
  refine q_aload_n 36 hX 0 dX12_hasBy_35 rfl rfl rfl ?_
  refine q_iload 38 hX 4 dX12_hasBy_36 rfl rfl ?_
  obtain ⟨r2, S1, hk1, hres⟩ := ob hres
  refine q_callVi 41 (st := [.int x3]) (As := [.int x4]) hX (cX12_octet9 hX.dj hk1) cv_RX12_400 ci12 oB_55 rfl (by decide) rfl (Nat.le_of_ble_eq_true rfl) dX12_hasBy_38 rfl ?_
  obtain ⟨r4, S2, hk3, hres⟩ := ob hres
  refine q_callSi 44 (st := []) (As := [.int x3, .int r2]) hX (cX12_max9 hX.dj hk3) cs_RX12_362 rfl (by decide) rfl (Nat.le_of_ble_eq_true rfl) dX12_hasBy_41 rfl ?_
  refine q_istore_n 45 (lv' := [(3, .int r4), (0, .ref (ad X 55)), (1, .int x1), (2, .int x2), (4, .int x4)]) hX dX12_hasBy_44 rfl rfl (by decide) rfl ?_
  refine q_iincB 48 4 (lv0 := [(3, .int r4), (0, .ref (ad X 55)), (1, .int x1), (2, .int x2)]) hX dX12_hasBy_45 rfl rfl kI_1 (by decide) rfl hres (fun v5 hres => ?_)
  refine q_goto 5 hX dX12_hasBy_48 (by decide) ?_
  exact q_sub [2, 3, 4, 1, 0] rfl (hrc5 _ _ _ _ _ hres)
def bX12_hasBy_5 (rc5 : St → Int32 → Int32 → Int32 → Int32 → Option (Int32 × St)) (S : St) (x1 : Int32) (x2 : Int32) (x3 : Int32) (x4 : Int32) : Option (Int32 × St) :=
  if x1 ≤ x4 then (bi (fX12_octet S (x1 - (1 : Int32))) fun r2 S1 => some (r2, S1)) else (if x4 < x2 then (fX12_hasBy_34 rc5 S x1 x2 x3 x4) else (bi (fX12_octet S x4) fun r4 S2 => if r4 ≤ x3 then (fX12_hasBy_34 rc5 S2 x1 x2 x3 x4) else (bi (fX12_octet S2 x4) fun r6 S3 => some (r6, S3))))
theorem wbX12_hasBy_5 {X : CX} (hX : Ok RX12 cX12_hasBy (some .int) 55 40 5 X) {rr : Int32 × St} (hq : rs X = (some (.int rr.1), rr.2)) {rc5 : St → Int32 → Int32 → Int32 → Int32 → Option (Int32 × St)} (hrc5 : ∀ (S : St) (x1 : Int32) (x2 : Int32) (x3 : Int32) (x4 : Int32), rc5 S x1 x2 x3 x4 = some rr → Wat 55 40 1 5 X 5 [(0, .ref (ad X 55)), (1, .int x1), (2, .int x2), (3, .int x3), (4, .int x4)] [] S) {S : St} {x1 : Int32} {x2 : Int32} {x3 : Int32} {x4 : Int32} (hres : bX12_hasBy_5 rc5 S x1 x2 x3 x4 = some rr) : Wat 55 40 1 5 X 5 [(0, .ref (ad X 55)), (1, .int x1), (2, .int x2), (3, .int x3), (4, .int x4)] [] S := by
  unfold bX12_hasBy_5 at hres
  refine q_iload 7 hX 4 dX12_hasBy_5 rfl rfl ?_
  refine q_iload_n 8 hX 1 dX12_hasBy_7 rfl rfl rfl ?_
  refine q_icmp_ge 11 hX 51 dX12_hasBy_8 rfl (by decide) (fun hc => ?_) (fun hc => ?_)
  · have hres := it_t hc hres
    refine q_aload_n 52 hX 0 dX12_hasBy_51 rfl rfl rfl ?_
    refine q_iload_n 53 hX 1 dX12_hasBy_52 rfl rfl rfl ?_
    refine q_iconst 54 hX dX12_hasBy_53 rfl kI_1 ?_
    refine q_isub 55 hX dX12_hasBy_54 rfl ?_
    obtain ⟨r2, S1, hk1, hres⟩ := ob hres
    refine q_callVi 58 (st := []) (As := [.int (x1 - (1 : Int32))]) hX (cX12_octet9 hX.dj hk1) cv_RX12_400 ci12 oB_55 rfl (by decide) rfl (Nat.le_of_ble_eq_true rfl) dX12_hasBy_55 rfl ?_
    exact q_iret hX (eqi hq hres) dX12_hasBy_58
  · have hres := it_f hc hres
    refine q_iload 13 hX 4 dX12_hasBy_11 rfl rfl ?_
    refine q_iload_n 14 hX 2 dX12_hasBy_13 rfl rfl rfl ?_
    refine q_icmp_lt 17 hX 34 dX12_hasBy_14 rfl (by decide) (fun hc => ?_) (fun hc => ?_)
    · have hres := it_t hc hres
      exact q_sub [0, 1, 2, 3, 4] rfl (wfX12_hasBy_34 hX hq hrc5 hres)
    · have hres := it_f hc hres
      refine q_aload_n 18 hX 0 dX12_hasBy_17 rfl rfl rfl ?_
      refine q_iload 20 hX 4 dX12_hasBy_18 rfl rfl ?_
      obtain ⟨r4, S2, hk3, hres⟩ := ob hres
      refine q_callVi 23 (st := []) (As := [.int x4]) hX (cX12_octet9 hX.dj hk3) cv_RX12_400 ci12 oB_55 rfl (by decide) rfl (Nat.le_of_ble_eq_true rfl) dX12_hasBy_20 rfl ?_
      refine q_iload_n 24 hX 3 dX12_hasBy_23 rfl rfl rfl ?_
      refine q_icmp_le 27 hX 34 dX12_hasBy_24 rfl (by decide) (fun hc => ?_) (fun hc => ?_)
      · have hres := it_t hc hres
        exact q_sub [0, 1, 2, 3, 4] rfl (wfX12_hasBy_34 hX hq hrc5 hres)
      · have hres := it_f hc hres
        refine q_aload_n 28 hX 0 dX12_hasBy_27 rfl rfl rfl ?_
        refine q_iload 30 hX 4 dX12_hasBy_28 rfl rfl ?_
        obtain ⟨r6, S3, hk5, hres⟩ := ob hres
        refine q_callVi 33 (st := []) (As := [.int x4]) hX (cX12_octet9 hX.dj hk5) cv_RX12_400 ci12 oB_55 rfl (by decide) rfl (Nat.le_of_ble_eq_true rfl) dX12_hasBy_30 rfl ?_
        exact q_iret hX (eqi hq hres) dX12_hasBy_33
def fX12_hasBy_5 : Nat → St → Int32 → Int32 → Int32 → Int32 → Option (Int32 × St)
  | 0 => fun _ _ _ _ _ => none
  | k + 1 => fun S x1 x2 x3 x4 => bX12_hasBy_5 (fX12_hasBy_5 k) S x1 x2 x3 x4
theorem wfX12_hasBy_5 {X : CX} (hX : Ok RX12 cX12_hasBy (some .int) 55 40 5 X) {rr : Int32 × St} (hq : rs X = (some (.int rr.1), rr.2)) (k : Nat) : ∀ (S : St) (x1 : Int32) (x2 : Int32) (x3 : Int32) (x4 : Int32), fX12_hasBy_5 k S x1 x2 x3 x4 = some rr → Wat 55 40 1 5 X 5 [(0, .ref (ad X 55)), (1, .int x1), (2, .int x2), (3, .int x3), (4, .int x4)] [] S := by
  induction k with
  | zero => intro S x1 x2 x3 x4 hres; exact absurd hres (by simp [fX12_hasBy_5])
  | succ k ih => intro S x1 x2 x3 x4 hres; exact wbX12_hasBy_5 hX hq ih hres
def fX12_hasBy (S : St) (x1 : Int32) (x2 : Int32) : Option (Int32 × St) :=
  fX12_hasBy_5 100 S x1 x2 (-1 : Int32) (0 : Int32)
theorem wfX12_hasBy {X : CX} (hX : Ok RX12 cX12_hasBy (some .int) 55 40 5 X) {rr : Int32 × St} (hq : rs X = (some (.int rr.1), rr.2)) {S : St} {x1 : Int32} {x2 : Int32} (hres : fX12_hasBy S x1 x2 = some rr) : Wat 55 40 1 5 X 0 [(0, .ref (ad X 55)), (1, .int x1), (2, .int x2)] [] S := by
  unfold fX12_hasBy at hres
  refine q_iconst 1 hX dX12_hasBy_0 rfl kI_m1 ?_
  refine q_istore_n 2 (lv' := [(3, .int (-1 : Int32)), (0, .ref (ad X 55)), (1, .int x1), (2, .int x2)]) hX dX12_hasBy_1 rfl rfl (by decide) rfl ?_
  refine q_iconst 3 hX dX12_hasBy_2 rfl kI_0 ?_
  refine q_istore 5 (lv' := [(4, .int (0 : Int32)), (3, .int (-1 : Int32)), (0, .ref (ad X 55)), (1, .int x1), (2, .int x2)]) hX dX12_hasBy_3 rfl (by decide) rfl ?_
  exact q_sub [2, 3, 4, 1, 0] rfl (wfX12_hasBy_5 hX hq _ _ _ _ _ _ hres)
theorem cX12_hasBy9 {l : Launch} {w : WD} (hj : Dj w 55 40) {rr : Int32 × St} {S : St} {x1 : Int32} {x2 : Int32} (hres : fX12_hasBy S x1 x2 = some rr) : Ct l yX12_hasBy cX12_hasBy 5 (some .int) 1 w 55 40 [.ref (w.1 55), .int x1, .int x2] S (some (.int rr.1), rr.2) := by
  refine Ct.of (lv := [(0, .ref (w.1 55)), (1, .int x1), (2, .int x2)]) hj (by decide +kernel) (Nat.le_of_ble_eq_true rfl) rfl ?_
  rintro X rfl rfl hq hX
  exact wfX12_hasBy hX hq hres
def bX12_keepIt_53 (rc53 : St → Int32 → Int32 → Int32 → Option (Int32 × St)) (S : St) (x1 : Int32) (x3 : Int32) (x4 : Int32) : Option (Int32 × St) :=
  if x1 ≤ x4 then (some (x3, S)) else (bi (fX12_hasBy S x1 x4) fun r2 S1 => bi (fX12_hasBy S1 x1 x3) fun r4 S2 => if r2 ≤ r4 then (bV (x4 + (1 : Int32)) fun v5 => rc53 S2 x1 x3 v5) else (bV (x4 + (1 : Int32)) fun v6 => rc53 S2 x1 x4 v6))
theorem wbX12_keepIt_53 {X : CX} (hX : Ok RX12 cX12_keepIt (some .int) 55 40 5 X) {rr : Int32 × St} (hq : rs X = (some (.int rr.1), rr.2)) {rc53 : St → Int32 → Int32 → Int32 → Option (Int32 × St)} (hrc53 : ∀ (S : St) (x1 : Int32) (x3 : Int32) (x4 : Int32), rc53 S x1 x3 x4 = some rr → Wat 55 40 2 5 X 53 [(0, .ref (ad X 55)), (1, .int x1), (3, .int x3), (4, .int x4)] [] S) {S : St} {x1 : Int32} {x3 : Int32} {x4 : Int32} (hres : bX12_keepIt_53 rc53 S x1 x3 x4 = some rr) : Wat 55 40 2 5 X 53 [(0, .ref (ad X 55)), (1, .int x1), (3, .int x3), (4, .int x4)] [] S := by
  unfold bX12_keepIt_53 at hres
  refine q_iload 55 hX 3 dX12_keepIt_53 rfl rfl ?_
  refine q_iload_n 56 hX 1 dX12_keepIt_55 rfl rfl rfl ?_
  refine q_icmp_ge 59 hX 84 dX12_keepIt_56 rfl (by decide) (fun hc => ?_) (fun hc => ?_)
  · have hres := it_t hc hres
    refine q_iload_n 85 hX 2 dX12_keepIt_84 rfl rfl rfl ?_
    exact q_iret hX (eqi hq hres) dX12_keepIt_85
  · have hres := it_f hc hres
    refine q_aload_n 60 hX 0 dX12_keepIt_59 rfl rfl rfl ?_
    refine q_iload_n 61 hX 1 dX12_keepIt_60 rfl rfl rfl ?_
    refine q_iload 63 hX 3 dX12_keepIt_61 rfl rfl ?_
    obtain ⟨r2, S1, hk1, hres⟩ := ob hres
    refine q_callVi 66 (st := []) (As := [.int x1, .int x4]) hX (cX12_hasBy9 hX.dj hk1) cv_RX12_449 ci12 oB_55 rfl (by decide) rfl (Nat.le_of_ble_eq_true rfl) dX12_keepIt_63 rfl ?_
    refine q_aload_n 67 hX 0 dX12_keepIt_66 rfl rfl rfl ?_
    refine q_iload_n 68 hX 1 dX12_keepIt_67 rfl rfl rfl ?_
    refine q_iload_n 69 hX 2 dX12_keepIt_68 rfl rfl rfl ?_
    obtain ⟨r4, S2, hk3, hres⟩ := ob hres
    refine q_callVi 72 (st := [.int r2]) (As := [.int x1, .int x3]) hX (cX12_hasBy9 hX.dj hk3) cv_RX12_449 ci12 oB_55 rfl (by decide) rfl (Nat.le_of_ble_eq_true rfl) dX12_keepIt_69 rfl ?_
    refine q_icmp_le 75 hX 78 dX12_keepIt_72 rfl (by decide) (fun hc => ?_) (fun hc => ?_)
    · have hres := it_t hc hres
      refine q_iincB 81 3 (lv0 := [(0, .ref (ad X 55)), (1, .int x1), (3, .int x3)]) hX dX12_keepIt_78 rfl rfl kI_1 (by decide) rfl hres (fun v5 hres => ?_)
      refine q_goto 53 hX dX12_keepIt_81 (by decide) ?_
      exact q_sub [1, 2, 3, 0] rfl (hrc53 _ _ _ _ hres)
    · have hres := it_f hc hres
      refine q_iload 77 hX 3 dX12_keepIt_75 rfl rfl ?_
      refine q_istore_n 78 (lv' := [(3, .int x4), (0, .ref (ad X 55)), (1, .int x1), (4, .int x4)]) hX dX12_keepIt_77 rfl rfl (by decide) rfl ?_
      refine q_iincB 81 3 (lv0 := [(3, .int x4), (0, .ref (ad X 55)), (1, .int x1)]) hX dX12_keepIt_78 rfl rfl kI_1 (by decide) rfl hres (fun v6 hres => ?_)
      refine q_goto 53 hX dX12_keepIt_81 (by decide) ?_
      exact q_sub [2, 3, 1, 0] rfl (hrc53 _ _ _ _ hres)
def fX12_keepIt_53 : Nat → St → Int32 → Int32 → Int32 → Option (Int32 × St)
  | 0 => fun _ _ _ _ => none
  | k + 1 => fun S x1 x3 x4 => bX12_keepIt_53 (fX12_keepIt_53 k) S x1 x3 x4
theorem wfX12_keepIt_53 {X : CX} (hX : Ok RX12 cX12_keepIt (some .int) 55 40 5 X) {rr : Int32 × St} (hq : rs X = (some (.int rr.1), rr.2)) (k : Nat) : ∀ (S : St) (x1 : Int32) (x3 : Int32) (x4 : Int32), fX12_keepIt_53 k S x1 x3 x4 = some rr → Wat 55 40 2 5 X 53 [(0, .ref (ad X 55)), (1, .int x1), (3, .int x3), (4, .int x4)] [] S := by
  induction k with
  | zero => intro S x1 x3 x4 hres; exact absurd hres (by simp [fX12_keepIt_53])
  | succ k ih => intro S x1 x3 x4 hres; exact wbX12_keepIt_53 hX hq ih hres
def fX12_keepIt (S : St) (x1 : Int32) (x2 : Int32) : Option (Int32 × St) :=
  bi (fX12_in S x1 (1 : Int32) (20 : Int32)) fun r2 S1 => if r2 = 0 then (some ((-1 : Int32), S1)) else (bi (fX12_in S1 x2 (-1 : Int32) (x1 - (1 : Int32))) fun r4 S2 => if r4 = 0 then (some ((-1 : Int32), S2)) else (if x1 ≤ (S2.1 55 11) then (bS (pI S2 55 11 (0 : Int32)) fun S3 => if x2 = (-1 : Int32) then (fX12_keepIt_53 100 S3 x1 (0 : Int32) (1 : Int32)) else (bi (fX12_hasBy S3 x1 x2) fun r6 S4 => some (r6, S4))) else (some ((-1 : Int32), S2))))
theorem wfX12_keepIt {X : CX} (hX : Ok RX12 cX12_keepIt (some .int) 55 40 5 X) {rr : Int32 × St} (hq : rs X = (some (.int rr.1), rr.2)) {S : St} {x1 : Int32} {x2 : Int32} (hres : fX12_keepIt S x1 x2 = some rr) : Wat 55 40 2 5 X 0 [(0, .ref (ad X 55)), (1, .int x1), (2, .int x2)] [] S := by
  unfold fX12_keepIt at hres
  refine q_iload_n 1 hX 1 dX12_keepIt_0 rfl rfl rfl ?_
  refine q_iconst 2 hX dX12_keepIt_1 rfl kI_1 ?_
  refine q_bipush 4 hX dX12_keepIt_2 rfl kB_20 ?_
  obtain ⟨r2, S1, hk1, hres⟩ := ob hres
  refine q_callSi 7 (st := []) (As := [.int x1, .int (1 : Int32), .int (20 : Int32)]) hX (cX12_in9 hX.dj hk1) cs_RX12_134 rfl (by decide) rfl (Nat.le_of_ble_eq_true rfl) dX12_keepIt_4 rfl ?_
  refine q_if_eq 10 hX 29 dX12_keepIt_7 rfl (by decide) (fun hc => ?_) (fun hc => ?_)
  · have hres := it_t hc hres
    refine q_iconst 30 hX dX12_keepIt_29 rfl kI_m1 ?_
    exact q_iret hX (eqi hq hres) dX12_keepIt_30
  · have hres := it_f hc hres
    refine q_iload_n 11 hX 2 dX12_keepIt_10 rfl rfl rfl ?_
    refine q_iconst 12 hX dX12_keepIt_11 rfl kI_m1 ?_
    refine q_iload_n 13 hX 1 dX12_keepIt_12 rfl rfl rfl ?_
    refine q_iconst 14 hX dX12_keepIt_13 rfl kI_1 ?_
    refine q_isub 15 hX dX12_keepIt_14 rfl ?_
    obtain ⟨r4, S2, hk3, hres⟩ := ob hres
    refine q_callSi 18 (st := []) (As := [.int x2, .int (-1 : Int32), .int (x1 - (1 : Int32))]) hX (cX12_in9 hX.dj hk3) cs_RX12_134 rfl (by decide) rfl (Nat.le_of_ble_eq_true rfl) dX12_keepIt_15 rfl ?_
    refine q_if_eq 21 hX 29 dX12_keepIt_18 rfl (by decide) (fun hc => ?_) (fun hc => ?_)
    · have hres := it_t hc hres
      refine q_iconst 30 hX dX12_keepIt_29 rfl kI_m1 ?_
      exact q_iret hX (eqi hq hres) dX12_keepIt_30
    · have hres := it_f hc hres
      refine q_iload_n 22 hX 1 dX12_keepIt_21 rfl rfl rfl ?_
      refine q_aload_n 23 hX 0 dX12_keepIt_22 rfl rfl rfl ?_
      refine q_getI 26 hX ci12 lf_RX12_162 fI_55_11 dX12_keepIt_23 rfl ?_
      refine q_icmp_le 29 hX 31 dX12_keepIt_26 rfl (by decide) (fun hc => ?_) (fun hc => ?_)
      · have hres := it_t hc hres
        refine q_aload_n 32 hX 0 dX12_keepIt_31 rfl rfl rfl ?_
        refine q_iconst 33 hX dX12_keepIt_32 rfl kI_0 ?_
        refine q_putI 36 hX ci12 lf_RX12_162 fI_55_11 (nar_i rfl) dX12_keepIt_33 rfl ?_
        refine q_bS hres (fun S3 _ hres => ?_)
        refine q_iload_n 37 hX 2 dX12_keepIt_36 rfl rfl rfl ?_
        refine q_iconst 38 hX dX12_keepIt_37 rfl kI_m1 ?_
        refine q_icmp_eq 41 hX 48 dX12_keepIt_38 rfl (by decide) (fun hc => ?_) (fun hc => ?_)
        · have hres := it_t hc hres
          refine q_iconst 49 hX dX12_keepIt_48 rfl kI_0 ?_
          refine q_istore_n 50 (lv' := [(3, .int (0 : Int32)), (0, .ref (ad X 55)), (1, .int x1), (2, .int x2)]) hX dX12_keepIt_49 rfl rfl (by decide) rfl ?_
          refine q_iconst 51 hX dX12_keepIt_50 rfl kI_1 ?_
          refine q_istore 53 (lv' := [(4, .int (1 : Int32)), (3, .int (0 : Int32)), (0, .ref (ad X 55)), (1, .int x1), (2, .int x2)]) hX dX12_keepIt_51 rfl (by decide) rfl ?_
          exact q_sub [2, 3, 1, 0] rfl (wfX12_keepIt_53 hX hq _ _ _ _ _ hres)
        · have hres := it_f hc hres
          refine q_aload_n 42 hX 0 dX12_keepIt_41 rfl rfl rfl ?_
          refine q_iload_n 43 hX 1 dX12_keepIt_42 rfl rfl rfl ?_
          refine q_iload_n 44 hX 2 dX12_keepIt_43 rfl rfl rfl ?_
          obtain ⟨r6, S4, hk5, hres⟩ := ob hres
          refine q_callVi 47 (st := []) (As := [.int x1, .int x2]) hX (cX12_hasBy9 hX.dj hk5) cv_RX12_449 ci12 oB_55 rfl (by decide) rfl (Nat.le_of_ble_eq_true rfl) dX12_keepIt_44 rfl ?_
          exact q_iret hX (eqi hq hres) dX12_keepIt_47
      · have hres := it_f hc hres
        refine q_iconst 30 hX dX12_keepIt_29 rfl kI_m1 ?_
        exact q_iret hX (eqi hq hres) dX12_keepIt_30
theorem cX12_keepIt9 {l : Launch} {w : WD} (hj : Dj w 55 40) {rr : Int32 × St} {S : St} {x1 : Int32} {x2 : Int32} (hres : fX12_keepIt S x1 x2 = some rr) : Ct l yX12_keepIt cX12_keepIt 5 (some .int) 2 w 55 40 [.ref (w.1 55), .int x1, .int x2] S (some (.int rr.1), rr.2) := by
  refine Ct.of (lv := [(0, .ref (w.1 55)), (1, .int x1), (2, .int x2)]) hj (by decide +kernel) (Nat.le_of_ble_eq_true rfl) rfl ?_
  rintro X rfl rfl hq hX
  exact wfX12_keepIt hX hq hres
def fX12_seed (S : St) (x1 : Int32) : Option (Int32 × St) :=
  bi (fX12_in S x1 (0 : Int32) (65535 : Int32)) fun r2 S1 => if r2 = 0 then (some ((0 : Int32), S1)) else (bS (pI S1 56 20 x1) fun S2 => some ((1 : Int32), S2))
theorem wfX12_seed {X : CX} (hX : Ok RX12 cX12_seed (some .boolean) 55 40 2 X) {rr : Int32 × St} (hq : rs X = (some (.int rr.1), rr.2)) {S : St} {x1 : Int32} (hres : fX12_seed S x1 = some rr) : Wat 55 40 1 2 X 0 [(0, .ref (ad X 55)), (1, .int x1)] [] S := by
  unfold fX12_seed at hres
  refine q_iload_n 1 hX 1 dX12_seed_0 rfl rfl rfl ?_
  refine q_iconst 2 hX dX12_seed_1 rfl kI_0 ?_
  refine q_ldcw 5 hX dX12_seed_2 rfl gw988 ?_
  obtain ⟨r2, S1, hk1, hres⟩ := ob hres
  refine q_callSi 8 (st := []) (As := [.int x1, .int (0 : Int32), .int (65535 : Int32)]) hX (cX12_in9 hX.dj hk1) cs_RX12_134 rfl (by decide) rfl (Nat.le_of_ble_eq_true rfl) dX12_seed_5 rfl ?_
  refine q_if_ne 11 hX 13 dX12_seed_8 rfl (by decide) (fun hc => ?_) (fun hc => ?_)
  · have hres := it_f hc hres
    refine q_aload_n 14 hX 0 dX12_seed_13 rfl rfl rfl ?_
    refine q_getR 17 hX ci12 lf_RX12_7 fR_55_0 dX12_seed_14 rfl ?_
    refine q_bipush 19 hX dX12_seed_17 rfl kB_20 ?_
    refine q_iload_n 20 hX 1 dX12_seed_19 rfl rfl rfl ?_
    refine q_iast 21 hX kU_20 aF_56 kN_20_21 dX12_seed_20 rfl ?_
    refine q_bS hres (fun S2 _ hres => ?_)
    refine q_iconst 22 hX dX12_seed_21 rfl kI_1 ?_
    exact q_zret hX (by decide) (eqi hq hres) dX12_seed_22
  · have hres := it_t hc hres
    refine q_iconst 12 hX dX12_seed_11 rfl kI_0 ?_
    exact q_zret hX (by decide) (eqi hq hres) dX12_seed_12
theorem cX12_seed9 {l : Launch} {w : WD} (hj : Dj w 55 40) {rr : Int32 × St} {S : St} {x1 : Int32} (hres : fX12_seed S x1 = some rr) : Ct l yX12_seed cX12_seed 2 (some .boolean) 1 w 55 40 [.ref (w.1 55), .int x1] S (some (.int rr.1), rr.2) := by
  refine Ct.of (lv := [(0, .ref (w.1 55)), (1, .int x1)]) hj (by decide +kernel) (Nat.le_of_ble_eq_true rfl) rfl ?_
  rintro X rfl rfl hq hX
  exact wfX12_seed hX hq hres
def fX12_keep (S : St) : Option (Int32 × St) :=
  bS (pI S 55 59 (1 : Int32)) fun S1 => bS (pI S1 55 60 (S1.1 55 8)) fun S2 => bv (fX12_copies 56 58 S2) fun S3 => some ((S3.1 56 19), S3)
theorem wfX12_keep {X : CX} (hX : Ok RX12 cX12_keep (some .int) 55 40 1 X) {rr : Int32 × St} (hq : rs X = (some (.int rr.1), rr.2)) {S : St} (hres : fX12_keep S = some rr) : Wat 55 40 1 1 X 0 [(0, .ref (ad X 55))] [] S := by
  unfold fX12_keep at hres
  refine q_aload_n 1 hX 0 dX12_keep_0 rfl rfl rfl ?_
  refine q_iconst 2 hX dX12_keep_1 rfl kI_1 ?_
  refine q_putI 5 hX ci12 lf_RX12_452 fI_55_59 (nar_z rfl (by decide)) dX12_keep_2 rfl ?_
  refine q_bS hres (fun S1 _ hres => ?_)
  refine q_aload_n 6 hX 0 dX12_keep_5 rfl rfl rfl ?_
  refine q_aload_n 7 hX 0 dX12_keep_6 rfl rfl rfl ?_
  refine q_getI 10 hX ci12 lf_RX12_138 fI_55_8 dX12_keep_7 rfl ?_
  refine q_putI 13 hX ci12 lf_RX12_456 fI_55_60 (nar_i rfl) dX12_keep_10 rfl ?_
  refine q_bS hres (fun S2 _ hres => ?_)
  refine q_aload_n 14 hX 0 dX12_keep_13 rfl rfl rfl ?_
  refine q_getR 17 hX ci12 lf_RX12_7 fR_55_0 dX12_keep_14 rfl ?_
  refine q_aload_n 18 hX 0 dX12_keep_17 rfl rfl rfl ?_
  refine q_getR 21 hX ci12 lf_RX12_16 fR_55_2 dX12_keep_18 rfl ?_
  obtain ⟨S3, hk1, hres⟩ := obv hres
  refine q_callSv 24 (st := []) (As := [.ref (ad X 56), .ref (ad X 58)]) hX (cX12_copies9 hX.dj aF_56 aF_58 hk1) cs_RX12_352 rfl (by decide) rfl (Nat.le_of_ble_eq_true rfl) dX12_keep_21 rfl ?_
  refine q_aload_n 25 hX 0 dX12_keep_24 rfl rfl rfl ?_
  refine q_getR 28 hX ci12 lf_RX12_7 fR_55_0 dX12_keep_25 rfl ?_
  refine q_bipush 30 hX dX12_keep_28 rfl kB_19 ?_
  refine q_iald 31 hX kU_19 aF_56 kN_19_21 dX12_keep_30 rfl ?_
  exact q_iret hX (eqi hq hres) dX12_keep_31
theorem cX12_keep9 {l : Launch} {w : WD} (hj : Dj w 55 40) {rr : Int32 × St} {S : St} (hres : fX12_keep S = some rr) : Ct l yX12_keep cX12_keep 1 (some .int) 1 w 55 40 [.ref (w.1 55)] S (some (.int rr.1), rr.2) := by
  refine Ct.of (lv := [(0, .ref (w.1 55))]) hj (by decide +kernel) (Nat.le_of_ble_eq_true rfl) rfl ?_
  rintro X rfl rfl hq hX
  exact wfX12_keep hX hq hres
def bX12_undo_22 (rc22 : St → Int32 → Option (Int32 × St)) (S : St) (x1 : Int32) : Option (Int32 × St) :=
  if (16 : Int32) ≤ x1 then (bi (fX12_isHouse S (S.1 56 16)) fun r2 S1 => if r2 = 0 then (bS (pI S1 56 16 (-1 : Int32)) fun S2 => some ((1 : Int32), S2)) else (some ((1 : Int32), S1))) else (bi (fX12_has S ((S.1 55 60) &&& (S.1 55 8)) x1) fun r4 S3 => if r4 = 0 then (if inb ((0 : Int32) + x1) 21 = true then bS (pI S3 56 (((0 : Int32) + x1).toNatClampNeg) (0 : Int32)) fun S4 => bV (x1 + (1 : Int32)) fun v7 => rc22 S4 v7 else none) else (bV (x1 + (1 : Int32)) fun v5 => rc22 S3 v5))
theorem wbX12_undo_22 {X : CX} (hX : Ok RX12 cX12_undo (some .boolean) 55 40 2 X) {rr : Int32 × St} (hq : rs X = (some (.int rr.1), rr.2)) {rc22 : St → Int32 → Option (Int32 × St)} (hrc22 : ∀ (S : St) (x1 : Int32), rc22 S x1 = some rr → Wat 55 40 2 2 X 22 [(0, .ref (ad X 55)), (1, .int x1)] [] S) {S : St} {x1 : Int32} (hres : bX12_undo_22 rc22 S x1 = some rr) : Wat 55 40 2 2 X 22 [(0, .ref (ad X 55)), (1, .int x1)] [] S := by
  unfold bX12_undo_22 at hres
  refine q_iload_n 23 hX 1 dX12_undo_22 rfl rfl rfl ?_
  refine q_bipush 25 hX dX12_undo_23 rfl kB_16 ?_
  refine q_icmp_ge 28 hX 59 dX12_undo_25 rfl (by decide) (fun hc => ?_) (fun hc => ?_)
  · have hres := it_t hc hres
    refine q_aload_n 60 hX 0 dX12_undo_59 rfl rfl rfl ?_
    refine q_aload_n 61 hX 0 dX12_undo_60 rfl rfl rfl ?_
    refine q_getR 64 hX ci12 lf_RX12_7 fR_55_0 dX12_undo_61 rfl ?_
    refine q_bipush 66 hX dX12_undo_64 rfl kB_16 ?_
    refine q_iald 67 hX kU_16 aF_56 kN_16_21 dX12_undo_66 rfl ?_
    obtain ⟨r2, S1, hk1, hres⟩ := ob hres
    refine q_callVi 70 (st := []) (As := [.int (S.1 56 16)]) hX (cX12_isHouse9 hX.dj hk1) cv_RX12_159 ci12 oB_55 rfl (by decide) rfl (Nat.le_of_ble_eq_true rfl) dX12_undo_67 rfl ?_
    refine q_if_ne 73 hX 81 dX12_undo_70 rfl (by decide) (fun hc => ?_) (fun hc => ?_)
    · have hres := it_f hc hres
      refine q_iconst 82 hX dX12_undo_81 rfl kI_1 ?_
      exact q_zret hX (by decide) (eqi hq hres) dX12_undo_82
    · have hres := it_t hc hres
      refine q_aload_n 74 hX 0 dX12_undo_73 rfl rfl rfl ?_
      refine q_getR 77 hX ci12 lf_RX12_7 fR_55_0 dX12_undo_74 rfl ?_
      refine q_bipush 79 hX dX12_undo_77 rfl kB_16 ?_
      refine q_iconst 80 hX dX12_undo_79 rfl kI_m1 ?_
      refine q_iast 81 hX kU_16 aF_56 kN_16_21 dX12_undo_80 rfl ?_
      refine q_bS hres (fun S2 _ hres => ?_)
      refine q_iconst 82 hX dX12_undo_81 rfl kI_1 ?_
      exact q_zret hX (by decide) (eqi hq hres) dX12_undo_82
  · have hres := it_f hc hres
    refine q_aload_n 29 hX 0 dX12_undo_28 rfl rfl rfl ?_
    refine q_getI 32 hX ci12 lf_RX12_456 fI_55_60 dX12_undo_29 rfl ?_
    refine q_aload_n 33 hX 0 dX12_undo_32 rfl rfl rfl ?_
    refine q_getI 36 hX ci12 lf_RX12_138 fI_55_8 dX12_undo_33 rfl ?_
    refine q_iand 37 hX dX12_undo_36 rfl ?_
    refine q_iload_n 38 hX 1 dX12_undo_37 rfl rfl rfl ?_
    obtain ⟨r4, S3, hk3, hres⟩ := ob hres
    refine q_callSi 41 (st := []) (As := [.int ((S.1 55 60) &&& (S.1 55 8)), .int x1]) hX (cX12_has9 hX.dj hk3) cs_RX12_130 rfl (by decide) rfl (Nat.le_of_ble_eq_true rfl) dX12_undo_38 rfl ?_
    refine q_if_ne 44 hX 53 dX12_undo_41 rfl (by decide) (fun hc => ?_) (fun hc => ?_)
    · have hres := it_f hc hres
      refine q_iincB 56 1 (lv0 := [(0, .ref (ad X 55))]) hX dX12_undo_53 rfl rfl kI_1 (by decide) rfl hres (fun v5 hres => ?_)
      refine q_goto 22 hX dX12_undo_56 (by decide) ?_
      exact q_sub [1, 0] rfl (hrc22 _ _ hres)
    · have hres := it_t hc hres
      refine q_aload_n 45 hX 0 dX12_undo_44 rfl rfl rfl ?_
      refine q_getR 48 hX ci12 lf_RX12_7 fR_55_0 dX12_undo_45 rfl ?_
      refine q_iconst 49 hX dX12_undo_48 rfl kI_0 ?_
      refine q_iload_n 50 hX 1 dX12_undo_49 rfl rfl rfl ?_
      refine q_iadd 51 hX dX12_undo_50 rfl ?_
      refine q_iconst 52 hX dX12_undo_51 rfl kI_0 ?_
      obtain ⟨hb6, hres⟩ := gd hres
      refine q_iast 53 hX rfl aF_56 hb6 dX12_undo_52 rfl ?_
      refine q_bS hres (fun S4 _ hres => ?_)
      refine q_iincB 56 1 (lv0 := [(0, .ref (ad X 55))]) hX dX12_undo_53 rfl rfl kI_1 (by decide) rfl hres (fun v7 hres => ?_)
      refine q_goto 22 hX dX12_undo_56 (by decide) ?_
      exact q_sub [1, 0] rfl (hrc22 _ _ hres)
def fX12_undo_22 : Nat → St → Int32 → Option (Int32 × St)
  | 0 => fun _ _ => none
  | k + 1 => fun S x1 => bX12_undo_22 (fX12_undo_22 k) S x1
theorem wfX12_undo_22 {X : CX} (hX : Ok RX12 cX12_undo (some .boolean) 55 40 2 X) {rr : Int32 × St} (hq : rs X = (some (.int rr.1), rr.2)) (k : Nat) : ∀ (S : St) (x1 : Int32), fX12_undo_22 k S x1 = some rr → Wat 55 40 2 2 X 22 [(0, .ref (ad X 55)), (1, .int x1)] [] S := by
  induction k with
  | zero => intro S x1 hres; exact absurd hres (by simp [fX12_undo_22])
  | succ k ih => intro S x1 hres; exact wbX12_undo_22 hX hq ih hres
def fX12_undo (S : St) : Option (Int32 × St) :=
  if (S.1 55 59) = 0 then (some ((0 : Int32), S)) else (bv (fX12_copies 58 56 S) fun S1 => fX12_undo_22 100 S1 (0 : Int32))
theorem wfX12_undo {X : CX} (hX : Ok RX12 cX12_undo (some .boolean) 55 40 2 X) {rr : Int32 × St} (hq : rs X = (some (.int rr.1), rr.2)) {S : St} (hres : fX12_undo S = some rr) : Wat 55 40 2 2 X 0 [(0, .ref (ad X 55))] [] S := by
  unfold fX12_undo at hres
  refine q_aload_n 1 hX 0 dX12_undo_0 rfl rfl rfl ?_
  refine q_getI 4 hX ci12 lf_RX12_452 fI_55_59 dX12_undo_1 rfl ?_
  refine q_if_ne 7 hX 9 dX12_undo_4 rfl (by decide) (fun hc => ?_) (fun hc => ?_)
  · have hres := it_f hc hres
    refine q_aload_n 10 hX 0 dX12_undo_9 rfl rfl rfl ?_
    refine q_getR 13 hX ci12 lf_RX12_16 fR_55_2 dX12_undo_10 rfl ?_
    refine q_aload_n 14 hX 0 dX12_undo_13 rfl rfl rfl ?_
    refine q_getR 17 hX ci12 lf_RX12_7 fR_55_0 dX12_undo_14 rfl ?_
    obtain ⟨S1, hk1, hres⟩ := obv hres
    refine q_callSv 20 (st := []) (As := [.ref (ad X 58), .ref (ad X 56)]) hX (cX12_copies9 hX.dj aF_58 aF_56 hk1) cs_RX12_352 rfl (by decide) rfl (Nat.le_of_ble_eq_true rfl) dX12_undo_17 rfl ?_
    refine q_iconst 21 hX dX12_undo_20 rfl kI_0 ?_
    refine q_istore_n 22 (lv' := [(1, .int (0 : Int32)), (0, .ref (ad X 55))]) hX dX12_undo_21 rfl rfl (by decide) rfl ?_
    exact q_sub [1, 0] rfl (wfX12_undo_22 hX hq _ _ _ hres)
  · have hres := it_t hc hres
    refine q_iconst 8 hX dX12_undo_7 rfl kI_0 ?_
    exact q_zret hX (by decide) (eqi hq hres) dX12_undo_8
theorem cX12_undo9 {l : Launch} {w : WD} (hj : Dj w 55 40) {rr : Int32 × St} {S : St} (hres : fX12_undo S = some rr) : Ct l yX12_undo cX12_undo 2 (some .boolean) 2 w 55 40 [.ref (w.1 55)] S (some (.int rr.1), rr.2) := by
  refine Ct.of (lv := [(0, .ref (w.1 55))]) hj (by decide +kernel) (Nat.le_of_ble_eq_true rfl) rfl ?_
  rintro X rfl rfl hq hX
  exact wfX12_undo hX hq hres
def fX12_check_64 (rc28 : St → Int32 → Int32 → Option (Int32 × St)) (S : St) (x1 : Int32) (x2 : Int32) (s0 : Int32) (s1 : Int32) : Option (Int32 × St) :=
  if s0 = s1 then (bV (x2 + (1 : Int32)) fun v1 => rc28 S x1 v1) else (some (x2, S))
theorem wfX12_check_64 {X : CX} (hX : Ok RX12 cX12_check (some .int) 55 40 3 X) {rr : Int32 × St} (hq : rs X = (some (.int rr.1), rr.2)) {rc28 : St → Int32 → Int32 → Option (Int32 × St)} (hrc28 : ∀ (S : St) (x1 : Int32) (x2 : Int32), rc28 S x1 x2 = some rr → Wat 55 40 2 3 X 28 [(0, .ref (ad X 55)), (1, .int x1), (2, .int x2)] [] S) {S : St} {x1 : Int32} {x2 : Int32} {s0 : Int32} {s1 : Int32} (hres : fX12_check_64 rc28 S x1 x2 s0 s1 = some rr) : Wat 55 40 2 3 X 64 [(0, .ref (ad X 55)), (1, .int x1), (2, .int x2)] [.int s1, .int s0] S := by
  unfold fX12_check_64 at hres
  refine q_icmp_eq 67 hX 69 dX12_check_64 rfl (by decide) (fun hc => ?_) (fun hc => ?_)
  · have hres := it_t hc hres
    refine q_iincB 72 2 (lv0 := [(0, .ref (ad X 55)), (1, .int x1)]) hX dX12_check_69 rfl rfl kI_1 (by decide) rfl hres (fun v1 hres => ?_)
    refine q_goto 28 hX dX12_check_72 (by decide) ?_
    exact q_sub [1, 2, 0] rfl (hrc28 _ _ _ hres)
  · have hres := it_f hc hres
    refine q_iload_n 68 hX 2 dX12_check_67 rfl rfl rfl ?_
    exact q_iret hX (eqi hq hres) dX12_check_68
def bX12_check_28 (rc28 : St → Int32 → Int32 → Option (Int32 × St)) (S : St) (x1 : Int32) (x2 : Int32) : Option (Int32 × St) :=
  if x1 ≤ x2 then (some ((-1 : Int32), S)) else (bi (fX12_octet S x2) fun r2 S1 => bi (fX12_isHouse S1 x2) fun r4 S2 => if r4 = 0 then (fX12_check_64 rc28 S2 x1 x2 r2 (255 : Int32)) else (if inb ((0 : Int32) + x2) 21 = true then fX12_check_64 rc28 S2 x1 x2 r2 ((S2.1 56 (((0 : Int32) + x2).toNatClampNeg)) - (S2.1 56 (((0 : Int32) + x2).toNatClampNeg)) / (256 : Int32) * (256 : Int32)) else none))
theorem wbX12_check_28 {X : CX} (hX : Ok RX12 cX12_check (some .int) 55 40 3 X) {rr : Int32 × St} (hq : rs X = (some (.int rr.1), rr.2)) {rc28 : St → Int32 → Int32 → Option (Int32 × St)} (hrc28 : ∀ (S : St) (x1 : Int32) (x2 : Int32), rc28 S x1 x2 = some rr → Wat 55 40 2 3 X 28 [(0, .ref (ad X 55)), (1, .int x1), (2, .int x2)] [] S) {S : St} {x1 : Int32} {x2 : Int32} (hres : bX12_check_28 rc28 S x1 x2 = some rr) : Wat 55 40 2 3 X 28 [(0, .ref (ad X 55)), (1, .int x1), (2, .int x2)] [] S := by
  unfold bX12_check_28 at hres
  refine q_iload_n 29 hX 2 dX12_check_28 rfl rfl rfl ?_
  refine q_iload_n 30 hX 1 dX12_check_29 rfl rfl rfl ?_
  refine q_icmp_ge 33 hX 75 dX12_check_30 rfl (by decide) (fun hc => ?_) (fun hc => ?_)
  · have hres := it_t hc hres
    refine q_iconst 76 hX dX12_check_75 rfl kI_m1 ?_
    exact q_iret hX (eqi hq hres) dX12_check_76
  · have hres := it_f hc hres
    refine q_aload_n 34 hX 0 dX12_check_33 rfl rfl rfl ?_
    refine q_iload_n 35 hX 2 dX12_check_34 rfl rfl rfl ?_
    obtain ⟨r2, S1, hk1, hres⟩ := ob hres
    refine q_callVi 38 (st := []) (As := [.int x2]) hX (cX12_octet9 hX.dj hk1) cv_RX12_400 ci12 oB_55 rfl (by decide) rfl (Nat.le_of_ble_eq_true rfl) dX12_check_35 rfl ?_
    refine q_aload_n 39 hX 0 dX12_check_38 rfl rfl rfl ?_
    refine q_iload_n 40 hX 2 dX12_check_39 rfl rfl rfl ?_
    obtain ⟨r4, S2, hk3, hres⟩ := ob hres
    refine q_callVi 43 (st := [.int r2]) (As := [.int x2]) hX (cX12_isHouse9 hX.dj hk3) cv_RX12_159 ci12 oB_55 rfl (by decide) rfl (Nat.le_of_ble_eq_true rfl) dX12_check_40 rfl ?_
    refine q_if_eq 46 hX 61 dX12_check_43 rfl (by decide) (fun hc => ?_) (fun hc => ?_)
    · have hres := it_t hc hres
      refine q_sipush 64 hX dX12_check_61 rfl kS_255 ?_
      exact q_sub [0, 1, 2] rfl (wfX12_check_64 hX hq hrc28 hres)
    · have hres := it_f hc hres
      refine q_aload_n 47 hX 0 dX12_check_46 rfl rfl rfl ?_
      refine q_getR 50 hX ci12 lf_RX12_7 fR_55_0 dX12_check_47 rfl ?_
      refine q_iconst 51 hX dX12_check_50 rfl kI_0 ?_
      refine q_iload_n 52 hX 2 dX12_check_51 rfl rfl rfl ?_
      refine q_iadd 53 hX dX12_check_52 rfl ?_
      obtain ⟨hb5, hres⟩ := gd hres
      refine q_iald 54 hX rfl aF_56 hb5 dX12_check_53 rfl ?_
      refine q_sipush 57 hX dX12_check_54 rfl kS_256 ?_
      refine q_irem 58 hX dX12_check_57 rfl (by decide) ?_
      refine q_goto 64 hX dX12_check_58 (by decide) ?_
      exact q_sub [0, 1, 2] rfl (wfX12_check_64 hX hq hrc28 hres)
def fX12_check_28 : Nat → St → Int32 → Int32 → Option (Int32 × St)
  | 0 => fun _ _ _ => none
  | k + 1 => fun S x1 x2 => bX12_check_28 (fX12_check_28 k) S x1 x2
theorem wfX12_check_28 {X : CX} (hX : Ok RX12 cX12_check (some .int) 55 40 3 X) {rr : Int32 × St} (hq : rs X = (some (.int rr.1), rr.2)) (k : Nat) : ∀ (S : St) (x1 : Int32) (x2 : Int32), fX12_check_28 k S x1 x2 = some rr → Wat 55 40 2 3 X 28 [(0, .ref (ad X 55)), (1, .int x1), (2, .int x2)] [] S := by
  induction k with
  | zero => intro S x1 x2 hres; exact absurd hres (by simp [fX12_check_28])
  | succ k ih => intro S x1 x2 hres; exact wbX12_check_28 hX hq ih hres
def fX12_check (S : St) (x1 : Int32) : Option (Int32 × St) :=
  bi (fX12_in S x1 (0 : Int32) (16 : Int32)) fun r2 S1 => if r2 = 0 then (some ((-2 : Int32), S1)) else (if x1 ≤ (S1.1 55 11) then (bS (pI S1 55 11 (0 : Int32)) fun S2 => fX12_check_28 100 S2 x1 (0 : Int32)) else (some ((-2 : Int32), S1)))
theorem wfX12_check {X : CX} (hX : Ok RX12 cX12_check (some .int) 55 40 3 X) {rr : Int32 × St} (hq : rs X = (some (.int rr.1), rr.2)) {S : St} {x1 : Int32} (hres : fX12_check S x1 = some rr) : Wat 55 40 2 3 X 0 [(0, .ref (ad X 55)), (1, .int x1)] [] S := by
  unfold fX12_check at hres
  refine q_iload_n 1 hX 1 dX12_check_0 rfl rfl rfl ?_
  refine q_iconst 2 hX dX12_check_1 rfl kI_0 ?_
  refine q_bipush 4 hX dX12_check_2 rfl kB_16 ?_
  obtain ⟨r2, S1, hk1, hres⟩ := ob hres
  refine q_callSi 7 (st := []) (As := [.int x1, .int (0 : Int32), .int (16 : Int32)]) hX (cX12_in9 hX.dj hk1) cs_RX12_134 rfl (by decide) rfl (Nat.le_of_ble_eq_true rfl) dX12_check_4 rfl ?_
  refine q_if_eq 10 hX 18 dX12_check_7 rfl (by decide) (fun hc => ?_) (fun hc => ?_)
  · have hres := it_t hc hres
    refine q_bipush 20 hX dX12_check_18 rfl kB_m2 ?_
    exact q_iret hX (eqi hq hres) dX12_check_20
  · have hres := it_f hc hres
    refine q_iload_n 11 hX 1 dX12_check_10 rfl rfl rfl ?_
    refine q_aload_n 12 hX 0 dX12_check_11 rfl rfl rfl ?_
    refine q_getI 15 hX ci12 lf_RX12_162 fI_55_11 dX12_check_12 rfl ?_
    refine q_icmp_le 18 hX 21 dX12_check_15 rfl (by decide) (fun hc => ?_) (fun hc => ?_)
    · have hres := it_t hc hres
      refine q_aload_n 22 hX 0 dX12_check_21 rfl rfl rfl ?_
      refine q_iconst 23 hX dX12_check_22 rfl kI_0 ?_
      refine q_putI 26 hX ci12 lf_RX12_162 fI_55_11 (nar_i rfl) dX12_check_23 rfl ?_
      refine q_bS hres (fun S2 _ hres => ?_)
      refine q_iconst 27 hX dX12_check_26 rfl kI_0 ?_
      refine q_istore_n 28 (lv' := [(2, .int (0 : Int32)), (0, .ref (ad X 55)), (1, .int x1)]) hX dX12_check_27 rfl rfl (by decide) rfl ?_
      exact q_sub [1, 2, 0] rfl (wfX12_check_28 hX hq _ _ _ _ hres)
    · have hres := it_f hc hres
      refine q_bipush 20 hX dX12_check_18 rfl kB_m2 ?_
      exact q_iret hX (eqi hq hres) dX12_check_20
theorem cX12_check9 {l : Launch} {w : WD} (hj : Dj w 55 40) {rr : Int32 × St} {S : St} {x1 : Int32} (hres : fX12_check S x1 = some rr) : Ct l yX12_check cX12_check 3 (some .int) 2 w 55 40 [.ref (w.1 55), .int x1] S (some (.int rr.1), rr.2) := by
  refine Ct.of (lv := [(0, .ref (w.1 55)), (1, .int x1)]) hj (by decide +kernel) (Nat.le_of_ble_eq_true rfl) rfl ?_
  rintro X rfl rfl hq hX
  exact wfX12_check hX hq hres
def fX12_count (S : St) (x1 : Int32) : Option (Int32 × St) :=
  if x1 = (0 : Int32) then (some ((S.1 56 19), S)) else (if x1 = (1 : Int32) then (some ((S.1 55 8), S)) else (if x1 = (2 : Int32) then (some ((S.1 55 9), S)) else (if x1 = (3 : Int32) then (bi (fX12_orNone S (S.1 56 16)) fun r2 S1 => some (r2, S1)) else (if x1 = (4 : Int32) then (some ((S.1 56 17), S)) else (if x1 = (5 : Int32) then (some ((S.1 56 18), S)) else (if x1 = (6 : Int32) then (some ((S.1 55 20), S)) else (if x1 = (7 : Int32) then (some ((S.1 55 11), S)) else (if x1 = (8 : Int32) then (some ((S.1 56 20), S)) else (if x1 = (9 : Int32) then (bi (fX12_joyOfAll S) fun r4 S2 => some (r4, S2)) else (if x1 = (10 : Int32) then (bi (fX12_bits S (S.1 56 17)) fun r6 S3 => some (r6, S3)) else (if x1 = (11 : Int32) then (bi (fX12_turnsOf S (-1 : Int32)) fun r8 S4 => some (((12 : Int32) - r8), S4)) else (some ((-1 : Int32), S)))))))))))))
theorem wfX12_count {X : CX} (hX : Ok RX12 cX12_count (some .int) 55 40 2 X) {rr : Int32 × St} (hq : rs X = (some (.int rr.1), rr.2)) {S : St} {x1 : Int32} (hres : fX12_count S x1 = some rr) : Wat 55 40 3 2 X 0 [(0, .ref (ad X 55)), (1, .int x1)] [] S := by
  unfold fX12_count at hres
  refine q_iload_n 1 hX 1 dX12_count_0 rfl rfl rfl ?_
  by_cases hc0 : x1 = (0 : Int32)
  · have hres := it_t hc0 hres
    refine q_tabIn 64 hX dX12_count_1 (by rw [hc0]; decide) (by rw [hc0]; decide) (by rw [hc0]; rfl) (by decide) ?_
    refine q_aload_n 65 hX 0 dX12_count_64 rfl rfl rfl ?_
    refine q_getR 68 hX ci12 lf_RX12_7 fR_55_0 dX12_count_65 rfl ?_
    refine q_bipush 70 hX dX12_count_68 rfl kB_19 ?_
    refine q_iald 71 hX kU_19 aF_56 kN_19_21 dX12_count_70 rfl ?_
    exact q_iret hX (eqi hq hres) dX12_count_71
  have hres := it_f hc0 hres
  have hn0 := ne_ti (k := 0) hc0 (by decide)
  by_cases hc1 : x1 = (1 : Int32)
  · have hres := it_t hc1 hres
    refine q_tabIn 72 hX dX12_count_1 (by rw [hc1]; decide) (by rw [hc1]; decide) (by rw [hc1]; rfl) (by decide) ?_
    refine q_aload_n 73 hX 0 dX12_count_72 rfl rfl rfl ?_
    refine q_getI 76 hX ci12 lf_RX12_138 fI_55_8 dX12_count_73 rfl ?_
    exact q_iret hX (eqi hq hres) dX12_count_76
  have hres := it_f hc1 hres
  have hn1 := ne_ti (k := 1) hc1 (by decide)
  by_cases hc2 : x1 = (2 : Int32)
  · have hres := it_t hc2 hres
    refine q_tabIn 77 hX dX12_count_1 (by rw [hc2]; decide) (by rw [hc2]; decide) (by rw [hc2]; rfl) (by decide) ?_
    refine q_aload_n 78 hX 0 dX12_count_77 rfl rfl rfl ?_
    refine q_getI 81 hX ci12 lf_RX12_142 fI_55_9 dX12_count_78 rfl ?_
    exact q_iret hX (eqi hq hres) dX12_count_81
  have hres := it_f hc2 hres
  have hn2 := ne_ti (k := 2) hc2 (by decide)
  by_cases hc3 : x1 = (3 : Int32)
  · have hres := it_t hc3 hres
    refine q_tabIn 82 hX dX12_count_1 (by rw [hc3]; decide) (by rw [hc3]; decide) (by rw [hc3]; rfl) (by decide) ?_
    refine q_aload_n 83 hX 0 dX12_count_82 rfl rfl rfl ?_
    refine q_getR 86 hX ci12 lf_RX12_7 fR_55_0 dX12_count_83 rfl ?_
    refine q_bipush 88 hX dX12_count_86 rfl kB_16 ?_
    refine q_iald 89 hX kU_16 aF_56 kN_16_21 dX12_count_88 rfl ?_
    obtain ⟨r2, S1, hk1, hres⟩ := ob hres
    refine q_callSi 92 (st := []) (As := [.int (S.1 56 16)]) hX (cX12_orNone9 hX.dj hk1) cs_RX12_356 rfl (by decide) rfl (Nat.le_of_ble_eq_true rfl) dX12_count_89 rfl ?_
    exact q_iret hX (eqi hq hres) dX12_count_92
  have hres := it_f hc3 hres
  have hn3 := ne_ti (k := 3) hc3 (by decide)
  by_cases hc4 : x1 = (4 : Int32)
  · have hres := it_t hc4 hres
    refine q_tabIn 93 hX dX12_count_1 (by rw [hc4]; decide) (by rw [hc4]; decide) (by rw [hc4]; rfl) (by decide) ?_
    refine q_aload_n 94 hX 0 dX12_count_93 rfl rfl rfl ?_
    refine q_getR 97 hX ci12 lf_RX12_7 fR_55_0 dX12_count_94 rfl ?_
    refine q_bipush 99 hX dX12_count_97 rfl kB_17 ?_
    refine q_iald 100 hX kU_17 aF_56 kN_17_21 dX12_count_99 rfl ?_
    exact q_iret hX (eqi hq hres) dX12_count_100
  have hres := it_f hc4 hres
  have hn4 := ne_ti (k := 4) hc4 (by decide)
  by_cases hc5 : x1 = (5 : Int32)
  · have hres := it_t hc5 hres
    refine q_tabIn 101 hX dX12_count_1 (by rw [hc5]; decide) (by rw [hc5]; decide) (by rw [hc5]; rfl) (by decide) ?_
    refine q_aload_n 102 hX 0 dX12_count_101 rfl rfl rfl ?_
    refine q_getR 105 hX ci12 lf_RX12_7 fR_55_0 dX12_count_102 rfl ?_
    refine q_bipush 107 hX dX12_count_105 rfl kB_18 ?_
    refine q_iald 108 hX kU_18 aF_56 kN_18_21 dX12_count_107 rfl ?_
    exact q_iret hX (eqi hq hres) dX12_count_108
  have hres := it_f hc5 hres
  have hn5 := ne_ti (k := 5) hc5 (by decide)
  by_cases hc6 : x1 = (6 : Int32)
  · have hres := it_t hc6 hres
    refine q_tabIn 109 hX dX12_count_1 (by rw [hc6]; decide) (by rw [hc6]; decide) (by rw [hc6]; rfl) (by decide) ?_
    refine q_aload_n 110 hX 0 dX12_count_109 rfl rfl rfl ?_
    refine q_getI 113 hX ci12 lf_RX12_262 fI_55_20 dX12_count_110 rfl ?_
    exact q_iret hX (eqi hq hres) dX12_count_113
  have hres := it_f hc6 hres
  have hn6 := ne_ti (k := 6) hc6 (by decide)
  by_cases hc7 : x1 = (7 : Int32)
  · have hres := it_t hc7 hres
    refine q_tabIn 114 hX dX12_count_1 (by rw [hc7]; decide) (by rw [hc7]; decide) (by rw [hc7]; rfl) (by decide) ?_
    refine q_aload_n 115 hX 0 dX12_count_114 rfl rfl rfl ?_
    refine q_getI 118 hX ci12 lf_RX12_162 fI_55_11 dX12_count_115 rfl ?_
    exact q_iret hX (eqi hq hres) dX12_count_118
  have hres := it_f hc7 hres
  have hn7 := ne_ti (k := 7) hc7 (by decide)
  by_cases hc8 : x1 = (8 : Int32)
  · have hres := it_t hc8 hres
    refine q_tabIn 119 hX dX12_count_1 (by rw [hc8]; decide) (by rw [hc8]; decide) (by rw [hc8]; rfl) (by decide) ?_
    refine q_aload_n 120 hX 0 dX12_count_119 rfl rfl rfl ?_
    refine q_getR 123 hX ci12 lf_RX12_7 fR_55_0 dX12_count_120 rfl ?_
    refine q_bipush 125 hX dX12_count_123 rfl kB_20 ?_
    refine q_iald 126 hX kU_20 aF_56 kN_20_21 dX12_count_125 rfl ?_
    exact q_iret hX (eqi hq hres) dX12_count_126
  have hres := it_f hc8 hres
  have hn8 := ne_ti (k := 8) hc8 (by decide)
  by_cases hc9 : x1 = (9 : Int32)
  · have hres := it_t hc9 hres
    refine q_tabIn 127 hX dX12_count_1 (by rw [hc9]; decide) (by rw [hc9]; decide) (by rw [hc9]; rfl) (by decide) ?_
    refine q_aload_n 128 hX 0 dX12_count_127 rfl rfl rfl ?_
    obtain ⟨r4, S2, hk3, hres⟩ := ob hres
    refine q_callVi 131 (st := []) (As := []) hX (cX12_joyOfAll9 hX.dj hk3) cv_RX12_359 ci12 oB_55 rfl (by decide) rfl (Nat.le_of_ble_eq_true rfl) dX12_count_128 rfl ?_
    exact q_iret hX (eqi hq hres) dX12_count_131
  have hres := it_f hc9 hres
  have hn9 := ne_ti (k := 9) hc9 (by decide)
  by_cases hc10 : x1 = (10 : Int32)
  · have hres := it_t hc10 hres
    refine q_tabIn 132 hX dX12_count_1 (by rw [hc10]; decide) (by rw [hc10]; decide) (by rw [hc10]; rfl) (by decide) ?_
    refine q_aload_n 133 hX 0 dX12_count_132 rfl rfl rfl ?_
    refine q_getR 136 hX ci12 lf_RX12_7 fR_55_0 dX12_count_133 rfl ?_
    refine q_bipush 138 hX dX12_count_136 rfl kB_17 ?_
    refine q_iald 139 hX kU_17 aF_56 kN_17_21 dX12_count_138 rfl ?_
    obtain ⟨r6, S3, hk5, hres⟩ := ob hres
    refine q_callSi 142 (st := []) (As := [.int (S.1 56 17)]) hX (cX12_bits9 hX.dj hk5) cs_RX12_320 rfl (by decide) rfl (Nat.le_of_ble_eq_true rfl) dX12_count_139 rfl ?_
    exact q_iret hX (eqi hq hres) dX12_count_142
  have hres := it_f hc10 hres
  have hn10 := ne_ti (k := 10) hc10 (by decide)
  by_cases hc11 : x1 = (11 : Int32)
  · have hres := it_t hc11 hres
    refine q_tabIn 143 hX dX12_count_1 (by rw [hc11]; decide) (by rw [hc11]; decide) (by rw [hc11]; rfl) (by decide) ?_
    refine q_bipush 145 hX dX12_count_143 rfl kB_12 ?_
    refine q_aload_n 146 hX 0 dX12_count_145 rfl rfl rfl ?_
    refine q_iconst 147 hX dX12_count_146 rfl kI_m1 ?_
    obtain ⟨r8, S4, hk7, hres⟩ := ob hres
    refine q_callVi 150 (st := [.int (12 : Int32)]) (As := [.int (-1 : Int32)]) hX (cX12_turnsOf9 hX.dj hk7) cv_RX12_368 ci12 oB_55 rfl (by decide) rfl (Nat.le_of_ble_eq_true rfl) dX12_count_147 rfl ?_
    refine q_isub 151 hX dX12_count_150 rfl ?_
    exact q_iret hX (eqi hq hres) dX12_count_151
  have hres := it_f hc11 hres
  have hn11 := ne_ti (k := 11) hc11 (by decide)
  refine q_tabOut 152 hX dX12_count_1 (by omega) (by decide) ?_
  refine q_iconst 153 hX dX12_count_152 rfl kI_m1 ?_
  exact q_iret hX (eqi hq hres) dX12_count_153
theorem cX12_count9 {l : Launch} {w : WD} (hj : Dj w 55 40) {rr : Int32 × St} {S : St} {x1 : Int32} (hres : fX12_count S x1 = some rr) : Ct l yX12_count cX12_count 2 (some .int) 3 w 55 40 [.ref (w.1 55), .int x1] S (some (.int rr.1), rr.2) := by
  refine Ct.of (lv := [(0, .ref (w.1 55)), (1, .int x1)]) hj (by decide +kernel) (Nat.le_of_ble_eq_true rfl) rfl ?_
  rintro X rfl rfl hq hX
  exact wfX12_count hX hq hres
