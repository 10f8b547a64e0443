def fX5_readHolder_127 (o1 : Nat) (S : St) (s1 : Int32) (s2 : Int32) : Option (St) :=
  if inb s1 12 = true then bS (pI S 6 (s1.toNatClampNeg) s2) fun S1 => bS (pI S1 5 2 ((S1.1 5 2) + (1 : Int32))) fun S2 => bv (fX0_step S2) fun S3 => some S3 else none
theorem wfX5_readHolder_127 {X : CX} (hX : Ok RX5 cX5_readHolder none 0 55 5 X) {o1 : Nat} (ho1 : isT o1) {rr : St} (hq : rs X = (none, rr)) {S : St} {s1 : Int32} {s2 : Int32} (hres : fX5_readHolder_127 o1 S s1 s2 = some rr) : Wat 0 55 2 5 X 127 [(0, .ref (ad X 5))] [.int s2, .int s1, .ref (ad X 6)] S := by
  unfold fX5_readHolder_127 at hres
  obtain ⟨hb1, hres⟩ := gd hres
  refine q_iast 128 hX rfl aF_6 hb1 dX5_readHolder_127 rfl ?_
  refine q_bS hres (fun S1 _ hres => ?_)
  refine q_aload_n 129 hX 0 dX5_readHolder_128 rfl rfl rfl ?_
  refine q_dup 130 hX dX5_readHolder_129 rfl rfl ?_
  refine q_getI 133 hX ci5 lf_RX5_15 fI_5_2 dX5_readHolder_130 rfl ?_
  refine q_iconst 134 hX dX5_readHolder_133 rfl kI_1 ?_
  refine q_iadd 135 hX dX5_readHolder_134 rfl ?_
  refine q_putI 138 hX ci5 lf_RX5_15 fI_5_2 (nar_i rfl) dX5_readHolder_135 rfl ?_
  refine q_bS hres (fun S2 _ hres => ?_)
  refine q_aload_n 139 hX 0 dX5_readHolder_138 rfl rfl rfl ?_
  refine q_getR 142 hX ci5 lf_RX5_22 fR_5_0 dX5_readHolder_139 rfl ?_
  obtain ⟨S3, hk2, hres⟩ := obv hres
  refine q_callVv 145 (st := []) (As := []) hX (cX0_step9 hX.dj hk2) cv_RX5_64 ci0 oB_3 rfl (by decide) rfl (Nat.le_of_ble_eq_true rfl) dX5_readHolder_142 rfl ?_
  exact q_vret hX (eqv hq hres) dX5_readHolder_145
def fX5_readHolder_106 (o1 : Nat) (S : St) (x3 : Int32) (x4 : Int32) : Option (St) :=
  if x4 = 0 then (fX5_readHolder_127 o1 S (S.1 5 2) (-1 : Int32)) else (fX5_readHolder_127 o1 S (S.1 5 2) (x3 - (97 : Int32)))
theorem wfX5_readHolder_106 {X : CX} (hX : Ok RX5 cX5_readHolder none 0 55 5 X) {o1 : Nat} (ho1 : isT o1) {rr : St} (hq : rs X = (none, rr)) {S : St} {x3 : Int32} {x4 : Int32} (hres : fX5_readHolder_106 o1 S x3 x4 = some rr) : Wat 0 55 2 5 X 106 [(0, .ref (ad X 5)), (3, .int x3), (4, .int x4)] [] S := by
  unfold fX5_readHolder_106 at hres
  refine q_aload_n 107 hX 0 dX5_readHolder_106 rfl rfl rfl ?_
  refine q_getR 110 hX ci5 lf_RX5_9 fR_5_1 dX5_readHolder_107 rfl ?_
  refine q_aload_n 111 hX 0 dX5_readHolder_110 rfl rfl rfl ?_
  refine q_getI 114 hX ci5 lf_RX5_15 fI_5_2 dX5_readHolder_111 rfl ?_
  refine q_iload 116 hX 2 dX5_readHolder_114 rfl rfl ?_
  refine q_if_eq 119 hX 126 dX5_readHolder_116 rfl (by decide) (fun hc => ?_) (fun hc => ?_)
  · have hres := it_t hc hres
    refine q_iconst 127 hX dX5_readHolder_126 rfl kI_m1 ?_
    exact q_sub [0] rfl (wfX5_readHolder_127 hX ho1 hq hres)
  · have hres := it_f hc hres
    refine q_iload_n 120 hX 1 dX5_readHolder_119 rfl rfl rfl ?_
    refine q_bipush 122 hX dX5_readHolder_120 rfl kB_97 ?_
    refine q_isub 123 hX dX5_readHolder_122 rfl ?_
    refine q_goto 127 hX dX5_readHolder_123 (by decide) ?_
    exact q_sub [0] rfl (wfX5_readHolder_127 hX ho1 hq hres)
def fX5_readHolder_49 (o1 : Nat) (S : St) (x2 : Int32) (x3 : Int32) (x4 : Int32) : Option (St) :=
  if (S.1 5 2) < (12 : Int32) then (if x4 = 0 then (fX5_readHolder_106 o1 S x3 x4) else (bi (fX8_hasHouse o1 S (x3 - (97 : Int32))) fun r2 S1 => if r2 = 0 then (if (S1.1 5 3) = (-1 : Int32) then (bS (pI S1 5 3 (S1.1 3 2)) fun S2 => fX5_readHolder_106 o1 S2 x3 x4) else (fX5_readHolder_106 o1 S1 x3 x4)) else (fX5_readHolder_106 o1 S1 x3 x4))) else (bv (fX0_fail S (6 : Int32) x2) fun S3 => some S3)
theorem wfX5_readHolder_49 {X : CX} (hX : Ok RX5 cX5_readHolder none 0 55 5 X) {o1 : Nat} (ho1 : isT o1) {rr : St} (hq : rs X = (none, rr)) {S : St} {x2 : Int32} {x3 : Int32} {x4 : Int32} (hres : fX5_readHolder_49 o1 S x2 x3 x4 = some rr) : Wat 0 55 2 5 X 49 [(0, .ref (ad X 5)), (1, .ref (ad X o1)), (2, .int x2), (3, .int x3), (4, .int x4)] [] S := by
  unfold fX5_readHolder_49 at hres
  refine q_aload_n 50 hX 0 dX5_readHolder_49 rfl rfl rfl ?_
  refine q_getI 53 hX ci5 lf_RX5_15 fI_5_2 dX5_readHolder_50 rfl ?_
  refine q_bipush 55 hX dX5_readHolder_53 rfl kB_12 ?_
  refine q_icmp_lt 58 hX 71 dX5_readHolder_55 rfl (by decide) (fun hc => ?_) (fun hc => ?_)
  · have hres := it_t hc hres
    refine q_iload 73 hX 4 dX5_readHolder_71 rfl rfl ?_
    refine q_if_eq 76 hX 106 dX5_readHolder_73 rfl (by decide) (fun hc => ?_) (fun hc => ?_)
    · have hres := it_t hc hres
      exact q_sub [0, 3, 4] rfl (wfX5_readHolder_106 hX ho1 hq hres)
    · have hres := it_f hc hres
      refine q_aload_n 77 hX 1 dX5_readHolder_76 rfl rfl rfl ?_
      refine q_iload_n 78 hX 3 dX5_readHolder_77 rfl rfl rfl ?_
      refine q_bipush 80 hX dX5_readHolder_78 rfl kB_97 ?_
      refine q_isub 81 hX dX5_readHolder_80 rfl ?_
      obtain ⟨r2, S1, hk1, hres⟩ := ob hres
      refine q_callVi 84 (st := []) (As := [.int (x3 - (97 : Int32))]) hX (cX8_hasHouse9 hX.dj ho1 hk1) cv_RX5_80 ci8 (oB_T ho1) rfl (by decide) rfl (Nat.le_of_ble_eq_true rfl) dX5_readHolder_81 rfl ?_
      refine q_if_ne 87 hX 106 dX5_readHolder_84 rfl (by decide) (fun hc => ?_) (fun hc => ?_)
      · have hres := it_f hc hres
        exact q_sub [0, 3, 4] rfl (wfX5_readHolder_106 hX ho1 hq hres)
      · have hres := it_t hc hres
        refine q_aload_n 88 hX 0 dX5_readHolder_87 rfl rfl rfl ?_
        refine q_getI 91 hX ci5 lf_RX5_19 fI_5_3 dX5_readHolder_88 rfl ?_
        refine q_iconst 92 hX dX5_readHolder_91 rfl kI_m1 ?_
        refine q_icmp_ne 95 hX 106 dX5_readHolder_92 rfl (by decide) (fun hc => ?_) (fun hc => ?_)
        · have hres := it_f hc hres
          exact q_sub [0, 3, 4] rfl (wfX5_readHolder_106 hX ho1 hq hres)
        · have hres := it_t hc hres
          refine q_aload_n 96 hX 0 dX5_readHolder_95 rfl rfl rfl ?_
          refine q_aload_n 97 hX 0 dX5_readHolder_96 rfl rfl rfl ?_
          refine q_getR 100 hX ci5 lf_RX5_22 fR_5_0 dX5_readHolder_97 rfl ?_
          refine q_getI 103 hX ci0 lf_RX5_61 fI_3_2 dX5_readHolder_100 rfl ?_
          refine q_putI 106 hX ci5 lf_RX5_19 fI_5_3 (nar_i rfl) dX5_readHolder_103 rfl ?_
          refine q_bS hres (fun S2 _ hres => ?_)
          exact q_sub [0, 3, 4] rfl (wfX5_readHolder_106 hX ho1 hq hres)
  · have hres := it_f hc hres
    refine q_aload_n 59 hX 0 dX5_readHolder_58 rfl rfl rfl ?_
    refine q_getR 62 hX ci5 lf_RX5_22 fR_5_0 dX5_readHolder_59 rfl ?_
    refine q_bipush 64 hX dX5_readHolder_62 rfl kB_6 ?_
    refine q_iload_n 65 hX 2 dX5_readHolder_64 rfl rfl rfl ?_
    obtain ⟨S3, hk3, hres⟩ := obv hres
    refine q_callVv 68 (st := []) (As := [.int (6 : Int32), .int x2]) hX (cX0_fail9 hX.dj hk3) cv_RX5_46 ci0 oB_3 rfl (by decide) rfl (Nat.le_of_ble_eq_true rfl) dX5_readHolder_65 rfl ?_
    refine q_goto 145 hX dX5_readHolder_68 (by decide) ?_
    exact q_vret hX (eqv hq hres) dX5_readHolder_145
def fX5_readHolder_25 (o1 : Nat) (S : St) (x2 : Int32) (x3 : Int32) (s0 : Int32) : Option (St) :=
  if s0 = 0 then (if x3 = (45 : Int32) then (fX5_readHolder_49 o1 S x2 x3 s0) else (bv (fX0_failHere S (1 : Int32)) fun S1 => some S1)) else (fX5_readHolder_49 o1 S x2 x3 s0)
theorem wfX5_readHolder_25 {X : CX} (hX : Ok RX5 cX5_readHolder none 0 55 5 X) {o1 : Nat} (ho1 : isT o1) {rr : St} (hq : rs X = (none, rr)) {S : St} {x2 : Int32} {x3 : Int32} {s0 : Int32} (hres : fX5_readHolder_25 o1 S x2 x3 s0 = some rr) : Wat 0 55 2 5 X 25 [(0, .ref (ad X 5)), (1, .ref (ad X o1)), (2, .int x2), (3, .int x3)] [.int s0] S := by
  unfold fX5_readHolder_25 at hres
  refine q_istore 27 (lv' := [(4, .int s0), (0, .ref (ad X 5)), (1, .ref (ad X o1)), (2, .int x2), (3, .int x3)]) hX dX5_readHolder_25 rfl (by decide) rfl ?_
  refine q_iload 29 hX 0 dX5_readHolder_27 rfl rfl ?_
  refine q_if_ne 32 hX 49 dX5_readHolder_29 rfl (by decide) (fun hc => ?_) (fun hc => ?_)
  · have hres := it_f hc hres
    exact q_sub [1, 2, 3, 4, 0] rfl (wfX5_readHolder_49 hX ho1 hq hres)
  · have hres := it_t hc hres
    refine q_iload_n 33 hX 4 dX5_readHolder_32 rfl rfl rfl ?_
    refine q_bipush 35 hX dX5_readHolder_33 rfl kB_45 ?_
    refine q_icmp_eq 38 hX 49 dX5_readHolder_35 rfl (by decide) (fun hc => ?_) (fun hc => ?_)
    · have hres := it_t hc hres
      exact q_sub [1, 2, 3, 4, 0] rfl (wfX5_readHolder_49 hX ho1 hq hres)
    · have hres := it_f hc hres
      refine q_aload_n 39 hX 1 dX5_readHolder_38 rfl rfl rfl ?_
      refine q_getR 42 hX ci5 lf_RX5_22 fR_5_0 dX5_readHolder_39 rfl ?_
      refine q_iconst 43 hX dX5_readHolder_42 rfl kI_1 ?_
      obtain ⟨S1, hk1, hres⟩ := obv hres
      refine q_callVv 46 (st := []) (As := [.int (1 : Int32)]) hX (cX0_failHere9 hX.dj hk1) cv_RX5_43 ci0 oB_3 rfl (by decide) rfl (Nat.le_of_ble_eq_true rfl) dX5_readHolder_43 rfl ?_
      refine q_goto 145 hX dX5_readHolder_46 (by decide) ?_
      exact q_vret hX (eqv hq hres) dX5_readHolder_145
def fX5_readHolder_24 (o1 : Nat) (S : St) (x2 : Int32) (x3 : Int32) : Option (St) :=
  fX5_readHolder_25 o1 S x2 x3 (0 : Int32)
theorem wfX5_readHolder_24 {X : CX} (hX : Ok RX5 cX5_readHolder none 0 55 5 X) {o1 : Nat} (ho1 : isT o1) {rr : St} (hq : rs X = (none, rr)) {S : St} {x2 : Int32} {x3 : Int32} (hres : fX5_readHolder_24 o1 S x2 x3 = some rr) : Wat 0 55 2 5 X 24 [(0, .ref (ad X 5)), (1, .ref (ad X o1)), (2, .int x2), (3, .int x3)] [] S := by
  unfold fX5_readHolder_24 at hres
  refine q_iconst 25 hX dX5_readHolder_24 rfl kI_0 ?_
  exact q_sub [0, 1, 2, 3] rfl (wfX5_readHolder_25 hX ho1 hq hres)
def fX5_readHolder (o1 : Nat) (S : St) (x2 : Int32) : Option (St) :=
  bV ((S.1 3 3)) fun v1 => if v1 < (97 : Int32) then (fX5_readHolder_24 o1 S x2 v1) else (if (112 : Int32) < v1 then (fX5_readHolder_24 o1 S x2 v1) else (fX5_readHolder_25 o1 S x2 v1 (1 : Int32)))
theorem wfX5_readHolder {X : CX} (hX : Ok RX5 cX5_readHolder none 0 55 5 X) {o1 : Nat} (ho1 : isT o1) {rr : St} (hq : rs X = (none, rr)) {S : St} {x2 : Int32} (hres : fX5_readHolder o1 S x2 = some rr) : Wat 0 55 2 5 X 0 [(0, .ref (ad X 5)), (1, .ref (ad X o1)), (2, .int x2)] [] S := by
  unfold fX5_readHolder at hres
  refine q_aload_n 1 hX 0 dX5_readHolder_0 rfl rfl rfl ?_
  refine q_getR 4 hX ci5 lf_RX5_22 fR_5_0 dX5_readHolder_1 rfl ?_
  refine q_getI 7 hX ci0 lf_RX5_40 fI_3_3 dX5_readHolder_4 rfl ?_
  refine q_istoreB_n 8 (lv0 := [(0, .ref (ad X 5)), (1, .ref (ad X o1)), (2, .int x2)]) hX dX5_readHolder_7 rfl rfl (by decide) rfl hres (fun v1 hres => ?_)
  refine q_iload_n 9 hX 0 dX5_readHolder_8 rfl rfl rfl ?_
  refine q_bipush 11 hX dX5_readHolder_9 rfl kB_97 ?_
  refine q_icmp_lt 14 hX 24 dX5_readHolder_11 rfl (by decide) (fun hc => ?_) (fun hc => ?_)
  · have hres := it_t hc hres
    exact q_sub [1, 2, 3, 0] rfl (wfX5_readHolder_24 hX ho1 hq hres)
  · have hres := it_f hc hres
    refine q_iload_n 15 hX 0 dX5_readHolder_14 rfl rfl rfl ?_
    refine q_bipush 17 hX dX5_readHolder_15 rfl kB_112 ?_
    refine q_icmp_gt 20 hX 24 dX5_readHolder_17 rfl (by decide) (fun hc => ?_) (fun hc => ?_)
    · have hres := it_t hc hres
      exact q_sub [1, 2, 3, 0] rfl (wfX5_readHolder_24 hX ho1 hq hres)
    · have hres := it_f hc hres
      refine q_iconst 21 hX dX5_readHolder_20 rfl kI_1 ?_
      refine q_goto 25 hX dX5_readHolder_21 (by decide) ?_
      exact q_sub [1, 2, 3, 0] rfl (wfX5_readHolder_25 hX ho1 hq hres)
theorem cX5_readHolder9 {l : Launch} {w : WD} (hj : Dj w 0 55) {o1 : Nat} (ho1 : isT o1) {rr : St} {S : St} {x2 : Int32} (hres : fX5_readHolder o1 S x2 = some rr) : Ct l yX5_readHolder cX5_readHolder 5 none 2 w 0 55 [.ref (w.1 5), .ref (w.1 o1), .int x2] S (none, rr) := by
  refine Ct.of (lv := [(0, .ref (w.1 5)), (1, .ref (w.1 o1)), (2, .int x2)]) hj (by decide +kernel) (Nat.le_of_ble_eq_true rfl) rfl ?_
  rintro X rfl rfl hq hX
  exact wfX5_readHolder hX ho1 hq hres
def bX5_repeat_36 (rc36 : St → Int32 → Int32 → Int32 → Int32 → Option (St)) (S : St) (x1 : Int32) (x2 : Int32) (x4 : Int32) (x5 : Int32) : Option (St) :=
  if (x1 + (x4 * x2)) ≤ x5 then (bS (pI S 5 2 (x1 + (x4 * x2))) fun S1 => some S1) else (if inb (x5 - x4) 12 = true then if inb x5 12 = true then bS (pI S 6 (x5.toNatClampNeg) (S.1 6 ((x5 - x4).toNatClampNeg))) fun S2 => bV (x5 + (1 : Int32)) fun v3 => rc36 S2 x1 x2 x4 v3 else none else none)
theorem wbX5_repeat_36 {X : CX} (hX : Ok RX5 cX5_repeat none 0 55 6 X) {rr : St} (hq : rs X = (none, rr)) {rc36 : St → Int32 → Int32 → Int32 → Int32 → Option (St)} (hrc36 : ∀ (S : St) (x1 : Int32) (x2 : Int32) (x4 : Int32) (x5 : Int32), rc36 S x1 x2 x4 x5 = some rr → Wat 0 55 1 6 X 36 [(0, .ref (ad X 5)), (1, .int x1), (2, .int x2), (4, .int x4), (5, .int x5)] [] S) {S : St} {x1 : Int32} {x2 : Int32} {x4 : Int32} {x5 : Int32} (hres : bX5_repeat_36 rc36 S x1 x2 x4 x5 = some rr) : Wat 0 55 1 6 X 36 [(0, .ref (ad X 5)), (1, .int x1), (2, .int x2), (4, .int x4), (5, .int x5)] [] S := by
  unfold bX5_repeat_36 at hres
  refine q_iload 38 hX 4 dX5_repeat_36 rfl rfl ?_
  refine q_iload_n 39 hX 1 dX5_repeat_38 rfl rfl rfl ?_
  refine q_iload 41 hX 3 dX5_repeat_39 rfl rfl ?_
  refine q_iload_n 42 hX 2 dX5_repeat_41 rfl rfl rfl ?_
  refine q_imul 43 hX dX5_repeat_42 rfl ?_
  refine q_iadd 44 hX dX5_repeat_43 rfl ?_
  refine q_icmp_ge 47 hX 70 dX5_repeat_44 rfl (by decide) (fun hc => ?_) (fun hc => ?_)
  · have hres := it_t hc hres
    refine q_aload_n 71 hX 0 dX5_repeat_70 rfl rfl rfl ?_
    refine q_iload_n 72 hX 1 dX5_repeat_71 rfl rfl rfl ?_
    refine q_iload 74 hX 3 dX5_repeat_72 rfl rfl ?_
    refine q_iload_n 75 hX 2 dX5_repeat_74 rfl rfl rfl ?_
    refine q_imul 76 hX dX5_repeat_75 rfl ?_
    refine q_iadd 77 hX dX5_repeat_76 rfl ?_
    refine q_putI 80 hX ci5 lf_RX5_15 fI_5_2 (nar_i rfl) dX5_repeat_77 rfl ?_
    refine q_bS hres (fun S1 _ hres => ?_)
    exact q_vret hX (eqv hq hres) dX5_repeat_80
  · have hres := it_f hc hres
    refine q_aload_n 48 hX 0 dX5_repeat_47 rfl rfl rfl ?_
    refine q_getR 51 hX ci5 lf_RX5_9 fR_5_1 dX5_repeat_48 rfl ?_
    refine q_iload 53 hX 4 dX5_repeat_51 rfl rfl ?_
    refine q_aload_n 54 hX 0 dX5_repeat_53 rfl rfl rfl ?_
    refine q_getR 57 hX ci5 lf_RX5_9 fR_5_1 dX5_repeat_54 rfl ?_
    refine q_iload 59 hX 4 dX5_repeat_57 rfl rfl ?_
    refine q_iload 61 hX 3 dX5_repeat_59 rfl rfl ?_
    refine q_isub 62 hX dX5_repeat_61 rfl ?_
    obtain ⟨hb1, hres⟩ := gd hres
    refine q_iald 63 hX rfl aF_6 hb1 dX5_repeat_62 rfl ?_
    obtain ⟨hb2, hres⟩ := gd hres
    refine q_iast 64 hX rfl aF_6 hb2 dX5_repeat_63 rfl ?_
    refine q_bS hres (fun S2 _ hres => ?_)
    refine q_iincB 67 4 (lv0 := [(0, .ref (ad X 5)), (1, .int x1), (2, .int x2), (4, .int x4)]) hX dX5_repeat_64 rfl rfl kI_1 (by decide) rfl hres (fun v3 hres => ?_)
    refine q_goto 36 hX dX5_repeat_67 (by decide) ?_
    exact q_sub [1, 2, 3, 4, 0] rfl (hrc36 _ _ _ _ _ hres)
def fX5_repeat_36 : Nat → St → Int32 → Int32 → Int32 → Int32 → Option (St)
  | 0 => fun _ _ _ _ _ => none
  | k + 1 => fun S x1 x2 x4 x5 => bX5_repeat_36 (fX5_repeat_36 k) S x1 x2 x4 x5
theorem wfX5_repeat_36 {X : CX} (hX : Ok RX5 cX5_repeat none 0 55 6 X) {rr : St} (hq : rs X = (none, rr)) (k : Nat) : ∀ (S : St) (x1 : Int32) (x2 : Int32) (x4 : Int32) (x5 : Int32), fX5_repeat_36 k S x1 x2 x4 x5 = some rr → Wat 0 55 1 6 X 36 [(0, .ref (ad X 5)), (1, .int x1), (2, .int x2), (4, .int x4), (5, .int x5)] [] S := by
  induction k with
  | zero => intro S x1 x2 x4 x5 hres; exact absurd hres (by simp [fX5_repeat_36])
  | succ k ih => intro S x1 x2 x4 x5 hres; exact wbX5_repeat_36 hX hq ih hres
def fX5_repeat (S : St) (x1 : Int32) (x2 : Int32) (x3 : Int32) : Option (St) :=
  bV (((S.1 5 2) - x1)) fun v1 => if (x1 + (v1 * x2)) ≤ (12 : Int32) then (bV ((S.1 5 2)) fun v2 => fX5_repeat_36 100 S x1 x2 v1 v2) else (bv (fX0_fail S (6 : Int32) x3) fun S1 => some S1)
theorem wfX5_repeat {X : CX} (hX : Ok RX5 cX5_repeat none 0 55 6 X) {rr : St} (hq : rs X = (none, rr)) {S : St} {x1 : Int32} {x2 : Int32} {x3 : Int32} (hres : fX5_repeat S x1 x2 x3 = some rr) : Wat 0 55 1 6 X 0 [(0, .ref (ad X 5)), (1, .int x1), (2, .int x2), (3, .int x3)] [] S := by
  unfold fX5_repeat at hres
  refine q_aload_n 1 hX 0 dX5_repeat_0 rfl rfl rfl ?_
  refine q_getI 4 hX ci5 lf_RX5_15 fI_5_2 dX5_repeat_1 rfl ?_
  refine q_iload_n 5 hX 1 dX5_repeat_4 rfl rfl rfl ?_
  refine q_isub 6 hX dX5_repeat_5 rfl ?_
  refine q_istoreB 8 (lv0 := [(0, .ref (ad X 5)), (1, .int x1), (2, .int x2), (3, .int x3)]) hX dX5_repeat_6 rfl (by decide) rfl hres (fun v1 hres => ?_)
  refine q_iload_n 9 hX 2 dX5_repeat_8 rfl rfl rfl ?_
  refine q_iload 11 hX 0 dX5_repeat_9 rfl rfl ?_
  refine q_iload_n 12 hX 3 dX5_repeat_11 rfl rfl rfl ?_
  refine q_imul 13 hX dX5_repeat_12 rfl ?_
  refine q_iadd 14 hX dX5_repeat_13 rfl ?_
  refine q_bipush 16 hX dX5_repeat_14 rfl kB_12 ?_
  refine q_icmp_le 19 hX 30 dX5_repeat_16 rfl (by decide) (fun hc => ?_) (fun hc => ?_)
  · have hres := it_t hc hres
    refine q_aload_n 31 hX 1 dX5_repeat_30 rfl rfl rfl ?_
    refine q_getI 34 hX ci5 lf_RX5_15 fI_5_2 dX5_repeat_31 rfl ?_
    refine q_istoreB 36 (lv0 := [(4, .int v1), (0, .ref (ad X 5)), (1, .int x1), (2, .int x2), (3, .int x3)]) hX dX5_repeat_34 rfl (by decide) rfl hres (fun v2 hres => ?_)
    exact q_sub [2, 3, 4, 1, 0] rfl (wfX5_repeat_36 hX hq _ _ _ _ _ _ hres)
  · have hres := it_f hc hres
    refine q_aload_n 20 hX 1 dX5_repeat_19 rfl rfl rfl ?_
    refine q_getR 23 hX ci5 lf_RX5_22 fR_5_0 dX5_repeat_20 rfl ?_
    refine q_bipush 25 hX dX5_repeat_23 rfl kB_6 ?_
    refine q_iload_n 26 hX 4 dX5_repeat_25 rfl rfl rfl ?_
    obtain ⟨S1, hk3, hres⟩ := obv hres
    refine q_callVv 29 (st := []) (As := [.int (6 : Int32), .int x3]) hX (cX0_fail9 hX.dj hk3) cv_RX5_46 ci0 oB_3 rfl (by decide) rfl (Nat.le_of_ble_eq_true rfl) dX5_repeat_26 rfl ?_
    exact q_vret hX (eqv hq hres) dX5_repeat_29
theorem cX5_repeat9 {l : Launch} {w : WD} (hj : Dj w 0 55) {rr : St} {S : St} {x1 : Int32} {x2 : Int32} {x3 : Int32} (hres : fX5_repeat S x1 x2 x3 = some rr) : Ct l yX5_repeat cX5_repeat 6 none 1 w 0 55 [.ref (w.1 5), .int x1, .int x2, .int x3] S (none, rr) := by
  refine Ct.of (lv := [(0, .ref (w.1 5)), (1, .int x1), (2, .int x2), (3, .int x3)]) hj (by decide +kernel) (Nat.le_of_ble_eq_true rfl) rfl ?_
  rintro X rfl rfl hq hX
  exact wfX5_repeat hX hq hres
def fX5_readTurns_59 (rg : Nat → Nat → St → Int32 → Option St) (o1 : Nat) (rc5 : St → Int32 → Int32 → Int32 → Option (St)) (S : St) (x2 : Int32) (x4 : Int32) : Option (St) :=
  bV (x4 + (1 : Int32)) fun v1 => rc5 S x2 (0 : Int32) v1
theorem wfX5_readTurns_59 {X : CX} (hX : Ok RX5 cX5_readTurns none 0 55 5 X) {o1 : Nat} (ho1 : isT o1) {k9 : Nat} {rg : Nat → Nat → St → Int32 → Option St} (hg0 : ∀ {o1 : Nat} (ho1 : isT o1) {rr : St} {S : St} {x2 : Int32}, rg 0 o1 S x2 = some rr → Ct X.1 yX5_readTurns cX5_readTurns 5 none (3 + k9) X.2.1 0 55 [.ref (X.2.1.1 5), .ref (X.2.1.1 o1), .int x2] S (none, rr)) (hg1 : ∀ {o1 : Nat} (ho1 : isT o1) {rr : St} {S : St} {x2 : Int32}, rg 1 o1 S x2 = some rr → Ct X.1 yX5_readOne cX5_readOne 6 none (3 + k9) X.2.1 0 55 [.ref (X.2.1.1 5), .ref (X.2.1.1 o1), .int x2] S (none, rr)) (hg2 : ∀ {o1 : Nat} (ho1 : isT o1) {rr : St} {S : St} {x2 : Int32}, rg 2 o1 S x2 = some rr → Ct X.1 yX5_readRound cX5_readRound 3 none (3 + k9) X.2.1 0 55 [.ref (X.2.1.1 5), .ref (X.2.1.1 o1), .int x2] S (none, rr)) {rr : St} (hq : rs X = (none, rr)) {rc5 : St → Int32 → Int32 → Int32 → Option (St)} (hrc5 : ∀ (S : St) (x2 : Int32) (x3 : Int32) (x4 : Int32), rc5 S x2 x3 x4 = some rr → Wat 0 55 (3 + k9 + 1) 5 X 5 [(0, .ref (ad X 5)), (1, .ref (ad X o1)), (2, .int x2), (3, .int x3), (4, .int x4)] [] S) {S : St} {x2 : Int32} {x4 : Int32} (hres : fX5_readTurns_59 rg o1 rc5 S x2 x4 = some rr) : Wat 0 55 (3 + k9 + 1) 5 X 59 [(0, .ref (ad X 5)), (1, .ref (ad X o1)), (2, .int x2), (4, .int x4)] [] S := by
  unfold fX5_readTurns_59 at hres
  refine q_iconst 60 hX dX5_readTurns_59 rfl kI_0 ?_
  refine q_istore_n 61 (lv' := [(3, .int (0 : Int32)), (0, .ref (ad X 5)), (1, .ref (ad X o1)), (2, .int x2), (4, .int x4)]) hX dX5_readTurns_60 rfl rfl (by decide) rfl ?_
  refine q_iincB 64 4 (lv0 := [(3, .int (0 : Int32)), (0, .ref (ad X 5)), (1, .ref (ad X o1)), (2, .int x2)]) hX dX5_readTurns_61 rfl rfl kI_1 (by decide) rfl hres (fun v1 hres => ?_)
  refine q_goto 5 hX dX5_readTurns_64 (by decide) ?_
  exact q_sub [2, 3, 4, 1, 0] rfl (hrc5 _ _ _ _ hres)
def bX5_readTurns_5 (rg : Nat → Nat → St → Int32 → Option St) (o1 : Nat) (rc5 : St → Int32 → Int32 → Int32 → Option (St)) (S : St) (x2 : Int32) (x3 : Int32) (x4 : Int32) : Option (St) :=
  if (60 : Int32) ≤ x4 then (some S) else (if x3 = 0 then (some S) else (bv (rg 1 o1 S x2) fun S1 => bi (fX0_fine S1) fun r3 S2 => if r3 = 0 then (fX5_readTurns_59 rg o1 rc5 S2 x2 x4) else (if (S2.1 3 3) = (-1 : Int32) then (fX5_readTurns_59 rg o1 rc5 S2 x2 x4) else (if (S2.1 3 3) = (41 : Int32) then (fX5_readTurns_59 rg o1 rc5 S2 x2 x4) else (bV (x4 + (1 : Int32)) fun v4 => rc5 S2 x2 (1 : Int32) v4)))))
theorem wbX5_readTurns_5 {X : CX} (hX : Ok RX5 cX5_readTurns none 0 55 5 X) {o1 : Nat} (ho1 : isT o1) {k9 : Nat} {rg : Nat → Nat → St → Int32 → Option St} (hg0 : ∀ {o1 : Nat} (ho1 : isT o1) {rr : St} {S : St} {x2 : Int32}, rg 0 o1 S x2 = some rr → Ct X.1 yX5_readTurns cX5_readTurns 5 none (3 + k9) X.2.1 0 55 [.ref (X.2.1.1 5), .ref (X.2.1.1 o1), .int x2] S (none, rr)) (hg1 : ∀ {o1 : Nat} (ho1 : isT o1) {rr : St} {S : St} {x2 : Int32}, rg 1 o1 S x2 = some rr → Ct X.1 yX5_readOne cX5_readOne 6 none (3 + k9) X.2.1 0 55 [.ref (X.2.1.1 5), .ref (X.2.1.1 o1), .int x2] S (none, rr)) (hg2 : ∀ {o1 : Nat} (ho1 : isT o1) {rr : St} {S : St} {x2 : Int32}, rg 2 o1 S x2 = some rr → Ct X.1 yX5_readRound cX5_readRound 3 none (3 + k9) X.2.1 0 55 [.ref (X.2.1.1 5), .ref (X.2.1.1 o1), .int x2] S (none, rr)) {rr : St} (hq : rs X = (none, rr)) {rc5 : St → Int32 → Int32 → Int32 → Option (St)} (hrc5 : ∀ (S : St) (x2 : Int32) (x3 : Int32) (x4 : Int32), rc5 S x2 x3 x4 = some rr → Wat 0 55 (3 + k9 + 1) 5 X 5 [(0, .ref (ad X 5)), (1, .ref (ad X o1)), (2, .int x2), (3, .int x3), (4, .int x4)] [] S) {S : St} {x2 : Int32} {x3 : Int32} {x4 : Int32} (hres : bX5_readTurns_5 rg o1 rc5 S x2 x3 x4 = some rr) : Wat 0 55 (3 + k9 + 1) 5 X 5 [(0, .ref (ad X 5)), (1, .ref (ad X o1)), (2, .int x2), (3, .int x3), (4, .int x4)] [] S := by
  unfold bX5_readTurns_5 at hres
  refine q_iload 7 hX 4 dX5_readTurns_5 rfl rfl ?_
  refine q_bipush 9 hX dX5_readTurns_7 rfl kB_60 ?_
  refine q_icmp_ge 12 hX 67 dX5_readTurns_9 rfl (by decide) (fun hc => ?_) (fun hc => ?_)
  · have hres := it_t hc hres
    exact q_vret hX (eqv hq hres) dX5_readTurns_67
  · have hres := it_f hc hres
    refine q_iload_n 13 hX 3 dX5_readTurns_12 rfl rfl rfl ?_
    refine q_if_eq 16 hX 67 dX5_readTurns_13 rfl (by decide) (fun hc => ?_) (fun hc => ?_)
    · have hres := it_t hc hres
      exact q_vret hX (eqv hq hres) dX5_readTurns_67
    · have hres := it_f hc hres
      refine q_aload_n 17 hX 0 dX5_readTurns_16 rfl rfl rfl ?_
      refine q_aload_n 18 hX 1 dX5_readTurns_17 rfl rfl rfl ?_
      refine q_iload_n 19 hX 2 dX5_readTurns_18 rfl rfl rfl ?_
      obtain ⟨S1, hk1, hres⟩ := obv hres
      refine q_callVv 22 (st := []) (As := [.ref (ad X o1), .int x2]) hX (hg1 ho1 hk1) cv_RX5_58 ci5 oB_5 rfl (by omega) rfl (Nat.le_of_ble_eq_true rfl) dX5_readTurns_19 rfl ?_
      refine q_aload_n 23 hX 0 dX5_readTurns_22 rfl rfl rfl ?_
      refine q_getR 26 hX ci5 lf_RX5_22 fR_5_0 dX5_readTurns_23 rfl ?_
      obtain ⟨r3, S2, hk2, hres⟩ := ob hres
      refine q_callVi 29 (st := []) (As := []) hX (cX0_fine9 hX.dj hk2) cv_RX5_36 ci0 oB_3 rfl (by omega) rfl (Nat.le_of_ble_eq_true rfl) dX5_readTurns_26 rfl ?_
      refine q_if_eq 32 hX 59 dX5_readTurns_29 rfl (by decide) (fun hc => ?_) (fun hc => ?_)
      · have hres := it_t hc hres
        exact q_sub [0, 1, 2, 4] rfl (wfX5_readTurns_59 hX ho1 hg0 hg1 hg2 hq hrc5 hres)
      · have hres := it_f hc hres
        refine q_aload_n 33 hX 0 dX5_readTurns_32 rfl rfl rfl ?_
        refine q_getR 36 hX ci5 lf_RX5_22 fR_5_0 dX5_readTurns_33 rfl ?_
        refine q_getI 39 hX ci0 lf_RX5_40 fI_3_3 dX5_readTurns_36 rfl ?_
        refine q_iconst 40 hX dX5_readTurns_39 rfl kI_m1 ?_
        refine q_icmp_eq 43 hX 59 dX5_readTurns_40 rfl (by decide) (fun hc => ?_) (fun hc => ?_)
        · have hres := it_t hc hres
          exact q_sub [0, 1, 2, 4] rfl (wfX5_readTurns_59 hX ho1 hg0 hg1 hg2 hq hrc5 hres)
        · have hres := it_f hc hres
          refine q_aload_n 44 hX 0 dX5_readTurns_43 rfl rfl rfl ?_
          refine q_getR 47 hX ci5 lf_RX5_22 fR_5_0 dX5_readTurns_44 rfl ?_
          refine q_getI 50 hX ci0 lf_RX5_40 fI_3_3 dX5_readTurns_47 rfl ?_
          refine q_bipush 52 hX dX5_readTurns_50 rfl kB_41 ?_
          refine q_icmp_eq 55 hX 59 dX5_readTurns_52 rfl (by decide) (fun hc => ?_) (fun hc => ?_)
          · have hres := it_t hc hres
            exact q_sub [0, 1, 2, 4] rfl (wfX5_readTurns_59 hX ho1 hg0 hg1 hg2 hq hrc5 hres)
          · have hres := it_f hc hres
            refine q_iconst 56 hX dX5_readTurns_55 rfl kI_1 ?_
            refine q_goto 60 hX dX5_readTurns_56 (by decide) ?_
            refine q_istore_n 61 (lv' := [(3, .int (1 : Int32)), (0, .ref (ad X 5)), (1, .ref (ad X o1)), (2, .int x2), (4, .int x4)]) hX dX5_readTurns_60 rfl rfl (by decide) rfl ?_
            refine q_iincB 64 4 (lv0 := [(3, .int (1 : Int32)), (0, .ref (ad X 5)), (1, .ref (ad X o1)), (2, .int x2)]) hX dX5_readTurns_61 rfl rfl kI_1 (by decide) rfl hres (fun v4 hres => ?_)
            refine q_goto 5 hX dX5_readTurns_64 (by decide) ?_
            exact q_sub [2, 3, 4, 1, 0] rfl (hrc5 _ _ _ _ hres)
def fX5_readTurns_5 (rg : Nat → Nat → St → Int32 → Option St) (o1 : Nat) : Nat → St → Int32 → Int32 → Int32 → Option (St)
  | 0 => fun _ _ _ _ => none
  | k + 1 => fun S x2 x3 x4 => bX5_readTurns_5 rg o1 (fX5_readTurns_5 rg o1 k) S x2 x3 x4
theorem wfX5_readTurns_5 {X : CX} (hX : Ok RX5 cX5_readTurns none 0 55 5 X) {o1 : Nat} (ho1 : isT o1) {k9 : Nat} {rg : Nat → Nat → St → Int32 → Option St} (hg0 : ∀ {o1 : Nat} (ho1 : isT o1) {rr : St} {S : St} {x2 : Int32}, rg 0 o1 S x2 = some rr → Ct X.1 yX5_readTurns cX5_readTurns 5 none (3 + k9) X.2.1 0 55 [.ref (X.2.1.1 5), .ref (X.2.1.1 o1), .int x2] S (none, rr)) (hg1 : ∀ {o1 : Nat} (ho1 : isT o1) {rr : St} {S : St} {x2 : Int32}, rg 1 o1 S x2 = some rr → Ct X.1 yX5_readOne cX5_readOne 6 none (3 + k9) X.2.1 0 55 [.ref (X.2.1.1 5), .ref (X.2.1.1 o1), .int x2] S (none, rr)) (hg2 : ∀ {o1 : Nat} (ho1 : isT o1) {rr : St} {S : St} {x2 : Int32}, rg 2 o1 S x2 = some rr → Ct X.1 yX5_readRound cX5_readRound 3 none (3 + k9) X.2.1 0 55 [.ref (X.2.1.1 5), .ref (X.2.1.1 o1), .int x2] S (none, rr)) {rr : St} (hq : rs X = (none, rr)) (k : Nat) : ∀ (S : St) (x2 : Int32) (x3 : Int32) (x4 : Int32), fX5_readTurns_5 rg o1 k S x2 x3 x4 = some rr → Wat 0 55 (3 + k9 + 1) 5 X 5 [(0, .ref (ad X 5)), (1, .ref (ad X o1)), (2, .int x2), (3, .int x3), (4, .int x4)] [] S := by
  induction k with
  | zero => intro S x2 x3 x4 hres; exact absurd hres (by simp [fX5_readTurns_5])
  | succ k ih => intro S x2 x3 x4 hres; exact wbX5_readTurns_5 hX ho1 hg0 hg1 hg2 hq ih hres
def fX5_readTurns (rg : Nat → Nat → St → Int32 → Option St) (o1 : Nat) (S : St) (x2 : Int32) : Option (St) :=
  fX5_readTurns_5 rg o1 100 S x2 (1 : Int32) (0 : Int32)
theorem wfX5_readTurns {X : CX} (hX : Ok RX5 cX5_readTurns none 0 55 5 X) {o1 : Nat} (ho1 : isT o1) {k9 : Nat} {rg : Nat → Nat → St → Int32 → Option St} (hg0 : ∀ {o1 : Nat} (ho1 : isT o1) {rr : St} {S : St} {x2 : Int32}, rg 0 o1 S x2 = some rr → Ct X.1 yX5_readTurns cX5_readTurns 5 none (3 + k9) X.2.1 0 55 [.ref (X.2.1.1 5), .ref (X.2.1.1 o1), .int x2] S (none, rr)) (hg1 : ∀ {o1 : Nat} (ho1 : isT o1) {rr : St} {S : St} {x2 : Int32}, rg 1 o1 S x2 = some rr → Ct X.1 yX5_readOne cX5_readOne 6 none (3 + k9) X.2.1 0 55 [.ref (X.2.1.1 5), .ref (X.2.1.1 o1), .int x2] S (none, rr)) (hg2 : ∀ {o1 : Nat} (ho1 : isT o1) {rr : St} {S : St} {x2 : Int32}, rg 2 o1 S x2 = some rr → Ct X.1 yX5_readRound cX5_readRound 3 none (3 + k9) X.2.1 0 55 [.ref (X.2.1.1 5), .ref (X.2.1.1 o1), .int x2] S (none, rr)) {rr : St} (hq : rs X = (none, rr)) {S : St} {x2 : Int32} (hres : fX5_readTurns rg o1 S x2 = some rr) : Wat 0 55 (3 + k9 + 1) 5 X 0 [(0, .ref (ad X 5)), (1, .ref (ad X o1)), (2, .int x2)] [] S := by
  unfold fX5_readTurns at hres
  refine q_iconst 1 hX dX5_readTurns_0 rfl kI_1 ?_
  refine q_istore_n 2 (lv' := [(3, .int (1 : Int32)), (0, .ref (ad X 5)), (1, .ref (ad X o1)), (2, .int x2)]) hX dX5_readTurns_1 rfl rfl (by decide) rfl ?_
  refine q_iconst 3 hX dX5_readTurns_2 rfl kI_0 ?_
  refine q_istore 5 (lv' := [(4, .int (0 : Int32)), (3, .int (1 : Int32)), (0, .ref (ad X 5)), (1, .ref (ad X o1)), (2, .int x2)]) hX dX5_readTurns_3 rfl (by decide) rfl ?_
  exact q_sub [2, 3, 4, 1, 0] rfl (wfX5_readTurns_5 hX ho1 hg0 hg1 hg2 hq _ _ _ _ _ hres)
def fX5_readOne_87 (rg : Nat → Nat → St → Int32 → Option St) (o1 : Nat) (S : St) (x3 : Int32) (x4 : Int32) (x5 : Int32) : Option (St) :=
  bi (fX0_fine S) fun r2 S1 => if r2 = 0 then (some S1) else (bv (fX5_repeat S1 x5 x4 x3) fun S2 => some S2)
theorem wfX5_readOne_87 {X : CX} (hX : Ok RX5 cX5_readOne none 0 55 6 X) {o1 : Nat} (ho1 : isT o1) {k9 : Nat} {rg : Nat → Nat → St → Int32 → Option St} (hg0 : ∀ {o1 : Nat} (ho1 : isT o1) {rr : St} {S : St} {x2 : Int32}, rg 0 o1 S x2 = some rr → Ct X.1 yX5_readTurns cX5_readTurns 5 none (3 + k9) X.2.1 0 55 [.ref (X.2.1.1 5), .ref (X.2.1.1 o1), .int x2] S (none, rr)) (hg1 : ∀ {o1 : Nat} (ho1 : isT o1) {rr : St} {S : St} {x2 : Int32}, rg 1 o1 S x2 = some rr → Ct X.1 yX5_readOne cX5_readOne 6 none (3 + k9) X.2.1 0 55 [.ref (X.2.1.1 5), .ref (X.2.1.1 o1), .int x2] S (none, rr)) (hg2 : ∀ {o1 : Nat} (ho1 : isT o1) {rr : St} {S : St} {x2 : Int32}, rg 2 o1 S x2 = some rr → Ct X.1 yX5_readRound cX5_readRound 3 none (3 + k9) X.2.1 0 55 [.ref (X.2.1.1 5), .ref (X.2.1.1 o1), .int x2] S (none, rr)) {rr : St} (hq : rs X = (none, rr)) {S : St} {x3 : Int32} {x4 : Int32} {x5 : Int32} (hres : fX5_readOne_87 rg o1 S x3 x4 x5 = some rr) : Wat 0 55 (3 + k9 + 1) 6 X 87 [(0, .ref (ad X 5)), (3, .int x3), (4, .int x4), (5, .int x5)] [] S := by
  unfold fX5_readOne_87 at hres
  refine q_aload_n 88 hX 0 dX5_readOne_87 rfl rfl rfl ?_
  refine q_getR 91 hX ci5 lf_RX5_22 fR_5_0 dX5_readOne_88 rfl ?_
  obtain ⟨r2, S1, hk1, hres⟩ := ob hres
  refine q_callVi 94 (st := []) (As := []) hX (cX0_fine9 hX.dj hk1) cv_RX5_36 ci0 oB_3 rfl (by omega) rfl (Nat.le_of_ble_eq_true rfl) dX5_readOne_91 rfl ?_
  refine q_if_eq 97 hX 106 dX5_readOne_94 rfl (by decide) (fun hc => ?_) (fun hc => ?_)
  · have hres := it_t hc hres
    exact q_vret hX (eqv hq hres) dX5_readOne_106
  · have hres := it_f hc hres
    refine q_aload_n 98 hX 0 dX5_readOne_97 rfl rfl rfl ?_
    refine q_iload 100 hX 3 dX5_readOne_98 rfl rfl ?_
    refine q_iload 102 hX 2 dX5_readOne_100 rfl rfl ?_
    refine q_iload_n 103 hX 1 dX5_readOne_102 rfl rfl rfl ?_
    obtain ⟨S2, hk3, hres⟩ := obv hres
    refine q_callVv 106 (st := []) (As := [.int x5, .int x4, .int x3]) hX (cX5_repeat9 hX.dj hk3) cv_RX5_73 ci5 oB_5 rfl (by omega) rfl (Nat.le_of_ble_eq_true rfl) dX5_readOne_103 rfl ?_
    exact q_vret hX (eqv hq hres) dX5_readOne_106
def fX5_readOne_54 (rg : Nat → Nat → St → Int32 → Option St) (o1 : Nat) (S : St) (x2 : Int32) (x3 : Int32) (x4 : Int32) : Option (St) :=
  bV ((S.1 5 2)) fun v1 => if (S.1 3 3) = (40 : Int32) then (bv (rg 2 o1 S x2) fun S2 => fX5_readOne_87 rg o1 S2 x3 x4 v1) else (bv (fX5_readHolder o1 S x3) fun S1 => fX5_readOne_87 rg o1 S1 x3 x4 v1)
theorem wfX5_readOne_54 {X : CX} (hX : Ok RX5 cX5_readOne none 0 55 6 X) {o1 : Nat} (ho1 : isT o1) {k9 : Nat} {rg : Nat → Nat → St → Int32 → Option St} (hg0 : ∀ {o1 : Nat} (ho1 : isT o1) {rr : St} {S : St} {x2 : Int32}, rg 0 o1 S x2 = some rr → Ct X.1 yX5_readTurns cX5_readTurns 5 none (3 + k9) X.2.1 0 55 [.ref (X.2.1.1 5), .ref (X.2.1.1 o1), .int x2] S (none, rr)) (hg1 : ∀ {o1 : Nat} (ho1 : isT o1) {rr : St} {S : St} {x2 : Int32}, rg 1 o1 S x2 = some rr → Ct X.1 yX5_readOne cX5_readOne 6 none (3 + k9) X.2.1 0 55 [.ref (X.2.1.1 5), .ref (X.2.1.1 o1), .int x2] S (none, rr)) (hg2 : ∀ {o1 : Nat} (ho1 : isT o1) {rr : St} {S : St} {x2 : Int32}, rg 2 o1 S x2 = some rr → Ct X.1 yX5_readRound cX5_readRound 3 none (3 + k9) X.2.1 0 55 [.ref (X.2.1.1 5), .ref (X.2.1.1 o1), .int x2] S (none, rr)) {rr : St} (hq : rs X = (none, rr)) {S : St} {x2 : Int32} {x3 : Int32} {x4 : Int32} (hres : fX5_readOne_54 rg o1 S x2 x3 x4 = some rr) : Wat 0 55 (3 + k9 + 1) 6 X 54 [(0, .ref (ad X 5)), (1, .ref (ad X o1)), (2, .int x2), (3, .int x3), (4, .int x4)] [] S := by
  unfold fX5_readOne_54 at hres
  refine q_aload_n 55 hX 0 dX5_readOne_54 rfl rfl rfl ?_
  refine q_getI 58 hX ci5 lf_RX5_15 fI_5_2 dX5_readOne_55 rfl ?_
  refine q_istoreB 60 (lv0 := [(0, .ref (ad X 5)), (1, .ref (ad X o1)), (2, .int x2), (3, .int x3), (4, .int x4)]) hX dX5_readOne_58 rfl (by decide) rfl hres (fun v1 hres => ?_)
  refine q_aload_n 61 hX 1 dX5_readOne_60 rfl rfl rfl ?_
  refine q_getR 64 hX ci5 lf_RX5_22 fR_5_0 dX5_readOne_61 rfl ?_
  refine q_getI 67 hX ci0 lf_RX5_40 fI_3_3 dX5_readOne_64 rfl ?_
  refine q_bipush 69 hX dX5_readOne_67 rfl kB_40 ?_
  refine q_icmp_ne 72 hX 81 dX5_readOne_69 rfl (by decide) (fun hc => ?_) (fun hc => ?_)
  · have hres := it_f hc hres
    refine q_aload_n 82 hX 1 dX5_readOne_81 rfl rfl rfl ?_
    refine q_aload_n 83 hX 2 dX5_readOne_82 rfl rfl rfl ?_
    refine q_iload_n 84 hX 4 dX5_readOne_83 rfl rfl rfl ?_
    obtain ⟨S1, hk2, hres⟩ := obv hres
    refine q_callVv 87 (st := []) (As := [.ref (ad X o1), .int x3]) hX (cX5_readHolder9 hX.dj ho1 hk2) cv_RX5_70 ci5 oB_5 rfl (by omega) rfl (Nat.le_of_ble_eq_true rfl) dX5_readOne_84 rfl ?_
    exact q_sub [1, 4, 5, 0] rfl (wfX5_readOne_87 hX ho1 hg0 hg1 hg2 hq hres)
  · have hres := it_t hc hres
    refine q_aload_n 73 hX 1 dX5_readOne_72 rfl rfl rfl ?_
    refine q_aload_n 74 hX 2 dX5_readOne_73 rfl rfl rfl ?_
    refine q_iload_n 75 hX 3 dX5_readOne_74 rfl rfl rfl ?_
    obtain ⟨S2, hk3, hres⟩ := obv hres
    refine q_callVv 78 (st := []) (As := [.ref (ad X o1), .int x2]) hX (hg2 ho1 hk3) cv_RX5_67 ci5 oB_5 rfl (by omega) rfl (Nat.le_of_ble_eq_true rfl) dX5_readOne_75 rfl ?_
    refine q_goto 87 hX dX5_readOne_78 (by decide) ?_
    exact q_sub [1, 4, 5, 0] rfl (wfX5_readOne_87 hX ho1 hg0 hg1 hg2 hq hres)
def fX5_readOne (rg : Nat → Nat → St → Int32 → Option St) (o1 : Nat) (S : St) (x2 : Int32) : Option (St) :=
  bV ((S.1 3 2)) fun v1 => if (S.1 3 3) < (50 : Int32) then (fX5_readOne_54 rg o1 S x2 v1 (1 : Int32)) else (if (57 : Int32) < (S.1 3 3) then (fX5_readOne_54 rg o1 S x2 v1 (1 : Int32)) else (bV (((S.1 3 3) - (48 : Int32))) fun v2 => bv (fX0_step S) fun S1 => fX5_readOne_54 rg o1 S1 x2 v1 v2))
theorem wfX5_readOne {X : CX} (hX : Ok RX5 cX5_readOne none 0 55 6 X) {o1 : Nat} (ho1 : isT o1) {k9 : Nat} {rg : Nat → Nat → St → Int32 → Option St} (hg0 : ∀ {o1 : Nat} (ho1 : isT o1) {rr : St} {S : St} {x2 : Int32}, rg 0 o1 S x2 = some rr → Ct X.1 yX5_readTurns cX5_readTurns 5 none (3 + k9) X.2.1 0 55 [.ref (X.2.1.1 5), .ref (X.2.1.1 o1), .int x2] S (none, rr)) (hg1 : ∀ {o1 : Nat} (ho1 : isT o1) {rr : St} {S : St} {x2 : Int32}, rg 1 o1 S x2 = some rr → Ct X.1 yX5_readOne cX5_readOne 6 none (3 + k9) X.2.1 0 55 [.ref (X.2.1.1 5), .ref (X.2.1.1 o1), .int x2] S (none, rr)) (hg2 : ∀ {o1 : Nat} (ho1 : isT o1) {rr : St} {S : St} {x2 : Int32}, rg 2 o1 S x2 = some rr → Ct X.1 yX5_readRound cX5_readRound 3 none (3 + k9) X.2.1 0 55 [.ref (X.2.1.1 5), .ref (X.2.1.1 o1), .int x2] S (none, rr)) {rr : St} (hq : rs X = (none, rr)) {S : St} {x2 : Int32} (hres : fX5_readOne rg o1 S x2 = some rr) : Wat 0 55 (3 + k9 + 1) 6 X 0 [(0, .ref (ad X 5)), (1, .ref (ad X o1)), (2, .int x2)] [] S := by
  unfold fX5_readOne at hres
  refine q_aload_n 1 hX 0 dX5_readOne_0 rfl rfl rfl ?_
  refine q_getR 4 hX ci5 lf_RX5_22 fR_5_0 dX5_readOne_1 rfl ?_
  refine q_getI 7 hX ci0 lf_RX5_61 fI_3_2 dX5_readOne_4 rfl ?_
  refine q_istoreB_n 8 (lv0 := [(0, .ref (ad X 5)), (1, .ref (ad X o1)), (2, .int x2)]) hX dX5_readOne_7 rfl rfl (by decide) rfl hres (fun v1 hres => ?_)
  refine q_iconst 9 hX dX5_readOne_8 rfl kI_1 ?_
  refine q_istore 11 (lv' := [(4, .int (1 : Int32)), (3, .int v1), (0, .ref (ad X 5)), (1, .ref (ad X o1)), (2, .int x2)]) hX dX5_readOne_9 rfl (by decide) rfl ?_
  refine q_aload_n 12 hX 2 dX5_readOne_11 rfl rfl rfl ?_
  refine q_getR 15 hX ci5 lf_RX5_22 fR_5_0 dX5_readOne_12 rfl ?_
  refine q_getI 18 hX ci0 lf_RX5_40 fI_3_3 dX5_readOne_15 rfl ?_
  refine q_bipush 20 hX dX5_readOne_18 rfl kB_50 ?_
  refine q_icmp_lt 23 hX 54 dX5_readOne_20 rfl (by decide) (fun hc => ?_) (fun hc => ?_)
  · have hres := it_t hc hres
    exact q_sub [2, 3, 4, 1, 0] rfl (wfX5_readOne_54 hX ho1 hg0 hg1 hg2 hq hres)
  · have hres := it_f hc hres
    refine q_aload_n 24 hX 2 dX5_readOne_23 rfl rfl rfl ?_
    refine q_getR 27 hX ci5 lf_RX5_22 fR_5_0 dX5_readOne_24 rfl ?_
    refine q_getI 30 hX ci0 lf_RX5_40 fI_3_3 dX5_readOne_27 rfl ?_
    refine q_bipush 32 hX dX5_readOne_30 rfl kB_57 ?_
    refine q_icmp_gt 35 hX 54 dX5_readOne_32 rfl (by decide) (fun hc => ?_) (fun hc => ?_)
    · have hres := it_t hc hres
      exact q_sub [2, 3, 4, 1, 0] rfl (wfX5_readOne_54 hX ho1 hg0 hg1 hg2 hq hres)
    · have hres := it_f hc hres
      refine q_aload_n 36 hX 2 dX5_readOne_35 rfl rfl rfl ?_
      refine q_getR 39 hX ci5 lf_RX5_22 fR_5_0 dX5_readOne_36 rfl ?_
      refine q_getI 42 hX ci0 lf_RX5_40 fI_3_3 dX5_readOne_39 rfl ?_
      refine q_bipush 44 hX dX5_readOne_42 rfl kB_48 ?_
      refine q_isub 45 hX dX5_readOne_44 rfl ?_
      refine q_istoreB 47 (lv0 := [(3, .int v1), (0, .ref (ad X 5)), (1, .ref (ad X o1)), (2, .int x2)]) hX dX5_readOne_45 rfl (by decide) rfl hres (fun v2 hres => ?_)
      refine q_aload_n 48 hX 2 dX5_readOne_47 rfl rfl rfl ?_
      refine q_getR 51 hX ci5 lf_RX5_22 fR_5_0 dX5_readOne_48 rfl ?_
      obtain ⟨S1, hk3, hres⟩ := obv hres
      refine q_callVv 54 (st := []) (As := []) hX (cX0_step9 hX.dj hk3) cv_RX5_64 ci0 oB_3 rfl (by omega) rfl (Nat.le_of_ble_eq_true rfl) dX5_readOne_51 rfl ?_
      exact q_sub [2, 3, 4, 1, 0] rfl (wfX5_readOne_54 hX ho1 hg0 hg1 hg2 hq hres)
def fX5_readRound (rg : Nat → Nat → St → Int32 → Option St) (o1 : Nat) (S : St) (x2 : Int32) : Option (St) :=
  if x2 < (2 : Int32) then (bv (fX0_step S) fun S1 => bv (rg 0 o1 S1 (x2 + (1 : Int32))) fun S2 => bi (fX0_fine S2) fun r4 S3 => if r4 = 0 then (some S3) else (bv (fX0_expect S3 (41 : Int32)) fun S4 => some S4)) else (bv (fX0_failHere S (5 : Int32)) fun S5 => some S5)
theorem wfX5_readRound {X : CX} (hX : Ok RX5 cX5_readRound none 0 55 3 X) {o1 : Nat} (ho1 : isT o1) {k9 : Nat} {rg : Nat → Nat → St → Int32 → Option St} (hg0 : ∀ {o1 : Nat} (ho1 : isT o1) {rr : St} {S : St} {x2 : Int32}, rg 0 o1 S x2 = some rr → Ct X.1 yX5_readTurns cX5_readTurns 5 none (3 + k9) X.2.1 0 55 [.ref (X.2.1.1 5), .ref (X.2.1.1 o1), .int x2] S (none, rr)) (hg1 : ∀ {o1 : Nat} (ho1 : isT o1) {rr : St} {S : St} {x2 : Int32}, rg 1 o1 S x2 = some rr → Ct X.1 yX5_readOne cX5_readOne 6 none (3 + k9) X.2.1 0 55 [.ref (X.2.1.1 5), .ref (X.2.1.1 o1), .int x2] S (none, rr)) (hg2 : ∀ {o1 : Nat} (ho1 : isT o1) {rr : St} {S : St} {x2 : Int32}, rg 2 o1 S x2 = some rr → Ct X.1 yX5_readRound cX5_readRound 3 none (3 + k9) X.2.1 0 55 [.ref (X.2.1.1 5), .ref (X.2.1.1 o1), .int x2] S (none, rr)) {rr : St} (hq : rs X = (none, rr)) {S : St} {x2 : Int32} (hres : fX5_readRound rg o1 S x2 = some rr) : Wat 0 55 (3 + k9 + 1) 3 X 0 [(0, .ref (ad X 5)), (1, .ref (ad X o1)), (2, .int x2)] [] S := by
  unfold fX5_readRound at hres
  refine q_iload_n 1 hX 2 dX5_readRound_0 rfl rfl rfl ?_
  refine q_iconst 2 hX dX5_readRound_1 rfl kI_2 ?_
  refine q_icmp_lt 5 hX 14 dX5_readRound_2 rfl (by decide) (fun hc => ?_) (fun hc => ?_)
  · have hres := it_t hc hres
    refine q_aload_n 15 hX 0 dX5_readRound_14 rfl rfl rfl ?_
    refine q_getR 18 hX ci5 lf_RX5_22 fR_5_0 dX5_readRound_15 rfl ?_
    obtain ⟨S1, hk1, hres⟩ := obv hres
    refine q_callVv 21 (st := []) (As := []) hX (cX0_step9 hX.dj hk1) cv_RX5_64 ci0 oB_3 rfl (by omega) rfl (Nat.le_of_ble_eq_true rfl) dX5_readRound_18 rfl ?_
    refine q_aload_n 22 hX 0 dX5_readRound_21 rfl rfl rfl ?_
    refine q_aload_n 23 hX 1 dX5_readRound_22 rfl rfl rfl ?_
    refine q_iload_n 24 hX 2 dX5_readRound_23 rfl rfl rfl ?_
    refine q_iconst 25 hX dX5_readRound_24 rfl kI_1 ?_
    refine q_iadd 26 hX dX5_readRound_25 rfl ?_
    obtain ⟨S2, hk2, hres⟩ := obv hres
    refine q_callVv 29 (st := []) (As := [.ref (ad X o1), .int (x2 + (1 : Int32))]) hX (hg0 ho1 hk2) cv_RX5_32 ci5 oB_5 rfl (by omega) rfl (Nat.le_of_ble_eq_true rfl) dX5_readRound_26 rfl ?_
    refine q_aload_n 30 hX 0 dX5_readRound_29 rfl rfl rfl ?_
    refine q_getR 33 hX ci5 lf_RX5_22 fR_5_0 dX5_readRound_30 rfl ?_
    obtain ⟨r4, S3, hk3, hres⟩ := ob hres
    refine q_callVi 36 (st := []) (As := []) hX (cX0_fine9 hX.dj hk3) cv_RX5_36 ci0 oB_3 rfl (by omega) rfl (Nat.le_of_ble_eq_true rfl) dX5_readRound_33 rfl ?_
    refine q_if_eq 39 hX 48 dX5_readRound_36 rfl (by decide) (fun hc => ?_) (fun hc => ?_)
    · have hres := it_t hc hres
      exact q_vret hX (eqv hq hres) dX5_readRound_48
    · have hres := it_f hc hres
      refine q_aload_n 40 hX 0 dX5_readRound_39 rfl rfl rfl ?_
      refine q_getR 43 hX ci5 lf_RX5_22 fR_5_0 dX5_readRound_40 rfl ?_
      refine q_bipush 45 hX dX5_readRound_43 rfl kB_41 ?_
      obtain ⟨S4, hk5, hres⟩ := obv hres
      refine q_callVv 48 (st := []) (As := [.int (41 : Int32)]) hX (cX0_expect9 hX.dj hk5) cv_RX5_77 ci0 oB_3 rfl (by omega) rfl (Nat.le_of_ble_eq_true rfl) dX5_readRound_45 rfl ?_
      exact q_vret hX (eqv hq hres) dX5_readRound_48
  · have hres := it_f hc hres
    refine q_aload_n 6 hX 0 dX5_readRound_5 rfl rfl rfl ?_
    refine q_getR 9 hX ci5 lf_RX5_22 fR_5_0 dX5_readRound_6 rfl ?_
    refine q_iconst 10 hX dX5_readRound_9 rfl kI_5 ?_
    obtain ⟨S5, hk6, hres⟩ := obv hres
    refine q_callVv 13 (st := []) (As := [.int (5 : Int32)]) hX (cX0_failHere9 hX.dj hk6) cv_RX5_43 ci0 oB_3 rfl (by omega) rfl (Nat.le_of_ble_eq_true rfl) dX5_readRound_10 rfl ?_
    exact q_vret hX (eqv hq hres) dX5_readRound_13
def fRR : Nat → Nat → Nat → St → Int32 → Option St
  | 0 => fun _ _ _ _ => none
  | k + 1 => fun t o S x => if t = 0 then fX5_readTurns (fRR k) o S x else if t = 1 then fX5_readOne (fRR k) o S x else if t = 2 then fX5_readRound (fRR k) o S x else none
theorem cRR {l : Launch} {w : WD} (hj : Dj w 0 55) (k9 : Nat) : (∀ {o1 : Nat} (ho1 : isT o1) {rr : St} {S : St} {x2 : Int32}, fRR k9 0 o1 S x2 = some rr → Ct l yX5_readTurns cX5_readTurns 5 none (3 + k9) w 0 55 [.ref (w.1 5), .ref (w.1 o1), .int x2] S (none, rr)) ∧ (∀ {o1 : Nat} (ho1 : isT o1) {rr : St} {S : St} {x2 : Int32}, fRR k9 1 o1 S x2 = some rr → Ct l yX5_readOne cX5_readOne 6 none (3 + k9) w 0 55 [.ref (w.1 5), .ref (w.1 o1), .int x2] S (none, rr)) ∧ (∀ {o1 : Nat} (ho1 : isT o1) {rr : St} {S : St} {x2 : Int32}, fRR k9 2 o1 S x2 = some rr → Ct l yX5_readRound cX5_readRound 3 none (3 + k9) w 0 55 [.ref (w.1 5), .ref (w.1 o1), .int x2] S (none, rr)) := by
  induction k9 with
  | zero => exact ⟨fun _ _ _ _ h => absurd h (by simp [fRR]), fun _ _ _ _ h => absurd h (by simp [fRR]), fun _ _ _ _ h => absurd h (by simp [fRR])⟩
  | succ k9 ih =>
    refine ⟨?_, ?_, ?_⟩
    · intro o1 ho1 rr S x2 hres
      have hres : fX5_readTurns (fRR k9) o1 S x2 = some rr := hres
      refine Ct.of (lv := [(0, .ref (w.1 5)), (1, .ref (w.1 o1)), (2, .int x2)]) hj (by decide +kernel) (Nat.le_of_ble_eq_true rfl) rfl ?_
      rintro X rfl rfl hq hX
      exact wfX5_readTurns hX ho1 ih.1 ih.2.1 ih.2.2 hq hres
    · intro o1 ho1 rr S x2 hres
      have hres : fX5_readOne (fRR k9) o1 S x2 = some rr := hres
      refine Ct.of (lv := [(0, .ref (w.1 5)), (1, .ref (w.1 o1)), (2, .int x2)]) hj (by decide +kernel) (Nat.le_of_ble_eq_true rfl) rfl ?_
      rintro X rfl rfl hq hX
      exact wfX5_readOne hX ho1 ih.1 ih.2.1 ih.2.2 hq hres
    · intro o1 ho1 rr S x2 hres
      have hres : fX5_readRound (fRR k9) o1 S x2 = some rr := hres
      refine Ct.of (lv := [(0, .ref (w.1 5)), (1, .ref (w.1 o1)), (2, .int x2)]) hj (by decide +kernel) (Nat.le_of_ble_eq_true rfl) rfl ?_
      rintro X rfl rfl hq hX
      exact wfX5_readRound hX ho1 ih.1 ih.2.1 ih.2.2 hq hres
theorem cX5_readTurns9 {l : Launch} {w : WD} (hj : Dj w 0 55) : ∀ {o1 : Nat} (ho1 : isT o1) {rr : St} {S : St} {x2 : Int32}, fRR 12 0 o1 S x2 = some rr → Ct l yX5_readTurns cX5_readTurns 5 none 15 w 0 55 [.ref (w.1 5), .ref (w.1 o1), .int x2] S (none, rr) := (cRR hj 12).1
theorem cX5_readOne9 {l : Launch} {w : WD} (hj : Dj w 0 55) : ∀ {o1 : Nat} (ho1 : isT o1) {rr : St} {S : St} {x2 : Int32}, fRR 12 1 o1 S x2 = some rr → Ct l yX5_readOne cX5_readOne 6 none 15 w 0 55 [.ref (w.1 5), .ref (w.1 o1), .int x2] S (none, rr) := (cRR hj 12).2.1
theorem cX5_readRound9 {l : Launch} {w : WD} (hj : Dj w 0 55) : ∀ {o1 : Nat} (ho1 : isT o1) {rr : St} {S : St} {x2 : Int32}, fRR 12 2 o1 S x2 = some rr → Ct l yX5_readRound cX5_readRound 3 none 15 w 0 55 [.ref (w.1 5), .ref (w.1 o1), .int x2] S (none, rr) := (cRR hj 12).2.2
def fX5_readRota_125 (o2 : Nat) (rc95 : St → Int32 → Option (Int32 × St)) (S : St) (x4 : Int32) (s1 : Int32) (s2 : Int32) : Option (Int32 × St) :=
  bv (fX4_give S s1 s2) fun S1 => bV (x4 + (1 : Int32)) fun v2 => rc95 S1 v2
theorem wfX5_readRota_125 {X : CX} (hX : Ok RX5 cX5_readRota (some .int) 0 55 5 X) {o2 : Nat} (ho2 : isT o2) {rr : Int32 × St} (hq : rs X = (some (.int rr.1), rr.2)) {rc95 : St → Int32 → Option (Int32 × St)} (hrc95 : ∀ (S : St) (x4 : Int32), rc95 S x4 = some rr → Wat 0 55 17 5 X 95 [(0, .ref (ad X 5)), (3, .ref (ad X 8)), (4, .int x4)] [] S) {S : St} {x4 : Int32} {s1 : Int32} {s2 : Int32} (hres : fX5_readRota_125 o2 rc95 S x4 s1 s2 = some rr) : Wat 0 55 17 5 X 125 [(0, .ref (ad X 5)), (3, .ref (ad X 8)), (4, .int x4)] [.int s2, .int s1, .ref (ad X 8)] S := by
  unfold fX5_readRota_125 at hres
  obtain ⟨S1, hk1, hres⟩ := obv hres
  refine q_callVv 128 (st := []) (As := [.int s1, .int s2]) hX (cX4_give9 hX.dj hk1) cv_RX5_53 ci4 oB_8 rfl (by decide) rfl (Nat.le_of_ble_eq_true rfl) dX5_readRota_125 rfl ?_
  refine q_iincB 131 2 (lv0 := [(0, .ref (ad X 5)), (3, .ref (ad X 8))]) hX dX5_readRota_128 rfl rfl kI_1 (by decide) rfl hres (fun v2 hres => ?_)
  refine q_goto 95 hX dX5_readRota_131 (by decide) ?_
  exact q_sub [1, 2, 0] rfl (hrc95 _ _ hres)
def bX5_readRota_95 (o2 : Nat) (rc95 : St → Int32 → Option (Int32 × St)) (S : St) (x4 : Int32) : Option (Int32 × St) :=
  if (12 : Int32) ≤ x4 then (some ((S.1 5 2), S)) else (if (S.1 5 2) ≤ x4 then (fX5_readRota_125 o2 rc95 S x4 x4 (-1 : Int32)) else (if inb x4 12 = true then fX5_readRota_125 o2 rc95 S x4 x4 (S.1 6 (x4.toNatClampNeg)) else none))
theorem wbX5_readRota_95 {X : CX} (hX : Ok RX5 cX5_readRota (some .int) 0 55 5 X) {o2 : Nat} (ho2 : isT o2) {rr : Int32 × St} (hq : rs X = (some (.int rr.1), rr.2)) {rc95 : St → Int32 → Option (Int32 × St)} (hrc95 : ∀ (S : St) (x4 : Int32), rc95 S x4 = some rr → Wat 0 55 17 5 X 95 [(0, .ref (ad X 5)), (3, .ref (ad X 8)), (4, .int x4)] [] S) {S : St} {x4 : Int32} (hres : bX5_readRota_95 o2 rc95 S x4 = some rr) : Wat 0 55 17 5 X 95 [(0, .ref (ad X 5)), (3, .ref (ad X 8)), (4, .int x4)] [] S := by
  unfold bX5_readRota_95 at hres
  refine q_iload 97 hX 2 dX5_readRota_95 rfl rfl ?_
  refine q_bipush 99 hX dX5_readRota_97 rfl kB_12 ?_
  refine q_icmp_ge 102 hX 134 dX5_readRota_99 rfl (by decide) (fun hc => ?_) (fun hc => ?_)
  · have hres := it_t hc hres
    refine q_aload_n 135 hX 0 dX5_readRota_134 rfl rfl rfl ?_
    refine q_getI 138 hX ci5 lf_RX5_15 fI_5_2 dX5_readRota_135 rfl ?_
    exact q_iret hX (eqi hq hres) dX5_readRota_138
  · have hres := it_f hc hres
    refine q_aload_n 103 hX 1 dX5_readRota_102 rfl rfl rfl ?_
    refine q_iload 105 hX 2 dX5_readRota_103 rfl rfl ?_
    refine q_iload 107 hX 2 dX5_readRota_105 rfl rfl ?_
    refine q_aload_n 108 hX 0 dX5_readRota_107 rfl rfl rfl ?_
    refine q_getI 111 hX ci5 lf_RX5_15 fI_5_2 dX5_readRota_108 rfl ?_
    refine q_icmp_ge 114 hX 124 dX5_readRota_111 rfl (by decide) (fun hc => ?_) (fun hc => ?_)
    · have hres := it_t hc hres
      refine q_iconst 125 hX dX5_readRota_124 rfl kI_m1 ?_
      exact q_sub [0, 1, 2] rfl (wfX5_readRota_125 hX ho2 hq hrc95 hres)
    · have hres := it_f hc hres
      refine q_aload_n 115 hX 0 dX5_readRota_114 rfl rfl rfl ?_
      refine q_getR 118 hX ci5 lf_RX5_9 fR_5_1 dX5_readRota_115 rfl ?_
      refine q_iload 120 hX 2 dX5_readRota_118 rfl rfl ?_
      obtain ⟨hb1, hres⟩ := gd hres
      refine q_iald 121 hX rfl aF_6 hb1 dX5_readRota_120 rfl ?_
      refine q_goto 125 hX dX5_readRota_121 (by decide) ?_
      exact q_sub [0, 1, 2] rfl (wfX5_readRota_125 hX ho2 hq hrc95 hres)
def fX5_readRota_95 (o2 : Nat) : Nat → St → Int32 → Option (Int32 × St)
  | 0 => fun _ _ => none
  | k + 1 => fun S x4 => bX5_readRota_95 o2 (fX5_readRota_95 o2 k) S x4
theorem wfX5_readRota_95 {X : CX} (hX : Ok RX5 cX5_readRota (some .int) 0 55 5 X) {o2 : Nat} (ho2 : isT o2) {rr : Int32 × St} (hq : rs X = (some (.int rr.1), rr.2)) (k : Nat) : ∀ (S : St) (x4 : Int32), fX5_readRota_95 o2 k S x4 = some rr → Wat 0 55 17 5 X 95 [(0, .ref (ad X 5)), (3, .ref (ad X 8)), (4, .int x4)] [] S := by
  induction k with
  | zero => intro S x4 hres; exact absurd hres (by simp [fX5_readRota_95])
  | succ k ih => intro S x4 hres; exact wbX5_readRota_95 hX ho2 hq ih hres
def fX5_readRota_74 (o2 : Nat) (S : St) : Option (Int32 × St) :=
  bi (fX0_fine S) fun r2 S1 => if r2 = 0 then (some ((S1.1 3 4), S1)) else (fX5_readRota_95 o2 100 S1 (0 : Int32))
theorem wfX5_readRota_74 {X : CX} (hX : Ok RX5 cX5_readRota (some .int) 0 55 5 X) {o2 : Nat} (ho2 : isT o2) {rr : Int32 × St} (hq : rs X = (some (.int rr.1), rr.2)) {S : St} (hres : fX5_readRota_74 o2 S = some rr) : Wat 0 55 17 5 X 74 [(0, .ref (ad X 5)), (3, .ref (ad X 8))] [] S := by
  unfold fX5_readRota_74 at hres
  refine q_aload_n 75 hX 0 dX5_readRota_74 rfl rfl rfl ?_
  refine q_getR 78 hX ci5 lf_RX5_22 fR_5_0 dX5_readRota_75 rfl ?_
  obtain ⟨r2, S1, hk1, hres⟩ := ob hres
  refine q_callVi 81 (st := []) (As := []) hX (cX0_fine9 hX.dj hk1) cv_RX5_36 ci0 oB_3 rfl (by decide) rfl (Nat.le_of_ble_eq_true rfl) dX5_readRota_78 rfl ?_
  refine q_if_ne 84 hX 92 dX5_readRota_81 rfl (by decide) (fun hc => ?_) (fun hc => ?_)
  · have hres := it_f hc hres
    refine q_iconst 93 hX dX5_readRota_92 rfl kI_0 ?_
    refine q_istore 95 (lv' := [(4, .int (0 : Int32)), (0, .ref (ad X 5)), (3, .ref (ad X 8))]) hX dX5_readRota_93 rfl (by decide) rfl ?_
    exact q_sub [1, 2, 0] rfl (wfX5_readRota_95 hX ho2 hq _ _ _ hres)
  · have hres := it_t hc hres
    refine q_aload_n 85 hX 0 dX5_readRota_84 rfl rfl rfl ?_
    refine q_getR 88 hX ci5 lf_RX5_22 fR_5_0 dX5_readRota_85 rfl ?_
    refine q_getI 91 hX ci0 lf_RX5_50 fI_3_4 dX5_readRota_88 rfl ?_
    exact q_iret hX (eqi hq hres) dX5_readRota_91
def fX5_readRota_53 (o2 : Nat) (S : St) : Option (Int32 × St) :=
  if (S.1 5 3) = (-1 : Int32) then (fX5_readRota_74 o2 S) else (bv (fX0_fail S (7 : Int32) (S.1 5 3)) fun S1 => fX5_readRota_74 o2 S1)
theorem wfX5_readRota_53 {X : CX} (hX : Ok RX5 cX5_readRota (some .int) 0 55 5 X) {o2 : Nat} (ho2 : isT o2) {rr : Int32 × St} (hq : rs X = (some (.int rr.1), rr.2)) {S : St} (hres : fX5_readRota_53 o2 S = some rr) : Wat 0 55 17 5 X 53 [(0, .ref (ad X 5)), (3, .ref (ad X 8))] [] S := by
  unfold fX5_readRota_53 at hres
  refine q_aload_n 54 hX 0 dX5_readRota_53 rfl rfl rfl ?_
  refine q_getI 57 hX ci5 lf_RX5_19 fI_5_3 dX5_readRota_54 rfl ?_
  refine q_iconst 58 hX dX5_readRota_57 rfl kI_m1 ?_
  refine q_icmp_eq 61 hX 74 dX5_readRota_58 rfl (by decide) (fun hc => ?_) (fun hc => ?_)
  · have hres := it_t hc hres
    exact q_sub [0, 1] rfl (wfX5_readRota_74 hX ho2 hq hres)
  · have hres := it_f hc hres
    refine q_aload_n 62 hX 0 dX5_readRota_61 rfl rfl rfl ?_
    refine q_getR 65 hX ci5 lf_RX5_22 fR_5_0 dX5_readRota_62 rfl ?_
    refine q_bipush 67 hX dX5_readRota_65 rfl kB_7 ?_
    refine q_aload_n 68 hX 0 dX5_readRota_67 rfl rfl rfl ?_
    refine q_getI 71 hX ci5 lf_RX5_19 fI_5_3 dX5_readRota_68 rfl ?_
    obtain ⟨S1, hk1, hres⟩ := obv hres
    refine q_callVv 74 (st := []) (As := [.int (7 : Int32), .int (S.1 5 3)]) hX (cX0_fail9 hX.dj hk1) cv_RX5_46 ci0 oB_3 rfl (by decide) rfl (Nat.le_of_ble_eq_true rfl) dX5_readRota_71 rfl ?_
    exact q_sub [0, 1] rfl (wfX5_readRota_74 hX ho2 hq hres)
def fX5_readRota (o2 : Nat) (S : St) (x1 : Int32) : Option (Int32 × St) :=
  bv (fX0_start S x1) fun S1 => bS (pI S1 5 2 (0 : Int32)) fun S2 => bS (pI S2 5 3 (-1 : Int32)) fun S3 => bv (fRR 12 0 o2 S3 (0 : Int32)) fun S4 => bi (fX0_fine S4) fun r4 S5 => if r4 = 0 then (fX5_readRota_53 o2 S5) else (if (S5.1 3 3) = (-1 : Int32) then (fX5_readRota_53 o2 S5) else (bv (fX0_failHere S5 (1 : Int32)) fun S6 => fX5_readRota_53 o2 S6))
theorem wfX5_readRota {X : CX} (hX : Ok RX5 cX5_readRota (some .int) 0 55 5 X) {o2 : Nat} (ho2 : isT o2) {rr : Int32 × St} (hq : rs X = (some (.int rr.1), rr.2)) {S : St} {x1 : Int32} (hres : fX5_readRota o2 S x1 = some rr) : Wat 0 55 17 5 X 0 [(0, .ref (ad X 5)), (1, .int x1), (2, .ref (ad X o2)), (3, .ref (ad X 8))] [] S := by
  unfold fX5_readRota at hres
  refine q_aload_n 1 hX 0 dX5_readRota_0 rfl rfl rfl ?_
  refine q_getR 4 hX ci5 lf_RX5_22 fR_5_0 dX5_readRota_1 rfl ?_
  refine q_iload_n 5 hX 1 dX5_readRota_4 rfl rfl rfl ?_
  obtain ⟨S1, hk1, hres⟩ := obv hres
  refine q_callVv 8 (st := []) (As := [.int x1]) hX (cX0_start9 hX.dj hk1) cv_RX5_26 ci0 oB_3 rfl (by decide) rfl (Nat.le_of_ble_eq_true rfl) dX5_readRota_5 rfl ?_
  refine q_aload_n 9 hX 0 dX5_readRota_8 rfl rfl rfl ?_
  refine q_iconst 10 hX dX5_readRota_9 rfl kI_0 ?_
  refine q_putI 13 hX ci5 lf_RX5_15 fI_5_2 (nar_i rfl) dX5_readRota_10 rfl ?_
  refine q_bS hres (fun S2 _ hres => ?_)
  refine q_aload_n 14 hX 0 dX5_readRota_13 rfl rfl rfl ?_
  refine q_iconst 15 hX dX5_readRota_14 rfl kI_m1 ?_
  refine q_putI 18 hX ci5 lf_RX5_19 fI_5_3 (nar_i rfl) dX5_readRota_15 rfl ?_
  refine q_bS hres (fun S3 _ hres => ?_)
  refine q_aload_n 19 hX 0 dX5_readRota_18 rfl rfl rfl ?_
  refine q_aload_n 20 hX 2 dX5_readRota_19 rfl rfl rfl ?_
  refine q_iconst 21 hX dX5_readRota_20 rfl kI_0 ?_
  obtain ⟨S4, hk2, hres⟩ := obv hres
  refine q_callVv 24 (st := []) (As := [.ref (ad X o2), .int (0 : Int32)]) hX (cX5_readTurns9 hX.dj ho2 hk2) cv_RX5_32 ci5 oB_5 rfl (by decide) rfl (Nat.le_of_ble_eq_true rfl) dX5_readRota_21 rfl ?_
  refine q_aload_n 25 hX 0 dX5_readRota_24 rfl rfl rfl ?_
  refine q_getR 28 hX ci5 lf_RX5_22 fR_5_0 dX5_readRota_25 rfl ?_
  obtain ⟨r4, S5, hk3, hres⟩ := ob hres
  refine q_callVi 31 (st := []) (As := []) hX (cX0_fine9 hX.dj hk3) cv_RX5_36 ci0 oB_3 rfl (by decide) rfl (Nat.le_of_ble_eq_true rfl) dX5_readRota_28 rfl ?_
  refine q_if_eq 34 hX 53 dX5_readRota_31 rfl (by decide) (fun hc => ?_) (fun hc => ?_)
  · have hres := it_t hc hres
    exact q_sub [0, 3] rfl (wfX5_readRota_53 hX ho2 hq hres)
  · have hres := it_f hc hres
    refine q_aload_n 35 hX 0 dX5_readRota_34 rfl rfl rfl ?_
    refine q_getR 38 hX ci5 lf_RX5_22 fR_5_0 dX5_readRota_35 rfl ?_
    refine q_getI 41 hX ci0 lf_RX5_40 fI_3_3 dX5_readRota_38 rfl ?_
    refine q_iconst 42 hX dX5_readRota_41 rfl kI_m1 ?_
    refine q_icmp_eq 45 hX 53 dX5_readRota_42 rfl (by decide) (fun hc => ?_) (fun hc => ?_)
    · have hres := it_t hc hres
      exact q_sub [0, 3] rfl (wfX5_readRota_53 hX ho2 hq hres)
    · have hres := it_f hc hres
      refine q_aload_n 46 hX 0 dX5_readRota_45 rfl rfl rfl ?_
      refine q_getR 49 hX ci5 lf_RX5_22 fR_5_0 dX5_readRota_46 rfl ?_
      refine q_iconst 50 hX dX5_readRota_49 rfl kI_1 ?_
      obtain ⟨S6, hk5, hres⟩ := obv hres
      refine q_callVv 53 (st := []) (As := [.int (1 : Int32)]) hX (cX0_failHere9 hX.dj hk5) cv_RX5_43 ci0 oB_3 rfl (by decide) rfl (Nat.le_of_ble_eq_true rfl) dX5_readRota_50 rfl ?_
      exact q_sub [0, 3] rfl (wfX5_readRota_53 hX ho2 hq hres)
theorem cX5_readRota9 {l : Launch} {w : WD} (hj : Dj w 0 55) {o2 : Nat} (ho2 : isT o2) {rr : Int32 × St} {S : St} {x1 : Int32} (hres : fX5_readRota o2 S x1 = some rr) : Ct l yX5_readRota cX5_readRota 5 (some .int) 17 w 0 55 [.ref (w.1 5), .int x1, .ref (w.1 o2), .ref (w.1 8)] S (some (.int rr.1), rr.2) := by
  refine Ct.of (lv := [(0, .ref (w.1 5)), (1, .int x1), (2, .ref (w.1 o2)), (3, .ref (w.1 8))]) hj (by decide +kernel) (Nat.le_of_ble_eq_true rfl) rfl ?_
  rintro X rfl rfl hq hX
  exact wfX5_readRota hX ho2 hq hres
