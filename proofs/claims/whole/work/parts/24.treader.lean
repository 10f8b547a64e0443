def fX9_readWay (S : St) : Option (Int32 × St) :=
  bV ((S.1 3 2)) fun v1 => bi (fX0_readNumber S (2 : Int32)) fun r3 S1 => if r3 ≤ (11 : Int32) then (some (r3, S1)) else (bv (fX0_fail S1 (3 : Int32) v1) fun S2 => some (r3, S2))
theorem wfX9_readWay {X : CX} (hX : Ok RX9 cX9_readWay (some .int) 0 55 3 X) {rr : Int32 × St} (hq : rs X = (some (.int rr.1), rr.2)) {S : St} (hres : fX9_readWay S = some rr) : Wat 0 55 3 3 X 0 [(0, .ref (ad X 4))] [] S := by
  unfold fX9_readWay at hres
  refine q_aload_n 1 hX 0 dX9_readWay_0 rfl rfl rfl ?_
  refine q_getR 4 hX ci9 lf_RX9_9 fR_4_0 dX9_readWay_1 rfl ?_
  refine q_getI 7 hX ci0 lf_RX9_81 fI_3_2 dX9_readWay_4 rfl ?_
  refine q_istoreB_n 8 (lv0 := [(0, .ref (ad X 4))]) hX dX9_readWay_7 rfl rfl (by decide) rfl hres (fun v1 hres => ?_)
  refine q_aload_n 9 hX 1 dX9_readWay_8 rfl rfl rfl ?_
  refine q_getR 12 hX ci9 lf_RX9_9 fR_4_0 dX9_readWay_9 rfl ?_
  refine q_iconst 13 hX dX9_readWay_12 rfl kI_2 ?_
  obtain ⟨r3, S1, hk2, hres⟩ := ob hres
  refine q_callVi 16 (st := []) (As := [.int (2 : Int32)]) hX (cX0_readNumber9 hX.dj hk2) cv_RX9_84 ci0 oB_3 rfl (by decide) rfl (Nat.le_of_ble_eq_true rfl) dX9_readWay_13 rfl ?_
  refine q_istore_n 17 (lv' := [(2, .int r3), (1, .int v1), (0, .ref (ad X 4))]) hX dX9_readWay_16 rfl rfl (by decide) rfl ?_
  refine q_iload_n 18 hX 0 dX9_readWay_17 rfl rfl rfl ?_
  refine q_bipush 20 hX dX9_readWay_18 rfl kB_11 ?_
  refine q_icmp_le 23 hX 32 dX9_readWay_20 rfl (by decide) (fun hc => ?_) (fun hc => ?_)
  · have hres := it_t hc hres
    refine q_iload_n 33 hX 0 dX9_readWay_32 rfl rfl rfl ?_
    exact q_iret hX (eqi hq hres) dX9_readWay_33
  · have hres := it_f hc hres
    refine q_aload_n 24 hX 2 dX9_readWay_23 rfl rfl rfl ?_
    refine q_getR 27 hX ci9 lf_RX9_9 fR_4_0 dX9_readWay_24 rfl ?_
    refine q_iconst 28 hX dX9_readWay_27 rfl kI_3 ?_
    refine q_iload_n 29 hX 1 dX9_readWay_28 rfl rfl rfl ?_
    obtain ⟨S2, hk4, hres⟩ := obv hres
    refine q_callVv 32 (st := []) (As := [.int (3 : Int32), .int v1]) hX (cX0_fail9 hX.dj hk4) cv_RX9_88 ci0 oB_3 rfl (by decide) rfl (Nat.le_of_ble_eq_true rfl) dX9_readWay_29 rfl ?_
    refine q_iload_n 33 hX 0 dX9_readWay_32 rfl rfl rfl ?_
    exact q_iret hX (eqi hq hres) dX9_readWay_33
theorem cX9_readWay9 {l : Launch} {w : WD} (hj : Dj w 0 55) {rr : Int32 × St} {S : St} (hres : fX9_readWay S = some rr) : Ct l yX9_readWay cX9_readWay 3 (some .int) 3 w 0 55 [.ref (w.1 4)] S (some (.int rr.1), rr.2) := by
  refine Ct.of (lv := [(0, .ref (w.1 4))]) hj (by decide +kernel) (Nat.le_of_ble_eq_true rfl) rfl ?_
  rintro X rfl rfl hq hX
  exact wfX9_readWay hX hq hres
def fX9_readHouse (o2 : Nat) (S : St) (x1 : Int32) : Option (St) :=
  bi (fX9_readWay S) fun r2 S1 => bi (fX0_fine S1) fun r4 S2 => if r4 = 0 then (some S2) else (bv (fX8_addHouse o2 S2 x1 r2) fun S3 => some S3)
theorem wfX9_readHouse {X : CX} (hX : Ok RX9 cX9_readHouse none 0 55 4 X) {o2 : Nat} (ho2 : isT o2) {rr : St} (hq : rs X = (none, rr)) {S : St} {x1 : Int32} (hres : fX9_readHouse o2 S x1 = some rr) : Wat 0 55 4 4 X 0 [(0, .ref (ad X 4)), (1, .int x1), (2, .ref (ad X o2))] [] S := by
  unfold fX9_readHouse at hres
  refine q_aload_n 1 hX 0 dX9_readHouse_0 rfl rfl rfl ?_
  obtain ⟨r2, S1, hk1, hres⟩ := ob hres
  refine q_callVi 4 (st := []) (As := []) hX (cX9_readWay9 hX.dj hk1) cv_RX9_66 ci9 oB_4 rfl (by decide) rfl (Nat.le_of_ble_eq_true rfl) dX9_readHouse_1 rfl ?_
  refine q_istore_n 5 (lv' := [(3, .int r2), (0, .ref (ad X 4)), (1, .int x1), (2, .ref (ad X o2))]) hX dX9_readHouse_4 rfl rfl (by decide) rfl ?_
  refine q_aload_n 6 hX 1 dX9_readHouse_5 rfl rfl rfl ?_
  refine q_getR 9 hX ci9 lf_RX9_9 fR_4_0 dX9_readHouse_6 rfl ?_
  obtain ⟨r4, S2, hk3, hres⟩ := ob hres
  refine q_callVi 12 (st := []) (As := []) hX (cX0_fine9 hX.dj hk3) cv_RX9_34 ci0 oB_3 rfl (by decide) rfl (Nat.le_of_ble_eq_true rfl) dX9_readHouse_9 rfl ?_
  refine q_if_eq 15 hX 21 dX9_readHouse_12 rfl (by decide) (fun hc => ?_) (fun hc => ?_)
  · have hres := it_t hc hres
    exact q_vret hX (eqv hq hres) dX9_readHouse_21
  · have hres := it_f hc hres
    refine q_aload_n 16 hX 3 dX9_readHouse_15 rfl rfl rfl ?_
    refine q_iload_n 17 hX 2 dX9_readHouse_16 rfl rfl rfl ?_
    refine q_iload_n 18 hX 0 dX9_readHouse_17 rfl rfl rfl ?_
    obtain ⟨S3, hk5, hres⟩ := obv hres
    refine q_callVv 21 (st := []) (As := [.int x1, .int r2]) hX (cX8_addHouse9 hX.dj ho2 hk5) cv_RX9_70 ci8 (oB_T ho2) rfl (by decide) rfl (Nat.le_of_ble_eq_true rfl) dX9_readHouse_18 rfl ?_
    exact q_vret hX (eqv hq hres) dX9_readHouse_21
theorem cX9_readHouse9 {l : Launch} {w : WD} (hj : Dj w 0 55) {o2 : Nat} (ho2 : isT o2) {rr : St} {S : St} {x1 : Int32} (hres : fX9_readHouse o2 S x1 = some rr) : Ct l yX9_readHouse cX9_readHouse 4 none 4 w 0 55 [.ref (w.1 4), .int x1, .ref (w.1 o2)] S (none, rr) := by
  refine Ct.of (lv := [(0, .ref (w.1 4)), (1, .int x1), (2, .ref (w.1 o2))]) hj (by decide +kernel) (Nat.le_of_ble_eq_true rfl) rfl ?_
  rintro X rfl rfl hq hX
  exact wfX9_readHouse hX ho2 hq hres
def fX9_readThing (o2 : Nat) (S : St) (x1 : Int32) : Option (St) :=
  bi (fX9_readWay S) fun r2 S1 => bv (fX0_expect S1 (64 : Int32)) fun S2 => bi (fX9_readWay S2) fun r5 S3 => bv (fX0_expect S3 (45 : Int32)) fun S4 => bi (fX9_readWay S4) fun r8 S5 => bi (fX0_fine S5) fun r10 S6 => if r10 = 0 then (some S6) else (bv (fX8_addThing o2 S6 x1 r2 r5 r8) fun S7 => some S7)
theorem wfX9_readThing {X : CX} (hX : Ok RX9 cX9_readThing none 0 55 6 X) {o2 : Nat} (ho2 : isT o2) {rr : St} (hq : rs X = (none, rr)) {S : St} {x1 : Int32} (hres : fX9_readThing o2 S x1 = some rr) : Wat 0 55 4 6 X 0 [(0, .ref (ad X 4)), (1, .int x1), (2, .ref (ad X o2))] [] S := by
  unfold fX9_readThing at hres
  refine q_aload_n 1 hX 0 dX9_readThing_0 rfl rfl rfl ?_
  obtain ⟨r2, S1, hk1, hres⟩ := ob hres
  refine q_callVi 4 (st := []) (As := []) hX (cX9_readWay9 hX.dj hk1) cv_RX9_66 ci9 oB_4 rfl (by decide) rfl (Nat.le_of_ble_eq_true rfl) dX9_readThing_1 rfl ?_
  refine q_istore_n 5 (lv' := [(3, .int r2), (0, .ref (ad X 4)), (1, .int x1), (2, .ref (ad X o2))]) hX dX9_readThing_4 rfl rfl (by decide) rfl ?_
  refine q_aload_n 6 hX 1 dX9_readThing_5 rfl rfl rfl ?_
  refine q_getR 9 hX ci9 lf_RX9_9 fR_4_0 dX9_readThing_6 rfl ?_
  refine q_bipush 11 hX dX9_readThing_9 rfl kB_64 ?_
  obtain ⟨S2, hk3, hres⟩ := obv hres
  refine q_callVv 14 (st := []) (As := [.int (64 : Int32)]) hX (cX0_expect9 hX.dj hk3) cv_RX9_74 ci0 oB_3 rfl (by decide) rfl (Nat.le_of_ble_eq_true rfl) dX9_readThing_11 rfl ?_
  refine q_aload_n 15 hX 1 dX9_readThing_14 rfl rfl rfl ?_
  obtain ⟨r5, S3, hk4, hres⟩ := ob hres
  refine q_callVi 18 (st := []) (As := []) hX (cX9_readWay9 hX.dj hk4) cv_RX9_66 ci9 oB_4 rfl (by decide) rfl (Nat.le_of_ble_eq_true rfl) dX9_readThing_15 rfl ?_
  refine q_istore 20 (lv' := [(4, .int r5), (3, .int r2), (0, .ref (ad X 4)), (1, .int x1), (2, .ref (ad X o2))]) hX dX9_readThing_18 rfl (by decide) rfl ?_
  refine q_aload_n 21 hX 2 dX9_readThing_20 rfl rfl rfl ?_
  refine q_getR 24 hX ci9 lf_RX9_9 fR_4_0 dX9_readThing_21 rfl ?_
  refine q_bipush 26 hX dX9_readThing_24 rfl kB_45 ?_
  obtain ⟨S4, hk6, hres⟩ := obv hres
  refine q_callVv 29 (st := []) (As := [.int (45 : Int32)]) hX (cX0_expect9 hX.dj hk6) cv_RX9_74 ci0 oB_3 rfl (by decide) rfl (Nat.le_of_ble_eq_true rfl) dX9_readThing_26 rfl ?_
  refine q_aload_n 30 hX 2 dX9_readThing_29 rfl rfl rfl ?_
  obtain ⟨r8, S5, hk7, hres⟩ := ob hres
  refine q_callVi 33 (st := []) (As := []) hX (cX9_readWay9 hX.dj hk7) cv_RX9_66 ci9 oB_4 rfl (by decide) rfl (Nat.le_of_ble_eq_true rfl) dX9_readThing_30 rfl ?_
  refine q_istore 35 (lv' := [(5, .int r8), (4, .int r5), (3, .int r2), (0, .ref (ad X 4)), (1, .int x1), (2, .ref (ad X o2))]) hX dX9_readThing_33 rfl (by decide) rfl ?_
  refine q_aload_n 36 hX 3 dX9_readThing_35 rfl rfl rfl ?_
  refine q_getR 39 hX ci9 lf_RX9_9 fR_4_0 dX9_readThing_36 rfl ?_
  obtain ⟨r10, S6, hk9, hres⟩ := ob hres
  refine q_callVi 42 (st := []) (As := []) hX (cX0_fine9 hX.dj hk9) cv_RX9_34 ci0 oB_3 rfl (by decide) rfl (Nat.le_of_ble_eq_true rfl) dX9_readThing_39 rfl ?_
  refine q_if_eq 45 hX 55 dX9_readThing_42 rfl (by decide) (fun hc => ?_) (fun hc => ?_)
  · have hres := it_t hc hres
    exact q_vret hX (eqv hq hres) dX9_readThing_55
  · have hres := it_f hc hres
    refine q_aload_n 46 hX 5 dX9_readThing_45 rfl rfl rfl ?_
    refine q_iload_n 47 hX 4 dX9_readThing_46 rfl rfl rfl ?_
    refine q_iload_n 48 hX 2 dX9_readThing_47 rfl rfl rfl ?_
    refine q_iload 50 hX 1 dX9_readThing_48 rfl rfl ?_
    refine q_iload 52 hX 0 dX9_readThing_50 rfl rfl ?_
    obtain ⟨S7, hk11, hres⟩ := obv hres
    refine q_callVv 55 (st := []) (As := [.int x1, .int r2, .int r5, .int r8]) hX (cX8_addThing9 hX.dj ho2 hk11) cv_RX9_77 ci8 (oB_T ho2) rfl (by decide) rfl (Nat.le_of_ble_eq_true rfl) dX9_readThing_52 rfl ?_
    exact q_vret hX (eqv hq hres) dX9_readThing_55
theorem cX9_readThing9 {l : Launch} {w : WD} (hj : Dj w 0 55) {o2 : Nat} (ho2 : isT o2) {rr : St} {S : St} {x1 : Int32} (hres : fX9_readThing o2 S x1 = some rr) : Ct l yX9_readThing cX9_readThing 6 none 4 w 0 55 [.ref (w.1 4), .int x1, .ref (w.1 o2)] S (none, rr) := by
  refine Ct.of (lv := [(0, .ref (w.1 4)), (1, .int x1), (2, .ref (w.1 o2))]) hj (by decide +kernel) (Nat.le_of_ble_eq_true rfl) rfl ?_
  rintro X rfl rfl hq hX
  exact wfX9_readThing hX ho2 hq hres
def fX9_readLine_114 (o2 : Nat) (S : St) : Option (St) :=
  bv (fX0_failHere S (6 : Int32)) fun S1 => some S1
theorem wfX9_readLine_114 {X : CX} (hX : Ok RX9 cX9_readLine none 0 55 6 X) {o2 : Nat} (ho2 : isT o2) {rr : St} (hq : rs X = (none, rr)) {S : St} (hres : fX9_readLine_114 o2 S = some rr) : Wat 0 55 5 6 X 114 [(0, .ref (ad X 4))] [] S := by
  unfold fX9_readLine_114 at hres
  refine q_aload_n 115 hX 0 dX9_readLine_114 rfl rfl rfl ?_
  refine q_getR 118 hX ci9 lf_RX9_9 fR_4_0 dX9_readLine_115 rfl ?_
  refine q_bipush 120 hX dX9_readLine_118 rfl kB_6 ?_
  obtain ⟨S1, hk1, hres⟩ := obv hres
  refine q_callVv 123 (st := []) (As := [.int (6 : Int32)]) hX (cX0_failHere9 hX.dj hk1) cv_RX9_47 ci0 oB_3 rfl (by decide) rfl (Nat.le_of_ble_eq_true rfl) dX9_readLine_120 rfl ?_
  refine q_goto 159 hX dX9_readLine_123 (by decide) ?_
  exact q_vret hX (eqv hq hres) dX9_readLine_159
def fX9_readLine_126 (o2 : Nat) (S : St) (x3 : Int32) (x4 : Int32) : Option (St) :=
  bv (fX0_step S) fun S1 => if x4 = 0 then (bv (fX9_readThing o2 S1 (x3 - (65 : Int32))) fun S2 => some S2) else (bv (fX9_readHouse o2 S1 (x3 - (97 : Int32))) fun S3 => some S3)
theorem wfX9_readLine_126 {X : CX} (hX : Ok RX9 cX9_readLine none 0 55 6 X) {o2 : Nat} (ho2 : isT o2) {rr : St} (hq : rs X = (none, rr)) {S : St} {x3 : Int32} {x4 : Int32} (hres : fX9_readLine_126 o2 S x3 x4 = some rr) : Wat 0 55 5 6 X 126 [(0, .ref (ad X 4)), (2, .ref (ad X o2)), (3, .int x3), (4, .int x4)] [] S := by
  unfold fX9_readLine_126 at hres
  refine q_aload_n 127 hX 0 dX9_readLine_126 rfl rfl rfl ?_
  refine q_getR 130 hX ci9 lf_RX9_9 fR_4_0 dX9_readLine_127 rfl ?_
  obtain ⟨S1, hk1, hres⟩ := obv hres
  refine q_callVv 133 (st := []) (As := []) hX (cX0_step9 hX.dj hk1) cv_RX9_57 ci0 oB_3 rfl (by decide) rfl (Nat.le_of_ble_eq_true rfl) dX9_readLine_130 rfl ?_
  refine q_iload 135 hX 3 dX9_readLine_133 rfl rfl ?_
  refine q_if_eq 138 hX 150 dX9_readLine_135 rfl (by decide) (fun hc => ?_) (fun hc => ?_)
  · have hres := it_t hc hres
    refine q_aload_n 151 hX 0 dX9_readLine_150 rfl rfl rfl ?_
    refine q_iload_n 152 hX 2 dX9_readLine_151 rfl rfl rfl ?_
    refine q_bipush 154 hX dX9_readLine_152 rfl kB_65 ?_
    refine q_isub 155 hX dX9_readLine_154 rfl ?_
    refine q_aload_n 156 hX 1 dX9_readLine_155 rfl rfl rfl ?_
    obtain ⟨S2, hk2, hres⟩ := obv hres
    refine q_callVv 159 (st := []) (As := [.int (x3 - (65 : Int32)), .ref (ad X o2)]) hX (cX9_readThing9 hX.dj ho2 hk2) cv_RX9_63 ci9 oB_4 rfl (by decide) rfl (Nat.le_of_ble_eq_true rfl) dX9_readLine_156 rfl ?_
    exact q_vret hX (eqv hq hres) dX9_readLine_159
  · have hres := it_f hc hres
    refine q_aload_n 139 hX 0 dX9_readLine_138 rfl rfl rfl ?_
    refine q_iload_n 140 hX 2 dX9_readLine_139 rfl rfl rfl ?_
    refine q_bipush 142 hX dX9_readLine_140 rfl kB_97 ?_
    refine q_isub 143 hX dX9_readLine_142 rfl ?_
    refine q_aload_n 144 hX 1 dX9_readLine_143 rfl rfl rfl ?_
    obtain ⟨S3, hk3, hres⟩ := obv hres
    refine q_callVv 147 (st := []) (As := [.int (x3 - (97 : Int32)), .ref (ad X o2)]) hX (cX9_readHouse9 hX.dj ho2 hk3) cv_RX9_60 ci9 oB_4 rfl (by decide) rfl (Nat.le_of_ble_eq_true rfl) dX9_readLine_144 rfl ?_
    refine q_goto 159 hX dX9_readLine_147 (by decide) ?_
    exact q_vret hX (eqv hq hres) dX9_readLine_159
def fX9_readLine_67 (o2 : Nat) (S : St) (x1 : Int32) (x3 : Int32) (x4 : Int32) : Option (St) :=
  if x1 < (32 : Int32) then (if x4 = 0 then (bi (fX8_hasThing o2 S (x3 - (65 : Int32))) fun r2 S1 => if r2 = 0 then (fX9_readLine_126 o2 S1 x3 x4) else (fX9_readLine_114 o2 S1)) else (bi (fX8_hasHouse o2 S (x3 - (97 : Int32))) fun r4 S2 => if r4 = 0 then (fX9_readLine_126 o2 S2 x3 x4) else (fX9_readLine_114 o2 S2))) else (bv (fX0_failHere S (4 : Int32)) fun S3 => some S3)
theorem wfX9_readLine_67 {X : CX} (hX : Ok RX9 cX9_readLine none 0 55 6 X) {o2 : Nat} (ho2 : isT o2) {rr : St} (hq : rs X = (none, rr)) {S : St} {x1 : Int32} {x3 : Int32} {x4 : Int32} (hres : fX9_readLine_67 o2 S x1 x3 x4 = some rr) : Wat 0 55 5 6 X 67 [(0, .ref (ad X 4)), (1, .int x1), (2, .ref (ad X o2)), (3, .int x3), (4, .int x4)] [] S := by
  unfold fX9_readLine_67 at hres
  refine q_iload_n 68 hX 1 dX9_readLine_67 rfl rfl rfl ?_
  refine q_bipush 70 hX dX9_readLine_68 rfl kB_32 ?_
  refine q_icmp_lt 73 hX 84 dX9_readLine_70 rfl (by decide) (fun hc => ?_) (fun hc => ?_)
  · have hres := it_t hc hres
    refine q_iload 86 hX 4 dX9_readLine_84 rfl rfl ?_
    refine q_if_eq 89 hX 103 dX9_readLine_86 rfl (by decide) (fun hc => ?_) (fun hc => ?_)
    · have hres := it_t hc hres
      refine q_aload_n 104 hX 2 dX9_readLine_103 rfl rfl rfl ?_
      refine q_iload_n 105 hX 3 dX9_readLine_104 rfl rfl rfl ?_
      refine q_bipush 107 hX dX9_readLine_105 rfl kB_65 ?_
      refine q_isub 108 hX dX9_readLine_107 rfl ?_
      obtain ⟨r2, S1, hk1, hres⟩ := ob hres
      refine q_callVi 111 (st := []) (As := [.int (x3 - (65 : Int32))]) hX (cX8_hasThing9 hX.dj ho2 hk1) cv_RX9_54 ci8 (oB_T ho2) rfl (by decide) rfl (Nat.le_of_ble_eq_true rfl) dX9_readLine_108 rfl ?_
      refine q_if_eq 114 hX 126 dX9_readLine_111 rfl (by decide) (fun hc => ?_) (fun hc => ?_)
      · have hres := it_t hc hres
        exact q_sub [0, 2, 3, 4] rfl (wfX9_readLine_126 hX ho2 hq hres)
      · have hres := it_f hc hres
        exact q_sub [0] rfl (wfX9_readLine_114 hX ho2 hq hres)
    · have hres := it_f hc hres
      refine q_aload_n 90 hX 2 dX9_readLine_89 rfl rfl rfl ?_
      refine q_iload_n 91 hX 3 dX9_readLine_90 rfl rfl rfl ?_
      refine q_bipush 93 hX dX9_readLine_91 rfl kB_97 ?_
      refine q_isub 94 hX dX9_readLine_93 rfl ?_
      obtain ⟨r4, S2, hk3, hres⟩ := ob hres
      refine q_callVi 97 (st := []) (As := [.int (x3 - (97 : Int32))]) hX (cX8_hasHouse9 hX.dj ho2 hk3) cv_RX9_50 ci8 (oB_T ho2) rfl (by decide) rfl (Nat.le_of_ble_eq_true rfl) dX9_readLine_94 rfl ?_
      refine q_if_eq 100 hX 126 dX9_readLine_97 rfl (by decide) (fun hc => ?_) (fun hc => ?_)
      · have hres := it_t hc hres
        exact q_sub [0, 2, 3, 4] rfl (wfX9_readLine_126 hX ho2 hq hres)
      · have hres := it_f hc hres
        refine q_goto 114 hX dX9_readLine_100 (by decide) ?_
        exact q_sub [0] rfl (wfX9_readLine_114 hX ho2 hq hres)
  · have hres := it_f hc hres
    refine q_aload_n 74 hX 0 dX9_readLine_73 rfl rfl rfl ?_
    refine q_getR 77 hX ci9 lf_RX9_9 fR_4_0 dX9_readLine_74 rfl ?_
    refine q_iconst 78 hX dX9_readLine_77 rfl kI_4 ?_
    obtain ⟨S3, hk5, hres⟩ := obv hres
    refine q_callVv 81 (st := []) (As := [.int (4 : Int32)]) hX (cX0_failHere9 hX.dj hk5) cv_RX9_47 ci0 oB_3 rfl (by decide) rfl (Nat.le_of_ble_eq_true rfl) dX9_readLine_78 rfl ?_
    refine q_goto 159 hX dX9_readLine_81 (by decide) ?_
    exact q_vret hX (eqv hq hres) dX9_readLine_159
def fX9_readLine_44 (o2 : Nat) (S : St) (x1 : Int32) (x3 : Int32) (x4 : Int32) (s0 : Int32) : Option (St) :=
  if x4 = 0 then (if s0 = 0 then (bv (fX0_failHere S (1 : Int32)) fun S1 => some S1) else (fX9_readLine_67 o2 S x1 x3 x4)) else (fX9_readLine_67 o2 S x1 x3 x4)
theorem wfX9_readLine_44 {X : CX} (hX : Ok RX9 cX9_readLine none 0 55 6 X) {o2 : Nat} (ho2 : isT o2) {rr : St} (hq : rs X = (none, rr)) {S : St} {x1 : Int32} {x3 : Int32} {x4 : Int32} {s0 : Int32} (hres : fX9_readLine_44 o2 S x1 x3 x4 s0 = some rr) : Wat 0 55 5 6 X 44 [(0, .ref (ad X 4)), (1, .int x1), (2, .ref (ad X o2)), (3, .int x3), (4, .int x4)] [.int s0] S := by
  unfold fX9_readLine_44 at hres
  refine q_istore 46 (lv' := [(5, .int s0), (0, .ref (ad X 4)), (1, .int x1), (2, .ref (ad X o2)), (3, .int x3), (4, .int x4)]) hX dX9_readLine_44 rfl (by decide) rfl ?_
  refine q_iload 48 hX 5 dX9_readLine_46 rfl rfl ?_
  refine q_if_ne 51 hX 67 dX9_readLine_48 rfl (by decide) (fun hc => ?_) (fun hc => ?_)
  · have hres := it_f hc hres
    exact q_sub [1, 2, 3, 4, 5] rfl (wfX9_readLine_67 hX ho2 hq hres)
  · have hres := it_t hc hres
    refine q_iload 53 hX 0 dX9_readLine_51 rfl rfl ?_
    refine q_if_ne 56 hX 67 dX9_readLine_53 rfl (by decide) (fun hc => ?_) (fun hc => ?_)
    · have hres := it_f hc hres
      exact q_sub [1, 2, 3, 4, 5] rfl (wfX9_readLine_67 hX ho2 hq hres)
    · have hres := it_t hc hres
      refine q_aload_n 57 hX 1 dX9_readLine_56 rfl rfl rfl ?_
      refine q_getR 60 hX ci9 lf_RX9_9 fR_4_0 dX9_readLine_57 rfl ?_
      refine q_iconst 61 hX dX9_readLine_60 rfl kI_1 ?_
      obtain ⟨S1, hk1, hres⟩ := obv hres
      refine q_callVv 64 (st := []) (As := [.int (1 : Int32)]) hX (cX0_failHere9 hX.dj hk1) cv_RX9_47 ci0 oB_3 rfl (by decide) rfl (Nat.le_of_ble_eq_true rfl) dX9_readLine_61 rfl ?_
      refine q_goto 159 hX dX9_readLine_64 (by decide) ?_
      exact q_vret hX (eqv hq hres) dX9_readLine_159
def fX9_readLine_43 (o2 : Nat) (S : St) (x1 : Int32) (x3 : Int32) (x4 : Int32) : Option (St) :=
  fX9_readLine_44 o2 S x1 x3 x4 (0 : Int32)
theorem wfX9_readLine_43 {X : CX} (hX : Ok RX9 cX9_readLine none 0 55 6 X) {o2 : Nat} (ho2 : isT o2) {rr : St} (hq : rs X = (none, rr)) {S : St} {x1 : Int32} {x3 : Int32} {x4 : Int32} (hres : fX9_readLine_43 o2 S x1 x3 x4 = some rr) : Wat 0 55 5 6 X 43 [(0, .ref (ad X 4)), (1, .int x1), (2, .ref (ad X o2)), (3, .int x3), (4, .int x4)] [] S := by
  unfold fX9_readLine_43 at hres
  refine q_iconst 44 hX dX9_readLine_43 rfl kI_0 ?_
  exact q_sub [0, 1, 2, 3, 4] rfl (wfX9_readLine_44 hX ho2 hq hres)
def fX9_readLine_25 (o2 : Nat) (S : St) (x1 : Int32) (x3 : Int32) (s0 : Int32) : Option (St) :=
  if x3 < (65 : Int32) then (fX9_readLine_43 o2 S x1 x3 s0) else (if (80 : Int32) < x3 then (fX9_readLine_43 o2 S x1 x3 s0) else (fX9_readLine_44 o2 S x1 x3 s0 (1 : Int32)))
theorem wfX9_readLine_25 {X : CX} (hX : Ok RX9 cX9_readLine none 0 55 6 X) {o2 : Nat} (ho2 : isT o2) {rr : St} (hq : rs X = (none, rr)) {S : St} {x1 : Int32} {x3 : Int32} {s0 : Int32} (hres : fX9_readLine_25 o2 S x1 x3 s0 = some rr) : Wat 0 55 5 6 X 25 [(0, .ref (ad X 4)), (1, .int x1), (2, .ref (ad X o2)), (3, .int x3)] [.int s0] S := by
  unfold fX9_readLine_25 at hres
  refine q_istore 27 (lv' := [(4, .int s0), (0, .ref (ad X 4)), (1, .int x1), (2, .ref (ad X o2)), (3, .int x3)]) hX dX9_readLine_25 rfl (by decide) rfl ?_
  refine q_iload_n 28 hX 4 dX9_readLine_27 rfl rfl rfl ?_
  refine q_bipush 30 hX dX9_readLine_28 rfl kB_65 ?_
  refine q_icmp_lt 33 hX 43 dX9_readLine_30 rfl (by decide) (fun hc => ?_) (fun hc => ?_)
  · have hres := it_t hc hres
    exact q_sub [1, 2, 3, 4, 0] rfl (wfX9_readLine_43 hX ho2 hq hres)
  · have hres := it_f hc hres
    refine q_iload_n 34 hX 4 dX9_readLine_33 rfl rfl rfl ?_
    refine q_bipush 36 hX dX9_readLine_34 rfl kB_80 ?_
    refine q_icmp_gt 39 hX 43 dX9_readLine_36 rfl (by decide) (fun hc => ?_) (fun hc => ?_)
    · have hres := it_t hc hres
      exact q_sub [1, 2, 3, 4, 0] rfl (wfX9_readLine_43 hX ho2 hq hres)
    · have hres := it_f hc hres
      refine q_iconst 40 hX dX9_readLine_39 rfl kI_1 ?_
      refine q_goto 44 hX dX9_readLine_40 (by decide) ?_
      exact q_sub [1, 2, 3, 4, 0] rfl (wfX9_readLine_44 hX ho2 hq hres)
def fX9_readLine_24 (o2 : Nat) (S : St) (x1 : Int32) (x3 : Int32) : Option (St) :=
  fX9_readLine_25 o2 S x1 x3 (0 : Int32)
theorem wfX9_readLine_24 {X : CX} (hX : Ok RX9 cX9_readLine none 0 55 6 X) {o2 : Nat} (ho2 : isT o2) {rr : St} (hq : rs X = (none, rr)) {S : St} {x1 : Int32} {x3 : Int32} (hres : fX9_readLine_24 o2 S x1 x3 = some rr) : Wat 0 55 5 6 X 24 [(0, .ref (ad X 4)), (1, .int x1), (2, .ref (ad X o2)), (3, .int x3)] [] S := by
  unfold fX9_readLine_24 at hres
  refine q_iconst 25 hX dX9_readLine_24 rfl kI_0 ?_
  exact q_sub [0, 1, 2, 3] rfl (wfX9_readLine_25 hX ho2 hq hres)
def fX9_readLine (o2 : Nat) (S : St) (x1 : Int32) : Option (St) :=
  bV ((S.1 3 3)) fun v1 => if v1 < (97 : Int32) then (fX9_readLine_24 o2 S x1 v1) else (if (112 : Int32) < v1 then (fX9_readLine_24 o2 S x1 v1) else (fX9_readLine_25 o2 S x1 v1 (1 : Int32)))
theorem wfX9_readLine {X : CX} (hX : Ok RX9 cX9_readLine none 0 55 6 X) {o2 : Nat} (ho2 : isT o2) {rr : St} (hq : rs X = (none, rr)) {S : St} {x1 : Int32} (hres : fX9_readLine o2 S x1 = some rr) : Wat 0 55 5 6 X 0 [(0, .ref (ad X 4)), (1, .int x1), (2, .ref (ad X o2))] [] S := by
  unfold fX9_readLine at hres
  refine q_aload_n 1 hX 0 dX9_readLine_0 rfl rfl rfl ?_
  refine q_getR 4 hX ci9 lf_RX9_9 fR_4_0 dX9_readLine_1 rfl ?_
  refine q_getI 7 hX ci0 lf_RX9_44 fI_3_3 dX9_readLine_4 rfl ?_
  refine q_istoreB_n 8 (lv0 := [(0, .ref (ad X 4)), (1, .int x1), (2, .ref (ad X o2))]) hX dX9_readLine_7 rfl rfl (by decide) rfl hres (fun v1 hres => ?_)
  refine q_iload_n 9 hX 0 dX9_readLine_8 rfl rfl rfl ?_
  refine q_bipush 11 hX dX9_readLine_9 rfl kB_97 ?_
  refine q_icmp_lt 14 hX 24 dX9_readLine_11 rfl (by decide) (fun hc => ?_) (fun hc => ?_)
  · have hres := it_t hc hres
    exact q_sub [1, 2, 3, 0] rfl (wfX9_readLine_24 hX ho2 hq hres)
  · have hres := it_f hc hres
    refine q_iload_n 15 hX 0 dX9_readLine_14 rfl rfl rfl ?_
    refine q_bipush 17 hX dX9_readLine_15 rfl kB_112 ?_
    refine q_icmp_gt 20 hX 24 dX9_readLine_17 rfl (by decide) (fun hc => ?_) (fun hc => ?_)
    · have hres := it_t hc hres
      exact q_sub [1, 2, 3, 0] rfl (wfX9_readLine_24 hX ho2 hq hres)
    · have hres := it_f hc hres
      refine q_iconst 21 hX dX9_readLine_20 rfl kI_1 ?_
      refine q_goto 25 hX dX9_readLine_21 (by decide) ?_
      exact q_sub [1, 2, 3, 0] rfl (wfX9_readLine_25 hX ho2 hq hres)
theorem cX9_readLine9 {l : Launch} {w : WD} (hj : Dj w 0 55) {o2 : Nat} (ho2 : isT o2) {rr : St} {S : St} {x1 : Int32} (hres : fX9_readLine o2 S x1 = some rr) : Ct l yX9_readLine cX9_readLine 6 none 5 w 0 55 [.ref (w.1 4), .int x1, .ref (w.1 o2)] S (none, rr) := by
  refine Ct.of (lv := [(0, .ref (w.1 4)), (1, .int x1), (2, .ref (w.1 o2))]) hj (by decide +kernel) (Nat.le_of_ble_eq_true rfl) rfl ?_
  rintro X rfl rfl hq hX
  exact wfX9_readLine hX ho2 hq hres
def fX9_readTerrace_49 (o2 : Nat) (S : St) (x3 : Int32) : Option (Int32 × St) :=
  bi (fX0_fine S) fun r2 S1 => if r2 = 0 then (some ((S1.1 3 4), S1)) else (bv (fX8_lookAround o2 S1) fun S2 => some (x3, S2))
theorem wfX9_readTerrace_49 {X : CX} (hX : Ok RX9 cX9_readTerrace (some .int) 0 55 5 X) {o2 : Nat} (ho2 : isT o2) {rr : Int32 × St} (hq : rs X = (some (.int rr.1), rr.2)) {S : St} {x3 : Int32} (hres : fX9_readTerrace_49 o2 S x3 = some rr) : Wat 0 55 6 5 X 49 [(0, .ref (ad X 4)), (2, .ref (ad X o2)), (3, .int x3)] [] S := by
  unfold fX9_readTerrace_49 at hres
  refine q_aload_n 50 hX 0 dX9_readTerrace_49 rfl rfl rfl ?_
  refine q_getR 53 hX ci9 lf_RX9_9 fR_4_0 dX9_readTerrace_50 rfl ?_
  obtain ⟨r2, S1, hk1, hres⟩ := ob hres
  refine q_callVi 56 (st := []) (As := []) hX (cX0_fine9 hX.dj hk1) cv_RX9_34 ci0 oB_3 rfl (by decide) rfl (Nat.le_of_ble_eq_true rfl) dX9_readTerrace_53 rfl ?_
  refine q_if_ne 59 hX 67 dX9_readTerrace_56 rfl (by decide) (fun hc => ?_) (fun hc => ?_)
  · have hres := it_f hc hres
    refine q_aload_n 68 hX 1 dX9_readTerrace_67 rfl rfl rfl ?_
    obtain ⟨S2, hk3, hres⟩ := obv hres
    refine q_callVv 71 (st := []) (As := []) hX (cX8_lookAround9 hX.dj ho2 hk3) cv_RX9_41 ci8 (oB_T ho2) rfl (by decide) rfl (Nat.le_of_ble_eq_true rfl) dX9_readTerrace_68 rfl ?_
    refine q_iload_n 72 hX 2 dX9_readTerrace_71 rfl rfl rfl ?_
    exact q_iret hX (eqi hq hres) dX9_readTerrace_72
  · have hres := it_t hc hres
    refine q_aload_n 60 hX 0 dX9_readTerrace_59 rfl rfl rfl ?_
    refine q_getR 63 hX ci9 lf_RX9_9 fR_4_0 dX9_readTerrace_60 rfl ?_
    refine q_getI 66 hX ci0 lf_RX9_37 fI_3_4 dX9_readTerrace_63 rfl ?_
    exact q_iret hX (eqi hq hres) dX9_readTerrace_66
def bX9_readTerrace_17 (o2 : Nat) (rc17 : St → Int32 → Int32 → Option (Int32 × St)) (S : St) (x3 : Int32) (x4 : Int32) : Option (Int32 × St) :=
  if x4 = 0 then (fX9_readTerrace_49 o2 S x3) else (if (32 : Int32) < x3 then (fX9_readTerrace_49 o2 S x3) else (bv (fX9_readLine o2 S x3) fun S1 => bV (x3 + (1 : Int32)) fun v2 => bi (fX0_passesSemicolon S1) fun r4 S2 => rc17 S2 v2 r4))
theorem wbX9_readTerrace_17 {X : CX} (hX : Ok RX9 cX9_readTerrace (some .int) 0 55 5 X) {o2 : Nat} (ho2 : isT o2) {rr : Int32 × St} (hq : rs X = (some (.int rr.1), rr.2)) {rc17 : St → Int32 → Int32 → Option (Int32 × St)} (hrc17 : ∀ (S : St) (x3 : Int32) (x4 : Int32), rc17 S x3 x4 = some rr → Wat 0 55 6 5 X 17 [(0, .ref (ad X 4)), (2, .ref (ad X o2)), (3, .int x3), (4, .int x4)] [] S) {S : St} {x3 : Int32} {x4 : Int32} (hres : bX9_readTerrace_17 o2 rc17 S x3 x4 = some rr) : Wat 0 55 6 5 X 17 [(0, .ref (ad X 4)), (2, .ref (ad X o2)), (3, .int x3), (4, .int x4)] [] S := by
  unfold bX9_readTerrace_17 at hres
  refine q_iload 19 hX 3 dX9_readTerrace_17 rfl rfl ?_
  refine q_if_eq 22 hX 49 dX9_readTerrace_19 rfl (by decide) (fun hc => ?_) (fun hc => ?_)
  · have hres := it_t hc hres
    exact q_sub [0, 1, 2] rfl (wfX9_readTerrace_49 hX ho2 hq hres)
  · have hres := it_f hc hres
    refine q_iload_n 23 hX 2 dX9_readTerrace_22 rfl rfl rfl ?_
    refine q_bipush 25 hX dX9_readTerrace_23 rfl kB_32 ?_
    refine q_icmp_gt 28 hX 49 dX9_readTerrace_25 rfl (by decide) (fun hc => ?_) (fun hc => ?_)
    · have hres := it_t hc hres
      exact q_sub [0, 1, 2] rfl (wfX9_readTerrace_49 hX ho2 hq hres)
    · have hres := it_f hc hres
      refine q_aload_n 29 hX 0 dX9_readTerrace_28 rfl rfl rfl ?_
      refine q_iload_n 30 hX 2 dX9_readTerrace_29 rfl rfl rfl ?_
      refine q_aload_n 31 hX 1 dX9_readTerrace_30 rfl rfl rfl ?_
      obtain ⟨S1, hk1, hres⟩ := obv hres
      refine q_callVv 34 (st := []) (As := [.int x3, .ref (ad X o2)]) hX (cX9_readLine9 hX.dj ho2 hk1) cv_RX9_26 ci9 oB_4 rfl (by decide) rfl (Nat.le_of_ble_eq_true rfl) dX9_readTerrace_31 rfl ?_
      refine q_iincB 37 2 (lv0 := [(0, .ref (ad X 4)), (2, .ref (ad X o2)), (4, .int x4)]) hX dX9_readTerrace_34 rfl rfl kI_1 (by decide) rfl hres (fun v2 hres => ?_)
      refine q_aload_n 38 hX 1 dX9_readTerrace_37 rfl rfl rfl ?_
      refine q_getR 41 hX ci9 lf_RX9_9 fR_4_0 dX9_readTerrace_38 rfl ?_
      obtain ⟨r4, S2, hk3, hres⟩ := ob hres
      refine q_callVi 44 (st := []) (As := []) hX (cX0_passesSemicolon9 hX.dj hk3) cv_RX9_30 ci0 oB_3 rfl (by decide) rfl (Nat.le_of_ble_eq_true rfl) dX9_readTerrace_41 rfl ?_
      refine q_istore 46 (lv' := [(4, .int r4), (3, .int v2), (0, .ref (ad X 4)), (2, .ref (ad X o2))]) hX dX9_readTerrace_44 rfl (by decide) rfl ?_
      refine q_goto 17 hX dX9_readTerrace_46 (by decide) ?_
      exact q_sub [2, 3, 1, 0] rfl (hrc17 _ _ _ hres)
def fX9_readTerrace_17 (o2 : Nat) : Nat → St → Int32 → Int32 → Option (Int32 × St)
  | 0 => fun _ _ _ => none
  | k + 1 => fun S x3 x4 => bX9_readTerrace_17 o2 (fX9_readTerrace_17 o2 k) S x3 x4
theorem wfX9_readTerrace_17 {X : CX} (hX : Ok RX9 cX9_readTerrace (some .int) 0 55 5 X) {o2 : Nat} (ho2 : isT o2) {rr : Int32 × St} (hq : rs X = (some (.int rr.1), rr.2)) (k : Nat) : ∀ (S : St) (x3 : Int32) (x4 : Int32), fX9_readTerrace_17 o2 k S x3 x4 = some rr → Wat 0 55 6 5 X 17 [(0, .ref (ad X 4)), (2, .ref (ad X o2)), (3, .int x3), (4, .int x4)] [] S := by
  induction k with
  | zero => intro S x3 x4 hres; exact absurd hres (by simp [fX9_readTerrace_17])
  | succ k ih => intro S x3 x4 hres; exact wbX9_readTerrace_17 hX ho2 hq ih hres
def fX9_readTerrace (o2 : Nat) (S : St) (x1 : Int32) : Option (Int32 × St) :=
  bv (fX0_start S x1) fun S1 => bv (fX8_clear o2 S1) fun S2 => fX9_readTerrace_17 o2 100 S2 (0 : Int32) (1 : Int32)
theorem wfX9_readTerrace {X : CX} (hX : Ok RX9 cX9_readTerrace (some .int) 0 55 5 X) {o2 : Nat} (ho2 : isT o2) {rr : Int32 × St} (hq : rs X = (some (.int rr.1), rr.2)) {S : St} {x1 : Int32} (hres : fX9_readTerrace o2 S x1 = some rr) : Wat 0 55 6 5 X 0 [(0, .ref (ad X 4)), (1, .int x1), (2, .ref (ad X o2))] [] S := by
  unfold fX9_readTerrace at hres
  refine q_aload_n 1 hX 0 dX9_readTerrace_0 rfl rfl rfl ?_
  refine q_getR 4 hX ci9 lf_RX9_9 fR_4_0 dX9_readTerrace_1 rfl ?_
  refine q_iload_n 5 hX 1 dX9_readTerrace_4 rfl rfl rfl ?_
  obtain ⟨S1, hk1, hres⟩ := obv hres
  refine q_callVv 8 (st := []) (As := [.int x1]) hX (cX0_start9 hX.dj hk1) cv_RX9_15 ci0 oB_3 rfl (by decide) rfl (Nat.le_of_ble_eq_true rfl) dX9_readTerrace_5 rfl ?_
  refine q_aload_n 9 hX 2 dX9_readTerrace_8 rfl rfl rfl ?_
  obtain ⟨S2, hk2, hres⟩ := obv hres
  refine q_callVv 12 (st := []) (As := []) hX (cX8_clear9 hX.dj ho2 hk2) cv_RX9_21 ci8 (oB_T ho2) rfl (by decide) rfl (Nat.le_of_ble_eq_true rfl) dX9_readTerrace_9 rfl ?_
  refine q_iconst 13 hX dX9_readTerrace_12 rfl kI_0 ?_
  refine q_istore_n 14 (lv' := [(3, .int (0 : Int32)), (0, .ref (ad X 4)), (1, .int x1), (2, .ref (ad X o2))]) hX dX9_readTerrace_13 rfl rfl (by decide) rfl ?_
  refine q_iconst 15 hX dX9_readTerrace_14 rfl kI_1 ?_
  refine q_istore 17 (lv' := [(4, .int (1 : Int32)), (3, .int (0 : Int32)), (0, .ref (ad X 4)), (1, .int x1), (2, .ref (ad X o2))]) hX dX9_readTerrace_15 rfl (by decide) rfl ?_
  exact q_sub [2, 4, 1, 0] rfl (wfX9_readTerrace_17 hX ho2 hq _ _ _ _ hres)
theorem cX9_readTerrace9 {l : Launch} {w : WD} (hj : Dj w 0 55) {o2 : Nat} (ho2 : isT o2) {rr : Int32 × St} {S : St} {x1 : Int32} (hres : fX9_readTerrace o2 S x1 = some rr) : Ct l yX9_readTerrace cX9_readTerrace 5 (some .int) 6 w 0 55 [.ref (w.1 4), .int x1, .ref (w.1 o2)] S (some (.int rr.1), rr.2) := by
  refine Ct.of (lv := [(0, .ref (w.1 4)), (1, .int x1), (2, .ref (w.1 o2))]) hj (by decide +kernel) (Nat.le_of_ble_eq_true rfl) rfl ?_
  rintro X rfl rfl hq hX
  exact wfX9_readTerrace hX ho2 hq hres
