def fX3_opens (S : St) (x1 : Int32) : Option (Int32 × St) :=
  if x1 < (6 : Int32) then (bv (fX0_step S) fun S1 => some ((1 : Int32), S1)) else (bv (fX0_failHere S (5 : Int32)) fun S2 => some ((0 : Int32), S2))
theorem wfX3_opens {X : CX} (hX : Ok RX3 cX3_opens (some .boolean) 0 55 2 X) {rr : Int32 × St} (hq : rs X = (some (.int rr.1), rr.2)) {S : St} {x1 : Int32} (hres : fX3_opens S x1 = some rr) : Wat 0 55 2 2 X 0 [(0, .ref (ad X 7)), (1, .int x1)] [] S := by
  unfold fX3_opens at hres
  refine q_iload_n 1 hX 1 dX3_opens_0 rfl rfl rfl ?_
  refine q_bipush 3 hX dX3_opens_1 rfl kB_6 ?_
  refine q_icmp_lt 6 hX 16 dX3_opens_3 rfl (by decide) (fun hc => ?_) (fun hc => ?_)
  · have hres := it_t hc hres
    refine q_aload_n 17 hX 0 dX3_opens_16 rfl rfl rfl ?_
    refine q_getR 20 hX ci3 lf_RX3_9 fR_7_0 dX3_opens_17 rfl ?_
    obtain ⟨S1, hk1, hres⟩ := obv hres
    refine q_callVv 23 (st := []) (As := []) hX (cX0_step9 hX.dj hk1) cv_RX3_47 ci0 oB_3 rfl (by decide) rfl (Nat.le_of_ble_eq_true rfl) dX3_opens_20 rfl ?_
    refine q_iconst 24 hX dX3_opens_23 rfl kI_1 ?_
    exact q_zret hX (by decide) (eqi hq hres) dX3_opens_24
  · have hres := it_f hc hres
    refine q_aload_n 7 hX 0 dX3_opens_6 rfl rfl rfl ?_
    refine q_getR 10 hX ci3 lf_RX3_9 fR_7_0 dX3_opens_7 rfl ?_
    refine q_iconst 11 hX dX3_opens_10 rfl kI_5 ?_
    obtain ⟨S2, hk2, hres⟩ := obv hres
    refine q_callVv 14 (st := []) (As := [.int (5 : Int32)]) hX (cX0_failHere9 hX.dj hk2) cv_RX3_44 ci0 oB_3 rfl (by decide) rfl (Nat.le_of_ble_eq_true rfl) dX3_opens_11 rfl ?_
    refine q_iconst 15 hX dX3_opens_14 rfl kI_0 ?_
    exact q_zret hX (by decide) (eqi hq hres) dX3_opens_15
theorem cX3_opens9 {l : Launch} {w : WD} (hj : Dj w 0 55) {rr : Int32 × St} {S : St} {x1 : Int32} (hres : fX3_opens S x1 = some rr) : Ct l yX3_opens cX3_opens 2 (some .boolean) 2 w 0 55 [.ref (w.1 7), .int x1] S (some (.int rr.1), rr.2) := by
  refine Ct.of (lv := [(0, .ref (w.1 7)), (1, .int x1)]) hj (by decide +kernel) (Nat.le_of_ble_eq_true rfl) rfl ?_
  rintro X rfl rfl hq hX
  exact wfX3_opens hX hq hres
def fX3_comparisonOf (S : St) (x0 : Int32) : Option (Int32 × St) :=
  if x0 = (60 : Int32) then (some ((8 : Int32), S)) else (if x0 = (62 : Int32) then (some ((9 : Int32), S)) else (if x0 = (61 : Int32) then (some ((10 : Int32), S)) else (some ((-1 : Int32), S))))
theorem wfX3_comparisonOf {X : CX} (hX : Ok RX3 cX3_comparisonOf (some .int) 0 55 1 X) {rr : Int32 × St} (hq : rs X = (some (.int rr.1), rr.2)) {S : St} {x0 : Int32} (hres : fX3_comparisonOf S x0 = some rr) : Wat 0 55 0 1 X 0 [(0, .int x0)] [] S := by
  unfold fX3_comparisonOf at hres
  refine q_iload_n 1 hX 0 dX3_comparisonOf_0 rfl rfl rfl ?_
  refine q_bipush 3 hX dX3_comparisonOf_1 rfl kB_60 ?_
  refine q_icmp_ne 6 hX 11 dX3_comparisonOf_3 rfl (by decide) (fun hc => ?_) (fun hc => ?_)
  · have hres := it_f hc hres
    refine q_iload_n 12 hX 0 dX3_comparisonOf_11 rfl rfl rfl ?_
    refine q_bipush 14 hX dX3_comparisonOf_12 rfl kB_62 ?_
    refine q_icmp_ne 17 hX 22 dX3_comparisonOf_14 rfl (by decide) (fun hc => ?_) (fun hc => ?_)
    · have hres := it_f hc hres
      refine q_iload_n 23 hX 0 dX3_comparisonOf_22 rfl rfl rfl ?_
      refine q_bipush 25 hX dX3_comparisonOf_23 rfl kB_61 ?_
      refine q_icmp_ne 28 hX 33 dX3_comparisonOf_25 rfl (by decide) (fun hc => ?_) (fun hc => ?_)
      · have hres := it_f hc hres
        refine q_iconst 34 hX dX3_comparisonOf_33 rfl kI_m1 ?_
        exact q_iret hX (eqi hq hres) dX3_comparisonOf_34
      · have hres := it_t hc hres
        refine q_bipush 30 hX dX3_comparisonOf_28 rfl kB_10 ?_
        refine q_goto 34 hX dX3_comparisonOf_30 (by decide) ?_
        exact q_iret hX (eqi hq hres) dX3_comparisonOf_34
    · have hres := it_t hc hres
      refine q_bipush 19 hX dX3_comparisonOf_17 rfl kB_9 ?_
      refine q_goto 34 hX dX3_comparisonOf_19 (by decide) ?_
      exact q_iret hX (eqi hq hres) dX3_comparisonOf_34
  · have hres := it_t hc hres
    refine q_bipush 8 hX dX3_comparisonOf_6 rfl kB_8 ?_
    refine q_goto 34 hX dX3_comparisonOf_8 (by decide) ?_
    exact q_iret hX (eqi hq hres) dX3_comparisonOf_34
theorem cX3_comparisonOf9 {l : Launch} {w : WD} (hj : Dj w 0 55) {rr : Int32 × St} {S : St} {x0 : Int32} (hres : fX3_comparisonOf S x0 = some rr) : Ct l yX3_comparisonOf cX3_comparisonOf 1 (some .int) 0 w 0 55 [.int x0] S (some (.int rr.1), rr.2) := by
  refine Ct.of (lv := [(0, .int x0)]) hj (by decide +kernel) (Nat.le_of_ble_eq_true rfl) rfl ?_
  rintro X rfl rfl hq hX
  exact wfX3_comparisonOf hX hq hres
def fX3_sumOf (S : St) (x0 : Int32) : Option (Int32 × St) :=
  if x0 = (43 : Int32) then (some ((3 : Int32), S)) else (if x0 = (45 : Int32) then (some ((4 : Int32), S)) else (some ((-1 : Int32), S)))
theorem wfX3_sumOf {X : CX} (hX : Ok RX3 cX3_sumOf (some .int) 0 55 1 X) {rr : Int32 × St} (hq : rs X = (some (.int rr.1), rr.2)) {S : St} {x0 : Int32} (hres : fX3_sumOf S x0 = some rr) : Wat 0 55 0 1 X 0 [(0, .int x0)] [] S := by
  unfold fX3_sumOf at hres
  refine q_iload_n 1 hX 0 dX3_sumOf_0 rfl rfl rfl ?_
  refine q_bipush 3 hX dX3_sumOf_1 rfl kB_43 ?_
  refine q_icmp_ne 6 hX 10 dX3_sumOf_3 rfl (by decide) (fun hc => ?_) (fun hc => ?_)
  · have hres := it_f hc hres
    refine q_iload_n 11 hX 0 dX3_sumOf_10 rfl rfl rfl ?_
    refine q_bipush 13 hX dX3_sumOf_11 rfl kB_45 ?_
    refine q_icmp_ne 16 hX 20 dX3_sumOf_13 rfl (by decide) (fun hc => ?_) (fun hc => ?_)
    · have hres := it_f hc hres
      refine q_iconst 21 hX dX3_sumOf_20 rfl kI_m1 ?_
      exact q_iret hX (eqi hq hres) dX3_sumOf_21
    · have hres := it_t hc hres
      refine q_iconst 17 hX dX3_sumOf_16 rfl kI_4 ?_
      refine q_goto 21 hX dX3_sumOf_17 (by decide) ?_
      exact q_iret hX (eqi hq hres) dX3_sumOf_21
  · have hres := it_t hc hres
    refine q_iconst 7 hX dX3_sumOf_6 rfl kI_3 ?_
    refine q_goto 21 hX dX3_sumOf_7 (by decide) ?_
    exact q_iret hX (eqi hq hres) dX3_sumOf_21
theorem cX3_sumOf9 {l : Launch} {w : WD} (hj : Dj w 0 55) {rr : Int32 × St} {S : St} {x0 : Int32} (hres : fX3_sumOf S x0 = some rr) : Ct l yX3_sumOf cX3_sumOf 1 (some .int) 0 w 0 55 [.int x0] S (some (.int rr.1), rr.2) := by
  refine Ct.of (lv := [(0, .int x0)]) hj (by decide +kernel) (Nat.le_of_ble_eq_true rfl) rfl ?_
  rintro X rfl rfl hq hX
  exact wfX3_sumOf hX hq hres
def fX3_productOf (S : St) (x0 : Int32) : Option (Int32 × St) :=
  if x0 = (42 : Int32) then (some ((5 : Int32), S)) else (if x0 = (47 : Int32) then (some ((6 : Int32), S)) else (if x0 = (37 : Int32) then (some ((7 : Int32), S)) else (some ((-1 : Int32), S))))
theorem wfX3_productOf {X : CX} (hX : Ok RX3 cX3_productOf (some .int) 0 55 1 X) {rr : Int32 × St} (hq : rs X = (some (.int rr.1), rr.2)) {S : St} {x0 : Int32} (hres : fX3_productOf S x0 = some rr) : Wat 0 55 0 1 X 0 [(0, .int x0)] [] S := by
  unfold fX3_productOf at hres
  refine q_iload_n 1 hX 0 dX3_productOf_0 rfl rfl rfl ?_
  refine q_bipush 3 hX dX3_productOf_1 rfl kB_42 ?_
  refine q_icmp_ne 6 hX 10 dX3_productOf_3 rfl (by decide) (fun hc => ?_) (fun hc => ?_)
  · have hres := it_f hc hres
    refine q_iload_n 11 hX 0 dX3_productOf_10 rfl rfl rfl ?_
    refine q_bipush 13 hX dX3_productOf_11 rfl kB_47 ?_
    refine q_icmp_ne 16 hX 21 dX3_productOf_13 rfl (by decide) (fun hc => ?_) (fun hc => ?_)
    · have hres := it_f hc hres
      refine q_iload_n 22 hX 0 dX3_productOf_21 rfl rfl rfl ?_
      refine q_bipush 24 hX dX3_productOf_22 rfl kB_37 ?_
      refine q_icmp_ne 27 hX 32 dX3_productOf_24 rfl (by decide) (fun hc => ?_) (fun hc => ?_)
      · have hres := it_f hc hres
        refine q_iconst 33 hX dX3_productOf_32 rfl kI_m1 ?_
        exact q_iret hX (eqi hq hres) dX3_productOf_33
      · have hres := it_t hc hres
        refine q_bipush 29 hX dX3_productOf_27 rfl kB_7 ?_
        refine q_goto 33 hX dX3_productOf_29 (by decide) ?_
        exact q_iret hX (eqi hq hres) dX3_productOf_33
    · have hres := it_t hc hres
      refine q_bipush 18 hX dX3_productOf_16 rfl kB_6 ?_
      refine q_goto 33 hX dX3_productOf_18 (by decide) ?_
      exact q_iret hX (eqi hq hres) dX3_productOf_33
  · have hres := it_t hc hres
    refine q_iconst 7 hX dX3_productOf_6 rfl kI_5 ?_
    refine q_goto 33 hX dX3_productOf_7 (by decide) ?_
    exact q_iret hX (eqi hq hres) dX3_productOf_33
theorem cX3_productOf9 {l : Launch} {w : WD} (hj : Dj w 0 55) {rr : Int32 × St} {S : St} {x0 : Int32} (hres : fX3_productOf S x0 = some rr) : Ct l yX3_productOf cX3_productOf 1 (some .int) 0 w 0 55 [.int x0] S (some (.int rr.1), rr.2) := by
  refine Ct.of (lv := [(0, .int x0)]) hj (by decide +kernel) (Nat.le_of_ble_eq_true rfl) rfl ?_
  rintro X rfl rfl hq hX
  exact wfX3_productOf hX hq hres
def fX3_letterOf (S : St) (x0 : Int32) : Option (Int32 × St) :=
  if x0 ≤ 0 then (some ((-1 : Int32), S)) else (bi (fJ0_indexOf_0f7a4 S ((x0.toUInt32 % 65536).toInt32)) fun r2 S1 => some (r2, S1))
theorem wfX3_letterOf {X : CX} (hX : Ok RX3 cX3_letterOf (some .int) 0 55 1 X) {rr : Int32 × St} (hq : rs X = (some (.int rr.1), rr.2)) {S : St} {x0 : Int32} (hres : fX3_letterOf S x0 = some rr) : Wat 0 55 4 1 X 0 [(0, .int x0)] [] S := by
  unfold fX3_letterOf at hres
  refine q_iload_n 1 hX 0 dX3_letterOf_0 rfl rfl rfl ?_
  refine q_if_le 4 hX 14 dX3_letterOf_1 rfl (by decide) (fun hc => ?_) (fun hc => ?_)
  · have hres := it_t hc hres
    refine q_iconst 15 hX dX3_letterOf_14 rfl kI_m1 ?_
    exact q_iret hX (eqi hq hres) dX3_letterOf_15
  · have hres := it_f hc hres
    refine q_ldcS 6 hX dX3_letterOf_4 rfl ?_
    refine q_iload_n 7 hX 0 dX3_letterOf_6 rfl rfl rfl ?_
    refine q_i2c 8 hX dX3_letterOf_7 rfl ?_
    obtain ⟨r2, S1, hk1, hres⟩ := ob hres
    refine q_callKi 11 (st := []) (As := [.int (x0.toUInt32 % 65536).toInt32]) hX (cJ0_indexOf_0f7a49 hX.dj hk1) cv_RX3_108 rfl (by decide) rfl (Nat.le_of_ble_eq_true rfl) dX3_letterOf_8 rfl ?_
    refine q_goto 15 hX dX3_letterOf_11 (by decide) ?_
    exact q_iret hX (eqi hq hres) dX3_letterOf_15
theorem cX3_letterOf9 {l : Launch} {w : WD} (hj : Dj w 0 55) {rr : Int32 × St} {S : St} {x0 : Int32} (hres : fX3_letterOf S x0 = some rr) : Ct l yX3_letterOf cX3_letterOf 1 (some .int) 4 w 0 55 [.int x0] S (some (.int rr.1), rr.2) := by
  refine Ct.of (lv := [(0, .int x0)]) hj (by decide +kernel) (Nat.le_of_ble_eq_true rfl) rfl ?_
  rintro X rfl rfl hq hX
  exact wfX3_letterOf hX hq hres
def bX3_readChoice_8 (rg : Nat → Nat → St → Int32 → Option St) (o1 : Nat) (rc8 : St → Int32 → Int32 → Option (St)) (S : St) (x2 : Int32) (x3 : Int32) : Option (St) :=
  if (240 : Int32) ≤ x3 then (some S) else (bi (fX0_fine S) fun r2 S1 => if r2 = 0 then (some S1) else (if (S1.1 3 3) = (124 : Int32) then (bv (fX0_step S1) fun S2 => bi (fX2_addStep o1 S2 (12 : Int32) (0 : Int32)) fun r5 S3 => bv (rg 1 o1 S3 x2) fun S4 => bv (fX2_aimHere o1 S4 r5) fun S5 => bV (x3 + (1 : Int32)) fun v8 => rc8 S5 x2 v8) else (some S1)))
theorem wbX3_readChoice_8 {X : CX} (hX : Ok RX3 cX3_readChoice none 0 55 5 X) {o1 : Nat} (ho1 : isL o1) {k9 : Nat} {rg : Nat → Nat → St → Int32 → Option St} (hg0 : ∀ {o1 : Nat} (ho1 : isL o1) {rr : St} {S : St} {x2 : Int32}, rg 0 o1 S x2 = some rr → Ct X.1 yX3_readChoice cX3_readChoice 5 none (5 + k9) X.2.1 0 55 [.ref (X.2.1.1 7), .ref (X.2.1.1 o1), .int x2] S (none, rr)) (hg1 : ∀ {o1 : Nat} (ho1 : isL o1) {rr : St} {S : St} {x2 : Int32}, rg 1 o1 S x2 = some rr → Ct X.1 yX3_readPart cX3_readPart 5 none (5 + k9) X.2.1 0 55 [.ref (X.2.1.1 7), .ref (X.2.1.1 o1), .int x2] S (none, rr)) (hg2 : ∀ {o1 : Nat} (ho1 : isL o1) {rr : St} {S : St} {x2 : Int32}, rg 2 o1 S x2 = some rr → Ct X.1 yX3_readTest cX3_readTest 5 none (5 + k9) X.2.1 0 55 [.ref (X.2.1.1 7), .ref (X.2.1.1 o1), .int x2] S (none, rr)) (hg3 : ∀ {o1 : Nat} (ho1 : isL o1) {rr : St} {S : St} {x2 : Int32}, rg 3 o1 S x2 = some rr → Ct X.1 yX3_readSum cX3_readSum 5 none (5 + k9) X.2.1 0 55 [.ref (X.2.1.1 7), .ref (X.2.1.1 o1), .int x2] S (none, rr)) (hg4 : ∀ {o1 : Nat} (ho1 : isL o1) {rr : St} {S : St} {x2 : Int32}, rg 4 o1 S x2 = some rr → Ct X.1 yX3_readTerm cX3_readTerm 5 none (5 + k9) X.2.1 0 55 [.ref (X.2.1.1 7), .ref (X.2.1.1 o1), .int x2] S (none, rr)) (hg5 : ∀ {o1 : Nat} (ho1 : isL o1) {rr : St} {S : St} {x2 : Int32}, rg 5 o1 S x2 = some rr → Ct X.1 yX3_readFactor cX3_readFactor 4 none (5 + k9) X.2.1 0 55 [.ref (X.2.1.1 7), .ref (X.2.1.1 o1), .int x2] S (none, rr)) {rr : St} (hq : rs X = (none, rr)) {rc8 : St → Int32 → Int32 → Option (St)} (hrc8 : ∀ (S : St) (x2 : Int32) (x3 : Int32), rc8 S x2 x3 = some rr → Wat 0 55 (5 + k9 + 1) 5 X 8 [(0, .ref (ad X 7)), (1, .ref (ad X o1)), (2, .int x2), (3, .int x3)] [] S) {S : St} {x2 : Int32} {x3 : Int32} (hres : bX3_readChoice_8 rg o1 rc8 S x2 x3 = some rr) : Wat 0 55 (5 + k9 + 1) 5 X 8 [(0, .ref (ad X 7)), (1, .ref (ad X o1)), (2, .int x2), (3, .int x3)] [] S := by
  unfold bX3_readChoice_8 at hres
  refine q_iload_n 9 hX 3 dX3_readChoice_8 rfl rfl rfl ?_
  refine q_sipush 12 hX dX3_readChoice_9 rfl kS_240 ?_
  refine q_icmp_ge 15 hX 71 dX3_readChoice_12 rfl (by decide) (fun hc => ?_) (fun hc => ?_)
  · have hres := it_t hc hres
    exact q_vret hX (eqv hq hres) dX3_readChoice_71
  · have hres := it_f hc hres
    refine q_aload_n 16 hX 0 dX3_readChoice_15 rfl rfl rfl ?_
    refine q_getR 19 hX ci3 lf_RX3_9 fR_7_0 dX3_readChoice_16 rfl ?_
    obtain ⟨r2, S1, hk1, hres⟩ := ob hres
    refine q_callVi 22 (st := []) (As := []) hX (cX0_fine9 hX.dj hk1) cv_RX3_34 ci0 oB_3 rfl (by omega) rfl (Nat.le_of_ble_eq_true rfl) dX3_readChoice_19 rfl ?_
    refine q_if_eq 25 hX 71 dX3_readChoice_22 rfl (by decide) (fun hc => ?_) (fun hc => ?_)
    · have hres := it_t hc hres
      exact q_vret hX (eqv hq hres) dX3_readChoice_71
    · have hres := it_f hc hres
      refine q_aload_n 26 hX 0 dX3_readChoice_25 rfl rfl rfl ?_
      refine q_getR 29 hX ci3 lf_RX3_9 fR_7_0 dX3_readChoice_26 rfl ?_
      refine q_getI 32 hX ci0 lf_RX3_41 fI_3_3 dX3_readChoice_29 rfl ?_
      refine q_bipush 34 hX dX3_readChoice_32 rfl kB_124 ?_
      refine q_icmp_ne 37 hX 71 dX3_readChoice_34 rfl (by decide) (fun hc => ?_) (fun hc => ?_)
      · have hres := it_f hc hres
        exact q_vret hX (eqv hq hres) dX3_readChoice_71
      · have hres := it_t hc hres
        refine q_aload_n 38 hX 0 dX3_readChoice_37 rfl rfl rfl ?_
        refine q_getR 41 hX ci3 lf_RX3_9 fR_7_0 dX3_readChoice_38 rfl ?_
        obtain ⟨S2, hk3, hres⟩ := obv hres
        refine q_callVv 44 (st := []) (As := []) hX (cX0_step9 hX.dj hk3) cv_RX3_47 ci0 oB_3 rfl (by omega) rfl (Nat.le_of_ble_eq_true rfl) dX3_readChoice_41 rfl ?_
        refine q_aload_n 45 hX 1 dX3_readChoice_44 rfl rfl rfl ?_
        refine q_bipush 47 hX dX3_readChoice_45 rfl kB_12 ?_
        refine q_iconst 48 hX dX3_readChoice_47 rfl kI_0 ?_
        obtain ⟨r5, S3, hk4, hres⟩ := ob hres
        refine q_callVi 51 (st := []) (As := [.int (12 : Int32), .int (0 : Int32)]) hX (cX2_addStep9 hX.dj ho1 hk4) cv_RX3_57 ci2 (oB_L ho1) rfl (by omega) rfl (Nat.le_of_ble_eq_true rfl) dX3_readChoice_48 rfl ?_
        refine q_istore 53 (lv' := [(4, .int r5), (0, .ref (ad X 7)), (1, .ref (ad X o1)), (2, .int x2), (3, .int x3)]) hX dX3_readChoice_51 rfl (by decide) rfl ?_
        refine q_aload_n 54 hX 1 dX3_readChoice_53 rfl rfl rfl ?_
        refine q_aload_n 55 hX 2 dX3_readChoice_54 rfl rfl rfl ?_
        refine q_iload_n 56 hX 3 dX3_readChoice_55 rfl rfl rfl ?_
        obtain ⟨S4, hk6, hres⟩ := obv hres
        refine q_callVv 59 (st := []) (As := [.ref (ad X o1), .int x2]) hX (hg1 ho1 hk6) cv_RX3_71 ci3 oB_7 rfl (by omega) rfl (Nat.le_of_ble_eq_true rfl) dX3_readChoice_56 rfl ?_
        refine q_aload_n 60 hX 2 dX3_readChoice_59 rfl rfl rfl ?_
        refine q_iload 62 hX 0 dX3_readChoice_60 rfl rfl ?_
        obtain ⟨S5, hk7, hres⟩ := obv hres
        refine q_callVv 65 (st := []) (As := [.int r5]) hX (cX2_aimHere9 hX.dj ho1 hk7) cv_RX3_74 ci2 (oB_L ho1) rfl (by omega) rfl (Nat.le_of_ble_eq_true rfl) dX3_readChoice_62 rfl ?_
        refine q_iincB 68 4 (lv0 := [(4, .int r5), (0, .ref (ad X 7)), (1, .ref (ad X o1)), (2, .int x2)]) hX dX3_readChoice_65 rfl rfl kI_1 (by decide) rfl hres (fun v8 hres => ?_)
        refine q_goto 8 hX dX3_readChoice_68 (by decide) ?_
        exact q_sub [2, 3, 4, 0] rfl (hrc8 _ _ _ hres)
def fX3_readChoice_8 (rg : Nat → Nat → St → Int32 → Option St) (o1 : Nat) : Nat → St → Int32 → Int32 → Option (St)
  | 0 => fun _ _ _ => none
  | k + 1 => fun S x2 x3 => bX3_readChoice_8 rg o1 (fX3_readChoice_8 rg o1 k) S x2 x3
theorem wfX3_readChoice_8 {X : CX} (hX : Ok RX3 cX3_readChoice none 0 55 5 X) {o1 : Nat} (ho1 : isL o1) {k9 : Nat} {rg : Nat → Nat → St → Int32 → Option St} (hg0 : ∀ {o1 : Nat} (ho1 : isL o1) {rr : St} {S : St} {x2 : Int32}, rg 0 o1 S x2 = some rr → Ct X.1 yX3_readChoice cX3_readChoice 5 none (5 + k9) X.2.1 0 55 [.ref (X.2.1.1 7), .ref (X.2.1.1 o1), .int x2] S (none, rr)) (hg1 : ∀ {o1 : Nat} (ho1 : isL o1) {rr : St} {S : St} {x2 : Int32}, rg 1 o1 S x2 = some rr → Ct X.1 yX3_readPart cX3_readPart 5 none (5 + k9) X.2.1 0 55 [.ref (X.2.1.1 7), .ref (X.2.1.1 o1), .int x2] S (none, rr)) (hg2 : ∀ {o1 : Nat} (ho1 : isL o1) {rr : St} {S : St} {x2 : Int32}, rg 2 o1 S x2 = some rr → Ct X.1 yX3_readTest cX3_readTest 5 none (5 + k9) X.2.1 0 55 [.ref (X.2.1.1 7), .ref (X.2.1.1 o1), .int x2] S (none, rr)) (hg3 : ∀ {o1 : Nat} (ho1 : isL o1) {rr : St} {S : St} {x2 : Int32}, rg 3 o1 S x2 = some rr → Ct X.1 yX3_readSum cX3_readSum 5 none (5 + k9) X.2.1 0 55 [.ref (X.2.1.1 7), .ref (X.2.1.1 o1), .int x2] S (none, rr)) (hg4 : ∀ {o1 : Nat} (ho1 : isL o1) {rr : St} {S : St} {x2 : Int32}, rg 4 o1 S x2 = some rr → Ct X.1 yX3_readTerm cX3_readTerm 5 none (5 + k9) X.2.1 0 55 [.ref (X.2.1.1 7), .ref (X.2.1.1 o1), .int x2] S (none, rr)) (hg5 : ∀ {o1 : Nat} (ho1 : isL o1) {rr : St} {S : St} {x2 : Int32}, rg 5 o1 S x2 = some rr → Ct X.1 yX3_readFactor cX3_readFactor 4 none (5 + k9) X.2.1 0 55 [.ref (X.2.1.1 7), .ref (X.2.1.1 o1), .int x2] S (none, rr)) {rr : St} (hq : rs X = (none, rr)) (k : Nat) : ∀ (S : St) (x2 : Int32) (x3 : Int32), fX3_readChoice_8 rg o1 k S x2 x3 = some rr → Wat 0 55 (5 + k9 + 1) 5 X 8 [(0, .ref (ad X 7)), (1, .ref (ad X o1)), (2, .int x2), (3, .int x3)] [] S := by
  induction k with
  | zero => intro S x2 x3 hres; exact absurd hres (by simp [fX3_readChoice_8])
  | succ k ih => intro S x2 x3 hres; exact wbX3_readChoice_8 hX ho1 hg0 hg1 hg2 hg3 hg4 hg5 hq ih hres
def fX3_readChoice (rg : Nat → Nat → St → Int32 → Option St) (o1 : Nat) (S : St) (x2 : Int32) : Option (St) :=
  bv (rg 1 o1 S x2) fun S1 => fX3_readChoice_8 rg o1 100 S1 x2 (0 : Int32)
theorem wfX3_readChoice {X : CX} (hX : Ok RX3 cX3_readChoice none 0 55 5 X) {o1 : Nat} (ho1 : isL o1) {k9 : Nat} {rg : Nat → Nat → St → Int32 → Option St} (hg0 : ∀ {o1 : Nat} (ho1 : isL o1) {rr : St} {S : St} {x2 : Int32}, rg 0 o1 S x2 = some rr → Ct X.1 yX3_readChoice cX3_readChoice 5 none (5 + k9) X.2.1 0 55 [.ref (X.2.1.1 7), .ref (X.2.1.1 o1), .int x2] S (none, rr)) (hg1 : ∀ {o1 : Nat} (ho1 : isL o1) {rr : St} {S : St} {x2 : Int32}, rg 1 o1 S x2 = some rr → Ct X.1 yX3_readPart cX3_readPart 5 none (5 + k9) X.2.1 0 55 [.ref (X.2.1.1 7), .ref (X.2.1.1 o1), .int x2] S (none, rr)) (hg2 : ∀ {o1 : Nat} (ho1 : isL o1) {rr : St} {S : St} {x2 : Int32}, rg 2 o1 S x2 = some rr → Ct X.1 yX3_readTest cX3_readTest 5 none (5 + k9) X.2.1 0 55 [.ref (X.2.1.1 7), .ref (X.2.1.1 o1), .int x2] S (none, rr)) (hg3 : ∀ {o1 : Nat} (ho1 : isL o1) {rr : St} {S : St} {x2 : Int32}, rg 3 o1 S x2 = some rr → Ct X.1 yX3_readSum cX3_readSum 5 none (5 + k9) X.2.1 0 55 [.ref (X.2.1.1 7), .ref (X.2.1.1 o1), .int x2] S (none, rr)) (hg4 : ∀ {o1 : Nat} (ho1 : isL o1) {rr : St} {S : St} {x2 : Int32}, rg 4 o1 S x2 = some rr → Ct X.1 yX3_readTerm cX3_readTerm 5 none (5 + k9) X.2.1 0 55 [.ref (X.2.1.1 7), .ref (X.2.1.1 o1), .int x2] S (none, rr)) (hg5 : ∀ {o1 : Nat} (ho1 : isL o1) {rr : St} {S : St} {x2 : Int32}, rg 5 o1 S x2 = some rr → Ct X.1 yX3_readFactor cX3_readFactor 4 none (5 + k9) X.2.1 0 55 [.ref (X.2.1.1 7), .ref (X.2.1.1 o1), .int x2] S (none, rr)) {rr : St} (hq : rs X = (none, rr)) {S : St} {x2 : Int32} (hres : fX3_readChoice rg o1 S x2 = some rr) : Wat 0 55 (5 + k9 + 1) 5 X 0 [(0, .ref (ad X 7)), (1, .ref (ad X o1)), (2, .int x2)] [] S := by
  unfold fX3_readChoice at hres
  refine q_aload_n 1 hX 0 dX3_readChoice_0 rfl rfl rfl ?_
  refine q_aload_n 2 hX 1 dX3_readChoice_1 rfl rfl rfl ?_
  refine q_iload_n 3 hX 2 dX3_readChoice_2 rfl rfl rfl ?_
  obtain ⟨S1, hk1, hres⟩ := obv hres
  refine q_callVv 6 (st := []) (As := [.ref (ad X o1), .int x2]) hX (hg1 ho1 hk1) cv_RX3_71 ci3 oB_7 rfl (by omega) rfl (Nat.le_of_ble_eq_true rfl) dX3_readChoice_3 rfl ?_
  refine q_iconst 7 hX dX3_readChoice_6 rfl kI_0 ?_
  refine q_istore_n 8 (lv' := [(3, .int (0 : Int32)), (0, .ref (ad X 7)), (1, .ref (ad X o1)), (2, .int x2)]) hX dX3_readChoice_7 rfl rfl (by decide) rfl ?_
  exact q_sub [1, 2, 3, 0] rfl (wfX3_readChoice_8 hX ho1 hg0 hg1 hg2 hg3 hg4 hg5 hq _ _ _ _ hres)
def bX3_readPart_8 (rg : Nat → Nat → St → Int32 → Option St) (o1 : Nat) (rc8 : St → Int32 → Int32 → Option (St)) (S : St) (x2 : Int32) (x3 : Int32) : Option (St) :=
  if (240 : Int32) ≤ x3 then (some S) else (bi (fX0_fine S) fun r2 S1 => if r2 = 0 then (some S1) else (if (S1.1 3 3) = (38 : Int32) then (bv (fX0_step S1) fun S2 => bi (fX2_addStep o1 S2 (13 : Int32) (0 : Int32)) fun r5 S3 => bv (rg 2 o1 S3 x2) fun S4 => bv (fX2_aimHere o1 S4 r5) fun S5 => bV (x3 + (1 : Int32)) fun v8 => rc8 S5 x2 v8) else (some S1)))
theorem wbX3_readPart_8 {X : CX} (hX : Ok RX3 cX3_readPart none 0 55 5 X) {o1 : Nat} (ho1 : isL o1) {k9 : Nat} {rg : Nat → Nat → St → Int32 → Option St} (hg0 : ∀ {o1 : Nat} (ho1 : isL o1) {rr : St} {S : St} {x2 : Int32}, rg 0 o1 S x2 = some rr → Ct X.1 yX3_readChoice cX3_readChoice 5 none (5 + k9) X.2.1 0 55 [.ref (X.2.1.1 7), .ref (X.2.1.1 o1), .int x2] S (none, rr)) (hg1 : ∀ {o1 : Nat} (ho1 : isL o1) {rr : St} {S : St} {x2 : Int32}, rg 1 o1 S x2 = some rr → Ct X.1 yX3_readPart cX3_readPart 5 none (5 + k9) X.2.1 0 55 [.ref (X.2.1.1 7), .ref (X.2.1.1 o1), .int x2] S (none, rr)) (hg2 : ∀ {o1 : Nat} (ho1 : isL o1) {rr : St} {S : St} {x2 : Int32}, rg 2 o1 S x2 = some rr → Ct X.1 yX3_readTest cX3_readTest 5 none (5 + k9) X.2.1 0 55 [.ref (X.2.1.1 7), .ref (X.2.1.1 o1), .int x2] S (none, rr)) (hg3 : ∀ {o1 : Nat} (ho1 : isL o1) {rr : St} {S : St} {x2 : Int32}, rg 3 o1 S x2 = some rr → Ct X.1 yX3_readSum cX3_readSum 5 none (5 + k9) X.2.1 0 55 [.ref (X.2.1.1 7), .ref (X.2.1.1 o1), .int x2] S (none, rr)) (hg4 : ∀ {o1 : Nat} (ho1 : isL o1) {rr : St} {S : St} {x2 : Int32}, rg 4 o1 S x2 = some rr → Ct X.1 yX3_readTerm cX3_readTerm 5 none (5 + k9) X.2.1 0 55 [.ref (X.2.1.1 7), .ref (X.2.1.1 o1), .int x2] S (none, rr)) (hg5 : ∀ {o1 : Nat} (ho1 : isL o1) {rr : St} {S : St} {x2 : Int32}, rg 5 o1 S x2 = some rr → Ct X.1 yX3_readFactor cX3_readFactor 4 none (5 + k9) X.2.1 0 55 [.ref (X.2.1.1 7), .ref (X.2.1.1 o1), .int x2] S (none, rr)) {rr : St} (hq : rs X = (none, rr)) {rc8 : St → Int32 → Int32 → Option (St)} (hrc8 : ∀ (S : St) (x2 : Int32) (x3 : Int32), rc8 S x2 x3 = some rr → Wat 0 55 (5 + k9 + 1) 5 X 8 [(0, .ref (ad X 7)), (1, .ref (ad X o1)), (2, .int x2), (3, .int x3)] [] S) {S : St} {x2 : Int32} {x3 : Int32} (hres : bX3_readPart_8 rg o1 rc8 S x2 x3 = some rr) : Wat 0 55 (5 + k9 + 1) 5 X 8 [(0, .ref (ad X 7)), (1, .ref (ad X o1)), (2, .int x2), (3, .int x3)] [] S := by
  unfold bX3_readPart_8 at hres
  refine q_iload_n 9 hX 3 dX3_readPart_8 rfl rfl rfl ?_
  refine q_sipush 12 hX dX3_readPart_9 rfl kS_240 ?_
  refine q_icmp_ge 15 hX 71 dX3_readPart_12 rfl (by decide) (fun hc => ?_) (fun hc => ?_)
  · have hres := it_t hc hres
    exact q_vret hX (eqv hq hres) dX3_readPart_71
  · have hres := it_f hc hres
    refine q_aload_n 16 hX 0 dX3_readPart_15 rfl rfl rfl ?_
    refine q_getR 19 hX ci3 lf_RX3_9 fR_7_0 dX3_readPart_16 rfl ?_
    obtain ⟨r2, S1, hk1, hres⟩ := ob hres
    refine q_callVi 22 (st := []) (As := []) hX (cX0_fine9 hX.dj hk1) cv_RX3_34 ci0 oB_3 rfl (by omega) rfl (Nat.le_of_ble_eq_true rfl) dX3_readPart_19 rfl ?_
    refine q_if_eq 25 hX 71 dX3_readPart_22 rfl (by decide) (fun hc => ?_) (fun hc => ?_)
    · have hres := it_t hc hres
      exact q_vret hX (eqv hq hres) dX3_readPart_71
    · have hres := it_f hc hres
      refine q_aload_n 26 hX 0 dX3_readPart_25 rfl rfl rfl ?_
      refine q_getR 29 hX ci3 lf_RX3_9 fR_7_0 dX3_readPart_26 rfl ?_
      refine q_getI 32 hX ci0 lf_RX3_41 fI_3_3 dX3_readPart_29 rfl ?_
      refine q_bipush 34 hX dX3_readPart_32 rfl kB_38 ?_
      refine q_icmp_ne 37 hX 71 dX3_readPart_34 rfl (by decide) (fun hc => ?_) (fun hc => ?_)
      · have hres := it_f hc hres
        exact q_vret hX (eqv hq hres) dX3_readPart_71
      · have hres := it_t hc hres
        refine q_aload_n 38 hX 0 dX3_readPart_37 rfl rfl rfl ?_
        refine q_getR 41 hX ci3 lf_RX3_9 fR_7_0 dX3_readPart_38 rfl ?_
        obtain ⟨S2, hk3, hres⟩ := obv hres
        refine q_callVv 44 (st := []) (As := []) hX (cX0_step9 hX.dj hk3) cv_RX3_47 ci0 oB_3 rfl (by omega) rfl (Nat.le_of_ble_eq_true rfl) dX3_readPart_41 rfl ?_
        refine q_aload_n 45 hX 1 dX3_readPart_44 rfl rfl rfl ?_
        refine q_bipush 47 hX dX3_readPart_45 rfl kB_13 ?_
        refine q_iconst 48 hX dX3_readPart_47 rfl kI_0 ?_
        obtain ⟨r5, S3, hk4, hres⟩ := ob hres
        refine q_callVi 51 (st := []) (As := [.int (13 : Int32), .int (0 : Int32)]) hX (cX2_addStep9 hX.dj ho1 hk4) cv_RX3_57 ci2 (oB_L ho1) rfl (by omega) rfl (Nat.le_of_ble_eq_true rfl) dX3_readPart_48 rfl ?_
        refine q_istore 53 (lv' := [(4, .int r5), (0, .ref (ad X 7)), (1, .ref (ad X o1)), (2, .int x2), (3, .int x3)]) hX dX3_readPart_51 rfl (by decide) rfl ?_
        refine q_aload_n 54 hX 1 dX3_readPart_53 rfl rfl rfl ?_
        refine q_aload_n 55 hX 2 dX3_readPart_54 rfl rfl rfl ?_
        refine q_iload_n 56 hX 3 dX3_readPart_55 rfl rfl rfl ?_
        obtain ⟨S4, hk6, hres⟩ := obv hres
        refine q_callVv 59 (st := []) (As := [.ref (ad X o1), .int x2]) hX (hg2 ho1 hk6) cv_RX3_77 ci3 oB_7 rfl (by omega) rfl (Nat.le_of_ble_eq_true rfl) dX3_readPart_56 rfl ?_
        refine q_aload_n 60 hX 2 dX3_readPart_59 rfl rfl rfl ?_
        refine q_iload 62 hX 0 dX3_readPart_60 rfl rfl ?_
        obtain ⟨S5, hk7, hres⟩ := obv hres
        refine q_callVv 65 (st := []) (As := [.int r5]) hX (cX2_aimHere9 hX.dj ho1 hk7) cv_RX3_74 ci2 (oB_L ho1) rfl (by omega) rfl (Nat.le_of_ble_eq_true rfl) dX3_readPart_62 rfl ?_
        refine q_iincB 68 4 (lv0 := [(4, .int r5), (0, .ref (ad X 7)), (1, .ref (ad X o1)), (2, .int x2)]) hX dX3_readPart_65 rfl rfl kI_1 (by decide) rfl hres (fun v8 hres => ?_)
        refine q_goto 8 hX dX3_readPart_68 (by decide) ?_
        exact q_sub [2, 3, 4, 0] rfl (hrc8 _ _ _ hres)
def fX3_readPart_8 (rg : Nat → Nat → St → Int32 → Option St) (o1 : Nat) : Nat → St → Int32 → Int32 → Option (St)
  | 0 => fun _ _ _ => none
  | k + 1 => fun S x2 x3 => bX3_readPart_8 rg o1 (fX3_readPart_8 rg o1 k) S x2 x3
theorem wfX3_readPart_8 {X : CX} (hX : Ok RX3 cX3_readPart none 0 55 5 X) {o1 : Nat} (ho1 : isL o1) {k9 : Nat} {rg : Nat → Nat → St → Int32 → Option St} (hg0 : ∀ {o1 : Nat} (ho1 : isL o1) {rr : St} {S : St} {x2 : Int32}, rg 0 o1 S x2 = some rr → Ct X.1 yX3_readChoice cX3_readChoice 5 none (5 + k9) X.2.1 0 55 [.ref (X.2.1.1 7), .ref (X.2.1.1 o1), .int x2] S (none, rr)) (hg1 : ∀ {o1 : Nat} (ho1 : isL o1) {rr : St} {S : St} {x2 : Int32}, rg 1 o1 S x2 = some rr → Ct X.1 yX3_readPart cX3_readPart 5 none (5 + k9) X.2.1 0 55 [.ref (X.2.1.1 7), .ref (X.2.1.1 o1), .int x2] S (none, rr)) (hg2 : ∀ {o1 : Nat} (ho1 : isL o1) {rr : St} {S : St} {x2 : Int32}, rg 2 o1 S x2 = some rr → Ct X.1 yX3_readTest cX3_readTest 5 none (5 + k9) X.2.1 0 55 [.ref (X.2.1.1 7), .ref (X.2.1.1 o1), .int x2] S (none, rr)) (hg3 : ∀ {o1 : Nat} (ho1 : isL o1) {rr : St} {S : St} {x2 : Int32}, rg 3 o1 S x2 = some rr → Ct X.1 yX3_readSum cX3_readSum 5 none (5 + k9) X.2.1 0 55 [.ref (X.2.1.1 7), .ref (X.2.1.1 o1), .int x2] S (none, rr)) (hg4 : ∀ {o1 : Nat} (ho1 : isL o1) {rr : St} {S : St} {x2 : Int32}, rg 4 o1 S x2 = some rr → Ct X.1 yX3_readTerm cX3_readTerm 5 none (5 + k9) X.2.1 0 55 [.ref (X.2.1.1 7), .ref (X.2.1.1 o1), .int x2] S (none, rr)) (hg5 : ∀ {o1 : Nat} (ho1 : isL o1) {rr : St} {S : St} {x2 : Int32}, rg 5 o1 S x2 = some rr → Ct X.1 yX3_readFactor cX3_readFactor 4 none (5 + k9) X.2.1 0 55 [.ref (X.2.1.1 7), .ref (X.2.1.1 o1), .int x2] S (none, rr)) {rr : St} (hq : rs X = (none, rr)) (k : Nat) : ∀ (S : St) (x2 : Int32) (x3 : Int32), fX3_readPart_8 rg o1 k S x2 x3 = some rr → Wat 0 55 (5 + k9 + 1) 5 X 8 [(0, .ref (ad X 7)), (1, .ref (ad X o1)), (2, .int x2), (3, .int x3)] [] S := by
  induction k with
  | zero => intro S x2 x3 hres; exact absurd hres (by simp [fX3_readPart_8])
  | succ k ih => intro S x2 x3 hres; exact wbX3_readPart_8 hX ho1 hg0 hg1 hg2 hg3 hg4 hg5 hq ih hres
def fX3_readPart (rg : Nat → Nat → St → Int32 → Option St) (o1 : Nat) (S : St) (x2 : Int32) : Option (St) :=
  bv (rg 2 o1 S x2) fun S1 => fX3_readPart_8 rg o1 100 S1 x2 (0 : Int32)
theorem wfX3_readPart {X : CX} (hX : Ok RX3 cX3_readPart none 0 55 5 X) {o1 : Nat} (ho1 : isL o1) {k9 : Nat} {rg : Nat → Nat → St → Int32 → Option St} (hg0 : ∀ {o1 : Nat} (ho1 : isL o1) {rr : St} {S : St} {x2 : Int32}, rg 0 o1 S x2 = some rr → Ct X.1 yX3_readChoice cX3_readChoice 5 none (5 + k9) X.2.1 0 55 [.ref (X.2.1.1 7), .ref (X.2.1.1 o1), .int x2] S (none, rr)) (hg1 : ∀ {o1 : Nat} (ho1 : isL o1) {rr : St} {S : St} {x2 : Int32}, rg 1 o1 S x2 = some rr → Ct X.1 yX3_readPart cX3_readPart 5 none (5 + k9) X.2.1 0 55 [.ref (X.2.1.1 7), .ref (X.2.1.1 o1), .int x2] S (none, rr)) (hg2 : ∀ {o1 : Nat} (ho1 : isL o1) {rr : St} {S : St} {x2 : Int32}, rg 2 o1 S x2 = some rr → Ct X.1 yX3_readTest cX3_readTest 5 none (5 + k9) X.2.1 0 55 [.ref (X.2.1.1 7), .ref (X.2.1.1 o1), .int x2] S (none, rr)) (hg3 : ∀ {o1 : Nat} (ho1 : isL o1) {rr : St} {S : St} {x2 : Int32}, rg 3 o1 S x2 = some rr → Ct X.1 yX3_readSum cX3_readSum 5 none (5 + k9) X.2.1 0 55 [.ref (X.2.1.1 7), .ref (X.2.1.1 o1), .int x2] S (none, rr)) (hg4 : ∀ {o1 : Nat} (ho1 : isL o1) {rr : St} {S : St} {x2 : Int32}, rg 4 o1 S x2 = some rr → Ct X.1 yX3_readTerm cX3_readTerm 5 none (5 + k9) X.2.1 0 55 [.ref (X.2.1.1 7), .ref (X.2.1.1 o1), .int x2] S (none, rr)) (hg5 : ∀ {o1 : Nat} (ho1 : isL o1) {rr : St} {S : St} {x2 : Int32}, rg 5 o1 S x2 = some rr → Ct X.1 yX3_readFactor cX3_readFactor 4 none (5 + k9) X.2.1 0 55 [.ref (X.2.1.1 7), .ref (X.2.1.1 o1), .int x2] S (none, rr)) {rr : St} (hq : rs X = (none, rr)) {S : St} {x2 : Int32} (hres : fX3_readPart rg o1 S x2 = some rr) : Wat 0 55 (5 + k9 + 1) 5 X 0 [(0, .ref (ad X 7)), (1, .ref (ad X o1)), (2, .int x2)] [] S := by
  unfold fX3_readPart at hres
  refine q_aload_n 1 hX 0 dX3_readPart_0 rfl rfl rfl ?_
  refine q_aload_n 2 hX 1 dX3_readPart_1 rfl rfl rfl ?_
  refine q_iload_n 3 hX 2 dX3_readPart_2 rfl rfl rfl ?_
  obtain ⟨S1, hk1, hres⟩ := obv hres
  refine q_callVv 6 (st := []) (As := [.ref (ad X o1), .int x2]) hX (hg2 ho1 hk1) cv_RX3_77 ci3 oB_7 rfl (by omega) rfl (Nat.le_of_ble_eq_true rfl) dX3_readPart_3 rfl ?_
  refine q_iconst 7 hX dX3_readPart_6 rfl kI_0 ?_
  refine q_istore_n 8 (lv' := [(3, .int (0 : Int32)), (0, .ref (ad X 7)), (1, .ref (ad X o1)), (2, .int x2)]) hX dX3_readPart_7 rfl rfl (by decide) rfl ?_
  exact q_sub [1, 2, 3, 0] rfl (wfX3_readPart_8 hX ho1 hg0 hg1 hg2 hg3 hg4 hg5 hq _ _ _ _ hres)
def fX3_readTest_86 (rg : Nat → Nat → St → Int32 → Option St) (o1 : Nat) (S : St) (x2 : Int32) : Option (St) :=
  bi (fX0_fine S) fun r2 S1 => if r2 = 0 then (some S1) else (bv (rg 3 o1 S1 x2) fun S2 => bi (fX3_comparisonOf S2 (S2.1 3 3)) fun r5 S3 => if r5 = (-1 : Int32) then (bv (fX0_failHere S3 (1 : Int32)) fun S7 => some S7) else (bv (fX0_step S3) fun S4 => bv (rg 3 o1 S4 x2) fun S5 => bi (fX2_addStep o1 S5 r5 (0 : Int32)) fun r9 S6 => some S6))
theorem wfX3_readTest_86 {X : CX} (hX : Ok RX3 cX3_readTest none 0 55 5 X) {o1 : Nat} (ho1 : isL o1) {k9 : Nat} {rg : Nat → Nat → St → Int32 → Option St} (hg0 : ∀ {o1 : Nat} (ho1 : isL o1) {rr : St} {S : St} {x2 : Int32}, rg 0 o1 S x2 = some rr → Ct X.1 yX3_readChoice cX3_readChoice 5 none (5 + k9) X.2.1 0 55 [.ref (X.2.1.1 7), .ref (X.2.1.1 o1), .int x2] S (none, rr)) (hg1 : ∀ {o1 : Nat} (ho1 : isL o1) {rr : St} {S : St} {x2 : Int32}, rg 1 o1 S x2 = some rr → Ct X.1 yX3_readPart cX3_readPart 5 none (5 + k9) X.2.1 0 55 [.ref (X.2.1.1 7), .ref (X.2.1.1 o1), .int x2] S (none, rr)) (hg2 : ∀ {o1 : Nat} (ho1 : isL o1) {rr : St} {S : St} {x2 : Int32}, rg 2 o1 S x2 = some rr → Ct X.1 yX3_readTest cX3_readTest 5 none (5 + k9) X.2.1 0 55 [.ref (X.2.1.1 7), .ref (X.2.1.1 o1), .int x2] S (none, rr)) (hg3 : ∀ {o1 : Nat} (ho1 : isL o1) {rr : St} {S : St} {x2 : Int32}, rg 3 o1 S x2 = some rr → Ct X.1 yX3_readSum cX3_readSum 5 none (5 + k9) X.2.1 0 55 [.ref (X.2.1.1 7), .ref (X.2.1.1 o1), .int x2] S (none, rr)) (hg4 : ∀ {o1 : Nat} (ho1 : isL o1) {rr : St} {S : St} {x2 : Int32}, rg 4 o1 S x2 = some rr → Ct X.1 yX3_readTerm cX3_readTerm 5 none (5 + k9) X.2.1 0 55 [.ref (X.2.1.1 7), .ref (X.2.1.1 o1), .int x2] S (none, rr)) (hg5 : ∀ {o1 : Nat} (ho1 : isL o1) {rr : St} {S : St} {x2 : Int32}, rg 5 o1 S x2 = some rr → Ct X.1 yX3_readFactor cX3_readFactor 4 none (5 + k9) X.2.1 0 55 [.ref (X.2.1.1 7), .ref (X.2.1.1 o1), .int x2] S (none, rr)) {rr : St} (hq : rs X = (none, rr)) {S : St} {x2 : Int32} (hres : fX3_readTest_86 rg o1 S x2 = some rr) : Wat 0 55 (5 + k9 + 1) 5 X 86 [(0, .ref (ad X 7)), (1, .ref (ad X o1)), (2, .int x2)] [] S := by
  unfold fX3_readTest_86 at hres
  refine q_aload_n 87 hX 0 dX3_readTest_86 rfl rfl rfl ?_
  refine q_getR 90 hX ci3 lf_RX3_9 fR_7_0 dX3_readTest_87 rfl ?_
  obtain ⟨r2, S1, hk1, hres⟩ := ob hres
  refine q_callVi 93 (st := []) (As := []) hX (cX0_fine9 hX.dj hk1) cv_RX3_34 ci0 oB_3 rfl (by omega) rfl (Nat.le_of_ble_eq_true rfl) dX3_readTest_90 rfl ?_
  refine q_if_eq 96 hX 152 dX3_readTest_93 rfl (by decide) (fun hc => ?_) (fun hc => ?_)
  · have hres := it_t hc hres
    exact q_vret hX (eqv hq hres) dX3_readTest_152
  · have hres := it_f hc hres
    refine q_aload_n 97 hX 0 dX3_readTest_96 rfl rfl rfl ?_
    refine q_aload_n 98 hX 1 dX3_readTest_97 rfl rfl rfl ?_
    refine q_iload_n 99 hX 2 dX3_readTest_98 rfl rfl rfl ?_
    obtain ⟨S2, hk3, hres⟩ := obv hres
    refine q_callVv 102 (st := []) (As := [.ref (ad X o1), .int x2]) hX (hg3 ho1 hk3) cv_RX3_53 ci3 oB_7 rfl (by omega) rfl (Nat.le_of_ble_eq_true rfl) dX3_readTest_99 rfl ?_
    refine q_aload_n 103 hX 0 dX3_readTest_102 rfl rfl rfl ?_
    refine q_getR 106 hX ci3 lf_RX3_9 fR_7_0 dX3_readTest_103 rfl ?_
    refine q_getI 109 hX ci0 lf_RX3_41 fI_3_3 dX3_readTest_106 rfl ?_
    obtain ⟨r5, S3, hk4, hres⟩ := ob hres
    refine q_callSi 112 (st := []) (As := [.int (S2.1 3 3)]) hX (cX3_comparisonOf9 hX.dj hk4) cs_RX3_84 rfl (by omega) rfl (Nat.le_of_ble_eq_true rfl) dX3_readTest_109 rfl ?_
    refine q_istore 114 (lv' := [(4, .int r5), (0, .ref (ad X 7)), (1, .ref (ad X o1)), (2, .int x2)]) hX dX3_readTest_112 rfl (by decide) rfl ?_
    refine q_iload 116 hX 0 dX3_readTest_114 rfl rfl ?_
    refine q_iconst 117 hX dX3_readTest_116 rfl kI_m1 ?_
    refine q_icmp_ne 120 hX 131 dX3_readTest_117 rfl (by decide) (fun hc => ?_) (fun hc => ?_)
    · have hres := it_f hc hres
      refine q_aload_n 132 hX 1 dX3_readTest_131 rfl rfl rfl ?_
      refine q_getR 135 hX ci3 lf_RX3_9 fR_7_0 dX3_readTest_132 rfl ?_
      obtain ⟨S4, hk6, hres⟩ := obv hres
      refine q_callVv 138 (st := []) (As := []) hX (cX0_step9 hX.dj hk6) cv_RX3_47 ci0 oB_3 rfl (by omega) rfl (Nat.le_of_ble_eq_true rfl) dX3_readTest_135 rfl ?_
      refine q_aload_n 139 hX 1 dX3_readTest_138 rfl rfl rfl ?_
      refine q_aload_n 140 hX 2 dX3_readTest_139 rfl rfl rfl ?_
      refine q_iload_n 141 hX 3 dX3_readTest_140 rfl rfl rfl ?_
      obtain ⟨S5, hk7, hres⟩ := obv hres
      refine q_callVv 144 (st := []) (As := [.ref (ad X o1), .int x2]) hX (hg3 ho1 hk7) cv_RX3_53 ci3 oB_7 rfl (by omega) rfl (Nat.le_of_ble_eq_true rfl) dX3_readTest_141 rfl ?_
      refine q_aload_n 145 hX 2 dX3_readTest_144 rfl rfl rfl ?_
      refine q_iload 147 hX 0 dX3_readTest_145 rfl rfl ?_
      refine q_iconst 148 hX dX3_readTest_147 rfl kI_0 ?_
      obtain ⟨r9, S6, hk8, hres⟩ := ob hres
      refine q_callVi 151 (st := []) (As := [.int r5, .int (0 : Int32)]) hX (cX2_addStep9 hX.dj ho1 hk8) cv_RX3_57 ci2 (oB_L ho1) rfl (by omega) rfl (Nat.le_of_ble_eq_true rfl) dX3_readTest_148 rfl ?_
      refine q_pop 152 hX dX3_readTest_151 rfl rfl ?_
      exact q_vret hX (eqv hq hres) dX3_readTest_152
    · have hres := it_t hc hres
      refine q_aload_n 121 hX 1 dX3_readTest_120 rfl rfl rfl ?_
      refine q_getR 124 hX ci3 lf_RX3_9 fR_7_0 dX3_readTest_121 rfl ?_
      refine q_iconst 125 hX dX3_readTest_124 rfl kI_1 ?_
      obtain ⟨S7, hk10, hres⟩ := obv hres
      refine q_callVv 128 (st := []) (As := [.int (1 : Int32)]) hX (cX0_failHere9 hX.dj hk10) cv_RX3_44 ci0 oB_3 rfl (by omega) rfl (Nat.le_of_ble_eq_true rfl) dX3_readTest_125 rfl ?_
      refine q_goto 152 hX dX3_readTest_128 (by decide) ?_
      exact q_vret hX (eqv hq hres) dX3_readTest_152
def fX3_readTest_52 (rg : Nat → Nat → St → Int32 → Option St) (o1 : Nat) (S : St) (x2 : Int32) (x3 : Int32) : Option (St) :=
  if x3 = (40 : Int32) then (bi (fX3_opens S x2) fun r2 S1 => if r2 = 0 then (fX3_readTest_86 rg o1 S1 x2) else (bv (rg 0 o1 S1 (x2 + (1 : Int32))) fun S2 => bv (fX0_expect S2 (41 : Int32)) fun S3 => some S3)) else (fX3_readTest_86 rg o1 S x2)
theorem wfX3_readTest_52 {X : CX} (hX : Ok RX3 cX3_readTest none 0 55 5 X) {o1 : Nat} (ho1 : isL o1) {k9 : Nat} {rg : Nat → Nat → St → Int32 → Option St} (hg0 : ∀ {o1 : Nat} (ho1 : isL o1) {rr : St} {S : St} {x2 : Int32}, rg 0 o1 S x2 = some rr → Ct X.1 yX3_readChoice cX3_readChoice 5 none (5 + k9) X.2.1 0 55 [.ref (X.2.1.1 7), .ref (X.2.1.1 o1), .int x2] S (none, rr)) (hg1 : ∀ {o1 : Nat} (ho1 : isL o1) {rr : St} {S : St} {x2 : Int32}, rg 1 o1 S x2 = some rr → Ct X.1 yX3_readPart cX3_readPart 5 none (5 + k9) X.2.1 0 55 [.ref (X.2.1.1 7), .ref (X.2.1.1 o1), .int x2] S (none, rr)) (hg2 : ∀ {o1 : Nat} (ho1 : isL o1) {rr : St} {S : St} {x2 : Int32}, rg 2 o1 S x2 = some rr → Ct X.1 yX3_readTest cX3_readTest 5 none (5 + k9) X.2.1 0 55 [.ref (X.2.1.1 7), .ref (X.2.1.1 o1), .int x2] S (none, rr)) (hg3 : ∀ {o1 : Nat} (ho1 : isL o1) {rr : St} {S : St} {x2 : Int32}, rg 3 o1 S x2 = some rr → Ct X.1 yX3_readSum cX3_readSum 5 none (5 + k9) X.2.1 0 55 [.ref (X.2.1.1 7), .ref (X.2.1.1 o1), .int x2] S (none, rr)) (hg4 : ∀ {o1 : Nat} (ho1 : isL o1) {rr : St} {S : St} {x2 : Int32}, rg 4 o1 S x2 = some rr → Ct X.1 yX3_readTerm cX3_readTerm 5 none (5 + k9) X.2.1 0 55 [.ref (X.2.1.1 7), .ref (X.2.1.1 o1), .int x2] S (none, rr)) (hg5 : ∀ {o1 : Nat} (ho1 : isL o1) {rr : St} {S : St} {x2 : Int32}, rg 5 o1 S x2 = some rr → Ct X.1 yX3_readFactor cX3_readFactor 4 none (5 + k9) X.2.1 0 55 [.ref (X.2.1.1 7), .ref (X.2.1.1 o1), .int x2] S (none, rr)) {rr : St} (hq : rs X = (none, rr)) {S : St} {x2 : Int32} {x3 : Int32} (hres : fX3_readTest_52 rg o1 S x2 x3 = some rr) : Wat 0 55 (5 + k9 + 1) 5 X 52 [(0, .ref (ad X 7)), (1, .ref (ad X o1)), (2, .int x2), (3, .int x3)] [] S := by
  unfold fX3_readTest_52 at hres
  refine q_iload_n 53 hX 3 dX3_readTest_52 rfl rfl rfl ?_
  refine q_bipush 55 hX dX3_readTest_53 rfl kB_40 ?_
  refine q_icmp_ne 58 hX 86 dX3_readTest_55 rfl (by decide) (fun hc => ?_) (fun hc => ?_)
  · have hres := it_f hc hres
    exact q_sub [0, 1, 2] rfl (wfX3_readTest_86 hX ho1 hg0 hg1 hg2 hg3 hg4 hg5 hq hres)
  · have hres := it_t hc hres
    refine q_aload_n 59 hX 0 dX3_readTest_58 rfl rfl rfl ?_
    refine q_iload_n 60 hX 2 dX3_readTest_59 rfl rfl rfl ?_
    obtain ⟨r2, S1, hk1, hres⟩ := ob hres
    refine q_callVi 63 (st := []) (As := [.int x2]) hX (cX3_opens9 hX.dj hk1) cv_RX3_80 ci3 oB_7 rfl (by omega) rfl (Nat.le_of_ble_eq_true rfl) dX3_readTest_60 rfl ?_
    refine q_if_eq 66 hX 86 dX3_readTest_63 rfl (by decide) (fun hc => ?_) (fun hc => ?_)
    · have hres := it_t hc hres
      exact q_sub [0, 1, 2] rfl (wfX3_readTest_86 hX ho1 hg0 hg1 hg2 hg3 hg4 hg5 hq hres)
    · have hres := it_f hc hres
      refine q_aload_n 67 hX 0 dX3_readTest_66 rfl rfl rfl ?_
      refine q_aload_n 68 hX 1 dX3_readTest_67 rfl rfl rfl ?_
      refine q_iload_n 69 hX 2 dX3_readTest_68 rfl rfl rfl ?_
      refine q_iconst 70 hX dX3_readTest_69 rfl kI_1 ?_
      refine q_iadd 71 hX dX3_readTest_70 rfl ?_
      obtain ⟨S2, hk3, hres⟩ := obv hres
      refine q_callVv 74 (st := []) (As := [.ref (ad X o1), .int (x2 + (1 : Int32))]) hX (hg0 ho1 hk3) cv_RX3_64 ci3 oB_7 rfl (by omega) rfl (Nat.le_of_ble_eq_true rfl) dX3_readTest_71 rfl ?_
      refine q_aload_n 75 hX 0 dX3_readTest_74 rfl rfl rfl ?_
      refine q_getR 78 hX ci3 lf_RX3_9 fR_7_0 dX3_readTest_75 rfl ?_
      refine q_bipush 80 hX dX3_readTest_78 rfl kB_41 ?_
      obtain ⟨S3, hk4, hres⟩ := obv hres
      refine q_callVv 83 (st := []) (As := [.int (41 : Int32)]) hX (cX0_expect9 hX.dj hk4) cv_RX3_61 ci0 oB_3 rfl (by omega) rfl (Nat.le_of_ble_eq_true rfl) dX3_readTest_80 rfl ?_
      refine q_goto 152 hX dX3_readTest_83 (by decide) ?_
      exact q_vret hX (eqv hq hres) dX3_readTest_152
def fX3_readTest (rg : Nat → Nat → St → Int32 → Option St) (o1 : Nat) (S : St) (x2 : Int32) : Option (St) :=
  bi (fX0_fine S) fun r2 S1 => if r2 = 0 then (some S1) else (bV ((S1.1 3 3)) fun v3 => if v3 = (33 : Int32) then (bi (fX3_opens S1 x2) fun r5 S2 => if r5 = 0 then (fX3_readTest_52 rg o1 S2 x2 v3) else (bv (rg 2 o1 S2 (x2 + (1 : Int32))) fun S3 => bi (fX2_addStep o1 S3 (11 : Int32) (0 : Int32)) fun r8 S4 => some S4)) else (fX3_readTest_52 rg o1 S1 x2 v3))
theorem wfX3_readTest {X : CX} (hX : Ok RX3 cX3_readTest none 0 55 5 X) {o1 : Nat} (ho1 : isL o1) {k9 : Nat} {rg : Nat → Nat → St → Int32 → Option St} (hg0 : ∀ {o1 : Nat} (ho1 : isL o1) {rr : St} {S : St} {x2 : Int32}, rg 0 o1 S x2 = some rr → Ct X.1 yX3_readChoice cX3_readChoice 5 none (5 + k9) X.2.1 0 55 [.ref (X.2.1.1 7), .ref (X.2.1.1 o1), .int x2] S (none, rr)) (hg1 : ∀ {o1 : Nat} (ho1 : isL o1) {rr : St} {S : St} {x2 : Int32}, rg 1 o1 S x2 = some rr → Ct X.1 yX3_readPart cX3_readPart 5 none (5 + k9) X.2.1 0 55 [.ref (X.2.1.1 7), .ref (X.2.1.1 o1), .int x2] S (none, rr)) (hg2 : ∀ {o1 : Nat} (ho1 : isL o1) {rr : St} {S : St} {x2 : Int32}, rg 2 o1 S x2 = some rr → Ct X.1 yX3_readTest cX3_readTest 5 none (5 + k9) X.2.1 0 55 [.ref (X.2.1.1 7), .ref (X.2.1.1 o1), .int x2] S (none, rr)) (hg3 : ∀ {o1 : Nat} (ho1 : isL o1) {rr : St} {S : St} {x2 : Int32}, rg 3 o1 S x2 = some rr → Ct X.1 yX3_readSum cX3_readSum 5 none (5 + k9) X.2.1 0 55 [.ref (X.2.1.1 7), .ref (X.2.1.1 o1), .int x2] S (none, rr)) (hg4 : ∀ {o1 : Nat} (ho1 : isL o1) {rr : St} {S : St} {x2 : Int32}, rg 4 o1 S x2 = some rr → Ct X.1 yX3_readTerm cX3_readTerm 5 none (5 + k9) X.2.1 0 55 [.ref (X.2.1.1 7), .ref (X.2.1.1 o1), .int x2] S (none, rr)) (hg5 : ∀ {o1 : Nat} (ho1 : isL o1) {rr : St} {S : St} {x2 : Int32}, rg 5 o1 S x2 = some rr → Ct X.1 yX3_readFactor cX3_readFactor 4 none (5 + k9) X.2.1 0 55 [.ref (X.2.1.1 7), .ref (X.2.1.1 o1), .int x2] S (none, rr)) {rr : St} (hq : rs X = (none, rr)) {S : St} {x2 : Int32} (hres : fX3_readTest rg o1 S x2 = some rr) : Wat 0 55 (5 + k9 + 1) 5 X 0 [(0, .ref (ad X 7)), (1, .ref (ad X o1)), (2, .int x2)] [] S := by
  unfold fX3_readTest at hres
  refine q_aload_n 1 hX 0 dX3_readTest_0 rfl rfl rfl ?_
  refine q_getR 4 hX ci3 lf_RX3_9 fR_7_0 dX3_readTest_1 rfl ?_
  obtain ⟨r2, S1, hk1, hres⟩ := ob hres
  refine q_callVi 7 (st := []) (As := []) hX (cX0_fine9 hX.dj hk1) cv_RX3_34 ci0 oB_3 rfl (by omega) rfl (Nat.le_of_ble_eq_true rfl) dX3_readTest_4 rfl ?_
  refine q_if_ne 10 hX 11 dX3_readTest_7 rfl (by decide) (fun hc => ?_) (fun hc => ?_)
  · have hres := it_f hc hres
    refine q_aload_n 12 hX 0 dX3_readTest_11 rfl rfl rfl ?_
    refine q_getR 15 hX ci3 lf_RX3_9 fR_7_0 dX3_readTest_12 rfl ?_
    refine q_getI 18 hX ci0 lf_RX3_41 fI_3_3 dX3_readTest_15 rfl ?_
    refine q_istoreB_n 19 (lv0 := [(0, .ref (ad X 7)), (1, .ref (ad X o1)), (2, .int x2)]) hX dX3_readTest_18 rfl rfl (by decide) rfl hres (fun v3 hres => ?_)
    refine q_iload_n 20 hX 0 dX3_readTest_19 rfl rfl rfl ?_
    refine q_bipush 22 hX dX3_readTest_20 rfl kB_33 ?_
    refine q_icmp_ne 25 hX 52 dX3_readTest_22 rfl (by decide) (fun hc => ?_) (fun hc => ?_)
    · have hres := it_f hc hres
      exact q_sub [1, 2, 3, 0] rfl (wfX3_readTest_52 hX ho1 hg0 hg1 hg2 hg3 hg4 hg5 hq hres)
    · have hres := it_t hc hres
      refine q_aload_n 26 hX 1 dX3_readTest_25 rfl rfl rfl ?_
      refine q_iload_n 27 hX 3 dX3_readTest_26 rfl rfl rfl ?_
      obtain ⟨r5, S2, hk4, hres⟩ := ob hres
      refine q_callVi 30 (st := []) (As := [.int x2]) hX (cX3_opens9 hX.dj hk4) cv_RX3_80 ci3 oB_7 rfl (by omega) rfl (Nat.le_of_ble_eq_true rfl) dX3_readTest_27 rfl ?_
      refine q_if_eq 33 hX 52 dX3_readTest_30 rfl (by decide) (fun hc => ?_) (fun hc => ?_)
      · have hres := it_t hc hres
        exact q_sub [1, 2, 3, 0] rfl (wfX3_readTest_52 hX ho1 hg0 hg1 hg2 hg3 hg4 hg5 hq hres)
      · have hres := it_f hc hres
        refine q_aload_n 34 hX 1 dX3_readTest_33 rfl rfl rfl ?_
        refine q_aload_n 35 hX 2 dX3_readTest_34 rfl rfl rfl ?_
        refine q_iload_n 36 hX 3 dX3_readTest_35 rfl rfl rfl ?_
        refine q_iconst 37 hX dX3_readTest_36 rfl kI_1 ?_
        refine q_iadd 38 hX dX3_readTest_37 rfl ?_
        obtain ⟨S3, hk6, hres⟩ := obv hres
        refine q_callVv 41 (st := []) (As := [.ref (ad X o1), .int (x2 + (1 : Int32))]) hX (hg2 ho1 hk6) cv_RX3_77 ci3 oB_7 rfl (by omega) rfl (Nat.le_of_ble_eq_true rfl) dX3_readTest_38 rfl ?_
        refine q_aload_n 42 hX 2 dX3_readTest_41 rfl rfl rfl ?_
        refine q_bipush 44 hX dX3_readTest_42 rfl kB_11 ?_
        refine q_iconst 45 hX dX3_readTest_44 rfl kI_0 ?_
        obtain ⟨r8, S4, hk7, hres⟩ := ob hres
        refine q_callVi 48 (st := []) (As := [.int (11 : Int32), .int (0 : Int32)]) hX (cX2_addStep9 hX.dj ho1 hk7) cv_RX3_57 ci2 (oB_L ho1) rfl (by omega) rfl (Nat.le_of_ble_eq_true rfl) dX3_readTest_45 rfl ?_
        refine q_pop 49 hX dX3_readTest_48 rfl rfl ?_
        refine q_goto 152 hX dX3_readTest_49 (by decide) ?_
        exact q_vret hX (eqv hq hres) dX3_readTest_152
  · have hres := it_t hc hres
    exact q_vret hX (eqv hq hres) dX3_readTest_10
def bX3_readSum_20 (rg : Nat → Nat → St → Int32 → Option St) (o1 : Nat) (rc20 : St → Int32 → Int32 → Int32 → Option (St)) (S : St) (x2 : Int32) (x3 : Int32) (x4 : Int32) : Option (St) :=
  if (240 : Int32) ≤ x4 then (some S) else (bi (fX0_fine S) fun r2 S1 => if r2 = 0 then (some S1) else (if x3 = (-1 : Int32) then (some S1) else (bv (fX0_step S1) fun S2 => bv (rg 4 o1 S2 x2) fun S3 => bi (fX2_addStep o1 S3 x3 (0 : Int32)) fun r6 S4 => bi (fX3_sumOf S4 (S4.1 3 3)) fun r8 S5 => bV (x4 + (1 : Int32)) fun v9 => rc20 S5 x2 r8 v9)))
theorem wbX3_readSum_20 {X : CX} (hX : Ok RX3 cX3_readSum none 0 55 5 X) {o1 : Nat} (ho1 : isL o1) {k9 : Nat} {rg : Nat → Nat → St → Int32 → Option St} (hg0 : ∀ {o1 : Nat} (ho1 : isL o1) {rr : St} {S : St} {x2 : Int32}, rg 0 o1 S x2 = some rr → Ct X.1 yX3_readChoice cX3_readChoice 5 none (5 + k9) X.2.1 0 55 [.ref (X.2.1.1 7), .ref (X.2.1.1 o1), .int x2] S (none, rr)) (hg1 : ∀ {o1 : Nat} (ho1 : isL o1) {rr : St} {S : St} {x2 : Int32}, rg 1 o1 S x2 = some rr → Ct X.1 yX3_readPart cX3_readPart 5 none (5 + k9) X.2.1 0 55 [.ref (X.2.1.1 7), .ref (X.2.1.1 o1), .int x2] S (none, rr)) (hg2 : ∀ {o1 : Nat} (ho1 : isL o1) {rr : St} {S : St} {x2 : Int32}, rg 2 o1 S x2 = some rr → Ct X.1 yX3_readTest cX3_readTest 5 none (5 + k9) X.2.1 0 55 [.ref (X.2.1.1 7), .ref (X.2.1.1 o1), .int x2] S (none, rr)) (hg3 : ∀ {o1 : Nat} (ho1 : isL o1) {rr : St} {S : St} {x2 : Int32}, rg 3 o1 S x2 = some rr → Ct X.1 yX3_readSum cX3_readSum 5 none (5 + k9) X.2.1 0 55 [.ref (X.2.1.1 7), .ref (X.2.1.1 o1), .int x2] S (none, rr)) (hg4 : ∀ {o1 : Nat} (ho1 : isL o1) {rr : St} {S : St} {x2 : Int32}, rg 4 o1 S x2 = some rr → Ct X.1 yX3_readTerm cX3_readTerm 5 none (5 + k9) X.2.1 0 55 [.ref (X.2.1.1 7), .ref (X.2.1.1 o1), .int x2] S (none, rr)) (hg5 : ∀ {o1 : Nat} (ho1 : isL o1) {rr : St} {S : St} {x2 : Int32}, rg 5 o1 S x2 = some rr → Ct X.1 yX3_readFactor cX3_readFactor 4 none (5 + k9) X.2.1 0 55 [.ref (X.2.1.1 7), .ref (X.2.1.1 o1), .int x2] S (none, rr)) {rr : St} (hq : rs X = (none, rr)) {rc20 : St → Int32 → Int32 → Int32 → Option (St)} (hrc20 : ∀ (S : St) (x2 : Int32) (x3 : Int32) (x4 : Int32), rc20 S x2 x3 x4 = some rr → Wat 0 55 (5 + k9 + 1) 5 X 20 [(0, .ref (ad X 7)), (1, .ref (ad X o1)), (2, .int x2), (3, .int x3), (4, .int x4)] [] S) {S : St} {x2 : Int32} {x3 : Int32} {x4 : Int32} (hres : bX3_readSum_20 rg o1 rc20 S x2 x3 x4 = some rr) : Wat 0 55 (5 + k9 + 1) 5 X 20 [(0, .ref (ad X 7)), (1, .ref (ad X o1)), (2, .int x2), (3, .int x3), (4, .int x4)] [] S := by
  unfold bX3_readSum_20 at hres
  refine q_iload 22 hX 4 dX3_readSum_20 rfl rfl ?_
  refine q_sipush 25 hX dX3_readSum_22 rfl kS_240 ?_
  refine q_icmp_ge 28 hX 80 dX3_readSum_25 rfl (by decide) (fun hc => ?_) (fun hc => ?_)
  · have hres := it_t hc hres
    exact q_vret hX (eqv hq hres) dX3_readSum_80
  · have hres := it_f hc hres
    refine q_aload_n 29 hX 0 dX3_readSum_28 rfl rfl rfl ?_
    refine q_getR 32 hX ci3 lf_RX3_9 fR_7_0 dX3_readSum_29 rfl ?_
    obtain ⟨r2, S1, hk1, hres⟩ := ob hres
    refine q_callVi 35 (st := []) (As := []) hX (cX0_fine9 hX.dj hk1) cv_RX3_34 ci0 oB_3 rfl (by omega) rfl (Nat.le_of_ble_eq_true rfl) dX3_readSum_32 rfl ?_
    refine q_if_eq 38 hX 80 dX3_readSum_35 rfl (by decide) (fun hc => ?_) (fun hc => ?_)
    · have hres := it_t hc hres
      exact q_vret hX (eqv hq hres) dX3_readSum_80
    · have hres := it_f hc hres
      refine q_iload_n 39 hX 3 dX3_readSum_38 rfl rfl rfl ?_
      refine q_iconst 40 hX dX3_readSum_39 rfl kI_m1 ?_
      refine q_icmp_eq 43 hX 80 dX3_readSum_40 rfl (by decide) (fun hc => ?_) (fun hc => ?_)
      · have hres := it_t hc hres
        exact q_vret hX (eqv hq hres) dX3_readSum_80
      · have hres := it_f hc hres
        refine q_aload_n 44 hX 0 dX3_readSum_43 rfl rfl rfl ?_
        refine q_getR 47 hX ci3 lf_RX3_9 fR_7_0 dX3_readSum_44 rfl ?_
        obtain ⟨S2, hk3, hres⟩ := obv hres
        refine q_callVv 50 (st := []) (As := []) hX (cX0_step9 hX.dj hk3) cv_RX3_47 ci0 oB_3 rfl (by omega) rfl (Nat.le_of_ble_eq_true rfl) dX3_readSum_47 rfl ?_
        refine q_aload_n 51 hX 0 dX3_readSum_50 rfl rfl rfl ?_
        refine q_aload_n 52 hX 1 dX3_readSum_51 rfl rfl rfl ?_
        refine q_iload_n 53 hX 2 dX3_readSum_52 rfl rfl rfl ?_
        obtain ⟨S3, hk4, hres⟩ := obv hres
        refine q_callVv 56 (st := []) (As := [.ref (ad X o1), .int x2]) hX (hg4 ho1 hk4) cv_RX3_88 ci3 oB_7 rfl (by omega) rfl (Nat.le_of_ble_eq_true rfl) dX3_readSum_53 rfl ?_
        refine q_aload_n 57 hX 1 dX3_readSum_56 rfl rfl rfl ?_
        refine q_iload_n 58 hX 3 dX3_readSum_57 rfl rfl rfl ?_
        refine q_iconst 59 hX dX3_readSum_58 rfl kI_0 ?_
        obtain ⟨r6, S4, hk5, hres⟩ := ob hres
        refine q_callVi 62 (st := []) (As := [.int x3, .int (0 : Int32)]) hX (cX2_addStep9 hX.dj ho1 hk5) cv_RX3_57 ci2 (oB_L ho1) rfl (by omega) rfl (Nat.le_of_ble_eq_true rfl) dX3_readSum_59 rfl ?_
        refine q_pop 63 hX dX3_readSum_62 rfl rfl ?_
        refine q_aload_n 64 hX 0 dX3_readSum_63 rfl rfl rfl ?_
        refine q_getR 67 hX ci3 lf_RX3_9 fR_7_0 dX3_readSum_64 rfl ?_
        refine q_getI 70 hX ci0 lf_RX3_41 fI_3_3 dX3_readSum_67 rfl ?_
        obtain ⟨r8, S5, hk7, hres⟩ := ob hres
        refine q_callSi 73 (st := []) (As := [.int (S4.1 3 3)]) hX (cX3_sumOf9 hX.dj hk7) cs_RX3_91 rfl (by omega) rfl (Nat.le_of_ble_eq_true rfl) dX3_readSum_70 rfl ?_
        refine q_istore_n 74 (lv' := [(3, .int r8), (0, .ref (ad X 7)), (1, .ref (ad X o1)), (2, .int x2), (4, .int x4)]) hX dX3_readSum_73 rfl rfl (by decide) rfl ?_
        refine q_iincB 77 4 (lv0 := [(3, .int r8), (0, .ref (ad X 7)), (1, .ref (ad X o1)), (2, .int x2)]) hX dX3_readSum_74 rfl rfl kI_1 (by decide) rfl hres (fun v9 hres => ?_)
        refine q_goto 20 hX dX3_readSum_77 (by decide) ?_
        exact q_sub [2, 3, 4, 1, 0] rfl (hrc20 _ _ _ _ hres)
def fX3_readSum_20 (rg : Nat → Nat → St → Int32 → Option St) (o1 : Nat) : Nat → St → Int32 → Int32 → Int32 → Option (St)
  | 0 => fun _ _ _ _ => none
  | k + 1 => fun S x2 x3 x4 => bX3_readSum_20 rg o1 (fX3_readSum_20 rg o1 k) S x2 x3 x4
theorem wfX3_readSum_20 {X : CX} (hX : Ok RX3 cX3_readSum none 0 55 5 X) {o1 : Nat} (ho1 : isL o1) {k9 : Nat} {rg : Nat → Nat → St → Int32 → Option St} (hg0 : ∀ {o1 : Nat} (ho1 : isL o1) {rr : St} {S : St} {x2 : Int32}, rg 0 o1 S x2 = some rr → Ct X.1 yX3_readChoice cX3_readChoice 5 none (5 + k9) X.2.1 0 55 [.ref (X.2.1.1 7), .ref (X.2.1.1 o1), .int x2] S (none, rr)) (hg1 : ∀ {o1 : Nat} (ho1 : isL o1) {rr : St} {S : St} {x2 : Int32}, rg 1 o1 S x2 = some rr → Ct X.1 yX3_readPart cX3_readPart 5 none (5 + k9) X.2.1 0 55 [.ref (X.2.1.1 7), .ref (X.2.1.1 o1), .int x2] S (none, rr)) (hg2 : ∀ {o1 : Nat} (ho1 : isL o1) {rr : St} {S : St} {x2 : Int32}, rg 2 o1 S x2 = some rr → Ct X.1 yX3_readTest cX3_readTest 5 none (5 + k9) X.2.1 0 55 [.ref (X.2.1.1 7), .ref (X.2.1.1 o1), .int x2] S (none, rr)) (hg3 : ∀ {o1 : Nat} (ho1 : isL o1) {rr : St} {S : St} {x2 : Int32}, rg 3 o1 S x2 = some rr → Ct X.1 yX3_readSum cX3_readSum 5 none (5 + k9) X.2.1 0 55 [.ref (X.2.1.1 7), .ref (X.2.1.1 o1), .int x2] S (none, rr)) (hg4 : ∀ {o1 : Nat} (ho1 : isL o1) {rr : St} {S : St} {x2 : Int32}, rg 4 o1 S x2 = some rr → Ct X.1 yX3_readTerm cX3_readTerm 5 none (5 + k9) X.2.1 0 55 [.ref (X.2.1.1 7), .ref (X.2.1.1 o1), .int x2] S (none, rr)) (hg5 : ∀ {o1 : Nat} (ho1 : isL o1) {rr : St} {S : St} {x2 : Int32}, rg 5 o1 S x2 = some rr → Ct X.1 yX3_readFactor cX3_readFactor 4 none (5 + k9) X.2.1 0 55 [.ref (X.2.1.1 7), .ref (X.2.1.1 o1), .int x2] S (none, rr)) {rr : St} (hq : rs X = (none, rr)) (k : Nat) : ∀ (S : St) (x2 : Int32) (x3 : Int32) (x4 : Int32), fX3_readSum_20 rg o1 k S x2 x3 x4 = some rr → Wat 0 55 (5 + k9 + 1) 5 X 20 [(0, .ref (ad X 7)), (1, .ref (ad X o1)), (2, .int x2), (3, .int x3), (4, .int x4)] [] S := by
  induction k with
  | zero => intro S x2 x3 x4 hres; exact absurd hres (by simp [fX3_readSum_20])
  | succ k ih => intro S x2 x3 x4 hres; exact wbX3_readSum_20 hX ho1 hg0 hg1 hg2 hg3 hg4 hg5 hq ih hres
def fX3_readSum (rg : Nat → Nat → St → Int32 → Option St) (o1 : Nat) (S : St) (x2 : Int32) : Option (St) :=
  bv (rg 4 o1 S x2) fun S1 => bi (fX3_sumOf S1 (S1.1 3 3)) fun r3 S2 => fX3_readSum_20 rg o1 260 S2 x2 r3 (0 : Int32)
theorem wfX3_readSum {X : CX} (hX : Ok RX3 cX3_readSum none 0 55 5 X) {o1 : Nat} (ho1 : isL o1) {k9 : Nat} {rg : Nat → Nat → St → Int32 → Option St} (hg0 : ∀ {o1 : Nat} (ho1 : isL o1) {rr : St} {S : St} {x2 : Int32}, rg 0 o1 S x2 = some rr → Ct X.1 yX3_readChoice cX3_readChoice 5 none (5 + k9) X.2.1 0 55 [.ref (X.2.1.1 7), .ref (X.2.1.1 o1), .int x2] S (none, rr)) (hg1 : ∀ {o1 : Nat} (ho1 : isL o1) {rr : St} {S : St} {x2 : Int32}, rg 1 o1 S x2 = some rr → Ct X.1 yX3_readPart cX3_readPart 5 none (5 + k9) X.2.1 0 55 [.ref (X.2.1.1 7), .ref (X.2.1.1 o1), .int x2] S (none, rr)) (hg2 : ∀ {o1 : Nat} (ho1 : isL o1) {rr : St} {S : St} {x2 : Int32}, rg 2 o1 S x2 = some rr → Ct X.1 yX3_readTest cX3_readTest 5 none (5 + k9) X.2.1 0 55 [.ref (X.2.1.1 7), .ref (X.2.1.1 o1), .int x2] S (none, rr)) (hg3 : ∀ {o1 : Nat} (ho1 : isL o1) {rr : St} {S : St} {x2 : Int32}, rg 3 o1 S x2 = some rr → Ct X.1 yX3_readSum cX3_readSum 5 none (5 + k9) X.2.1 0 55 [.ref (X.2.1.1 7), .ref (X.2.1.1 o1), .int x2] S (none, rr)) (hg4 : ∀ {o1 : Nat} (ho1 : isL o1) {rr : St} {S : St} {x2 : Int32}, rg 4 o1 S x2 = some rr → Ct X.1 yX3_readTerm cX3_readTerm 5 none (5 + k9) X.2.1 0 55 [.ref (X.2.1.1 7), .ref (X.2.1.1 o1), .int x2] S (none, rr)) (hg5 : ∀ {o1 : Nat} (ho1 : isL o1) {rr : St} {S : St} {x2 : Int32}, rg 5 o1 S x2 = some rr → Ct X.1 yX3_readFactor cX3_readFactor 4 none (5 + k9) X.2.1 0 55 [.ref (X.2.1.1 7), .ref (X.2.1.1 o1), .int x2] S (none, rr)) {rr : St} (hq : rs X = (none, rr)) {S : St} {x2 : Int32} (hres : fX3_readSum rg o1 S x2 = some rr) : Wat 0 55 (5 + k9 + 1) 5 X 0 [(0, .ref (ad X 7)), (1, .ref (ad X o1)), (2, .int x2)] [] S := by
  unfold fX3_readSum at hres
  refine q_aload_n 1 hX 0 dX3_readSum_0 rfl rfl rfl ?_
  refine q_aload_n 2 hX 1 dX3_readSum_1 rfl rfl rfl ?_
  refine q_iload_n 3 hX 2 dX3_readSum_2 rfl rfl rfl ?_
  obtain ⟨S1, hk1, hres⟩ := obv hres
  refine q_callVv 6 (st := []) (As := [.ref (ad X o1), .int x2]) hX (hg4 ho1 hk1) cv_RX3_88 ci3 oB_7 rfl (by omega) rfl (Nat.le_of_ble_eq_true rfl) dX3_readSum_3 rfl ?_
  refine q_aload_n 7 hX 0 dX3_readSum_6 rfl rfl rfl ?_
  refine q_getR 10 hX ci3 lf_RX3_9 fR_7_0 dX3_readSum_7 rfl ?_
  refine q_getI 13 hX ci0 lf_RX3_41 fI_3_3 dX3_readSum_10 rfl ?_
  obtain ⟨r3, S2, hk2, hres⟩ := ob hres
  refine q_callSi 16 (st := []) (As := [.int (S1.1 3 3)]) hX (cX3_sumOf9 hX.dj hk2) cs_RX3_91 rfl (by omega) rfl (Nat.le_of_ble_eq_true rfl) dX3_readSum_13 rfl ?_
  refine q_istore_n 17 (lv' := [(3, .int r3), (0, .ref (ad X 7)), (1, .ref (ad X o1)), (2, .int x2)]) hX dX3_readSum_16 rfl rfl (by decide) rfl ?_
  refine q_iconst 18 hX dX3_readSum_17 rfl kI_0 ?_
  refine q_istore 20 (lv' := [(4, .int (0 : Int32)), (3, .int r3), (0, .ref (ad X 7)), (1, .ref (ad X o1)), (2, .int x2)]) hX dX3_readSum_18 rfl (by decide) rfl ?_
  exact q_sub [2, 3, 4, 1, 0] rfl (wfX3_readSum_20 hX ho1 hg0 hg1 hg2 hg3 hg4 hg5 hq _ _ _ _ _ hres)
def bX3_readTerm_20 (rg : Nat → Nat → St → Int32 → Option St) (o1 : Nat) (rc20 : St → Int32 → Int32 → Int32 → Option (St)) (S : St) (x2 : Int32) (x3 : Int32) (x4 : Int32) : Option (St) :=
  if (240 : Int32) ≤ x4 then (some S) else (bi (fX0_fine S) fun r2 S1 => if r2 = 0 then (some S1) else (if x3 = (-1 : Int32) then (some S1) else (bv (fX0_step S1) fun S2 => bv (rg 5 o1 S2 x2) fun S3 => bi (fX2_addStep o1 S3 x3 (0 : Int32)) fun r6 S4 => bi (fX3_productOf S4 (S4.1 3 3)) fun r8 S5 => bV (x4 + (1 : Int32)) fun v9 => rc20 S5 x2 r8 v9)))
theorem wbX3_readTerm_20 {X : CX} (hX : Ok RX3 cX3_readTerm none 0 55 5 X) {o1 : Nat} (ho1 : isL o1) {k9 : Nat} {rg : Nat → Nat → St → Int32 → Option St} (hg0 : ∀ {o1 : Nat} (ho1 : isL o1) {rr : St} {S : St} {x2 : Int32}, rg 0 o1 S x2 = some rr → Ct X.1 yX3_readChoice cX3_readChoice 5 none (5 + k9) X.2.1 0 55 [.ref (X.2.1.1 7), .ref (X.2.1.1 o1), .int x2] S (none, rr)) (hg1 : ∀ {o1 : Nat} (ho1 : isL o1) {rr : St} {S : St} {x2 : Int32}, rg 1 o1 S x2 = some rr → Ct X.1 yX3_readPart cX3_readPart 5 none (5 + k9) X.2.1 0 55 [.ref (X.2.1.1 7), .ref (X.2.1.1 o1), .int x2] S (none, rr)) (hg2 : ∀ {o1 : Nat} (ho1 : isL o1) {rr : St} {S : St} {x2 : Int32}, rg 2 o1 S x2 = some rr → Ct X.1 yX3_readTest cX3_readTest 5 none (5 + k9) X.2.1 0 55 [.ref (X.2.1.1 7), .ref (X.2.1.1 o1), .int x2] S (none, rr)) (hg3 : ∀ {o1 : Nat} (ho1 : isL o1) {rr : St} {S : St} {x2 : Int32}, rg 3 o1 S x2 = some rr → Ct X.1 yX3_readSum cX3_readSum 5 none (5 + k9) X.2.1 0 55 [.ref (X.2.1.1 7), .ref (X.2.1.1 o1), .int x2] S (none, rr)) (hg4 : ∀ {o1 : Nat} (ho1 : isL o1) {rr : St} {S : St} {x2 : Int32}, rg 4 o1 S x2 = some rr → Ct X.1 yX3_readTerm cX3_readTerm 5 none (5 + k9) X.2.1 0 55 [.ref (X.2.1.1 7), .ref (X.2.1.1 o1), .int x2] S (none, rr)) (hg5 : ∀ {o1 : Nat} (ho1 : isL o1) {rr : St} {S : St} {x2 : Int32}, rg 5 o1 S x2 = some rr → Ct X.1 yX3_readFactor cX3_readFactor 4 none (5 + k9) X.2.1 0 55 [.ref (X.2.1.1 7), .ref (X.2.1.1 o1), .int x2] S (none, rr)) {rr : St} (hq : rs X = (none, rr)) {rc20 : St → Int32 → Int32 → Int32 → Option (St)} (hrc20 : ∀ (S : St) (x2 : Int32) (x3 : Int32) (x4 : Int32), rc20 S x2 x3 x4 = some rr → Wat 0 55 (5 + k9 + 1) 5 X 20 [(0, .ref (ad X 7)), (1, .ref (ad X o1)), (2, .int x2), (3, .int x3), (4, .int x4)] [] S) {S : St} {x2 : Int32} {x3 : Int32} {x4 : Int32} (hres : bX3_readTerm_20 rg o1 rc20 S x2 x3 x4 = some rr) : Wat 0 55 (5 + k9 + 1) 5 X 20 [(0, .ref (ad X 7)), (1, .ref (ad X o1)), (2, .int x2), (3, .int x3), (4, .int x4)] [] S := by
  unfold bX3_readTerm_20 at hres
  refine q_iload 22 hX 4 dX3_readTerm_20 rfl rfl ?_
  refine q_sipush 25 hX dX3_readTerm_22 rfl kS_240 ?_
  refine q_icmp_ge 28 hX 80 dX3_readTerm_25 rfl (by decide) (fun hc => ?_) (fun hc => ?_)
  · have hres := it_t hc hres
    exact q_vret hX (eqv hq hres) dX3_readTerm_80
  · have hres := it_f hc hres
    refine q_aload_n 29 hX 0 dX3_readTerm_28 rfl rfl rfl ?_
    refine q_getR 32 hX ci3 lf_RX3_9 fR_7_0 dX3_readTerm_29 rfl ?_
    obtain ⟨r2, S1, hk1, hres⟩ := ob hres
    refine q_callVi 35 (st := []) (As := []) hX (cX0_fine9 hX.dj hk1) cv_RX3_34 ci0 oB_3 rfl (by omega) rfl (Nat.le_of_ble_eq_true rfl) dX3_readTerm_32 rfl ?_
    refine q_if_eq 38 hX 80 dX3_readTerm_35 rfl (by decide) (fun hc => ?_) (fun hc => ?_)
    · have hres := it_t hc hres
      exact q_vret hX (eqv hq hres) dX3_readTerm_80
    · have hres := it_f hc hres
      refine q_iload_n 39 hX 3 dX3_readTerm_38 rfl rfl rfl ?_
      refine q_iconst 40 hX dX3_readTerm_39 rfl kI_m1 ?_
      refine q_icmp_eq 43 hX 80 dX3_readTerm_40 rfl (by decide) (fun hc => ?_) (fun hc => ?_)
      · have hres := it_t hc hres
        exact q_vret hX (eqv hq hres) dX3_readTerm_80
      · have hres := it_f hc hres
        refine q_aload_n 44 hX 0 dX3_readTerm_43 rfl rfl rfl ?_
        refine q_getR 47 hX ci3 lf_RX3_9 fR_7_0 dX3_readTerm_44 rfl ?_
        obtain ⟨S2, hk3, hres⟩ := obv hres
        refine q_callVv 50 (st := []) (As := []) hX (cX0_step9 hX.dj hk3) cv_RX3_47 ci0 oB_3 rfl (by omega) rfl (Nat.le_of_ble_eq_true rfl) dX3_readTerm_47 rfl ?_
        refine q_aload_n 51 hX 0 dX3_readTerm_50 rfl rfl rfl ?_
        refine q_aload_n 52 hX 1 dX3_readTerm_51 rfl rfl rfl ?_
        refine q_iload_n 53 hX 2 dX3_readTerm_52 rfl rfl rfl ?_
        obtain ⟨S3, hk4, hres⟩ := obv hres
        refine q_callVv 56 (st := []) (As := [.ref (ad X o1), .int x2]) hX (hg5 ho1 hk4) cv_RX3_94 ci3 oB_7 rfl (by omega) rfl (Nat.le_of_ble_eq_true rfl) dX3_readTerm_53 rfl ?_
        refine q_aload_n 57 hX 1 dX3_readTerm_56 rfl rfl rfl ?_
        refine q_iload_n 58 hX 3 dX3_readTerm_57 rfl rfl rfl ?_
        refine q_iconst 59 hX dX3_readTerm_58 rfl kI_0 ?_
        obtain ⟨r6, S4, hk5, hres⟩ := ob hres
        refine q_callVi 62 (st := []) (As := [.int x3, .int (0 : Int32)]) hX (cX2_addStep9 hX.dj ho1 hk5) cv_RX3_57 ci2 (oB_L ho1) rfl (by omega) rfl (Nat.le_of_ble_eq_true rfl) dX3_readTerm_59 rfl ?_
        refine q_pop 63 hX dX3_readTerm_62 rfl rfl ?_
        refine q_aload_n 64 hX 0 dX3_readTerm_63 rfl rfl rfl ?_
        refine q_getR 67 hX ci3 lf_RX3_9 fR_7_0 dX3_readTerm_64 rfl ?_
        refine q_getI 70 hX ci0 lf_RX3_41 fI_3_3 dX3_readTerm_67 rfl ?_
        obtain ⟨r8, S5, hk7, hres⟩ := ob hres
        refine q_callSi 73 (st := []) (As := [.int (S4.1 3 3)]) hX (cX3_productOf9 hX.dj hk7) cs_RX3_97 rfl (by omega) rfl (Nat.le_of_ble_eq_true rfl) dX3_readTerm_70 rfl ?_
        refine q_istore_n 74 (lv' := [(3, .int r8), (0, .ref (ad X 7)), (1, .ref (ad X o1)), (2, .int x2), (4, .int x4)]) hX dX3_readTerm_73 rfl rfl (by decide) rfl ?_
        refine q_iincB 77 4 (lv0 := [(3, .int r8), (0, .ref (ad X 7)), (1, .ref (ad X o1)), (2, .int x2)]) hX dX3_readTerm_74 rfl rfl kI_1 (by decide) rfl hres (fun v9 hres => ?_)
        refine q_goto 20 hX dX3_readTerm_77 (by decide) ?_
        exact q_sub [2, 3, 4, 1, 0] rfl (hrc20 _ _ _ _ hres)
def fX3_readTerm_20 (rg : Nat → Nat → St → Int32 → Option St) (o1 : Nat) : Nat → St → Int32 → Int32 → Int32 → Option (St)
  | 0 => fun _ _ _ _ => none
  | k + 1 => fun S x2 x3 x4 => bX3_readTerm_20 rg o1 (fX3_readTerm_20 rg o1 k) S x2 x3 x4
theorem wfX3_readTerm_20 {X : CX} (hX : Ok RX3 cX3_readTerm none 0 55 5 X) {o1 : Nat} (ho1 : isL o1) {k9 : Nat} {rg : Nat → Nat → St → Int32 → Option St} (hg0 : ∀ {o1 : Nat} (ho1 : isL o1) {rr : St} {S : St} {x2 : Int32}, rg 0 o1 S x2 = some rr → Ct X.1 yX3_readChoice cX3_readChoice 5 none (5 + k9) X.2.1 0 55 [.ref (X.2.1.1 7), .ref (X.2.1.1 o1), .int x2] S (none, rr)) (hg1 : ∀ {o1 : Nat} (ho1 : isL o1) {rr : St} {S : St} {x2 : Int32}, rg 1 o1 S x2 = some rr → Ct X.1 yX3_readPart cX3_readPart 5 none (5 + k9) X.2.1 0 55 [.ref (X.2.1.1 7), .ref (X.2.1.1 o1), .int x2] S (none, rr)) (hg2 : ∀ {o1 : Nat} (ho1 : isL o1) {rr : St} {S : St} {x2 : Int32}, rg 2 o1 S x2 = some rr → Ct X.1 yX3_readTest cX3_readTest 5 none (5 + k9) X.2.1 0 55 [.ref (X.2.1.1 7), .ref (X.2.1.1 o1), .int x2] S (none, rr)) (hg3 : ∀ {o1 : Nat} (ho1 : isL o1) {rr : St} {S : St} {x2 : Int32}, rg 3 o1 S x2 = some rr → Ct X.1 yX3_readSum cX3_readSum 5 none (5 + k9) X.2.1 0 55 [.ref (X.2.1.1 7), .ref (X.2.1.1 o1), .int x2] S (none, rr)) (hg4 : ∀ {o1 : Nat} (ho1 : isL o1) {rr : St} {S : St} {x2 : Int32}, rg 4 o1 S x2 = some rr → Ct X.1 yX3_readTerm cX3_readTerm 5 none (5 + k9) X.2.1 0 55 [.ref (X.2.1.1 7), .ref (X.2.1.1 o1), .int x2] S (none, rr)) (hg5 : ∀ {o1 : Nat} (ho1 : isL o1) {rr : St} {S : St} {x2 : Int32}, rg 5 o1 S x2 = some rr → Ct X.1 yX3_readFactor cX3_readFactor 4 none (5 + k9) X.2.1 0 55 [.ref (X.2.1.1 7), .ref (X.2.1.1 o1), .int x2] S (none, rr)) {rr : St} (hq : rs X = (none, rr)) (k : Nat) : ∀ (S : St) (x2 : Int32) (x3 : Int32) (x4 : Int32), fX3_readTerm_20 rg o1 k S x2 x3 x4 = some rr → Wat 0 55 (5 + k9 + 1) 5 X 20 [(0, .ref (ad X 7)), (1, .ref (ad X o1)), (2, .int x2), (3, .int x3), (4, .int x4)] [] S := by
  induction k with
  | zero => intro S x2 x3 x4 hres; exact absurd hres (by simp [fX3_readTerm_20])
  | succ k ih => intro S x2 x3 x4 hres; exact wbX3_readTerm_20 hX ho1 hg0 hg1 hg2 hg3 hg4 hg5 hq ih hres
def fX3_readTerm (rg : Nat → Nat → St → Int32 → Option St) (o1 : Nat) (S : St) (x2 : Int32) : Option (St) :=
  bv (rg 5 o1 S x2) fun S1 => bi (fX3_productOf S1 (S1.1 3 3)) fun r3 S2 => fX3_readTerm_20 rg o1 260 S2 x2 r3 (0 : Int32)
theorem wfX3_readTerm {X : CX} (hX : Ok RX3 cX3_readTerm none 0 55 5 X) {o1 : Nat} (ho1 : isL o1) {k9 : Nat} {rg : Nat → Nat → St → Int32 → Option St} (hg0 : ∀ {o1 : Nat} (ho1 : isL o1) {rr : St} {S : St} {x2 : Int32}, rg 0 o1 S x2 = some rr → Ct X.1 yX3_readChoice cX3_readChoice 5 none (5 + k9) X.2.1 0 55 [.ref (X.2.1.1 7), .ref (X.2.1.1 o1), .int x2] S (none, rr)) (hg1 : ∀ {o1 : Nat} (ho1 : isL o1) {rr : St} {S : St} {x2 : Int32}, rg 1 o1 S x2 = some rr → Ct X.1 yX3_readPart cX3_readPart 5 none (5 + k9) X.2.1 0 55 [.ref (X.2.1.1 7), .ref (X.2.1.1 o1), .int x2] S (none, rr)) (hg2 : ∀ {o1 : Nat} (ho1 : isL o1) {rr : St} {S : St} {x2 : Int32}, rg 2 o1 S x2 = some rr → Ct X.1 yX3_readTest cX3_readTest 5 none (5 + k9) X.2.1 0 55 [.ref (X.2.1.1 7), .ref (X.2.1.1 o1), .int x2] S (none, rr)) (hg3 : ∀ {o1 : Nat} (ho1 : isL o1) {rr : St} {S : St} {x2 : Int32}, rg 3 o1 S x2 = some rr → Ct X.1 yX3_readSum cX3_readSum 5 none (5 + k9) X.2.1 0 55 [.ref (X.2.1.1 7), .ref (X.2.1.1 o1), .int x2] S (none, rr)) (hg4 : ∀ {o1 : Nat} (ho1 : isL o1) {rr : St} {S : St} {x2 : Int32}, rg 4 o1 S x2 = some rr → Ct X.1 yX3_readTerm cX3_readTerm 5 none (5 + k9) X.2.1 0 55 [.ref (X.2.1.1 7), .ref (X.2.1.1 o1), .int x2] S (none, rr)) (hg5 : ∀ {o1 : Nat} (ho1 : isL o1) {rr : St} {S : St} {x2 : Int32}, rg 5 o1 S x2 = some rr → Ct X.1 yX3_readFactor cX3_readFactor 4 none (5 + k9) X.2.1 0 55 [.ref (X.2.1.1 7), .ref (X.2.1.1 o1), .int x2] S (none, rr)) {rr : St} (hq : rs X = (none, rr)) {S : St} {x2 : Int32} (hres : fX3_readTerm rg o1 S x2 = some rr) : Wat 0 55 (5 + k9 + 1) 5 X 0 [(0, .ref (ad X 7)), (1, .ref (ad X o1)), (2, .int x2)] [] S := by
  unfold fX3_readTerm at hres
  refine q_aload_n 1 hX 0 dX3_readTerm_0 rfl rfl rfl ?_
  refine q_aload_n 2 hX 1 dX3_readTerm_1 rfl rfl rfl ?_
  refine q_iload_n 3 hX 2 dX3_readTerm_2 rfl rfl rfl ?_
  obtain ⟨S1, hk1, hres⟩ := obv hres
  refine q_callVv 6 (st := []) (As := [.ref (ad X o1), .int x2]) hX (hg5 ho1 hk1) cv_RX3_94 ci3 oB_7 rfl (by omega) rfl (Nat.le_of_ble_eq_true rfl) dX3_readTerm_3 rfl ?_
  refine q_aload_n 7 hX 0 dX3_readTerm_6 rfl rfl rfl ?_
  refine q_getR 10 hX ci3 lf_RX3_9 fR_7_0 dX3_readTerm_7 rfl ?_
  refine q_getI 13 hX ci0 lf_RX3_41 fI_3_3 dX3_readTerm_10 rfl ?_
  obtain ⟨r3, S2, hk2, hres⟩ := ob hres
  refine q_callSi 16 (st := []) (As := [.int (S1.1 3 3)]) hX (cX3_productOf9 hX.dj hk2) cs_RX3_97 rfl (by omega) rfl (Nat.le_of_ble_eq_true rfl) dX3_readTerm_13 rfl ?_
  refine q_istore_n 17 (lv' := [(3, .int r3), (0, .ref (ad X 7)), (1, .ref (ad X o1)), (2, .int x2)]) hX dX3_readTerm_16 rfl rfl (by decide) rfl ?_
  refine q_iconst 18 hX dX3_readTerm_17 rfl kI_0 ?_
  refine q_istore 20 (lv' := [(4, .int (0 : Int32)), (3, .int r3), (0, .ref (ad X 7)), (1, .ref (ad X o1)), (2, .int x2)]) hX dX3_readTerm_18 rfl (by decide) rfl ?_
  exact q_sub [2, 3, 4, 1, 0] rfl (wfX3_readTerm_20 hX ho1 hg0 hg1 hg2 hg3 hg4 hg5 hq _ _ _ _ _ hres)
def fX3_readFactor (rg : Nat → Nat → St → Int32 → Option St) (o1 : Nat) (S : St) (x2 : Int32) : Option (St) :=
  bi (fX0_fine S) fun r2 S1 => if r2 = 0 then (some S1) else (bi (fX3_letterOf S1 (S1.1 3 3)) fun r4 S2 => if r4 = (-1 : Int32) then (if (S2.1 3 3) = (91 : Int32) then (bi (fX3_opens S2 x2) fun r6 S3 => if r6 = 0 then (some S3) else (bv (rg 3 o1 S3 (x2 + (1 : Int32))) fun S4 => bv (fX0_expect S4 (93 : Int32)) fun S5 => some S5)) else (bi (fX0_readNumber S2 (5 : Int32)) fun r10 S6 => bi (fX2_addStep o1 S6 (1 : Int32) r10) fun r12 S7 => some S7)) else (bi (fX2_addStep o1 S2 (2 : Int32) r4) fun r14 S8 => bv (fX0_step S8) fun S9 => some S9))
theorem wfX3_readFactor {X : CX} (hX : Ok RX3 cX3_readFactor none 0 55 4 X) {o1 : Nat} (ho1 : isL o1) {k9 : Nat} {rg : Nat → Nat → St → Int32 → Option St} (hg0 : ∀ {o1 : Nat} (ho1 : isL o1) {rr : St} {S : St} {x2 : Int32}, rg 0 o1 S x2 = some rr → Ct X.1 yX3_readChoice cX3_readChoice 5 none (5 + k9) X.2.1 0 55 [.ref (X.2.1.1 7), .ref (X.2.1.1 o1), .int x2] S (none, rr)) (hg1 : ∀ {o1 : Nat} (ho1 : isL o1) {rr : St} {S : St} {x2 : Int32}, rg 1 o1 S x2 = some rr → Ct X.1 yX3_readPart cX3_readPart 5 none (5 + k9) X.2.1 0 55 [.ref (X.2.1.1 7), .ref (X.2.1.1 o1), .int x2] S (none, rr)) (hg2 : ∀ {o1 : Nat} (ho1 : isL o1) {rr : St} {S : St} {x2 : Int32}, rg 2 o1 S x2 = some rr → Ct X.1 yX3_readTest cX3_readTest 5 none (5 + k9) X.2.1 0 55 [.ref (X.2.1.1 7), .ref (X.2.1.1 o1), .int x2] S (none, rr)) (hg3 : ∀ {o1 : Nat} (ho1 : isL o1) {rr : St} {S : St} {x2 : Int32}, rg 3 o1 S x2 = some rr → Ct X.1 yX3_readSum cX3_readSum 5 none (5 + k9) X.2.1 0 55 [.ref (X.2.1.1 7), .ref (X.2.1.1 o1), .int x2] S (none, rr)) (hg4 : ∀ {o1 : Nat} (ho1 : isL o1) {rr : St} {S : St} {x2 : Int32}, rg 4 o1 S x2 = some rr → Ct X.1 yX3_readTerm cX3_readTerm 5 none (5 + k9) X.2.1 0 55 [.ref (X.2.1.1 7), .ref (X.2.1.1 o1), .int x2] S (none, rr)) (hg5 : ∀ {o1 : Nat} (ho1 : isL o1) {rr : St} {S : St} {x2 : Int32}, rg 5 o1 S x2 = some rr → Ct X.1 yX3_readFactor cX3_readFactor 4 none (5 + k9) X.2.1 0 55 [.ref (X.2.1.1 7), .ref (X.2.1.1 o1), .int x2] S (none, rr)) {rr : St} (hq : rs X = (none, rr)) {S : St} {x2 : Int32} (hres : fX3_readFactor rg o1 S x2 = some rr) : Wat 0 55 (5 + k9 + 1) 4 X 0 [(0, .ref (ad X 7)), (1, .ref (ad X o1)), (2, .int x2)] [] S := by
  unfold fX3_readFactor at hres
  refine q_aload_n 1 hX 0 dX3_readFactor_0 rfl rfl rfl ?_
  refine q_getR 4 hX ci3 lf_RX3_9 fR_7_0 dX3_readFactor_1 rfl ?_
  obtain ⟨r2, S1, hk1, hres⟩ := ob hres
  refine q_callVi 7 (st := []) (As := []) hX (cX0_fine9 hX.dj hk1) cv_RX3_34 ci0 oB_3 rfl (by omega) rfl (Nat.le_of_ble_eq_true rfl) dX3_readFactor_4 rfl ?_
  refine q_if_ne 10 hX 11 dX3_readFactor_7 rfl (by decide) (fun hc => ?_) (fun hc => ?_)
  · have hres := it_f hc hres
    refine q_aload_n 12 hX 0 dX3_readFactor_11 rfl rfl rfl ?_
    refine q_getR 15 hX ci3 lf_RX3_9 fR_7_0 dX3_readFactor_12 rfl ?_
    refine q_getI 18 hX ci0 lf_RX3_41 fI_3_3 dX3_readFactor_15 rfl ?_
    obtain ⟨r4, S2, hk3, hres⟩ := ob hres
    refine q_callSi 21 (st := []) (As := [.int (S1.1 3 3)]) hX (cX3_letterOf9 hX.dj hk3) cs_RX3_100 rfl (by omega) rfl (Nat.le_of_ble_eq_true rfl) dX3_readFactor_18 rfl ?_
    refine q_istore_n 22 (lv' := [(3, .int r4), (0, .ref (ad X 7)), (1, .ref (ad X o1)), (2, .int x2)]) hX dX3_readFactor_21 rfl rfl (by decide) rfl ?_
    refine q_iload_n 23 hX 0 dX3_readFactor_22 rfl rfl rfl ?_
    refine q_iconst 24 hX dX3_readFactor_23 rfl kI_m1 ?_
    refine q_icmp_eq 27 hX 44 dX3_readFactor_24 rfl (by decide) (fun hc => ?_) (fun hc => ?_)
    · have hres := it_t hc hres
      refine q_aload_n 45 hX 1 dX3_readFactor_44 rfl rfl rfl ?_
      refine q_getR 48 hX ci3 lf_RX3_9 fR_7_0 dX3_readFactor_45 rfl ?_
      refine q_getI 51 hX ci0 lf_RX3_41 fI_3_3 dX3_readFactor_48 rfl ?_
      refine q_bipush 53 hX dX3_readFactor_51 rfl kB_91 ?_
      refine q_icmp_eq 56 hX 73 dX3_readFactor_53 rfl (by decide) (fun hc => ?_) (fun hc => ?_)
      · have hres := it_t hc hres
        refine q_aload_n 74 hX 1 dX3_readFactor_73 rfl rfl rfl ?_
        refine q_iload_n 75 hX 3 dX3_readFactor_74 rfl rfl rfl ?_
        obtain ⟨r6, S3, hk5, hres⟩ := ob hres
        refine q_callVi 78 (st := []) (As := [.int x2]) hX (cX3_opens9 hX.dj hk5) cv_RX3_80 ci3 oB_7 rfl (by omega) rfl (Nat.le_of_ble_eq_true rfl) dX3_readFactor_75 rfl ?_
        refine q_if_eq 81 hX 98 dX3_readFactor_78 rfl (by decide) (fun hc => ?_) (fun hc => ?_)
        · have hres := it_t hc hres
          exact q_vret hX (eqv hq hres) dX3_readFactor_98
        · have hres := it_f hc hres
          refine q_aload_n 82 hX 1 dX3_readFactor_81 rfl rfl rfl ?_
          refine q_aload_n 83 hX 2 dX3_readFactor_82 rfl rfl rfl ?_
          refine q_iload_n 84 hX 3 dX3_readFactor_83 rfl rfl rfl ?_
          refine q_iconst 85 hX dX3_readFactor_84 rfl kI_1 ?_
          refine q_iadd 86 hX dX3_readFactor_85 rfl ?_
          obtain ⟨S4, hk7, hres⟩ := obv hres
          refine q_callVv 89 (st := []) (As := [.ref (ad X o1), .int (x2 + (1 : Int32))]) hX (hg3 ho1 hk7) cv_RX3_53 ci3 oB_7 rfl (by omega) rfl (Nat.le_of_ble_eq_true rfl) dX3_readFactor_86 rfl ?_
          refine q_aload_n 90 hX 1 dX3_readFactor_89 rfl rfl rfl ?_
          refine q_getR 93 hX ci3 lf_RX3_9 fR_7_0 dX3_readFactor_90 rfl ?_
          refine q_bipush 95 hX dX3_readFactor_93 rfl kB_93 ?_
          obtain ⟨S5, hk8, hres⟩ := obv hres
          refine q_callVv 98 (st := []) (As := [.int (93 : Int32)]) hX (cX0_expect9 hX.dj hk8) cv_RX3_61 ci0 oB_3 rfl (by omega) rfl (Nat.le_of_ble_eq_true rfl) dX3_readFactor_95 rfl ?_
          exact q_vret hX (eqv hq hres) dX3_readFactor_98
      · have hres := it_f hc hres
        refine q_aload_n 57 hX 2 dX3_readFactor_56 rfl rfl rfl ?_
        refine q_iconst 58 hX dX3_readFactor_57 rfl kI_1 ?_
        refine q_aload_n 59 hX 1 dX3_readFactor_58 rfl rfl rfl ?_
        refine q_getR 62 hX ci3 lf_RX3_9 fR_7_0 dX3_readFactor_59 rfl ?_
        refine q_iconst 63 hX dX3_readFactor_62 rfl kI_5 ?_
        obtain ⟨r10, S6, hk9, hres⟩ := ob hres
        refine q_callVi 66 (st := [.int (1 : Int32), .ref (ad X o1)]) (As := [.int (5 : Int32)]) hX (cX0_readNumber9 hX.dj hk9) cv_RX3_103 ci0 oB_3 rfl (by omega) rfl (Nat.le_of_ble_eq_true rfl) dX3_readFactor_63 rfl ?_
        obtain ⟨r12, S7, hk11, hres⟩ := ob hres
        refine q_callVi 69 (st := []) (As := [.int (1 : Int32), .int r10]) hX (cX2_addStep9 hX.dj ho1 hk11) cv_RX3_57 ci2 (oB_L ho1) rfl (by omega) rfl (Nat.le_of_ble_eq_true rfl) dX3_readFactor_66 rfl ?_
        refine q_pop 70 hX dX3_readFactor_69 rfl rfl ?_
        refine q_goto 98 hX dX3_readFactor_70 (by decide) ?_
        exact q_vret hX (eqv hq hres) dX3_readFactor_98
    · have hres := it_f hc hres
      refine q_aload_n 28 hX 2 dX3_readFactor_27 rfl rfl rfl ?_
      refine q_iconst 29 hX dX3_readFactor_28 rfl kI_2 ?_
      refine q_iload_n 30 hX 0 dX3_readFactor_29 rfl rfl rfl ?_
      obtain ⟨r14, S8, hk13, hres⟩ := ob hres
      refine q_callVi 33 (st := []) (As := [.int (2 : Int32), .int r4]) hX (cX2_addStep9 hX.dj ho1 hk13) cv_RX3_57 ci2 (oB_L ho1) rfl (by omega) rfl (Nat.le_of_ble_eq_true rfl) dX3_readFactor_30 rfl ?_
      refine q_pop 34 hX dX3_readFactor_33 rfl rfl ?_
      refine q_aload_n 35 hX 1 dX3_readFactor_34 rfl rfl rfl ?_
      refine q_getR 38 hX ci3 lf_RX3_9 fR_7_0 dX3_readFactor_35 rfl ?_
      obtain ⟨S9, hk15, hres⟩ := obv hres
      refine q_callVv 41 (st := []) (As := []) hX (cX0_step9 hX.dj hk15) cv_RX3_47 ci0 oB_3 rfl (by omega) rfl (Nat.le_of_ble_eq_true rfl) dX3_readFactor_38 rfl ?_
      refine q_goto 98 hX dX3_readFactor_41 (by decide) ?_
      exact q_vret hX (eqv hq hres) dX3_readFactor_98
  · have hres := it_t hc hres
    exact q_vret hX (eqv hq hres) dX3_readFactor_10
def fLR : Nat → Nat → Nat → St → Int32 → Option St
  | 0 => fun _ _ _ _ => none
  | k + 1 => fun t o S x => if t = 0 then fX3_readChoice (fLR k) o S x else if t = 1 then fX3_readPart (fLR k) o S x else if t = 2 then fX3_readTest (fLR k) o S x else if t = 3 then fX3_readSum (fLR k) o S x else if t = 4 then fX3_readTerm (fLR k) o S x else if t = 5 then fX3_readFactor (fLR k) o S x else none
theorem cLR {l : Launch} {w : WD} (hj : Dj w 0 55) (k9 : Nat) : (∀ {o1 : Nat} (ho1 : isL o1) {rr : St} {S : St} {x2 : Int32}, fLR k9 0 o1 S x2 = some rr → Ct l yX3_readChoice cX3_readChoice 5 none (5 + k9) w 0 55 [.ref (w.1 7), .ref (w.1 o1), .int x2] S (none, rr)) ∧ (∀ {o1 : Nat} (ho1 : isL o1) {rr : St} {S : St} {x2 : Int32}, fLR k9 1 o1 S x2 = some rr → Ct l yX3_readPart cX3_readPart 5 none (5 + k9) w 0 55 [.ref (w.1 7), .ref (w.1 o1), .int x2] S (none, rr)) ∧ (∀ {o1 : Nat} (ho1 : isL o1) {rr : St} {S : St} {x2 : Int32}, fLR k9 2 o1 S x2 = some rr → Ct l yX3_readTest cX3_readTest 5 none (5 + k9) w 0 55 [.ref (w.1 7), .ref (w.1 o1), .int x2] S (none, rr)) ∧ (∀ {o1 : Nat} (ho1 : isL o1) {rr : St} {S : St} {x2 : Int32}, fLR k9 3 o1 S x2 = some rr → Ct l yX3_readSum cX3_readSum 5 none (5 + k9) w 0 55 [.ref (w.1 7), .ref (w.1 o1), .int x2] S (none, rr)) ∧ (∀ {o1 : Nat} (ho1 : isL o1) {rr : St} {S : St} {x2 : Int32}, fLR k9 4 o1 S x2 = some rr → Ct l yX3_readTerm cX3_readTerm 5 none (5 + k9) w 0 55 [.ref (w.1 7), .ref (w.1 o1), .int x2] S (none, rr)) ∧ (∀ {o1 : Nat} (ho1 : isL o1) {rr : St} {S : St} {x2 : Int32}, fLR k9 5 o1 S x2 = some rr → Ct l yX3_readFactor cX3_readFactor 4 none (5 + k9) w 0 55 [.ref (w.1 7), .ref (w.1 o1), .int x2] S (none, rr)) := by
  induction k9 with
  | zero => exact ⟨fun _ _ _ _ h => absurd h (by simp [fLR]), fun _ _ _ _ h => absurd h (by simp [fLR]), fun _ _ _ _ h => absurd h (by simp [fLR]), fun _ _ _ _ h => absurd h (by simp [fLR]), fun _ _ _ _ h => absurd h (by simp [fLR]), fun _ _ _ _ h => absurd h (by simp [fLR])⟩
  | succ k9 ih =>
    refine ⟨?_, ?_, ?_, ?_, ?_, ?_⟩
    · intro o1 ho1 rr S x2 hres
      have hres : fX3_readChoice (fLR k9) o1 S x2 = some rr := hres
      refine Ct.of (lv := [(0, .ref (w.1 7)), (1, .ref (w.1 o1)), (2, .int x2)]) hj (by decide +kernel) (Nat.le_of_ble_eq_true rfl) rfl ?_
      rintro X rfl rfl hq hX
      exact wfX3_readChoice hX ho1 ih.1 ih.2.1 ih.2.2.1 ih.2.2.2.1 ih.2.2.2.2.1 ih.2.2.2.2.2 hq hres
    · intro o1 ho1 rr S x2 hres
      have hres : fX3_readPart (fLR k9) o1 S x2 = some rr := hres
      refine Ct.of (lv := [(0, .ref (w.1 7)), (1, .ref (w.1 o1)), (2, .int x2)]) hj (by decide +kernel) (Nat.le_of_ble_eq_true rfl) rfl ?_
      rintro X rfl rfl hq hX
      exact wfX3_readPart hX ho1 ih.1 ih.2.1 ih.2.2.1 ih.2.2.2.1 ih.2.2.2.2.1 ih.2.2.2.2.2 hq hres
    · intro o1 ho1 rr S x2 hres
      have hres : fX3_readTest (fLR k9) o1 S x2 = some rr := hres
      refine Ct.of (lv := [(0, .ref (w.1 7)), (1, .ref (w.1 o1)), (2, .int x2)]) hj (by decide +kernel) (Nat.le_of_ble_eq_true rfl) rfl ?_
      rintro X rfl rfl hq hX
      exact wfX3_readTest hX ho1 ih.1 ih.2.1 ih.2.2.1 ih.2.2.2.1 ih.2.2.2.2.1 ih.2.2.2.2.2 hq hres
    · intro o1 ho1 rr S x2 hres
      have hres : fX3_readSum (fLR k9) o1 S x2 = some rr := hres
      refine Ct.of (lv := [(0, .ref (w.1 7)), (1, .ref (w.1 o1)), (2, .int x2)]) hj (by decide +kernel) (Nat.le_of_ble_eq_true rfl) rfl ?_
      rintro X rfl rfl hq hX
      exact wfX3_readSum hX ho1 ih.1 ih.2.1 ih.2.2.1 ih.2.2.2.1 ih.2.2.2.2.1 ih.2.2.2.2.2 hq hres
    · intro o1 ho1 rr S x2 hres
      have hres : fX3_readTerm (fLR k9) o1 S x2 = some rr := hres
      refine Ct.of (lv := [(0, .ref (w.1 7)), (1, .ref (w.1 o1)), (2, .int x2)]) hj (by decide +kernel) (Nat.le_of_ble_eq_true rfl) rfl ?_
      rintro X rfl rfl hq hX
      exact wfX3_readTerm hX ho1 ih.1 ih.2.1 ih.2.2.1 ih.2.2.2.1 ih.2.2.2.2.1 ih.2.2.2.2.2 hq hres
    · intro o1 ho1 rr S x2 hres
      have hres : fX3_readFactor (fLR k9) o1 S x2 = some rr := hres
      refine Ct.of (lv := [(0, .ref (w.1 7)), (1, .ref (w.1 o1)), (2, .int x2)]) hj (by decide +kernel) (Nat.le_of_ble_eq_true rfl) rfl ?_
      rintro X rfl rfl hq hX
      exact wfX3_readFactor hX ho1 ih.1 ih.2.1 ih.2.2.1 ih.2.2.2.1 ih.2.2.2.2.1 ih.2.2.2.2.2 hq hres
theorem cX3_readChoice9 {l : Launch} {w : WD} (hj : Dj w 0 55) : ∀ {o1 : Nat} (ho1 : isL o1) {rr : St} {S : St} {x2 : Int32}, fLR 60 0 o1 S x2 = some rr → Ct l yX3_readChoice cX3_readChoice 5 none 65 w 0 55 [.ref (w.1 7), .ref (w.1 o1), .int x2] S (none, rr) := (cLR hj 60).1
theorem cX3_readPart9 {l : Launch} {w : WD} (hj : Dj w 0 55) : ∀ {o1 : Nat} (ho1 : isL o1) {rr : St} {S : St} {x2 : Int32}, fLR 60 1 o1 S x2 = some rr → Ct l yX3_readPart cX3_readPart 5 none 65 w 0 55 [.ref (w.1 7), .ref (w.1 o1), .int x2] S (none, rr) := (cLR hj 60).2.1
theorem cX3_readTest9 {l : Launch} {w : WD} (hj : Dj w 0 55) : ∀ {o1 : Nat} (ho1 : isL o1) {rr : St} {S : St} {x2 : Int32}, fLR 60 2 o1 S x2 = some rr → Ct l yX3_readTest cX3_readTest 5 none 65 w 0 55 [.ref (w.1 7), .ref (w.1 o1), .int x2] S (none, rr) := (cLR hj 60).2.2.1
theorem cX3_readSum9 {l : Launch} {w : WD} (hj : Dj w 0 55) : ∀ {o1 : Nat} (ho1 : isL o1) {rr : St} {S : St} {x2 : Int32}, fLR 60 3 o1 S x2 = some rr → Ct l yX3_readSum cX3_readSum 5 none 65 w 0 55 [.ref (w.1 7), .ref (w.1 o1), .int x2] S (none, rr) := (cLR hj 60).2.2.2.1
theorem cX3_readTerm9 {l : Launch} {w : WD} (hj : Dj w 0 55) : ∀ {o1 : Nat} (ho1 : isL o1) {rr : St} {S : St} {x2 : Int32}, fLR 60 4 o1 S x2 = some rr → Ct l yX3_readTerm cX3_readTerm 5 none 65 w 0 55 [.ref (w.1 7), .ref (w.1 o1), .int x2] S (none, rr) := (cLR hj 60).2.2.2.2.1
theorem cX3_readFactor9 {l : Launch} {w : WD} (hj : Dj w 0 55) : ∀ {o1 : Nat} (ho1 : isL o1) {rr : St} {S : St} {x2 : Int32}, fLR 60 5 o1 S x2 = some rr → Ct l yX3_readFactor cX3_readFactor 4 none 65 w 0 55 [.ref (w.1 7), .ref (w.1 o1), .int x2] S (none, rr) := (cLR hj 60).2.2.2.2.2
def fX3_readRule_82 (o2 : Nat) (S : St) (x3 : Int32) (x4 : Int32) : Option (St) :=
  bv (fX0_expect S (40 : Int32)) fun S1 => bV ((S1.1 o2 7)) fun v2 => bv (fLR 60 0 o2 S1 (1 : Int32)) fun S2 => bv (fX0_expect S2 (41 : Int32)) fun S3 => bi (fX2_addStep o2 S3 (0 : Int32) (0 : Int32)) fun r6 S4 => bv (fX2_addRule o2 S4 x3 x4 v2) fun S5 => some S5
theorem wfX3_readRule_82 {X : CX} (hX : Ok RX3 cX3_readRule none 0 55 6 X) {o2 : Nat} (ho2 : isL o2) {rr : St} (hq : rs X = (none, rr)) {S : St} {x3 : Int32} {x4 : Int32} (hres : fX3_readRule_82 o2 S x3 x4 = some rr) : Wat 0 55 67 6 X 82 [(0, .ref (ad X 7)), (2, .ref (ad X o2)), (3, .int x3), (4, .int x4)] [] S := by
  unfold fX3_readRule_82 at hres
  refine q_aload_n 83 hX 0 dX3_readRule_82 rfl rfl rfl ?_
  refine q_getR 86 hX ci3 lf_RX3_9 fR_7_0 dX3_readRule_83 rfl ?_
  refine q_bipush 88 hX dX3_readRule_86 rfl kB_40 ?_
  obtain ⟨S1, hk1, hres⟩ := obv hres
  refine q_callVv 91 (st := []) (As := [.int (40 : Int32)]) hX (cX0_expect9 hX.dj hk1) cv_RX3_61 ci0 oB_3 rfl (by decide) rfl (Nat.le_of_ble_eq_true rfl) dX3_readRule_88 rfl ?_
  refine q_aload_n 92 hX 1 dX3_readRule_91 rfl rfl rfl ?_
  refine q_getI 95 hX ci2 lf_RX3_50 (fI_L_7 ho2) dX3_readRule_92 rfl ?_
  refine q_istoreB 97 (lv0 := [(0, .ref (ad X 7)), (2, .ref (ad X o2)), (3, .int x3), (4, .int x4)]) hX dX3_readRule_95 rfl (by decide) rfl hres (fun v2 hres => ?_)
  refine q_aload_n 98 hX 1 dX3_readRule_97 rfl rfl rfl ?_
  refine q_aload_n 99 hX 2 dX3_readRule_98 rfl rfl rfl ?_
  refine q_iconst 100 hX dX3_readRule_99 rfl kI_1 ?_
  obtain ⟨S2, hk3, hres⟩ := obv hres
  refine q_callVv 103 (st := []) (As := [.ref (ad X o2), .int (1 : Int32)]) hX (cX3_readChoice9 hX.dj ho2 hk3) cv_RX3_64 ci3 oB_7 rfl (by decide) rfl (Nat.le_of_ble_eq_true rfl) dX3_readRule_100 rfl ?_
  refine q_aload_n 104 hX 1 dX3_readRule_103 rfl rfl rfl ?_
  refine q_getR 107 hX ci3 lf_RX3_9 fR_7_0 dX3_readRule_104 rfl ?_
  refine q_bipush 109 hX dX3_readRule_107 rfl kB_41 ?_
  obtain ⟨S3, hk4, hres⟩ := obv hres
  refine q_callVv 112 (st := []) (As := [.int (41 : Int32)]) hX (cX0_expect9 hX.dj hk4) cv_RX3_61 ci0 oB_3 rfl (by decide) rfl (Nat.le_of_ble_eq_true rfl) dX3_readRule_109 rfl ?_
  refine q_aload_n 113 hX 2 dX3_readRule_112 rfl rfl rfl ?_
  refine q_iconst 114 hX dX3_readRule_113 rfl kI_0 ?_
  refine q_iconst 115 hX dX3_readRule_114 rfl kI_0 ?_
  obtain ⟨r6, S4, hk5, hres⟩ := ob hres
  refine q_callVi 118 (st := []) (As := [.int (0 : Int32), .int (0 : Int32)]) hX (cX2_addStep9 hX.dj ho2 hk5) cv_RX3_57 ci2 (oB_L ho2) rfl (by decide) rfl (Nat.le_of_ble_eq_true rfl) dX3_readRule_115 rfl ?_
  refine q_pop 119 hX dX3_readRule_118 rfl rfl ?_
  refine q_aload_n 120 hX 2 dX3_readRule_119 rfl rfl rfl ?_
  refine q_iload_n 121 hX 3 dX3_readRule_120 rfl rfl rfl ?_
  refine q_iload 123 hX 4 dX3_readRule_121 rfl rfl ?_
  refine q_iload 125 hX 0 dX3_readRule_123 rfl rfl ?_
  obtain ⟨S5, hk7, hres⟩ := obv hres
  refine q_callVv 128 (st := []) (As := [.int x3, .int x4, .int v2]) hX (cX2_addRule9 hX.dj ho2 hk7) cv_RX3_67 ci2 (oB_L ho2) rfl (by decide) rfl (Nat.le_of_ble_eq_true rfl) dX3_readRule_125 rfl ?_
  exact q_vret hX (eqv hq hres) dX3_readRule_128
def fX3_readRule_35 (o2 : Nat) (S : St) (x1 : Int32) (x3 : Int32) : Option (St) :=
  if x1 < (16 : Int32) then (bv (fX0_step S) fun S1 => bV ((S1.1 o2 7)) fun v2 => if x3 = (120 : Int32) then (fX3_readRule_82 o2 S1 x3 v2) else (bv (fLR 60 3 o2 S1 (0 : Int32)) fun S2 => bi (fX2_addStep o2 S2 (0 : Int32) (0 : Int32)) fun r5 S3 => fX3_readRule_82 o2 S3 x3 v2)) else (bv (fX0_failHere S (4 : Int32)) fun S4 => some S4)
theorem wfX3_readRule_35 {X : CX} (hX : Ok RX3 cX3_readRule none 0 55 6 X) {o2 : Nat} (ho2 : isL o2) {rr : St} (hq : rs X = (none, rr)) {S : St} {x1 : Int32} {x3 : Int32} (hres : fX3_readRule_35 o2 S x1 x3 = some rr) : Wat 0 55 67 6 X 35 [(0, .ref (ad X 7)), (1, .int x1), (2, .ref (ad X o2)), (3, .int x3)] [] S := by
  unfold fX3_readRule_35 at hres
  refine q_iload_n 36 hX 1 dX3_readRule_35 rfl rfl rfl ?_
  refine q_bipush 38 hX dX3_readRule_36 rfl kB_16 ?_
  refine q_icmp_lt 41 hX 50 dX3_readRule_38 rfl (by decide) (fun hc => ?_) (fun hc => ?_)
  · have hres := it_t hc hres
    refine q_aload_n 51 hX 0 dX3_readRule_50 rfl rfl rfl ?_
    refine q_getR 54 hX ci3 lf_RX3_9 fR_7_0 dX3_readRule_51 rfl ?_
    obtain ⟨S1, hk1, hres⟩ := obv hres
    refine q_callVv 57 (st := []) (As := []) hX (cX0_step9 hX.dj hk1) cv_RX3_47 ci0 oB_3 rfl (by decide) rfl (Nat.le_of_ble_eq_true rfl) dX3_readRule_54 rfl ?_
    refine q_aload_n 58 hX 2 dX3_readRule_57 rfl rfl rfl ?_
    refine q_getI 61 hX ci2 lf_RX3_50 (fI_L_7 ho2) dX3_readRule_58 rfl ?_
    refine q_istoreB 63 (lv0 := [(0, .ref (ad X 7)), (1, .int x1), (2, .ref (ad X o2)), (3, .int x3)]) hX dX3_readRule_61 rfl (by decide) rfl hres (fun v2 hres => ?_)
    refine q_iload_n 64 hX 4 dX3_readRule_63 rfl rfl rfl ?_
    refine q_bipush 66 hX dX3_readRule_64 rfl kB_120 ?_
    refine q_icmp_eq 69 hX 82 dX3_readRule_66 rfl (by decide) (fun hc => ?_) (fun hc => ?_)
    · have hres := it_t hc hres
      exact q_sub [1, 3, 4, 0] rfl (wfX3_readRule_82 hX ho2 hq hres)
    · have hres := it_f hc hres
      refine q_aload_n 70 hX 1 dX3_readRule_69 rfl rfl rfl ?_
      refine q_aload_n 71 hX 3 dX3_readRule_70 rfl rfl rfl ?_
      refine q_iconst 72 hX dX3_readRule_71 rfl kI_0 ?_
      obtain ⟨S2, hk3, hres⟩ := obv hres
      refine q_callVv 75 (st := []) (As := [.ref (ad X o2), .int (0 : Int32)]) hX (cX3_readSum9 hX.dj ho2 hk3) cv_RX3_53 ci3 oB_7 rfl (by decide) rfl (Nat.le_of_ble_eq_true rfl) dX3_readRule_72 rfl ?_
      refine q_aload_n 76 hX 3 dX3_readRule_75 rfl rfl rfl ?_
      refine q_iconst 77 hX dX3_readRule_76 rfl kI_0 ?_
      refine q_iconst 78 hX dX3_readRule_77 rfl kI_0 ?_
      obtain ⟨r5, S3, hk4, hres⟩ := ob hres
      refine q_callVi 81 (st := []) (As := [.int (0 : Int32), .int (0 : Int32)]) hX (cX2_addStep9 hX.dj ho2 hk4) cv_RX3_57 ci2 (oB_L ho2) rfl (by decide) rfl (Nat.le_of_ble_eq_true rfl) dX3_readRule_78 rfl ?_
      refine q_pop 82 hX dX3_readRule_81 rfl rfl ?_
      exact q_sub [1, 3, 4, 0] rfl (wfX3_readRule_82 hX ho2 hq hres)
  · have hres := it_f hc hres
    refine q_aload_n 42 hX 0 dX3_readRule_41 rfl rfl rfl ?_
    refine q_getR 45 hX ci3 lf_RX3_9 fR_7_0 dX3_readRule_42 rfl ?_
    refine q_iconst 46 hX dX3_readRule_45 rfl kI_4 ?_
    obtain ⟨S4, hk6, hres⟩ := obv hres
    refine q_callVv 49 (st := []) (As := [.int (4 : Int32)]) hX (cX0_failHere9 hX.dj hk6) cv_RX3_44 ci0 oB_3 rfl (by decide) rfl (Nat.le_of_ble_eq_true rfl) dX3_readRule_46 rfl ?_
    exact q_vret hX (eqv hq hres) dX3_readRule_49
def fX3_readRule (o2 : Nat) (S : St) (x1 : Int32) : Option (St) :=
  bV ((S.1 3 3)) fun v1 => if v1 = (99 : Int32) then (fX3_readRule_35 o2 S x1 v1) else (if v1 = (106 : Int32) then (fX3_readRule_35 o2 S x1 v1) else (if v1 = (120 : Int32) then (fX3_readRule_35 o2 S x1 v1) else (bv (fX0_failHere S (1 : Int32)) fun S1 => some S1)))
theorem wfX3_readRule {X : CX} (hX : Ok RX3 cX3_readRule none 0 55 6 X) {o2 : Nat} (ho2 : isL o2) {rr : St} (hq : rs X = (none, rr)) {S : St} {x1 : Int32} (hres : fX3_readRule o2 S x1 = some rr) : Wat 0 55 67 6 X 0 [(0, .ref (ad X 7)), (1, .int x1), (2, .ref (ad X o2))] [] S := by
  unfold fX3_readRule at hres
  refine q_aload_n 1 hX 0 dX3_readRule_0 rfl rfl rfl ?_
  refine q_getR 4 hX ci3 lf_RX3_9 fR_7_0 dX3_readRule_1 rfl ?_
  refine q_getI 7 hX ci0 lf_RX3_41 fI_3_3 dX3_readRule_4 rfl ?_
  refine q_istoreB_n 8 (lv0 := [(0, .ref (ad X 7)), (1, .int x1), (2, .ref (ad X o2))]) hX dX3_readRule_7 rfl rfl (by decide) rfl hres (fun v1 hres => ?_)
  refine q_iload_n 9 hX 0 dX3_readRule_8 rfl rfl rfl ?_
  refine q_bipush 11 hX dX3_readRule_9 rfl kB_99 ?_
  refine q_icmp_eq 14 hX 35 dX3_readRule_11 rfl (by decide) (fun hc => ?_) (fun hc => ?_)
  · have hres := it_t hc hres
    exact q_sub [1, 2, 3, 0] rfl (wfX3_readRule_35 hX ho2 hq hres)
  · have hres := it_f hc hres
    refine q_iload_n 15 hX 0 dX3_readRule_14 rfl rfl rfl ?_
    refine q_bipush 17 hX dX3_readRule_15 rfl kB_106 ?_
    refine q_icmp_eq 20 hX 35 dX3_readRule_17 rfl (by decide) (fun hc => ?_) (fun hc => ?_)
    · have hres := it_t hc hres
      exact q_sub [1, 2, 3, 0] rfl (wfX3_readRule_35 hX ho2 hq hres)
    · have hres := it_f hc hres
      refine q_iload_n 21 hX 0 dX3_readRule_20 rfl rfl rfl ?_
      refine q_bipush 23 hX dX3_readRule_21 rfl kB_120 ?_
      refine q_icmp_eq 26 hX 35 dX3_readRule_23 rfl (by decide) (fun hc => ?_) (fun hc => ?_)
      · have hres := it_t hc hres
        exact q_sub [1, 2, 3, 0] rfl (wfX3_readRule_35 hX ho2 hq hres)
      · have hres := it_f hc hres
        refine q_aload_n 27 hX 1 dX3_readRule_26 rfl rfl rfl ?_
        refine q_getR 30 hX ci3 lf_RX3_9 fR_7_0 dX3_readRule_27 rfl ?_
        refine q_iconst 31 hX dX3_readRule_30 rfl kI_1 ?_
        obtain ⟨S1, hk2, hres⟩ := obv hres
        refine q_callVv 34 (st := []) (As := [.int (1 : Int32)]) hX (cX0_failHere9 hX.dj hk2) cv_RX3_44 ci0 oB_3 rfl (by decide) rfl (Nat.le_of_ble_eq_true rfl) dX3_readRule_31 rfl ?_
        exact q_vret hX (eqv hq hres) dX3_readRule_34
theorem cX3_readRule9 {l : Launch} {w : WD} (hj : Dj w 0 55) {o2 : Nat} (ho2 : isL o2) {rr : St} {S : St} {x1 : Int32} (hres : fX3_readRule o2 S x1 = some rr) : Ct l yX3_readRule cX3_readRule 6 none 67 w 0 55 [.ref (w.1 7), .int x1, .ref (w.1 o2)] S (none, rr) := by
  refine Ct.of (lv := [(0, .ref (w.1 7)), (1, .int x1), (2, .ref (w.1 o2))]) hj (by decide +kernel) (Nat.le_of_ble_eq_true rfl) rfl ?_
  rintro X rfl rfl hq hX
  exact wfX3_readRule hX ho2 hq hres
def fX3_readLaw_49 (o2 : Nat) (S : St) (x3 : Int32) : Option (Int32 × St) :=
  bi (fX0_fine S) fun r2 S1 => if r2 = 0 then (some ((S1.1 3 4), S1)) else (some (x3, S1))
theorem wfX3_readLaw_49 {X : CX} (hX : Ok RX3 cX3_readLaw (some .int) 0 55 5 X) {o2 : Nat} (ho2 : isL o2) {rr : Int32 × St} (hq : rs X = (some (.int rr.1), rr.2)) {S : St} {x3 : Int32} (hres : fX3_readLaw_49 o2 S x3 = some rr) : Wat 0 55 68 5 X 49 [(0, .ref (ad X 7)), (3, .int x3)] [] S := by
  unfold fX3_readLaw_49 at hres
  refine q_aload_n 50 hX 0 dX3_readLaw_49 rfl rfl rfl ?_
  refine q_getR 53 hX ci3 lf_RX3_9 fR_7_0 dX3_readLaw_50 rfl ?_
  obtain ⟨r2, S1, hk1, hres⟩ := ob hres
  refine q_callVi 56 (st := []) (As := []) hX (cX0_fine9 hX.dj hk1) cv_RX3_34 ci0 oB_3 rfl (by decide) rfl (Nat.le_of_ble_eq_true rfl) dX3_readLaw_53 rfl ?_
  refine q_if_eq 59 hX 63 dX3_readLaw_56 rfl (by decide) (fun hc => ?_) (fun hc => ?_)
  · have hres := it_t hc hres
    refine q_aload_n 64 hX 0 dX3_readLaw_63 rfl rfl rfl ?_
    refine q_getR 67 hX ci3 lf_RX3_9 fR_7_0 dX3_readLaw_64 rfl ?_
    refine q_getI 70 hX ci0 lf_RX3_37 fI_3_4 dX3_readLaw_67 rfl ?_
    exact q_iret hX (eqi hq hres) dX3_readLaw_70
  · have hres := it_f hc hres
    refine q_iload_n 60 hX 1 dX3_readLaw_59 rfl rfl rfl ?_
    refine q_goto 70 hX dX3_readLaw_60 (by decide) ?_
    exact q_iret hX (eqi hq hres) dX3_readLaw_70
def bX3_readLaw_17 (o2 : Nat) (rc17 : St → Int32 → Int32 → Option (Int32 × St)) (S : St) (x3 : Int32) (x4 : Int32) : Option (Int32 × St) :=
  if x4 = 0 then (fX3_readLaw_49 o2 S x3) else (if (16 : Int32) < x3 then (fX3_readLaw_49 o2 S x3) else (bv (fX3_readRule o2 S x3) fun S1 => bV (x3 + (1 : Int32)) fun v2 => bi (fX0_passesSemicolon S1) fun r4 S2 => rc17 S2 v2 r4))
theorem wbX3_readLaw_17 {X : CX} (hX : Ok RX3 cX3_readLaw (some .int) 0 55 5 X) {o2 : Nat} (ho2 : isL o2) {rr : Int32 × St} (hq : rs X = (some (.int rr.1), rr.2)) {rc17 : St → Int32 → Int32 → Option (Int32 × St)} (hrc17 : ∀ (S : St) (x3 : Int32) (x4 : Int32), rc17 S x3 x4 = some rr → Wat 0 55 68 5 X 17 [(0, .ref (ad X 7)), (2, .ref (ad X o2)), (3, .int x3), (4, .int x4)] [] S) {S : St} {x3 : Int32} {x4 : Int32} (hres : bX3_readLaw_17 o2 rc17 S x3 x4 = some rr) : Wat 0 55 68 5 X 17 [(0, .ref (ad X 7)), (2, .ref (ad X o2)), (3, .int x3), (4, .int x4)] [] S := by
  unfold bX3_readLaw_17 at hres
  refine q_iload 19 hX 3 dX3_readLaw_17 rfl rfl ?_
  refine q_if_eq 22 hX 49 dX3_readLaw_19 rfl (by decide) (fun hc => ?_) (fun hc => ?_)
  · have hres := it_t hc hres
    exact q_sub [0, 2] rfl (wfX3_readLaw_49 hX ho2 hq hres)
  · have hres := it_f hc hres
    refine q_iload_n 23 hX 2 dX3_readLaw_22 rfl rfl rfl ?_
    refine q_bipush 25 hX dX3_readLaw_23 rfl kB_16 ?_
    refine q_icmp_gt 28 hX 49 dX3_readLaw_25 rfl (by decide) (fun hc => ?_) (fun hc => ?_)
    · have hres := it_t hc hres
      exact q_sub [0, 2] rfl (wfX3_readLaw_49 hX ho2 hq hres)
    · have hres := it_f hc hres
      refine q_aload_n 29 hX 0 dX3_readLaw_28 rfl rfl rfl ?_
      refine q_iload_n 30 hX 2 dX3_readLaw_29 rfl rfl rfl ?_
      refine q_aload_n 31 hX 1 dX3_readLaw_30 rfl rfl rfl ?_
      obtain ⟨S1, hk1, hres⟩ := obv hres
      refine q_callVv 34 (st := []) (As := [.int x3, .ref (ad X o2)]) hX (cX3_readRule9 hX.dj ho2 hk1) cv_RX3_26 ci3 oB_7 rfl (by decide) rfl (Nat.le_of_ble_eq_true rfl) dX3_readLaw_31 rfl ?_
      refine q_iincB 37 2 (lv0 := [(0, .ref (ad X 7)), (2, .ref (ad X o2)), (4, .int x4)]) hX dX3_readLaw_34 rfl rfl kI_1 (by decide) rfl hres (fun v2 hres => ?_)
      refine q_aload_n 38 hX 1 dX3_readLaw_37 rfl rfl rfl ?_
      refine q_getR 41 hX ci3 lf_RX3_9 fR_7_0 dX3_readLaw_38 rfl ?_
      obtain ⟨r4, S2, hk3, hres⟩ := ob hres
      refine q_callVi 44 (st := []) (As := []) hX (cX0_passesSemicolon9 hX.dj hk3) cv_RX3_30 ci0 oB_3 rfl (by decide) rfl (Nat.le_of_ble_eq_true rfl) dX3_readLaw_41 rfl ?_
      refine q_istore 46 (lv' := [(4, .int r4), (3, .int v2), (0, .ref (ad X 7)), (2, .ref (ad X o2))]) hX dX3_readLaw_44 rfl (by decide) rfl ?_
      refine q_goto 17 hX dX3_readLaw_46 (by decide) ?_
      exact q_sub [2, 3, 1, 0] rfl (hrc17 _ _ _ hres)
def fX3_readLaw_17 (o2 : Nat) : Nat → St → Int32 → Int32 → Option (Int32 × St)
  | 0 => fun _ _ _ => none
  | k + 1 => fun S x3 x4 => bX3_readLaw_17 o2 (fX3_readLaw_17 o2 k) S x3 x4
theorem wfX3_readLaw_17 {X : CX} (hX : Ok RX3 cX3_readLaw (some .int) 0 55 5 X) {o2 : Nat} (ho2 : isL o2) {rr : Int32 × St} (hq : rs X = (some (.int rr.1), rr.2)) (k : Nat) : ∀ (S : St) (x3 : Int32) (x4 : Int32), fX3_readLaw_17 o2 k S x3 x4 = some rr → Wat 0 55 68 5 X 17 [(0, .ref (ad X 7)), (2, .ref (ad X o2)), (3, .int x3), (4, .int x4)] [] S := by
  induction k with
  | zero => intro S x3 x4 hres; exact absurd hres (by simp [fX3_readLaw_17])
  | succ k ih => intro S x3 x4 hres; exact wbX3_readLaw_17 hX ho2 hq ih hres
def fX3_readLaw (o2 : Nat) (S : St) (x1 : Int32) : Option (Int32 × St) :=
  bv (fX0_start S x1) fun S1 => bv (fX2_clear o2 S1) fun S2 => fX3_readLaw_17 o2 100 S2 (0 : Int32) (1 : Int32)
theorem wfX3_readLaw {X : CX} (hX : Ok RX3 cX3_readLaw (some .int) 0 55 5 X) {o2 : Nat} (ho2 : isL o2) {rr : Int32 × St} (hq : rs X = (some (.int rr.1), rr.2)) {S : St} {x1 : Int32} (hres : fX3_readLaw o2 S x1 = some rr) : Wat 0 55 68 5 X 0 [(0, .ref (ad X 7)), (1, .int x1), (2, .ref (ad X o2))] [] S := by
  unfold fX3_readLaw at hres
  refine q_aload_n 1 hX 0 dX3_readLaw_0 rfl rfl rfl ?_
  refine q_getR 4 hX ci3 lf_RX3_9 fR_7_0 dX3_readLaw_1 rfl ?_
  refine q_iload_n 5 hX 1 dX3_readLaw_4 rfl rfl rfl ?_
  obtain ⟨S1, hk1, hres⟩ := obv hres
  refine q_callVv 8 (st := []) (As := [.int x1]) hX (cX0_start9 hX.dj hk1) cv_RX3_15 ci0 oB_3 rfl (by decide) rfl (Nat.le_of_ble_eq_true rfl) dX3_readLaw_5 rfl ?_
  refine q_aload_n 9 hX 2 dX3_readLaw_8 rfl rfl rfl ?_
  obtain ⟨S2, hk2, hres⟩ := obv hres
  refine q_callVv 12 (st := []) (As := []) hX (cX2_clear9 hX.dj ho2 hk2) cv_RX3_21 ci2 (oB_L ho2) rfl (by decide) rfl (Nat.le_of_ble_eq_true rfl) dX3_readLaw_9 rfl ?_
  refine q_iconst 13 hX dX3_readLaw_12 rfl kI_0 ?_
  refine q_istore_n 14 (lv' := [(3, .int (0 : Int32)), (0, .ref (ad X 7)), (1, .int x1), (2, .ref (ad X o2))]) hX dX3_readLaw_13 rfl rfl (by decide) rfl ?_
  refine q_iconst 15 hX dX3_readLaw_14 rfl kI_1 ?_
  refine q_istore 17 (lv' := [(4, .int (1 : Int32)), (3, .int (0 : Int32)), (0, .ref (ad X 7)), (1, .int x1), (2, .ref (ad X o2))]) hX dX3_readLaw_15 rfl (by decide) rfl ?_
  exact q_sub [2, 4, 1, 0] rfl (wfX3_readLaw_17 hX ho2 hq _ _ _ _ hres)
theorem cX3_readLaw9 {l : Launch} {w : WD} (hj : Dj w 0 55) {o2 : Nat} (ho2 : isL o2) {rr : Int32 × St} {S : St} {x1 : Int32} (hres : fX3_readLaw o2 S x1 = some rr) : Ct l yX3_readLaw cX3_readLaw 5 (some .int) 68 w 0 55 [.ref (w.1 7), .int x1, .ref (w.1 o2)] S (some (.int rr.1), rr.2) := by
  refine Ct.of (lv := [(0, .ref (w.1 7)), (1, .int x1), (2, .ref (w.1 o2))]) hj (by decide +kernel) (Nat.le_of_ble_eq_true rfl) rfl ?_
  rintro X rfl rfl hq hX
  exact wfX3_readLaw hX ho2 hq hres
