def fX0_start (S : St) (x1 : Int32) : Option (St) :=
  bS (pI S 3 1 x1) fun S1 => bS (pI S1 3 2 (0 : Int32)) fun S2 => bi (fX7_byteAt S2 (0 : Int32)) fun r2 S3 => bS (pI S3 3 3 r2) fun S4 => bS (pI S4 3 4 (0 : Int32)) fun S5 => some S5
theorem wfX0_start {X : CX} (hX : Ok RX0 cX0_start none 0 55 2 X) {rr : St} (hq : rs X = (none, rr)) {S : St} {x1 : Int32} (hres : fX0_start S x1 = some rr) : Wat 0 55 1 2 X 0 [(0, .ref (ad X 3)), (1, .int x1)] [] S := by
  unfold fX0_start at hres
  refine q_aload_n 1 hX 0 dX0_start_0 rfl rfl rfl ?_
  refine q_iload_n 2 hX 1 dX0_start_1 rfl rfl rfl ?_
  refine q_putI 5 hX ci0 lf_RX0_9 fI_3_1 (nar_i rfl) dX0_start_2 rfl ?_
  refine q_bS hres (fun S1 _ hres => ?_)
  refine q_aload_n 6 hX 0 dX0_start_5 rfl rfl rfl ?_
  refine q_iconst 7 hX dX0_start_6 rfl kI_0 ?_
  refine q_putI 10 hX ci0 lf_RX0_15 fI_3_2 (nar_i rfl) dX0_start_7 rfl ?_
  refine q_bS hres (fun S2 _ hres => ?_)
  refine q_aload_n 11 hX 0 dX0_start_10 rfl rfl rfl ?_
  refine q_aload_n 12 hX 0 dX0_start_11 rfl rfl rfl ?_
  refine q_getR 15 hX ci0 lf_RX0_24 fR_3_0 dX0_start_12 rfl ?_
  refine q_iconst 16 hX dX0_start_15 rfl kI_0 ?_
  obtain ⟨r2, S3, hk1, hres⟩ := ob hres
  refine q_callVi 19 (st := [.ref (ad X 3)]) (As := [.int (0 : Int32)]) hX (cX7_byteAt9 hX.dj hk1) cv_RX0_28 ci7 oB_1 rfl (by decide) rfl (Nat.le_of_ble_eq_true rfl) dX0_start_16 rfl ?_
  refine q_putI 22 hX ci0 lf_RX0_18 fI_3_3 (nar_i rfl) dX0_start_19 rfl ?_
  refine q_bS hres (fun S4 _ hres => ?_)
  refine q_aload_n 23 hX 0 dX0_start_22 rfl rfl rfl ?_
  refine q_iconst 24 hX dX0_start_23 rfl kI_0 ?_
  refine q_putI 27 hX ci0 lf_RX0_21 fI_3_4 (nar_i rfl) dX0_start_24 rfl ?_
  refine q_bS hres (fun S5 _ hres => ?_)
  exact q_vret hX (eqv hq hres) dX0_start_27
theorem cX0_start9 {l : Launch} {w : WD} (hj : Dj w 0 55) {rr : St} {S : St} {x1 : Int32} (hres : fX0_start S x1 = some rr) : Ct l yX0_start cX0_start 2 none 1 w 0 55 [.ref (w.1 3), .int x1] S (none, rr) := by
  refine Ct.of (lv := [(0, .ref (w.1 3)), (1, .int x1)]) hj (by decide +kernel) (Nat.le_of_ble_eq_true rfl) rfl ?_
  rintro X rfl rfl hq hX
  exact wfX0_start hX hq hres
def fX0_fine (S : St) : Option (Int32 × St) :=
  if (S.1 3 4) = 0 then (some ((1 : Int32), S)) else (some ((0 : Int32), S))
theorem wfX0_fine {X : CX} (hX : Ok RX0 cX0_fine (some .boolean) 0 55 1 X) {rr : Int32 × St} (hq : rs X = (some (.int rr.1), rr.2)) {S : St} (hres : fX0_fine S = some rr) : Wat 0 55 0 1 X 0 [(0, .ref (ad X 3))] [] S := by
  unfold fX0_fine at hres
  refine q_aload_n 1 hX 0 dX0_fine_0 rfl rfl rfl ?_
  refine q_getI 4 hX ci0 lf_RX0_21 fI_3_4 dX0_fine_1 rfl ?_
  refine q_if_ne 7 hX 11 dX0_fine_4 rfl (by decide) (fun hc => ?_) (fun hc => ?_)
  · have hres := it_f hc hres
    refine q_iconst 12 hX dX0_fine_11 rfl kI_0 ?_
    exact q_zret hX (by decide) (eqi hq hres) dX0_fine_12
  · have hres := it_t hc hres
    refine q_iconst 8 hX dX0_fine_7 rfl kI_1 ?_
    refine q_goto 12 hX dX0_fine_8 (by decide) ?_
    exact q_zret hX (by decide) (eqi hq hres) dX0_fine_12
theorem cX0_fine9 {l : Launch} {w : WD} (hj : Dj w 0 55) {rr : Int32 × St} {S : St} (hres : fX0_fine S = some rr) : Ct l yX0_fine cX0_fine 1 (some .boolean) 0 w 0 55 [.ref (w.1 3)] S (some (.int rr.1), rr.2) := by
  refine Ct.of (lv := [(0, .ref (w.1 3))]) hj (by decide +kernel) (Nat.le_of_ble_eq_true rfl) rfl ?_
  rintro X rfl rfl hq hX
  exact wfX0_fine hX hq hres
def fX0_isDigit_22 (S : St) : Option (Int32 × St) :=
  some ((0 : Int32), S)
theorem wfX0_isDigit_22 {X : CX} (hX : Ok RX0 cX0_isDigit (some .boolean) 0 55 1 X) {rr : Int32 × St} (hq : rs X = (some (.int rr.1), rr.2)) {S : St} (hres : fX0_isDigit_22 S = some rr) : Wat 0 55 0 1 X 22 [] [] S := by
  unfold fX0_isDigit_22 at hres
  refine q_iconst 23 hX dX0_isDigit_22 rfl kI_0 ?_
  exact q_zret hX (by decide) (eqi hq hres) dX0_isDigit_23
def fX0_isDigit (S : St) : Option (Int32 × St) :=
  if (S.1 3 3) < (48 : Int32) then (fX0_isDigit_22 S) else (if (57 : Int32) < (S.1 3 3) then (fX0_isDigit_22 S) else (some ((1 : Int32), S)))
theorem wfX0_isDigit {X : CX} (hX : Ok RX0 cX0_isDigit (some .boolean) 0 55 1 X) {rr : Int32 × St} (hq : rs X = (some (.int rr.1), rr.2)) {S : St} (hres : fX0_isDigit S = some rr) : Wat 0 55 0 1 X 0 [(0, .ref (ad X 3))] [] S := by
  unfold fX0_isDigit at hres
  refine q_aload_n 1 hX 0 dX0_isDigit_0 rfl rfl rfl ?_
  refine q_getI 4 hX ci0 lf_RX0_18 fI_3_3 dX0_isDigit_1 rfl ?_
  refine q_bipush 6 hX dX0_isDigit_4 rfl kB_48 ?_
  refine q_icmp_lt 9 hX 22 dX0_isDigit_6 rfl (by decide) (fun hc => ?_) (fun hc => ?_)
  · have hres := it_t hc hres
    exact q_sub [] rfl (wfX0_isDigit_22 hX hq hres)
  · have hres := it_f hc hres
    refine q_aload_n 10 hX 0 dX0_isDigit_9 rfl rfl rfl ?_
    refine q_getI 13 hX ci0 lf_RX0_18 fI_3_3 dX0_isDigit_10 rfl ?_
    refine q_bipush 15 hX dX0_isDigit_13 rfl kB_57 ?_
    refine q_icmp_gt 18 hX 22 dX0_isDigit_15 rfl (by decide) (fun hc => ?_) (fun hc => ?_)
    · have hres := it_t hc hres
      exact q_sub [] rfl (wfX0_isDigit_22 hX hq hres)
    · have hres := it_f hc hres
      refine q_iconst 19 hX dX0_isDigit_18 rfl kI_1 ?_
      refine q_goto 23 hX dX0_isDigit_19 (by decide) ?_
      exact q_zret hX (by decide) (eqi hq hres) dX0_isDigit_23
theorem cX0_isDigit9 {l : Launch} {w : WD} (hj : Dj w 0 55) {rr : Int32 × St} {S : St} (hres : fX0_isDigit S = some rr) : Ct l yX0_isDigit cX0_isDigit 1 (some .boolean) 0 w 0 55 [.ref (w.1 3)] S (some (.int rr.1), rr.2) := by
  refine Ct.of (lv := [(0, .ref (w.1 3))]) hj (by decide +kernel) (Nat.le_of_ble_eq_true rfl) rfl ?_
  rintro X rfl rfl hq hX
  exact wfX0_isDigit hX hq hres
def fX0_step (S : St) : Option (St) :=
  bS (pI S 3 2 ((S.1 3 2) + (1 : Int32))) fun S1 => if (S1.1 3 1) ≤ (S1.1 3 2) then (bS (pI S1 3 3 (-1 : Int32)) fun S2 => some S2) else (bi (fX7_byteAt S1 (S1.1 3 2)) fun r2 S3 => bS (pI S3 3 3 r2) fun S4 => some S4)
theorem wfX0_step {X : CX} (hX : Ok RX0 cX0_step none 0 55 1 X) {rr : St} (hq : rs X = (none, rr)) {S : St} (hres : fX0_step S = some rr) : Wat 0 55 1 1 X 0 [(0, .ref (ad X 3))] [] S := by
  unfold fX0_step at hres
  refine q_aload_n 1 hX 0 dX0_step_0 rfl rfl rfl ?_
  refine q_dup 2 hX dX0_step_1 rfl rfl ?_
  refine q_getI 5 hX ci0 lf_RX0_15 fI_3_2 dX0_step_2 rfl ?_
  refine q_iconst 6 hX dX0_step_5 rfl kI_1 ?_
  refine q_iadd 7 hX dX0_step_6 rfl ?_
  refine q_putI 10 hX ci0 lf_RX0_15 fI_3_2 (nar_i rfl) dX0_step_7 rfl ?_
  refine q_bS hres (fun S1 _ hres => ?_)
  refine q_aload_n 11 hX 0 dX0_step_10 rfl rfl rfl ?_
  refine q_aload_n 12 hX 0 dX0_step_11 rfl rfl rfl ?_
  refine q_getI 15 hX ci0 lf_RX0_15 fI_3_2 dX0_step_12 rfl ?_
  refine q_aload_n 16 hX 0 dX0_step_15 rfl rfl rfl ?_
  refine q_getI 19 hX ci0 lf_RX0_9 fI_3_1 dX0_step_16 rfl ?_
  refine q_icmp_ge 22 hX 36 dX0_step_19 rfl (by decide) (fun hc => ?_) (fun hc => ?_)
  · have hres := it_t hc hres
    refine q_iconst 37 hX dX0_step_36 rfl kI_m1 ?_
    refine q_putI 40 hX ci0 lf_RX0_18 fI_3_3 (nar_i rfl) dX0_step_37 rfl ?_
    refine q_bS hres (fun S2 _ hres => ?_)
    exact q_vret hX (eqv hq hres) dX0_step_40
  · have hres := it_f hc hres
    refine q_aload_n 23 hX 0 dX0_step_22 rfl rfl rfl ?_
    refine q_getR 26 hX ci0 lf_RX0_24 fR_3_0 dX0_step_23 rfl ?_
    refine q_aload_n 27 hX 0 dX0_step_26 rfl rfl rfl ?_
    refine q_getI 30 hX ci0 lf_RX0_15 fI_3_2 dX0_step_27 rfl ?_
    obtain ⟨r2, S3, hk1, hres⟩ := ob hres
    refine q_callVi 33 (st := [.ref (ad X 3)]) (As := [.int (S1.1 3 2)]) hX (cX7_byteAt9 hX.dj hk1) cv_RX0_28 ci7 oB_1 rfl (by decide) rfl (Nat.le_of_ble_eq_true rfl) dX0_step_30 rfl ?_
    refine q_goto 37 hX dX0_step_33 (by decide) ?_
    refine q_putI 40 hX ci0 lf_RX0_18 fI_3_3 (nar_i rfl) dX0_step_37 rfl ?_
    refine q_bS hres (fun S4 _ hres => ?_)
    exact q_vret hX (eqv hq hres) dX0_step_40
theorem cX0_step9 {l : Launch} {w : WD} (hj : Dj w 0 55) {rr : St} {S : St} (hres : fX0_step S = some rr) : Ct l yX0_step cX0_step 1 none 1 w 0 55 [.ref (w.1 3)] S (none, rr) := by
  refine Ct.of (lv := [(0, .ref (w.1 3))]) hj (by decide +kernel) (Nat.le_of_ble_eq_true rfl) rfl ?_
  rintro X rfl rfl hq hX
  exact wfX0_step hX hq hres
def fX0_fail (S : St) (x1 : Int32) (x2 : Int32) : Option (St) :=
  if (S.1 3 4) = 0 then (bS (pI S 3 4 (((-1000 : Int32) * x1) - x2)) fun S1 => some S1) else (some S)
theorem wfX0_fail {X : CX} (hX : Ok RX0 cX0_fail none 0 55 3 X) {rr : St} (hq : rs X = (none, rr)) {S : St} {x1 : Int32} {x2 : Int32} (hres : fX0_fail S x1 x2 = some rr) : Wat 0 55 0 3 X 0 [(0, .ref (ad X 3)), (1, .int x1), (2, .int x2)] [] S := by
  unfold fX0_fail at hres
  refine q_aload_n 1 hX 0 dX0_fail_0 rfl rfl rfl ?_
  refine q_getI 4 hX ci0 lf_RX0_21 fI_3_4 dX0_fail_1 rfl ?_
  refine q_if_ne 7 hX 18 dX0_fail_4 rfl (by decide) (fun hc => ?_) (fun hc => ?_)
  · have hres := it_f hc hres
    exact q_vret hX (eqv hq hres) dX0_fail_18
  · have hres := it_t hc hres
    refine q_aload_n 8 hX 0 dX0_fail_7 rfl rfl rfl ?_
    refine q_sipush 11 hX dX0_fail_8 rfl kS_m1000 ?_
    refine q_iload_n 12 hX 1 dX0_fail_11 rfl rfl rfl ?_
    refine q_imul 13 hX dX0_fail_12 rfl ?_
    refine q_iload_n 14 hX 2 dX0_fail_13 rfl rfl rfl ?_
    refine q_isub 15 hX dX0_fail_14 rfl ?_
    refine q_putI 18 hX ci0 lf_RX0_21 fI_3_4 (nar_i rfl) dX0_fail_15 rfl ?_
    refine q_bS hres (fun S1 _ hres => ?_)
    exact q_vret hX (eqv hq hres) dX0_fail_18
theorem cX0_fail9 {l : Launch} {w : WD} (hj : Dj w 0 55) {rr : St} {S : St} {x1 : Int32} {x2 : Int32} (hres : fX0_fail S x1 x2 = some rr) : Ct l yX0_fail cX0_fail 3 none 0 w 0 55 [.ref (w.1 3), .int x1, .int x2] S (none, rr) := by
  refine Ct.of (lv := [(0, .ref (w.1 3)), (1, .int x1), (2, .int x2)]) hj (by decide +kernel) (Nat.le_of_ble_eq_true rfl) rfl ?_
  rintro X rfl rfl hq hX
  exact wfX0_fail hX hq hres
def fX0_failHere (S : St) (x1 : Int32) : Option (St) :=
  bv (fX0_fail S x1 (S.1 3 2)) fun S1 => some S1
theorem wfX0_failHere {X : CX} (hX : Ok RX0 cX0_failHere none 0 55 2 X) {rr : St} (hq : rs X = (none, rr)) {S : St} {x1 : Int32} (hres : fX0_failHere S x1 = some rr) : Wat 0 55 1 2 X 0 [(0, .ref (ad X 3)), (1, .int x1)] [] S := by
  unfold fX0_failHere at hres
  refine q_aload_n 1 hX 0 dX0_failHere_0 rfl rfl rfl ?_
  refine q_iload_n 2 hX 1 dX0_failHere_1 rfl rfl rfl ?_
  refine q_aload_n 3 hX 0 dX0_failHere_2 rfl rfl rfl ?_
  refine q_getI 6 hX ci0 lf_RX0_15 fI_3_2 dX0_failHere_3 rfl ?_
  obtain ⟨S1, hk1, hres⟩ := obv hres
  refine q_callVv 9 (st := []) (As := [.int x1, .int (S.1 3 2)]) hX (cX0_fail9 hX.dj hk1) cv_RX0_34 ci0 oB_3 rfl (by decide) rfl (Nat.le_of_ble_eq_true rfl) dX0_failHere_6 rfl ?_
  exact q_vret hX (eqv hq hres) dX0_failHere_9
theorem cX0_failHere9 {l : Launch} {w : WD} (hj : Dj w 0 55) {rr : St} {S : St} {x1 : Int32} (hres : fX0_failHere S x1 = some rr) : Ct l yX0_failHere cX0_failHere 2 none 1 w 0 55 [.ref (w.1 3), .int x1] S (none, rr) := by
  refine Ct.of (lv := [(0, .ref (w.1 3)), (1, .int x1)]) hj (by decide +kernel) (Nat.le_of_ble_eq_true rfl) rfl ?_
  rintro X rfl rfl hq hX
  exact wfX0_failHere hX hq hres
def fX0_expect (S : St) (x1 : Int32) : Option (St) :=
  if (S.1 3 3) = x1 then (bv (fX0_step S) fun S2 => some S2) else (bv (fX0_failHere S (1 : Int32)) fun S1 => some S1)
theorem wfX0_expect {X : CX} (hX : Ok RX0 cX0_expect none 0 55 2 X) {rr : St} (hq : rs X = (none, rr)) {S : St} {x1 : Int32} (hres : fX0_expect S x1 = some rr) : Wat 0 55 2 2 X 0 [(0, .ref (ad X 3)), (1, .int x1)] [] S := by
  unfold fX0_expect at hres
  refine q_aload_n 1 hX 0 dX0_expect_0 rfl rfl rfl ?_
  refine q_getI 4 hX ci0 lf_RX0_18 fI_3_3 dX0_expect_1 rfl ?_
  refine q_iload_n 5 hX 1 dX0_expect_4 rfl rfl rfl ?_
  refine q_icmp_ne 8 hX 15 dX0_expect_5 rfl (by decide) (fun hc => ?_) (fun hc => ?_)
  · have hres := it_f hc hres
    refine q_aload_n 16 hX 0 dX0_expect_15 rfl rfl rfl ?_
    refine q_iconst 17 hX dX0_expect_16 rfl kI_1 ?_
    obtain ⟨S1, hk1, hres⟩ := obv hres
    refine q_callVv 20 (st := []) (As := [.int (1 : Int32)]) hX (cX0_failHere9 hX.dj hk1) cv_RX0_41 ci0 oB_3 rfl (by decide) rfl (Nat.le_of_ble_eq_true rfl) dX0_expect_17 rfl ?_
    exact q_vret hX (eqv hq hres) dX0_expect_20
  · have hres := it_t hc hres
    refine q_aload_n 9 hX 0 dX0_expect_8 rfl rfl rfl ?_
    obtain ⟨S2, hk2, hres⟩ := obv hres
    refine q_callVv 12 (st := []) (As := []) hX (cX0_step9 hX.dj hk2) cv_RX0_38 ci0 oB_3 rfl (by decide) rfl (Nat.le_of_ble_eq_true rfl) dX0_expect_9 rfl ?_
    refine q_goto 20 hX dX0_expect_12 (by decide) ?_
    exact q_vret hX (eqv hq hres) dX0_expect_20
theorem cX0_expect9 {l : Launch} {w : WD} (hj : Dj w 0 55) {rr : St} {S : St} {x1 : Int32} (hres : fX0_expect S x1 = some rr) : Ct l yX0_expect cX0_expect 2 none 2 w 0 55 [.ref (w.1 3), .int x1] S (none, rr) := by
  refine Ct.of (lv := [(0, .ref (w.1 3)), (1, .int x1)]) hj (by decide +kernel) (Nat.le_of_ble_eq_true rfl) rfl ?_
  rintro X rfl rfl hq hX
  exact wfX0_expect hX hq hres
def fX0_passesSemicolon (S : St) : Option (Int32 × St) :=
  bi (fX0_fine S) fun r2 S1 => if r2 = 0 then (some ((0 : Int32), S1)) else (if (S1.1 3 3) = (-1 : Int32) then (some ((0 : Int32), S1)) else (bv (fX0_expect S1 (59 : Int32)) fun S2 => bi (fX0_fine S2) fun r5 S3 => if r5 = 0 ∨ r5 = 1 then some (r5, S3) else none))
theorem wfX0_passesSemicolon {X : CX} (hX : Ok RX0 cX0_passesSemicolon (some .boolean) 0 55 1 X) {rr : Int32 × St} (hq : rs X = (some (.int rr.1), rr.2)) {S : St} (hres : fX0_passesSemicolon S = some rr) : Wat 0 55 3 1 X 0 [(0, .ref (ad X 3))] [] S := by
  unfold fX0_passesSemicolon at hres
  refine q_aload_n 1 hX 0 dX0_passesSemicolon_0 rfl rfl rfl ?_
  obtain ⟨r2, S1, hk1, hres⟩ := ob hres
  refine q_callVi 4 (st := []) (As := []) hX (cX0_fine9 hX.dj hk1) cv_RX0_45 ci0 oB_3 rfl (by decide) rfl (Nat.le_of_ble_eq_true rfl) dX0_passesSemicolon_1 rfl ?_
  refine q_if_eq 7 hX 15 dX0_passesSemicolon_4 rfl (by decide) (fun hc => ?_) (fun hc => ?_)
  · have hres := it_t hc hres
    refine q_iconst 16 hX dX0_passesSemicolon_15 rfl kI_0 ?_
    exact q_zret hX (by decide) (eqi hq hres) dX0_passesSemicolon_16
  · have hres := it_f hc hres
    refine q_aload_n 8 hX 0 dX0_passesSemicolon_7 rfl rfl rfl ?_
    refine q_getI 11 hX ci0 lf_RX0_18 fI_3_3 dX0_passesSemicolon_8 rfl ?_
    refine q_iconst 12 hX dX0_passesSemicolon_11 rfl kI_m1 ?_
    refine q_icmp_ne 15 hX 17 dX0_passesSemicolon_12 rfl (by decide) (fun hc => ?_) (fun hc => ?_)
    · have hres := it_f hc hres
      refine q_aload_n 18 hX 0 dX0_passesSemicolon_17 rfl rfl rfl ?_
      refine q_bipush 20 hX dX0_passesSemicolon_18 rfl kB_59 ?_
      obtain ⟨S2, hk3, hres⟩ := obv hres
      refine q_callVv 23 (st := []) (As := [.int (59 : Int32)]) hX (cX0_expect9 hX.dj hk3) cv_RX0_49 ci0 oB_3 rfl (by decide) rfl (Nat.le_of_ble_eq_true rfl) dX0_passesSemicolon_20 rfl ?_
      refine q_aload_n 24 hX 0 dX0_passesSemicolon_23 rfl rfl rfl ?_
      obtain ⟨r5, S3, hk4, hres⟩ := ob hres
      refine q_callVi 27 (st := []) (As := []) hX (cX0_fine9 hX.dj hk4) cv_RX0_45 ci0 oB_3 rfl (by decide) rfl (Nat.le_of_ble_eq_true rfl) dX0_passesSemicolon_24 rfl ?_
      obtain ⟨hz6, hres⟩ := gd hres
      exact q_zret hX hz6 (eqi hq hres) dX0_passesSemicolon_27
    · have hres := it_t hc hres
      refine q_iconst 16 hX dX0_passesSemicolon_15 rfl kI_0 ?_
      exact q_zret hX (by decide) (eqi hq hres) dX0_passesSemicolon_16
theorem cX0_passesSemicolon9 {l : Launch} {w : WD} (hj : Dj w 0 55) {rr : Int32 × St} {S : St} (hres : fX0_passesSemicolon S = some rr) : Ct l yX0_passesSemicolon cX0_passesSemicolon 1 (some .boolean) 3 w 0 55 [.ref (w.1 3)] S (some (.int rr.1), rr.2) := by
  refine Ct.of (lv := [(0, .ref (w.1 3))]) hj (by decide +kernel) (Nat.le_of_ble_eq_true rfl) rfl ?_
  rintro X rfl rfl hq hX
  exact wfX0_passesSemicolon hX hq hres
def bX0_readNumber_16 (rc16 : St → Int32 → Int32 → Int32 → Option (Int32 × St)) (S : St) (x1 : Int32) (x2 : Int32) (x3 : Int32) : Option (Int32 × St) :=
  if x1 < x3 then (some (x2, S)) else (bi (fX0_fine S) fun r2 S1 => if r2 = 0 then (some (x2, S1)) else (bi (fX0_isDigit S1) fun r4 S2 => if r4 = 0 then (some (x2, S2)) else (if x3 = x1 then (bv (fX0_failHere S2 (2 : Int32)) fun S4 => bV (x3 + (1 : Int32)) fun v9 => rc16 S4 x1 x2 v9) else (bV (((((10 : Int32) * x2) + (S2.1 3 3)) - (48 : Int32))) fun v5 => bv (fX0_step S2) fun S3 => bV (x3 + (1 : Int32)) fun v7 => rc16 S3 x1 v5 v7))))
theorem wbX0_readNumber_16 {X : CX} (hX : Ok RX0 cX0_readNumber (some .int) 0 55 4 X) {rr : Int32 × St} (hq : rs X = (some (.int rr.1), rr.2)) {rc16 : St → Int32 → Int32 → Int32 → Option (Int32 × St)} (hrc16 : ∀ (S : St) (x1 : Int32) (x2 : Int32) (x3 : Int32), rc16 S x1 x2 x3 = some rr → Wat 0 55 2 4 X 16 [(0, .ref (ad X 3)), (1, .int x1), (2, .int x2), (3, .int x3)] [] S) {S : St} {x1 : Int32} {x2 : Int32} {x3 : Int32} (hres : bX0_readNumber_16 rc16 S x1 x2 x3 = some rr) : Wat 0 55 2 4 X 16 [(0, .ref (ad X 3)), (1, .int x1), (2, .int x2), (3, .int x3)] [] S := by
  unfold bX0_readNumber_16 at hres
  refine q_iload_n 17 hX 3 dX0_readNumber_16 rfl rfl rfl ?_
  refine q_iload_n 18 hX 1 dX0_readNumber_17 rfl rfl rfl ?_
  refine q_icmp_gt 21 hX 71 dX0_readNumber_18 rfl (by decide) (fun hc => ?_) (fun hc => ?_)
  · have hres := it_t hc hres
    refine q_iload_n 72 hX 2 dX0_readNumber_71 rfl rfl rfl ?_
    exact q_iret hX (eqi hq hres) dX0_readNumber_72
  · have hres := it_f hc hres
    refine q_aload_n 22 hX 0 dX0_readNumber_21 rfl rfl rfl ?_
    obtain ⟨r2, S1, hk1, hres⟩ := ob hres
    refine q_callVi 25 (st := []) (As := []) hX (cX0_fine9 hX.dj hk1) cv_RX0_45 ci0 oB_3 rfl (by decide) rfl (Nat.le_of_ble_eq_true rfl) dX0_readNumber_22 rfl ?_
    refine q_if_eq 28 hX 71 dX0_readNumber_25 rfl (by decide) (fun hc => ?_) (fun hc => ?_)
    · have hres := it_t hc hres
      refine q_iload_n 72 hX 2 dX0_readNumber_71 rfl rfl rfl ?_
      exact q_iret hX (eqi hq hres) dX0_readNumber_72
    · have hres := it_f hc hres
      refine q_aload_n 29 hX 0 dX0_readNumber_28 rfl rfl rfl ?_
      obtain ⟨r4, S2, hk3, hres⟩ := ob hres
      refine q_callVi 32 (st := []) (As := []) hX (cX0_isDigit9 hX.dj hk3) cv_RX0_52 ci0 oB_3 rfl (by decide) rfl (Nat.le_of_ble_eq_true rfl) dX0_readNumber_29 rfl ?_
      refine q_if_eq 35 hX 71 dX0_readNumber_32 rfl (by decide) (fun hc => ?_) (fun hc => ?_)
      · have hres := it_t hc hres
        refine q_iload_n 72 hX 2 dX0_readNumber_71 rfl rfl rfl ?_
        exact q_iret hX (eqi hq hres) dX0_readNumber_72
      · have hres := it_f hc hres
        refine q_iload_n 36 hX 3 dX0_readNumber_35 rfl rfl rfl ?_
        refine q_iload_n 37 hX 1 dX0_readNumber_36 rfl rfl rfl ?_
        refine q_icmp_ne 40 hX 48 dX0_readNumber_37 rfl (by decide) (fun hc => ?_) (fun hc => ?_)
        · have hres := it_f hc hres
          refine q_bipush 50 hX dX0_readNumber_48 rfl kB_10 ?_
          refine q_iload_n 51 hX 2 dX0_readNumber_50 rfl rfl rfl ?_
          refine q_imul 52 hX dX0_readNumber_51 rfl ?_
          refine q_aload_n 53 hX 0 dX0_readNumber_52 rfl rfl rfl ?_
          refine q_getI 56 hX ci0 lf_RX0_18 fI_3_3 dX0_readNumber_53 rfl ?_
          refine q_iadd 57 hX dX0_readNumber_56 rfl ?_
          refine q_bipush 59 hX dX0_readNumber_57 rfl kB_48 ?_
          refine q_isub 60 hX dX0_readNumber_59 rfl ?_
          refine q_istoreB_n 61 (lv0 := [(0, .ref (ad X 3)), (1, .int x1), (3, .int x3)]) hX dX0_readNumber_60 rfl rfl (by decide) rfl hres (fun v5 hres => ?_)
          refine q_aload_n 62 hX 1 dX0_readNumber_61 rfl rfl rfl ?_
          obtain ⟨S3, hk6, hres⟩ := obv hres
          refine q_callVv 65 (st := []) (As := []) hX (cX0_step9 hX.dj hk6) cv_RX0_38 ci0 oB_3 rfl (by decide) rfl (Nat.le_of_ble_eq_true rfl) dX0_readNumber_62 rfl ?_
          refine q_iincB 68 3 (lv0 := [(2, .int v5), (0, .ref (ad X 3)), (1, .int x1)]) hX dX0_readNumber_65 rfl rfl kI_1 (by decide) rfl hres (fun v7 hres => ?_)
          refine q_goto 16 hX dX0_readNumber_68 (by decide) ?_
          exact q_sub [2, 3, 1, 0] rfl (hrc16 _ _ _ _ hres)
        · have hres := it_t hc hres
          refine q_aload_n 41 hX 0 dX0_readNumber_40 rfl rfl rfl ?_
          refine q_iconst 42 hX dX0_readNumber_41 rfl kI_2 ?_
          obtain ⟨S4, hk8, hres⟩ := obv hres
          refine q_callVv 45 (st := []) (As := [.int (2 : Int32)]) hX (cX0_failHere9 hX.dj hk8) cv_RX0_41 ci0 oB_3 rfl (by decide) rfl (Nat.le_of_ble_eq_true rfl) dX0_readNumber_42 rfl ?_
          refine q_goto 65 hX dX0_readNumber_45 (by decide) ?_
          refine q_iincB 68 3 (lv0 := [(0, .ref (ad X 3)), (1, .int x1), (2, .int x2)]) hX dX0_readNumber_65 rfl rfl kI_1 (by decide) rfl hres (fun v9 hres => ?_)
          refine q_goto 16 hX dX0_readNumber_68 (by decide) ?_
          exact q_sub [1, 2, 3, 0] rfl (hrc16 _ _ _ _ hres)
def fX0_readNumber_16 : Nat → St → Int32 → Int32 → Int32 → Option (Int32 × St)
  | 0 => fun _ _ _ _ => none
  | k + 1 => fun S x1 x2 x3 => bX0_readNumber_16 (fX0_readNumber_16 k) S x1 x2 x3
theorem wfX0_readNumber_16 {X : CX} (hX : Ok RX0 cX0_readNumber (some .int) 0 55 4 X) {rr : Int32 × St} (hq : rs X = (some (.int rr.1), rr.2)) (k : Nat) : ∀ (S : St) (x1 : Int32) (x2 : Int32) (x3 : Int32), fX0_readNumber_16 k S x1 x2 x3 = some rr → Wat 0 55 2 4 X 16 [(0, .ref (ad X 3)), (1, .int x1), (2, .int x2), (3, .int x3)] [] S := by
  induction k with
  | zero => intro S x1 x2 x3 hres; exact absurd hres (by simp [fX0_readNumber_16])
  | succ k ih => intro S x1 x2 x3 hres; exact wbX0_readNumber_16 hX hq ih hres
def fX0_readNumber_12 (S : St) (x1 : Int32) : Option (Int32 × St) :=
  fX0_readNumber_16 100 S x1 (0 : Int32) (0 : Int32)
theorem wfX0_readNumber_12 {X : CX} (hX : Ok RX0 cX0_readNumber (some .int) 0 55 4 X) {rr : Int32 × St} (hq : rs X = (some (.int rr.1), rr.2)) {S : St} {x1 : Int32} (hres : fX0_readNumber_12 S x1 = some rr) : Wat 0 55 2 4 X 12 [(0, .ref (ad X 3)), (1, .int x1)] [] S := by
  unfold fX0_readNumber_12 at hres
  refine q_iconst 13 hX dX0_readNumber_12 rfl kI_0 ?_
  refine q_istore_n 14 (lv' := [(2, .int (0 : Int32)), (0, .ref (ad X 3)), (1, .int x1)]) hX dX0_readNumber_13 rfl rfl (by decide) rfl ?_
  refine q_iconst 15 hX dX0_readNumber_14 rfl kI_0 ?_
  refine q_istore_n 16 (lv' := [(3, .int (0 : Int32)), (2, .int (0 : Int32)), (0, .ref (ad X 3)), (1, .int x1)]) hX dX0_readNumber_15 rfl rfl (by decide) rfl ?_
  exact q_sub [2, 3, 1, 0] rfl (wfX0_readNumber_16 hX hq _ _ _ _ _ hres)
def fX0_readNumber (S : St) (x1 : Int32) : Option (Int32 × St) :=
  bi (fX0_isDigit S) fun r2 S1 => if r2 = 0 then (bv (fX0_failHere S1 (1 : Int32)) fun S2 => fX0_readNumber_12 S2 x1) else (fX0_readNumber_12 S1 x1)
theorem wfX0_readNumber {X : CX} (hX : Ok RX0 cX0_readNumber (some .int) 0 55 4 X) {rr : Int32 × St} (hq : rs X = (some (.int rr.1), rr.2)) {S : St} {x1 : Int32} (hres : fX0_readNumber S x1 = some rr) : Wat 0 55 2 4 X 0 [(0, .ref (ad X 3)), (1, .int x1)] [] S := by
  unfold fX0_readNumber at hres
  refine q_aload_n 1 hX 0 dX0_readNumber_0 rfl rfl rfl ?_
  obtain ⟨r2, S1, hk1, hres⟩ := ob hres
  refine q_callVi 4 (st := []) (As := []) hX (cX0_isDigit9 hX.dj hk1) cv_RX0_52 ci0 oB_3 rfl (by decide) rfl (Nat.le_of_ble_eq_true rfl) dX0_readNumber_1 rfl ?_
  refine q_if_ne 7 hX 12 dX0_readNumber_4 rfl (by decide) (fun hc => ?_) (fun hc => ?_)
  · have hres := it_f hc hres
    exact q_sub [0, 1] rfl (wfX0_readNumber_12 hX hq hres)
  · have hres := it_t hc hres
    refine q_aload_n 8 hX 0 dX0_readNumber_7 rfl rfl rfl ?_
    refine q_iconst 9 hX dX0_readNumber_8 rfl kI_1 ?_
    obtain ⟨S2, hk3, hres⟩ := obv hres
    refine q_callVv 12 (st := []) (As := [.int (1 : Int32)]) hX (cX0_failHere9 hX.dj hk3) cv_RX0_41 ci0 oB_3 rfl (by decide) rfl (Nat.le_of_ble_eq_true rfl) dX0_readNumber_9 rfl ?_
    exact q_sub [0, 1] rfl (wfX0_readNumber_12 hX hq hres)
theorem cX0_readNumber9 {l : Launch} {w : WD} (hj : Dj w 0 55) {rr : Int32 × St} {S : St} {x1 : Int32} (hres : fX0_readNumber S x1 = some rr) : Ct l yX0_readNumber cX0_readNumber 4 (some .int) 2 w 0 55 [.ref (w.1 3), .int x1] S (some (.int rr.1), rr.2) := by
  refine Ct.of (lv := [(0, .ref (w.1 3)), (1, .int x1)]) hj (by decide +kernel) (Nat.le_of_ble_eq_true rfl) rfl ?_
  rintro X rfl rfl hq hX
  exact wfX0_readNumber hX hq hres
