def fX7_size (S : St) : Option (Int32 × St) :=
  some ((S.1 1 1), S)
theorem wfX7_size {X : CX} (hX : Ok RX7 cX7_size (some .int) 0 55 1 X) {rr : Int32 × St} (hq : rs X = (some (.int rr.1), rr.2)) {S : St} (hres : fX7_size S = some rr) : Wat 0 55 0 1 X 0 [(0, .ref (ad X 1))] [] S := by
  unfold fX7_size at hres
  refine q_aload_n 1 hX 0 dX7_size_0 rfl rfl rfl ?_
  refine q_getI 4 hX ci7 lf_RX7_13 fI_1_1 dX7_size_1 rfl ?_
  exact q_iret hX (eqi hq hres) dX7_size_4
theorem cX7_size9 {l : Launch} {w : WD} (hj : Dj w 0 55) {rr : Int32 × St} {S : St} (hres : fX7_size S = some rr) : Ct l yX7_size cX7_size 1 (some .int) 0 w 0 55 [.ref (w.1 1)] S (some (.int rr.1), rr.2) := by
  refine Ct.of (lv := [(0, .ref (w.1 1))]) hj (by decide +kernel) (Nat.le_of_ble_eq_true rfl) rfl ?_
  rintro X rfl rfl hq hX
  exact wfX7_size hX hq hres
def fX7_holds (S : St) (x1 : Int32) : Option (Int32 × St) :=
  if (S.1 1 1) < x1 then (some ((0 : Int32), S)) else (some ((1 : Int32), S))
theorem wfX7_holds {X : CX} (hX : Ok RX7 cX7_holds (some .boolean) 0 55 2 X) {rr : Int32 × St} (hq : rs X = (some (.int rr.1), rr.2)) {S : St} {x1 : Int32} (hres : fX7_holds S x1 = some rr) : Wat 0 55 0 2 X 0 [(0, .ref (ad X 1)), (1, .int x1)] [] S := by
  unfold fX7_holds at hres
  refine q_iload_n 1 hX 1 dX7_holds_0 rfl rfl rfl ?_
  refine q_aload_n 2 hX 0 dX7_holds_1 rfl rfl rfl ?_
  refine q_getI 5 hX ci7 lf_RX7_13 fI_1_1 dX7_holds_2 rfl ?_
  refine q_icmp_gt 8 hX 12 dX7_holds_5 rfl (by decide) (fun hc => ?_) (fun hc => ?_)
  · have hres := it_t hc hres
    refine q_iconst 13 hX dX7_holds_12 rfl kI_0 ?_
    exact q_zret hX (by decide) (eqi hq hres) dX7_holds_13
  · have hres := it_f hc hres
    refine q_iconst 9 hX dX7_holds_8 rfl kI_1 ?_
    refine q_goto 13 hX dX7_holds_9 (by decide) ?_
    exact q_zret hX (by decide) (eqi hq hres) dX7_holds_13
theorem cX7_holds9 {l : Launch} {w : WD} (hj : Dj w 0 55) {rr : Int32 × St} {S : St} {x1 : Int32} (hres : fX7_holds S x1 = some rr) : Ct l yX7_holds cX7_holds 2 (some .boolean) 0 w 0 55 [.ref (w.1 1), .int x1] S (some (.int rr.1), rr.2) := by
  refine Ct.of (lv := [(0, .ref (w.1 1)), (1, .int x1)]) hj (by decide +kernel) (Nat.le_of_ble_eq_true rfl) rfl ?_
  rintro X rfl rfl hq hX
  exact wfX7_holds hX hq hres
def fX7_hasRoom (S : St) : Option (Int32 × St) :=
  if (260 : Int32) < ((S.1 1 1) + (20 : Int32)) then (some ((0 : Int32), S)) else (some ((1 : Int32), S))
theorem wfX7_hasRoom {X : CX} (hX : Ok RX7 cX7_hasRoom (some .boolean) 0 55 1 X) {rr : Int32 × St} (hq : rs X = (some (.int rr.1), rr.2)) {S : St} (hres : fX7_hasRoom S = some rr) : Wat 0 55 0 1 X 0 [(0, .ref (ad X 1))] [] S := by
  unfold fX7_hasRoom at hres
  refine q_aload_n 1 hX 0 dX7_hasRoom_0 rfl rfl rfl ?_
  refine q_getI 4 hX ci7 lf_RX7_13 fI_1_1 dX7_hasRoom_1 rfl ?_
  refine q_bipush 6 hX dX7_hasRoom_4 rfl kB_20 ?_
  refine q_iadd 7 hX dX7_hasRoom_6 rfl ?_
  refine q_sipush 10 hX dX7_hasRoom_7 rfl kS_260 ?_
  refine q_icmp_gt 13 hX 17 dX7_hasRoom_10 rfl (by decide) (fun hc => ?_) (fun hc => ?_)
  · have hres := it_t hc hres
    refine q_iconst 18 hX dX7_hasRoom_17 rfl kI_0 ?_
    exact q_zret hX (by decide) (eqi hq hres) dX7_hasRoom_18
  · have hres := it_f hc hres
    refine q_iconst 14 hX dX7_hasRoom_13 rfl kI_1 ?_
    refine q_goto 18 hX dX7_hasRoom_14 (by decide) ?_
    exact q_zret hX (by decide) (eqi hq hres) dX7_hasRoom_18
theorem cX7_hasRoom9 {l : Launch} {w : WD} (hj : Dj w 0 55) {rr : Int32 × St} {S : St} (hres : fX7_hasRoom S = some rr) : Ct l yX7_hasRoom cX7_hasRoom 1 (some .boolean) 0 w 0 55 [.ref (w.1 1)] S (some (.int rr.1), rr.2) := by
  refine Ct.of (lv := [(0, .ref (w.1 1))]) hj (by decide +kernel) (Nat.le_of_ble_eq_true rfl) rfl ?_
  rintro X rfl rfl hq hX
  exact wfX7_hasRoom hX hq hres
def bX7_addInt_3 (rc3 : St → Int32 → Int32 → Option (St)) (S : St) (x1 : Int32) (x2 : Int32) : Option (St) :=
  if x2 < 0 then (some S) else (if (260 : Int32) ≤ (S.1 1 1) then (bV (x2 + (-8 : Int32)) fun v1 => rc3 S x1 v1) else (if inb (S.1 1 1) 260 = true then bS (pI S 2 ((S.1 1 1).toNatClampNeg) ((x1 >>> (x2 &&& 31)) &&& (255 : Int32))) fun S1 => bS (pI S1 1 1 ((S1.1 1 1) + (1 : Int32))) fun S2 => bV (x2 + (-8 : Int32)) fun v3 => rc3 S2 x1 v3 else none))
theorem wbX7_addInt_3 {X : CX} (hX : Ok RX7 cX7_addInt none 0 55 3 X) {rr : St} (hq : rs X = (none, rr)) {rc3 : St → Int32 → Int32 → Option (St)} (hrc3 : ∀ (S : St) (x1 : Int32) (x2 : Int32), rc3 S x1 x2 = some rr → Wat 0 55 0 3 X 3 [(0, .ref (ad X 1)), (1, .int x1), (2, .int x2)] [] S) {S : St} {x1 : Int32} {x2 : Int32} (hres : bX7_addInt_3 rc3 S x1 x2 = some rr) : Wat 0 55 0 3 X 3 [(0, .ref (ad X 1)), (1, .int x1), (2, .int x2)] [] S := by
  unfold bX7_addInt_3 at hres
  refine q_iload_n 4 hX 2 dX7_addInt_3 rfl rfl rfl ?_
  refine q_if_lt 7 hX 49 dX7_addInt_4 rfl (by decide) (fun hc => ?_) (fun hc => ?_)
  · have hres := it_t hc hres
    exact q_vret hX (eqv hq hres) dX7_addInt_49
  · have hres := it_f hc hres
    refine q_aload_n 8 hX 0 dX7_addInt_7 rfl rfl rfl ?_
    refine q_getI 11 hX ci7 lf_RX7_13 fI_1_1 dX7_addInt_8 rfl ?_
    refine q_sipush 14 hX dX7_addInt_11 rfl kS_260 ?_
    refine q_icmp_ge 17 hX 43 dX7_addInt_14 rfl (by decide) (fun hc => ?_) (fun hc => ?_)
    · have hres := it_t hc hres
      refine q_iincB 46 2 (lv0 := [(0, .ref (ad X 1)), (1, .int x1)]) hX dX7_addInt_43 rfl rfl kI_m8 (by decide) rfl hres (fun v1 hres => ?_)
      refine q_goto 3 hX dX7_addInt_46 (by decide) ?_
      exact q_sub [1, 2, 0] rfl (hrc3 _ _ _ hres)
    · have hres := it_f hc hres
      refine q_aload_n 18 hX 0 dX7_addInt_17 rfl rfl rfl ?_
      refine q_getR 21 hX ci7 lf_RX7_9 fR_1_0 dX7_addInt_18 rfl ?_
      refine q_aload_n 22 hX 0 dX7_addInt_21 rfl rfl rfl ?_
      refine q_getI 25 hX ci7 lf_RX7_13 fI_1_1 dX7_addInt_22 rfl ?_
      refine q_iload_n 26 hX 1 dX7_addInt_25 rfl rfl rfl ?_
      refine q_iload_n 27 hX 2 dX7_addInt_26 rfl rfl rfl ?_
      refine q_ishr 28 hX dX7_addInt_27 rfl ?_
      refine q_sipush 31 hX dX7_addInt_28 rfl kS_255 ?_
      refine q_iand 32 hX dX7_addInt_31 rfl ?_
      obtain ⟨hb2, hres⟩ := gd hres
      refine q_iast 33 hX rfl aF_2 hb2 dX7_addInt_32 rfl ?_
      refine q_bS hres (fun S1 _ hres => ?_)
      refine q_aload_n 34 hX 0 dX7_addInt_33 rfl rfl rfl ?_
      refine q_dup 35 hX dX7_addInt_34 rfl rfl ?_
      refine q_getI 38 hX ci7 lf_RX7_13 fI_1_1 dX7_addInt_35 rfl ?_
      refine q_iconst 39 hX dX7_addInt_38 rfl kI_1 ?_
      refine q_iadd 40 hX dX7_addInt_39 rfl ?_
      refine q_putI 43 hX ci7 lf_RX7_13 fI_1_1 (nar_i rfl) dX7_addInt_40 rfl ?_
      refine q_bS hres (fun S2 _ hres => ?_)
      refine q_iincB 46 2 (lv0 := [(0, .ref (ad X 1)), (1, .int x1)]) hX dX7_addInt_43 rfl rfl kI_m8 (by decide) rfl hres (fun v3 hres => ?_)
      refine q_goto 3 hX dX7_addInt_46 (by decide) ?_
      exact q_sub [1, 2, 0] rfl (hrc3 _ _ _ hres)
def fX7_addInt_3 : Nat → St → Int32 → Int32 → Option (St)
  | 0 => fun _ _ _ => none
  | k + 1 => fun S x1 x2 => bX7_addInt_3 (fX7_addInt_3 k) S x1 x2
theorem wfX7_addInt_3 {X : CX} (hX : Ok RX7 cX7_addInt none 0 55 3 X) {rr : St} (hq : rs X = (none, rr)) (k : Nat) : ∀ (S : St) (x1 : Int32) (x2 : Int32), fX7_addInt_3 k S x1 x2 = some rr → Wat 0 55 0 3 X 3 [(0, .ref (ad X 1)), (1, .int x1), (2, .int x2)] [] S := by
  induction k with
  | zero => intro S x1 x2 hres; exact absurd hres (by simp [fX7_addInt_3])
  | succ k ih => intro S x1 x2 hres; exact wbX7_addInt_3 hX hq ih hres
def fX7_addInt (S : St) (x1 : Int32) : Option (St) :=
  fX7_addInt_3 100 S x1 (24 : Int32)
theorem wfX7_addInt {X : CX} (hX : Ok RX7 cX7_addInt none 0 55 3 X) {rr : St} (hq : rs X = (none, rr)) {S : St} {x1 : Int32} (hres : fX7_addInt S x1 = some rr) : Wat 0 55 0 3 X 0 [(0, .ref (ad X 1)), (1, .int x1)] [] S := by
  unfold fX7_addInt at hres
  refine q_bipush 2 hX dX7_addInt_0 rfl kB_24 ?_
  refine q_istore_n 3 (lv' := [(2, .int (24 : Int32)), (0, .ref (ad X 1)), (1, .int x1)]) hX dX7_addInt_2 rfl rfl (by decide) rfl ?_
  exact q_sub [1, 2, 0] rfl (wfX7_addInt_3 hX hq _ _ _ _ hres)
theorem cX7_addInt9 {l : Launch} {w : WD} (hj : Dj w 0 55) {rr : St} {S : St} {x1 : Int32} (hres : fX7_addInt S x1 = some rr) : Ct l yX7_addInt cX7_addInt 3 none 0 w 0 55 [.ref (w.1 1), .int x1] S (none, rr) := by
  refine Ct.of (lv := [(0, .ref (w.1 1)), (1, .int x1)]) hj (by decide +kernel) (Nat.le_of_ble_eq_true rfl) rfl ?_
  rintro X rfl rfl hq hX
  exact wfX7_addInt hX hq hres
def fX7_byteAt_21 (S : St) : Option (Int32 × St) :=
  some ((0 : Int32), S)
theorem wfX7_byteAt_21 {X : CX} (hX : Ok RX7 cX7_byteAt (some .int) 0 55 2 X) {rr : Int32 × St} (hq : rs X = (some (.int rr.1), rr.2)) {S : St} (hres : fX7_byteAt_21 S = some rr) : Wat 0 55 0 2 X 21 [] [] S := by
  unfold fX7_byteAt_21 at hres
  refine q_iconst 22 hX dX7_byteAt_21 rfl kI_0 ?_
  exact q_iret hX (eqi hq hres) dX7_byteAt_22
def fX7_byteAt (S : St) (x1 : Int32) : Option (Int32 × St) :=
  if x1 < 0 then (fX7_byteAt_21 S) else (if (S.1 1 1) ≤ x1 then (fX7_byteAt_21 S) else (if inb x1 260 = true then some ((S.1 2 (x1.toNatClampNeg)), S) else none))
theorem wfX7_byteAt {X : CX} (hX : Ok RX7 cX7_byteAt (some .int) 0 55 2 X) {rr : Int32 × St} (hq : rs X = (some (.int rr.1), rr.2)) {S : St} {x1 : Int32} (hres : fX7_byteAt S x1 = some rr) : Wat 0 55 0 2 X 0 [(0, .ref (ad X 1)), (1, .int x1)] [] S := by
  unfold fX7_byteAt at hres
  refine q_iload_n 1 hX 1 dX7_byteAt_0 rfl rfl rfl ?_
  refine q_if_lt 4 hX 21 dX7_byteAt_1 rfl (by decide) (fun hc => ?_) (fun hc => ?_)
  · have hres := it_t hc hres
    exact q_sub [] rfl (wfX7_byteAt_21 hX hq hres)
  · have hres := it_f hc hres
    refine q_iload_n 5 hX 1 dX7_byteAt_4 rfl rfl rfl ?_
    refine q_aload_n 6 hX 0 dX7_byteAt_5 rfl rfl rfl ?_
    refine q_getI 9 hX ci7 lf_RX7_13 fI_1_1 dX7_byteAt_6 rfl ?_
    refine q_icmp_ge 12 hX 21 dX7_byteAt_9 rfl (by decide) (fun hc => ?_) (fun hc => ?_)
    · have hres := it_t hc hres
      exact q_sub [] rfl (wfX7_byteAt_21 hX hq hres)
    · have hres := it_f hc hres
      refine q_aload_n 13 hX 0 dX7_byteAt_12 rfl rfl rfl ?_
      refine q_getR 16 hX ci7 lf_RX7_9 fR_1_0 dX7_byteAt_13 rfl ?_
      refine q_iload_n 17 hX 1 dX7_byteAt_16 rfl rfl rfl ?_
      obtain ⟨hb1, hres⟩ := gd hres
      refine q_iald 18 hX rfl aF_2 hb1 dX7_byteAt_17 rfl ?_
      refine q_goto 22 hX dX7_byteAt_18 (by decide) ?_
      exact q_iret hX (eqi hq hres) dX7_byteAt_22
theorem cX7_byteAt9 {l : Launch} {w : WD} (hj : Dj w 0 55) {rr : Int32 × St} {S : St} {x1 : Int32} (hres : fX7_byteAt S x1 = some rr) : Ct l yX7_byteAt cX7_byteAt 2 (some .int) 0 w 0 55 [.ref (w.1 1), .int x1] S (some (.int rr.1), rr.2) := by
  refine Ct.of (lv := [(0, .ref (w.1 1)), (1, .int x1)]) hj (by decide +kernel) (Nat.le_of_ble_eq_true rfl) rfl ?_
  rintro X rfl rfl hq hX
  exact wfX7_byteAt hX hq hres
def fX7_clear (S : St) : Option (St) :=
  bS (pI S 1 1 (0 : Int32)) fun S1 => some S1
theorem wfX7_clear {X : CX} (hX : Ok RX7 cX7_clear none 0 55 1 X) {rr : St} (hq : rs X = (none, rr)) {S : St} (hres : fX7_clear S = some rr) : Wat 0 55 0 1 X 0 [(0, .ref (ad X 1))] [] S := by
  unfold fX7_clear at hres
  refine q_aload_n 1 hX 0 dX7_clear_0 rfl rfl rfl ?_
  refine q_iconst 2 hX dX7_clear_1 rfl kI_0 ?_
  refine q_putI 5 hX ci7 lf_RX7_13 fI_1_1 (nar_i rfl) dX7_clear_2 rfl ?_
  refine q_bS hres (fun S1 _ hres => ?_)
  exact q_vret hX (eqv hq hres) dX7_clear_5
theorem cX7_clear9 {l : Launch} {w : WD} (hj : Dj w 0 55) {rr : St} {S : St} (hres : fX7_clear S = some rr) : Ct l yX7_clear cX7_clear 1 none 0 w 0 55 [.ref (w.1 1)] S (none, rr) := by
  refine Ct.of (lv := [(0, .ref (w.1 1))]) hj (by decide +kernel) (Nat.le_of_ble_eq_true rfl) rfl ?_
  rintro X rfl rfl hq hX
  exact wfX7_clear hX hq hres
