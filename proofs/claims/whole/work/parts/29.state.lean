def bX6_startAnew_17 (o0 : Nat) (rc17 : St → Int32 → Option (St)) (S : St) (x1 : Int32) : Option (St) :=
  if (16 : Int32) ≤ x1 then (some S) else (if inb x1 16 = true then bS (pI S (o0 + 1) (x1.toNatClampNeg) (0 : Int32)) fun S1 => bV (x1 + (1 : Int32)) fun v2 => rc17 S1 v2 else none)
theorem wbX6_startAnew_17 {X : CX} (hX : Ok RX6 cX6_startAnew none 0 55 2 X) {o0 : Nat} (ho0 : isS o0) {rr : St} (hq : rs X = (none, rr)) {rc17 : St → Int32 → Option (St)} (hrc17 : ∀ (S : St) (x1 : Int32), rc17 S x1 = some rr → Wat 0 55 0 2 X 17 [(0, .ref (ad X o0)), (1, .int x1)] [] S) {S : St} {x1 : Int32} (hres : bX6_startAnew_17 o0 rc17 S x1 = some rr) : Wat 0 55 0 2 X 17 [(0, .ref (ad X o0)), (1, .int x1)] [] S := by
  unfold bX6_startAnew_17 at hres
  refine q_iload_n 18 hX 1 dX6_startAnew_17 rfl rfl rfl ?_
  refine q_bipush 20 hX dX6_startAnew_18 rfl kB_16 ?_
  refine q_icmp_ge 23 hX 36 dX6_startAnew_20 rfl (by decide) (fun hc => ?_) (fun hc => ?_)
  · have hres := it_t hc hres
    exact q_vret hX (eqv hq hres) dX6_startAnew_36
  · have hres := it_f hc hres
    refine q_aload_n 24 hX 0 dX6_startAnew_23 rfl rfl rfl ?_
    refine q_getR 27 hX ci6 lf_RX6_9 (fR_S_0 ho0) dX6_startAnew_24 rfl ?_
    refine q_iload_n 28 hX 1 dX6_startAnew_27 rfl rfl rfl ?_
    refine q_iconst 29 hX dX6_startAnew_28 rfl kI_0 ?_
    obtain ⟨hb1, hres⟩ := gd hres
    refine q_iast 30 hX rfl (aF_S_1 ho0) hb1 dX6_startAnew_29 rfl ?_
    refine q_bS hres (fun S1 _ hres => ?_)
    refine q_iincB 33 1 (lv0 := [(0, .ref (ad X o0))]) hX dX6_startAnew_30 rfl rfl kI_1 (by decide) rfl hres (fun v2 hres => ?_)
    refine q_goto 17 hX dX6_startAnew_33 (by decide) ?_
    exact q_sub [1, 0] rfl (hrc17 _ _ hres)
def fX6_startAnew_17 (o0 : Nat) : Nat → St → Int32 → Option (St)
  | 0 => fun _ _ => none
  | k + 1 => fun S x1 => bX6_startAnew_17 o0 (fX6_startAnew_17 o0 k) S x1
theorem wfX6_startAnew_17 {X : CX} (hX : Ok RX6 cX6_startAnew none 0 55 2 X) {o0 : Nat} (ho0 : isS o0) {rr : St} (hq : rs X = (none, rr)) (k : Nat) : ∀ (S : St) (x1 : Int32), fX6_startAnew_17 o0 k S x1 = some rr → Wat 0 55 0 2 X 17 [(0, .ref (ad X o0)), (1, .int x1)] [] S := by
  induction k with
  | zero => intro S x1 hres; exact absurd hres (by simp [fX6_startAnew_17])
  | succ k ih => intro S x1 hres; exact wbX6_startAnew_17 hX ho0 hq ih hres
def fX6_startAnew (o0 : Nat) (S : St) : Option (St) :=
  bS (pI S o0 1 (-1 : Int32)) fun S1 => bS (pI S1 o0 2 (0 : Int32)) fun S2 => bS (pI S2 o0 3 (0 : Int32)) fun S3 => fX6_startAnew_17 o0 100 S3 (0 : Int32)
theorem wfX6_startAnew {X : CX} (hX : Ok RX6 cX6_startAnew none 0 55 2 X) {o0 : Nat} (ho0 : isS o0) {rr : St} (hq : rs X = (none, rr)) {S : St} (hres : fX6_startAnew o0 S = some rr) : Wat 0 55 0 2 X 0 [(0, .ref (ad X o0))] [] S := by
  unfold fX6_startAnew at hres
  refine q_aload_n 1 hX 0 dX6_startAnew_0 rfl rfl rfl ?_
  refine q_iconst 2 hX dX6_startAnew_1 rfl kI_m1 ?_
  refine q_putI 5 hX ci6 lf_RX6_15 (fI_S_1 ho0) (nar_i rfl) dX6_startAnew_2 rfl ?_
  refine q_bS hres (fun S1 _ hres => ?_)
  refine q_aload_n 6 hX 0 dX6_startAnew_5 rfl rfl rfl ?_
  refine q_iconst 7 hX dX6_startAnew_6 rfl kI_0 ?_
  refine q_putI 10 hX ci6 lf_RX6_19 (fI_S_2 ho0) (nar_i rfl) dX6_startAnew_7 rfl ?_
  refine q_bS hres (fun S2 _ hres => ?_)
  refine q_aload_n 11 hX 0 dX6_startAnew_10 rfl rfl rfl ?_
  refine q_iconst 12 hX dX6_startAnew_11 rfl kI_0 ?_
  refine q_putI 15 hX ci6 lf_RX6_22 (fI_S_3 ho0) (nar_i rfl) dX6_startAnew_12 rfl ?_
  refine q_bS hres (fun S3 _ hres => ?_)
  refine q_iconst 16 hX dX6_startAnew_15 rfl kI_0 ?_
  refine q_istore_n 17 (lv' := [(1, .int (0 : Int32)), (0, .ref (ad X o0))]) hX dX6_startAnew_16 rfl rfl (by decide) rfl ?_
  exact q_sub [1, 0] rfl (wfX6_startAnew_17 hX ho0 hq _ _ _ hres)
theorem cX6_startAnew9 {l : Launch} {w : WD} (hj : Dj w 0 55) {o0 : Nat} (ho0 : isS o0) {rr : St} {S : St} (hres : fX6_startAnew o0 S = some rr) : Ct l yX6_startAnew cX6_startAnew 2 none 0 w 0 55 [.ref (w.1 o0)] S (none, rr) := by
  refine Ct.of (lv := [(0, .ref (w.1 o0))]) hj (by decide +kernel) (Nat.le_of_ble_eq_true rfl) rfl ?_
  rintro X rfl rfl hq hX
  exact wfX6_startAnew hX ho0 hq hres
def fX6_copyFrom (o0 : Nat) (o1 : Nat) (S : St) : Option (St) :=
  bS (pI S o0 1 (S.1 o1 1)) fun S1 => bS (pI S1 o0 2 (S1.1 o1 2)) fun S2 => bS (pI S2 o0 3 (S2.1 o1 3)) fun S3 => bS (pI S3 o0 4 (S3.1 o1 4)) fun S4 => bS (pI S4 o0 5 (S4.1 o1 5)) fun S5 => bS (cpA S5 (o1 + 1) (o0 + 1) 16) fun S6 => some S6
theorem wfX6_copyFrom {X : CX} (hX : Ok RX6 cX6_copyFrom none 0 55 2 X) {o0 : Nat} (ho0 : isS o0) {o1 : Nat} (ho1 : isS o1) {rr : St} (hq : rs X = (none, rr)) {S : St} (hres : fX6_copyFrom o0 o1 S = some rr) : Wat 0 55 1 2 X 0 [(0, .ref (ad X o0)), (1, .ref (ad X o1))] [] S := by
  unfold fX6_copyFrom at hres
  refine q_aload_n 1 hX 0 dX6_copyFrom_0 rfl rfl rfl ?_
  refine q_aload_n 2 hX 1 dX6_copyFrom_1 rfl rfl rfl ?_
  refine q_getI 5 hX ci6 lf_RX6_15 (fI_S_1 ho1) dX6_copyFrom_2 rfl ?_
  refine q_putI 8 hX ci6 lf_RX6_15 (fI_S_1 ho0) (nar_i rfl) dX6_copyFrom_5 rfl ?_
  refine q_bS hres (fun S1 _ hres => ?_)
  refine q_aload_n 9 hX 0 dX6_copyFrom_8 rfl rfl rfl ?_
  refine q_aload_n 10 hX 1 dX6_copyFrom_9 rfl rfl rfl ?_
  refine q_getI 13 hX ci6 lf_RX6_19 (fI_S_2 ho1) dX6_copyFrom_10 rfl ?_
  refine q_putI 16 hX ci6 lf_RX6_19 (fI_S_2 ho0) (nar_i rfl) dX6_copyFrom_13 rfl ?_
  refine q_bS hres (fun S2 _ hres => ?_)
  refine q_aload_n 17 hX 0 dX6_copyFrom_16 rfl rfl rfl ?_
  refine q_aload_n 18 hX 1 dX6_copyFrom_17 rfl rfl rfl ?_
  refine q_getI 21 hX ci6 lf_RX6_22 (fI_S_3 ho1) dX6_copyFrom_18 rfl ?_
  refine q_putI 24 hX ci6 lf_RX6_22 (fI_S_3 ho0) (nar_i rfl) dX6_copyFrom_21 rfl ?_
  refine q_bS hres (fun S3 _ hres => ?_)
  refine q_aload_n 25 hX 0 dX6_copyFrom_24 rfl rfl rfl ?_
  refine q_aload_n 26 hX 1 dX6_copyFrom_25 rfl rfl rfl ?_
  refine q_getI 29 hX ci6 lf_RX6_25 (fI_S_4 ho1) dX6_copyFrom_26 rfl ?_
  refine q_putI 32 hX ci6 lf_RX6_25 (fI_S_4 ho0) (nar_i rfl) dX6_copyFrom_29 rfl ?_
  refine q_bS hres (fun S4 _ hres => ?_)
  refine q_aload_n 33 hX 0 dX6_copyFrom_32 rfl rfl rfl ?_
  refine q_aload_n 34 hX 1 dX6_copyFrom_33 rfl rfl rfl ?_
  refine q_getI 37 hX ci6 lf_RX6_28 (fI_S_5 ho1) dX6_copyFrom_34 rfl ?_
  refine q_putI 40 hX ci6 lf_RX6_28 (fI_S_5 ho0) (nar_i rfl) dX6_copyFrom_37 rfl ?_
  refine q_bS hres (fun S5 _ hres => ?_)
  refine q_aload_n 41 hX 1 dX6_copyFrom_40 rfl rfl rfl ?_
  refine q_getR 44 hX ci6 lf_RX6_9 (fR_S_0 ho1) dX6_copyFrom_41 rfl ?_
  refine q_iconst 45 hX dX6_copyFrom_44 rfl kI_0 ?_
  refine q_aload_n 46 hX 0 dX6_copyFrom_45 rfl rfl rfl ?_
  refine q_getR 49 hX ci6 lf_RX6_9 (fR_S_0 ho0) dX6_copyFrom_46 rfl ?_
  refine q_iconst 50 hX dX6_copyFrom_49 rfl kI_0 ?_
  refine q_bipush 52 hX dX6_copyFrom_50 rfl kB_16 ?_
  refine q_copy16 55 hX (aF_S_1 ho1) (aF_S_1 ho0) ⟨gw389, gw390, gw391, gw392⟩ (by decide) dX6_copyFrom_52 rfl ?_
  refine q_bS hres (fun S6 _ hres => ?_)
  exact q_vret hX (eqv hq hres) dX6_copyFrom_55
theorem cX6_copyFrom9 {l : Launch} {w : WD} (hj : Dj w 0 55) {o0 : Nat} (ho0 : isS o0) {o1 : Nat} (ho1 : isS o1) {rr : St} {S : St} (hres : fX6_copyFrom o0 o1 S = some rr) : Ct l yX6_copyFrom cX6_copyFrom 2 none 1 w 0 55 [.ref (w.1 o0), .ref (w.1 o1)] S (none, rr) := by
  refine Ct.of (lv := [(0, .ref (w.1 o0)), (1, .ref (w.1 o1))]) hj (by decide +kernel) (Nat.le_of_ble_eq_true rfl) rfl ?_
  rintro X rfl rfl hq hX
  exact wfX6_copyFrom hX ho0 ho1 hq hres
def bX6_dropStrangers_18 (o0 : Nat) (o1 : Nat) (rc18 : St → Int32 → Option (St)) (S : St) (x2 : Int32) : Option (St) :=
  if (16 : Int32) ≤ x2 then (some S) else (bi (fX8_hasHouse o1 S x2) fun r2 S1 => if r2 = 0 then (if inb x2 16 = true then bS (pI S1 (o0 + 1) (x2.toNatClampNeg) (0 : Int32)) fun S2 => bV (x2 + (1 : Int32)) fun v5 => rc18 S2 v5 else none) else (bV (x2 + (1 : Int32)) fun v3 => rc18 S1 v3))
theorem wbX6_dropStrangers_18 {X : CX} (hX : Ok RX6 cX6_dropStrangers none 0 55 3 X) {o0 : Nat} (ho0 : isS o0) {o1 : Nat} (ho1 : isT o1) {rr : St} (hq : rs X = (none, rr)) {rc18 : St → Int32 → Option (St)} (hrc18 : ∀ (S : St) (x2 : Int32), rc18 S x2 = some rr → Wat 0 55 1 3 X 18 [(0, .ref (ad X o0)), (1, .ref (ad X o1)), (2, .int x2)] [] S) {S : St} {x2 : Int32} (hres : bX6_dropStrangers_18 o0 o1 rc18 S x2 = some rr) : Wat 0 55 1 3 X 18 [(0, .ref (ad X o0)), (1, .ref (ad X o1)), (2, .int x2)] [] S := by
  unfold bX6_dropStrangers_18 at hres
  refine q_iload_n 19 hX 2 dX6_dropStrangers_18 rfl rfl rfl ?_
  refine q_bipush 21 hX dX6_dropStrangers_19 rfl kB_16 ?_
  refine q_icmp_ge 24 hX 45 dX6_dropStrangers_21 rfl (by decide) (fun hc => ?_) (fun hc => ?_)
  · have hres := it_t hc hres
    exact q_vret hX (eqv hq hres) dX6_dropStrangers_45
  · have hres := it_f hc hres
    refine q_aload_n 25 hX 1 dX6_dropStrangers_24 rfl rfl rfl ?_
    refine q_iload_n 26 hX 2 dX6_dropStrangers_25 rfl rfl rfl ?_
    obtain ⟨r2, S1, hk1, hres⟩ := ob hres
    refine q_callVi 29 (st := []) (As := [.int x2]) hX (cX8_hasHouse9 hX.dj ho1 hk1) cv_RX6_37 ci8 (oB_T ho1) rfl (by decide) rfl (Nat.le_of_ble_eq_true rfl) dX6_dropStrangers_26 rfl ?_
    refine q_if_ne 32 hX 39 dX6_dropStrangers_29 rfl (by decide) (fun hc => ?_) (fun hc => ?_)
    · have hres := it_f hc hres
      refine q_iincB 42 2 (lv0 := [(0, .ref (ad X o0)), (1, .ref (ad X o1))]) hX dX6_dropStrangers_39 rfl rfl kI_1 (by decide) rfl hres (fun v3 hres => ?_)
      refine q_goto 18 hX dX6_dropStrangers_42 (by decide) ?_
      exact q_sub [1, 2, 0] rfl (hrc18 _ _ hres)
    · have hres := it_t hc hres
      refine q_aload_n 33 hX 0 dX6_dropStrangers_32 rfl rfl rfl ?_
      refine q_getR 36 hX ci6 lf_RX6_9 (fR_S_0 ho0) dX6_dropStrangers_33 rfl ?_
      refine q_iload_n 37 hX 2 dX6_dropStrangers_36 rfl rfl rfl ?_
      refine q_iconst 38 hX dX6_dropStrangers_37 rfl kI_0 ?_
      obtain ⟨hb4, hres⟩ := gd hres
      refine q_iast 39 hX rfl (aF_S_1 ho0) hb4 dX6_dropStrangers_38 rfl ?_
      refine q_bS hres (fun S2 _ hres => ?_)
      refine q_iincB 42 2 (lv0 := [(0, .ref (ad X o0)), (1, .ref (ad X o1))]) hX dX6_dropStrangers_39 rfl rfl kI_1 (by decide) rfl hres (fun v5 hres => ?_)
      refine q_goto 18 hX dX6_dropStrangers_42 (by decide) ?_
      exact q_sub [1, 2, 0] rfl (hrc18 _ _ hres)
def fX6_dropStrangers_18 (o0 : Nat) (o1 : Nat) : Nat → St → Int32 → Option (St)
  | 0 => fun _ _ => none
  | k + 1 => fun S x2 => bX6_dropStrangers_18 o0 o1 (fX6_dropStrangers_18 o0 o1 k) S x2
theorem wfX6_dropStrangers_18 {X : CX} (hX : Ok RX6 cX6_dropStrangers none 0 55 3 X) {o0 : Nat} (ho0 : isS o0) {o1 : Nat} (ho1 : isT o1) {rr : St} (hq : rs X = (none, rr)) (k : Nat) : ∀ (S : St) (x2 : Int32), fX6_dropStrangers_18 o0 o1 k S x2 = some rr → Wat 0 55 1 3 X 18 [(0, .ref (ad X o0)), (1, .ref (ad X o1)), (2, .int x2)] [] S := by
  induction k with
  | zero => intro S x2 hres; exact absurd hres (by simp [fX6_dropStrangers_18])
  | succ k ih => intro S x2 hres; exact wbX6_dropStrangers_18 hX ho0 ho1 hq ih hres
def fX6_dropStrangers (o0 : Nat) (o1 : Nat) (S : St) : Option (St) :=
  bi (fX8_hasHouse o1 S (S.1 o0 1)) fun r2 S1 => if r2 = 0 then (bS (pI S1 o0 1 (-1 : Int32)) fun S2 => fX6_dropStrangers_18 o0 o1 100 S2 (0 : Int32)) else (fX6_dropStrangers_18 o0 o1 100 S1 (0 : Int32))
theorem wfX6_dropStrangers {X : CX} (hX : Ok RX6 cX6_dropStrangers none 0 55 3 X) {o0 : Nat} (ho0 : isS o0) {o1 : Nat} (ho1 : isT o1) {rr : St} (hq : rs X = (none, rr)) {S : St} (hres : fX6_dropStrangers o0 o1 S = some rr) : Wat 0 55 1 3 X 0 [(0, .ref (ad X o0)), (1, .ref (ad X o1))] [] S := by
  unfold fX6_dropStrangers at hres
  refine q_aload_n 1 hX 1 dX6_dropStrangers_0 rfl rfl rfl ?_
  refine q_aload_n 2 hX 0 dX6_dropStrangers_1 rfl rfl rfl ?_
  refine q_getI 5 hX ci6 lf_RX6_15 (fI_S_1 ho0) dX6_dropStrangers_2 rfl ?_
  obtain ⟨r2, S1, hk1, hres⟩ := ob hres
  refine q_callVi 8 (st := []) (As := [.int (S.1 o0 1)]) hX (cX8_hasHouse9 hX.dj ho1 hk1) cv_RX6_37 ci8 (oB_T ho1) rfl (by decide) rfl (Nat.le_of_ble_eq_true rfl) dX6_dropStrangers_5 rfl ?_
  refine q_if_ne 11 hX 16 dX6_dropStrangers_8 rfl (by decide) (fun hc => ?_) (fun hc => ?_)
  · have hres := it_f hc hres
    refine q_iconst 17 hX dX6_dropStrangers_16 rfl kI_0 ?_
    refine q_istore_n 18 (lv' := [(2, .int (0 : Int32)), (0, .ref (ad X o0)), (1, .ref (ad X o1))]) hX dX6_dropStrangers_17 rfl rfl (by decide) rfl ?_
    exact q_sub [1, 2, 0] rfl (wfX6_dropStrangers_18 hX ho0 ho1 hq _ _ _ hres)
  · have hres := it_t hc hres
    refine q_aload_n 12 hX 0 dX6_dropStrangers_11 rfl rfl rfl ?_
    refine q_iconst 13 hX dX6_dropStrangers_12 rfl kI_m1 ?_
    refine q_putI 16 hX ci6 lf_RX6_15 (fI_S_1 ho0) (nar_i rfl) dX6_dropStrangers_13 rfl ?_
    refine q_bS hres (fun S2 _ hres => ?_)
    refine q_iconst 17 hX dX6_dropStrangers_16 rfl kI_0 ?_
    refine q_istore_n 18 (lv' := [(2, .int (0 : Int32)), (0, .ref (ad X o0)), (1, .ref (ad X o1))]) hX dX6_dropStrangers_17 rfl rfl (by decide) rfl ?_
    exact q_sub [1, 2, 0] rfl (wfX6_dropStrangers_18 hX ho0 ho1 hq _ _ _ hres)
theorem cX6_dropStrangers9 {l : Launch} {w : WD} (hj : Dj w 0 55) {o0 : Nat} (ho0 : isS o0) {o1 : Nat} (ho1 : isT o1) {rr : St} {S : St} (hres : fX6_dropStrangers o0 o1 S = some rr) : Ct l yX6_dropStrangers cX6_dropStrangers 3 none 1 w 0 55 [.ref (w.1 o0), .ref (w.1 o1)] S (none, rr) := by
  refine Ct.of (lv := [(0, .ref (w.1 o0)), (1, .ref (w.1 o1))]) hj (by decide +kernel) (Nat.le_of_ble_eq_true rfl) rfl ?_
  rintro X rfl rfl hq hX
  exact wfX6_dropStrangers hX ho0 ho1 hq hres
def fX6_joyOf_19 (o0 : Nat) (S : St) : Option (Int32 × St) :=
  some ((0 : Int32), S)
theorem wfX6_joyOf_19 {X : CX} (hX : Ok RX6 cX6_joyOf (some .int) 0 55 2 X) {o0 : Nat} (ho0 : isS o0) {rr : Int32 × St} (hq : rs X = (some (.int rr.1), rr.2)) {S : St} (hres : fX6_joyOf_19 o0 S = some rr) : Wat 0 55 0 2 X 19 [] [] S := by
  unfold fX6_joyOf_19 at hres
  refine q_iconst 20 hX dX6_joyOf_19 rfl kI_0 ?_
  exact q_iret hX (eqi hq hres) dX6_joyOf_20
def fX6_joyOf (o0 : Nat) (S : St) (x1 : Int32) : Option (Int32 × St) :=
  if x1 < 0 then (fX6_joyOf_19 o0 S) else (if (16 : Int32) ≤ x1 then (fX6_joyOf_19 o0 S) else (if inb x1 16 = true then some ((S.1 (o0 + 1) (x1.toNatClampNeg)), S) else none))
theorem wfX6_joyOf {X : CX} (hX : Ok RX6 cX6_joyOf (some .int) 0 55 2 X) {o0 : Nat} (ho0 : isS o0) {rr : Int32 × St} (hq : rs X = (some (.int rr.1), rr.2)) {S : St} {x1 : Int32} (hres : fX6_joyOf o0 S x1 = some rr) : Wat 0 55 0 2 X 0 [(0, .ref (ad X o0)), (1, .int x1)] [] S := by
  unfold fX6_joyOf at hres
  refine q_iload_n 1 hX 1 dX6_joyOf_0 rfl rfl rfl ?_
  refine q_if_lt 4 hX 19 dX6_joyOf_1 rfl (by decide) (fun hc => ?_) (fun hc => ?_)
  · have hres := it_t hc hres
    exact q_sub [] rfl (wfX6_joyOf_19 hX ho0 hq hres)
  · have hres := it_f hc hres
    refine q_iload_n 5 hX 1 dX6_joyOf_4 rfl rfl rfl ?_
    refine q_bipush 7 hX dX6_joyOf_5 rfl kB_16 ?_
    refine q_icmp_ge 10 hX 19 dX6_joyOf_7 rfl (by decide) (fun hc => ?_) (fun hc => ?_)
    · have hres := it_t hc hres
      exact q_sub [] rfl (wfX6_joyOf_19 hX ho0 hq hres)
    · have hres := it_f hc hres
      refine q_aload_n 11 hX 0 dX6_joyOf_10 rfl rfl rfl ?_
      refine q_getR 14 hX ci6 lf_RX6_9 (fR_S_0 ho0) dX6_joyOf_11 rfl ?_
      refine q_iload_n 15 hX 1 dX6_joyOf_14 rfl rfl rfl ?_
      obtain ⟨hb1, hres⟩ := gd hres
      refine q_iald 16 hX rfl (aF_S_1 ho0) hb1 dX6_joyOf_15 rfl ?_
      refine q_goto 20 hX dX6_joyOf_16 (by decide) ?_
      exact q_iret hX (eqi hq hres) dX6_joyOf_20
theorem cX6_joyOf9 {l : Launch} {w : WD} (hj : Dj w 0 55) {o0 : Nat} (ho0 : isS o0) {rr : Int32 × St} {S : St} {x1 : Int32} (hres : fX6_joyOf o0 S x1 = some rr) : Ct l yX6_joyOf cX6_joyOf 2 (some .int) 0 w 0 55 [.ref (w.1 o0), .int x1] S (some (.int rr.1), rr.2) := by
  refine Ct.of (lv := [(0, .ref (w.1 o0)), (1, .int x1)]) hj (by decide +kernel) (Nat.le_of_ble_eq_true rfl) rfl ?_
  rintro X rfl rfl hq hX
  exact wfX6_joyOf hX ho0 hq hres
def bX6_joyOfAll_4 (o0 : Nat) (rc4 : St → Int32 → Int32 → Option (Int32 × St)) (S : St) (x1 : Int32) (x2 : Int32) : Option (Int32 × St) :=
  if (16 : Int32) ≤ x2 then (some (x1, S)) else (if inb x2 16 = true then bV ((x1 + (S.1 (o0 + 1) (x2.toNatClampNeg)))) fun v2 => bV (x2 + (1 : Int32)) fun v3 => rc4 S v2 v3 else none)
theorem wbX6_joyOfAll_4 {X : CX} (hX : Ok RX6 cX6_joyOfAll (some .int) 0 55 3 X) {o0 : Nat} (ho0 : isS o0) {rr : Int32 × St} (hq : rs X = (some (.int rr.1), rr.2)) {rc4 : St → Int32 → Int32 → Option (Int32 × St)} (hrc4 : ∀ (S : St) (x1 : Int32) (x2 : Int32), rc4 S x1 x2 = some rr → Wat 0 55 0 3 X 4 [(0, .ref (ad X o0)), (1, .int x1), (2, .int x2)] [] S) {S : St} {x1 : Int32} {x2 : Int32} (hres : bX6_joyOfAll_4 o0 rc4 S x1 x2 = some rr) : Wat 0 55 0 3 X 4 [(0, .ref (ad X o0)), (1, .int x1), (2, .int x2)] [] S := by
  unfold bX6_joyOfAll_4 at hres
  refine q_iload_n 5 hX 2 dX6_joyOfAll_4 rfl rfl rfl ?_
  refine q_bipush 7 hX dX6_joyOfAll_5 rfl kB_16 ?_
  refine q_icmp_ge 10 hX 25 dX6_joyOfAll_7 rfl (by decide) (fun hc => ?_) (fun hc => ?_)
  · have hres := it_t hc hres
    refine q_iload_n 26 hX 1 dX6_joyOfAll_25 rfl rfl rfl ?_
    exact q_iret hX (eqi hq hres) dX6_joyOfAll_26
  · have hres := it_f hc hres
    refine q_iload_n 11 hX 1 dX6_joyOfAll_10 rfl rfl rfl ?_
    refine q_aload_n 12 hX 0 dX6_joyOfAll_11 rfl rfl rfl ?_
    refine q_getR 15 hX ci6 lf_RX6_9 (fR_S_0 ho0) dX6_joyOfAll_12 rfl ?_
    refine q_iload_n 16 hX 2 dX6_joyOfAll_15 rfl rfl rfl ?_
    obtain ⟨hb1, hres⟩ := gd hres
    refine q_iald 17 hX rfl (aF_S_1 ho0) hb1 dX6_joyOfAll_16 rfl ?_
    refine q_iadd 18 hX dX6_joyOfAll_17 rfl ?_
    refine q_istoreB_n 19 (lv0 := [(0, .ref (ad X o0)), (2, .int x2)]) hX dX6_joyOfAll_18 rfl rfl (by decide) rfl hres (fun v2 hres => ?_)
    refine q_iincB 22 2 (lv0 := [(1, .int v2), (0, .ref (ad X o0))]) hX dX6_joyOfAll_19 rfl rfl kI_1 (by decide) rfl hres (fun v3 hres => ?_)
    refine q_goto 4 hX dX6_joyOfAll_22 (by decide) ?_
    exact q_sub [2, 1, 0] rfl (hrc4 _ _ _ hres)
def fX6_joyOfAll_4 (o0 : Nat) : Nat → St → Int32 → Int32 → Option (Int32 × St)
  | 0 => fun _ _ _ => none
  | k + 1 => fun S x1 x2 => bX6_joyOfAll_4 o0 (fX6_joyOfAll_4 o0 k) S x1 x2
theorem wfX6_joyOfAll_4 {X : CX} (hX : Ok RX6 cX6_joyOfAll (some .int) 0 55 3 X) {o0 : Nat} (ho0 : isS o0) {rr : Int32 × St} (hq : rs X = (some (.int rr.1), rr.2)) (k : Nat) : ∀ (S : St) (x1 : Int32) (x2 : Int32), fX6_joyOfAll_4 o0 k S x1 x2 = some rr → Wat 0 55 0 3 X 4 [(0, .ref (ad X o0)), (1, .int x1), (2, .int x2)] [] S := by
  induction k with
  | zero => intro S x1 x2 hres; exact absurd hres (by simp [fX6_joyOfAll_4])
  | succ k ih => intro S x1 x2 hres; exact wbX6_joyOfAll_4 hX ho0 hq ih hres
def fX6_joyOfAll (o0 : Nat) (S : St) : Option (Int32 × St) :=
  fX6_joyOfAll_4 o0 100 S (0 : Int32) (0 : Int32)
theorem wfX6_joyOfAll {X : CX} (hX : Ok RX6 cX6_joyOfAll (some .int) 0 55 3 X) {o0 : Nat} (ho0 : isS o0) {rr : Int32 × St} (hq : rs X = (some (.int rr.1), rr.2)) {S : St} (hres : fX6_joyOfAll o0 S = some rr) : Wat 0 55 0 3 X 0 [(0, .ref (ad X o0))] [] S := by
  unfold fX6_joyOfAll at hres
  refine q_iconst 1 hX dX6_joyOfAll_0 rfl kI_0 ?_
  refine q_istore_n 2 (lv' := [(1, .int (0 : Int32)), (0, .ref (ad X o0))]) hX dX6_joyOfAll_1 rfl rfl (by decide) rfl ?_
  refine q_iconst 3 hX dX6_joyOfAll_2 rfl kI_0 ?_
  refine q_istore_n 4 (lv' := [(2, .int (0 : Int32)), (1, .int (0 : Int32)), (0, .ref (ad X o0))]) hX dX6_joyOfAll_3 rfl rfl (by decide) rfl ?_
  exact q_sub [2, 1, 0] rfl (wfX6_joyOfAll_4 hX ho0 hq _ _ _ _ hres)
theorem cX6_joyOfAll9 {l : Launch} {w : WD} (hj : Dj w 0 55) {o0 : Nat} (ho0 : isS o0) {rr : Int32 × St} {S : St} (hres : fX6_joyOfAll o0 S = some rr) : Ct l yX6_joyOfAll cX6_joyOfAll 3 (some .int) 0 w 0 55 [.ref (w.1 o0)] S (some (.int rr.1), rr.2) := by
  refine Ct.of (lv := [(0, .ref (w.1 o0))]) hj (by decide +kernel) (Nat.le_of_ble_eq_true rfl) rfl ?_
  rintro X rfl rfl hq hX
  exact wfX6_joyOfAll hX ho0 hq hres
def fX6_tellLaw_57 (o0 : Nat) (o1 : Nat) (S : St) (x4 : Int32) (s1 : Int32) (s2 : Int32) : Option (St) :=
  bv (fX2_setLetter o1 S s1 s2) fun S1 => bi (fJ6_bitCount_0f7a4 S1 x4) fun r3 S2 => bv (fX2_setLetter o1 S2 (4 : Int32) r3) fun S3 => bi (fJ6_bitCount_0f7a4 S3 (S3.1 o0 2)) fun r6 S4 => bv (fX2_setLetter o1 S4 (5 : Int32) r6) fun S5 => bv (fX2_setLetter o1 S5 (6 : Int32) ((S5.1 o0 3) - (S5.1 o0 3) / (100 : Int32) * (100 : Int32))) fun S6 => bv (fX2_setLetter o1 S6 (7 : Int32) ((S6.1 o0 4) - (S6.1 o0 4) / (100 : Int32) * (100 : Int32))) fun S7 => bv (fX2_setLetter o1 S7 (8 : Int32) ((S7.1 o0 5) - (S7.1 o0 5) / (10 : Int32) * (10 : Int32))) fun S8 => some S8
theorem wfX6_tellLaw_57 {X : CX} (hX : Ok RX6 cX6_tellLaw none 0 55 5 X) {o0 : Nat} (ho0 : isS o0) {o1 : Nat} (ho1 : isL o1) {rr : St} (hq : rs X = (none, rr)) {S : St} {x4 : Int32} {s1 : Int32} {s2 : Int32} (hres : fX6_tellLaw_57 o0 o1 S x4 s1 s2 = some rr) : Wat 0 55 1 5 X 57 [(0, .ref (ad X o0)), (1, .ref (ad X o1)), (4, .int x4)] [.int s2, .int s1, .ref (ad X o1)] S := by
  unfold fX6_tellLaw_57 at hres
  obtain ⟨S1, hk1, hres⟩ := obv hres
  refine q_callVv 60 (st := []) (As := [.int s1, .int s2]) hX (cX2_setLetter9 hX.dj ho1 hk1) cv_RX6_87 ci2 (oB_L ho1) rfl (by decide) rfl (Nat.le_of_ble_eq_true rfl) dX6_tellLaw_57 rfl ?_
  refine q_aload_n 61 hX 1 dX6_tellLaw_60 rfl rfl rfl ?_
  refine q_iconst 62 hX dX6_tellLaw_61 rfl kI_4 ?_
  refine q_iload 64 hX 2 dX6_tellLaw_62 rfl rfl ?_
  obtain ⟨r3, S2, hk2, hres⟩ := ob hres
  refine q_callSi 67 (st := [.int (4 : Int32), .ref (ad X o1)]) (As := [.int x4]) hX (cJ6_bitCount_0f7a49 hX.dj hk2) cs_RX6_81 rfl (by decide) rfl (Nat.le_of_ble_eq_true rfl) dX6_tellLaw_64 rfl ?_
  obtain ⟨S3, hk4, hres⟩ := obv hres
  refine q_callVv 70 (st := []) (As := [.int (4 : Int32), .int r3]) hX (cX2_setLetter9 hX.dj ho1 hk4) cv_RX6_87 ci2 (oB_L ho1) rfl (by decide) rfl (Nat.le_of_ble_eq_true rfl) dX6_tellLaw_67 rfl ?_
  refine q_aload_n 71 hX 1 dX6_tellLaw_70 rfl rfl rfl ?_
  refine q_iconst 72 hX dX6_tellLaw_71 rfl kI_5 ?_
  refine q_aload_n 73 hX 0 dX6_tellLaw_72 rfl rfl rfl ?_
  refine q_getI 76 hX ci6 lf_RX6_19 (fI_S_2 ho0) dX6_tellLaw_73 rfl ?_
  obtain ⟨r6, S4, hk5, hres⟩ := ob hres
  refine q_callSi 79 (st := [.int (5 : Int32), .ref (ad X o1)]) (As := [.int (S3.1 o0 2)]) hX (cJ6_bitCount_0f7a49 hX.dj hk5) cs_RX6_81 rfl (by decide) rfl (Nat.le_of_ble_eq_true rfl) dX6_tellLaw_76 rfl ?_
  obtain ⟨S5, hk7, hres⟩ := obv hres
  refine q_callVv 82 (st := []) (As := [.int (5 : Int32), .int r6]) hX (cX2_setLetter9 hX.dj ho1 hk7) cv_RX6_87 ci2 (oB_L ho1) rfl (by decide) rfl (Nat.le_of_ble_eq_true rfl) dX6_tellLaw_79 rfl ?_
  refine q_aload_n 83 hX 1 dX6_tellLaw_82 rfl rfl rfl ?_
  refine q_bipush 85 hX dX6_tellLaw_83 rfl kB_6 ?_
  refine q_aload_n 86 hX 0 dX6_tellLaw_85 rfl rfl rfl ?_
  refine q_getI 89 hX ci6 lf_RX6_22 (fI_S_3 ho0) dX6_tellLaw_86 rfl ?_
  refine q_bipush 91 hX dX6_tellLaw_89 rfl kB_100 ?_
  refine q_irem 92 hX dX6_tellLaw_91 rfl (by decide) ?_
  obtain ⟨S6, hk8, hres⟩ := obv hres
  refine q_callVv 95 (st := []) (As := [.int (6 : Int32), .int ((S5.1 o0 3) - (S5.1 o0 3) / (100 : Int32) * (100 : Int32))]) hX (cX2_setLetter9 hX.dj ho1 hk8) cv_RX6_87 ci2 (oB_L ho1) rfl (by decide) rfl (Nat.le_of_ble_eq_true rfl) dX6_tellLaw_92 rfl ?_
  refine q_aload_n 96 hX 1 dX6_tellLaw_95 rfl rfl rfl ?_
  refine q_bipush 98 hX dX6_tellLaw_96 rfl kB_7 ?_
  refine q_aload_n 99 hX 0 dX6_tellLaw_98 rfl rfl rfl ?_
  refine q_getI 102 hX ci6 lf_RX6_25 (fI_S_4 ho0) dX6_tellLaw_99 rfl ?_
  refine q_bipush 104 hX dX6_tellLaw_102 rfl kB_100 ?_
  refine q_irem 105 hX dX6_tellLaw_104 rfl (by decide) ?_
  obtain ⟨S7, hk9, hres⟩ := obv hres
  refine q_callVv 108 (st := []) (As := [.int (7 : Int32), .int ((S6.1 o0 4) - (S6.1 o0 4) / (100 : Int32) * (100 : Int32))]) hX (cX2_setLetter9 hX.dj ho1 hk9) cv_RX6_87 ci2 (oB_L ho1) rfl (by decide) rfl (Nat.le_of_ble_eq_true rfl) dX6_tellLaw_105 rfl ?_
  refine q_aload_n 109 hX 1 dX6_tellLaw_108 rfl rfl rfl ?_
  refine q_bipush 111 hX dX6_tellLaw_109 rfl kB_8 ?_
  refine q_aload_n 112 hX 0 dX6_tellLaw_111 rfl rfl rfl ?_
  refine q_getI 115 hX ci6 lf_RX6_28 (fI_S_5 ho0) dX6_tellLaw_112 rfl ?_
  refine q_bipush 117 hX dX6_tellLaw_115 rfl kB_10 ?_
  refine q_irem 118 hX dX6_tellLaw_117 rfl (by decide) ?_
  obtain ⟨S8, hk10, hres⟩ := obv hres
  refine q_callVv 121 (st := []) (As := [.int (8 : Int32), .int ((S7.1 o0 5) - (S7.1 o0 5) / (10 : Int32) * (10 : Int32))]) hX (cX2_setLetter9 hX.dj ho1 hk10) cv_RX6_87 ci2 (oB_L ho1) rfl (by decide) rfl (Nat.le_of_ble_eq_true rfl) dX6_tellLaw_118 rfl ?_
  exact q_vret hX (eqv hq hres) dX6_tellLaw_121
def fX6_tellLaw_25 (o0 : Nat) (o1 : Nat) (S : St) (x2 : Int32) (x3 : Int32) (x4 : Int32) (s1 : Int32) (s2 : Int32) : Option (St) :=
  bv (fX2_setLetter o1 S s1 s2) fun S1 => bv (fX2_setLetter o1 S1 (2 : Int32) x3) fun S2 => if (S2.1 o0 1) = (-1 : Int32) then (fX6_tellLaw_57 o0 o1 S2 x4 (3 : Int32) (0 : Int32)) else (fX6_tellLaw_57 o0 o1 S2 x4 (3 : Int32) (if 0 ≤ (x2 - (S2.1 o0 1)) then (x2 - (S2.1 o0 1)) else 0 - (x2 - (S2.1 o0 1))))
theorem wfX6_tellLaw_25 {X : CX} (hX : Ok RX6 cX6_tellLaw none 0 55 5 X) {o0 : Nat} (ho0 : isS o0) {o1 : Nat} (ho1 : isL o1) {rr : St} (hq : rs X = (none, rr)) {S : St} {x2 : Int32} {x3 : Int32} {x4 : Int32} {s1 : Int32} {s2 : Int32} (hres : fX6_tellLaw_25 o0 o1 S x2 x3 x4 s1 s2 = some rr) : Wat 0 55 1 5 X 25 [(0, .ref (ad X o0)), (1, .ref (ad X o1)), (2, .int x2), (3, .int x3), (4, .int x4)] [.int s2, .int s1, .ref (ad X o1)] S := by
  unfold fX6_tellLaw_25 at hres
  obtain ⟨S1, hk1, hres⟩ := obv hres
  refine q_callVv 28 (st := []) (As := [.int s1, .int s2]) hX (cX2_setLetter9 hX.dj ho1 hk1) cv_RX6_87 ci2 (oB_L ho1) rfl (by decide) rfl (Nat.le_of_ble_eq_true rfl) dX6_tellLaw_25 rfl ?_
  refine q_aload_n 29 hX 1 dX6_tellLaw_28 rfl rfl rfl ?_
  refine q_iconst 30 hX dX6_tellLaw_29 rfl kI_2 ?_
  refine q_iload_n 31 hX 3 dX6_tellLaw_30 rfl rfl rfl ?_
  obtain ⟨S2, hk2, hres⟩ := obv hres
  refine q_callVv 34 (st := []) (As := [.int (2 : Int32), .int x3]) hX (cX2_setLetter9 hX.dj ho1 hk2) cv_RX6_87 ci2 (oB_L ho1) rfl (by decide) rfl (Nat.le_of_ble_eq_true rfl) dX6_tellLaw_31 rfl ?_
  refine q_aload_n 35 hX 1 dX6_tellLaw_34 rfl rfl rfl ?_
  refine q_iconst 36 hX dX6_tellLaw_35 rfl kI_3 ?_
  refine q_aload_n 37 hX 0 dX6_tellLaw_36 rfl rfl rfl ?_
  refine q_getI 40 hX ci6 lf_RX6_15 (fI_S_1 ho0) dX6_tellLaw_37 rfl ?_
  refine q_iconst 41 hX dX6_tellLaw_40 rfl kI_m1 ?_
  refine q_icmp_ne 44 hX 48 dX6_tellLaw_41 rfl (by decide) (fun hc => ?_) (fun hc => ?_)
  · have hres := it_f hc hres
    refine q_iload_n 49 hX 2 dX6_tellLaw_48 rfl rfl rfl ?_
    refine q_aload_n 50 hX 0 dX6_tellLaw_49 rfl rfl rfl ?_
    refine q_getI 53 hX ci6 lf_RX6_15 (fI_S_1 ho0) dX6_tellLaw_50 rfl ?_
    refine q_isub 54 hX dX6_tellLaw_53 rfl ?_
    refine q_abs 57 hX mw_RX6_91 (by decide) (Nat.le_of_ble_eq_true rfl) dX6_tellLaw_54 rfl ?_
    exact q_sub [0, 1, 4] rfl (wfX6_tellLaw_57 hX ho0 ho1 hq hres)
  · have hres := it_t hc hres
    refine q_iconst 45 hX dX6_tellLaw_44 rfl kI_0 ?_
    refine q_goto 57 hX dX6_tellLaw_45 (by decide) ?_
    exact q_sub [0, 1, 4] rfl (wfX6_tellLaw_57 hX ho0 ho1 hq hres)
def fX6_tellLaw (o0 : Nat) (o1 : Nat) (S : St) (x2 : Int32) (x3 : Int32) (x4 : Int32) : Option (St) :=
  bv (fX2_setLetter o1 S (0 : Int32) x2) fun S1 => if (S1.1 o0 1) = (-1 : Int32) then (fX6_tellLaw_25 o0 o1 S1 x2 x3 x4 (1 : Int32) (16 : Int32)) else (fX6_tellLaw_25 o0 o1 S1 x2 x3 x4 (1 : Int32) (S1.1 o0 1))
theorem wfX6_tellLaw {X : CX} (hX : Ok RX6 cX6_tellLaw none 0 55 5 X) {o0 : Nat} (ho0 : isS o0) {o1 : Nat} (ho1 : isL o1) {rr : St} (hq : rs X = (none, rr)) {S : St} {x2 : Int32} {x3 : Int32} {x4 : Int32} (hres : fX6_tellLaw o0 o1 S x2 x3 x4 = some rr) : Wat 0 55 1 5 X 0 [(0, .ref (ad X o0)), (1, .ref (ad X o1)), (2, .int x2), (3, .int x3), (4, .int x4)] [] S := by
  unfold fX6_tellLaw at hres
  refine q_aload_n 1 hX 1 dX6_tellLaw_0 rfl rfl rfl ?_
  refine q_iconst 2 hX dX6_tellLaw_1 rfl kI_0 ?_
  refine q_iload_n 3 hX 2 dX6_tellLaw_2 rfl rfl rfl ?_
  obtain ⟨S1, hk1, hres⟩ := obv hres
  refine q_callVv 6 (st := []) (As := [.int (0 : Int32), .int x2]) hX (cX2_setLetter9 hX.dj ho1 hk1) cv_RX6_87 ci2 (oB_L ho1) rfl (by decide) rfl (Nat.le_of_ble_eq_true rfl) dX6_tellLaw_3 rfl ?_
  refine q_aload_n 7 hX 1 dX6_tellLaw_6 rfl rfl rfl ?_
  refine q_iconst 8 hX dX6_tellLaw_7 rfl kI_1 ?_
  refine q_aload_n 9 hX 0 dX6_tellLaw_8 rfl rfl rfl ?_
  refine q_getI 12 hX ci6 lf_RX6_15 (fI_S_1 ho0) dX6_tellLaw_9 rfl ?_
  refine q_iconst 13 hX dX6_tellLaw_12 rfl kI_m1 ?_
  refine q_icmp_ne 16 hX 21 dX6_tellLaw_13 rfl (by decide) (fun hc => ?_) (fun hc => ?_)
  · have hres := it_f hc hres
    refine q_aload_n 22 hX 0 dX6_tellLaw_21 rfl rfl rfl ?_
    refine q_getI 25 hX ci6 lf_RX6_15 (fI_S_1 ho0) dX6_tellLaw_22 rfl ?_
    exact q_sub [0, 1, 2, 3, 4] rfl (wfX6_tellLaw_25 hX ho0 ho1 hq hres)
  · have hres := it_t hc hres
    refine q_bipush 18 hX dX6_tellLaw_16 rfl kB_16 ?_
    refine q_goto 25 hX dX6_tellLaw_18 (by decide) ?_
    exact q_sub [0, 1, 2, 3, 4] rfl (wfX6_tellLaw_25 hX ho0 ho1 hq hres)
theorem cX6_tellLaw9 {l : Launch} {w : WD} (hj : Dj w 0 55) {o0 : Nat} (ho0 : isS o0) {o1 : Nat} (ho1 : isL o1) {rr : St} {S : St} {x2 : Int32} {x3 : Int32} {x4 : Int32} (hres : fX6_tellLaw o0 o1 S x2 x3 x4 = some rr) : Ct l yX6_tellLaw cX6_tellLaw 5 none 1 w 0 55 [.ref (w.1 o0), .ref (w.1 o1), .int x2, .int x3, .int x4] S (none, rr) := by
  refine Ct.of (lv := [(0, .ref (w.1 o0)), (1, .ref (w.1 o1)), (2, .int x2), (3, .int x3), (4, .int x4)]) hj (by decide +kernel) (Nat.le_of_ble_eq_true rfl) rfl ?_
  rintro X rfl rfl hq hX
  exact wfX6_tellLaw hX ho0 ho1 hq hres
def fX6_carry (o0 : Nat) (o3 : Nat) (o4 : Nat) (S : St) (x1 : Int32) (x2 : Int32) : Option (St) :=
  if (S.1 o0 1) = x1 then (some S) else (bi (fX8_view o3 S x1 x2) fun r2 S1 => bv (fX6_tellLaw o0 o4 S1 x1 x2 r2) fun S2 => bi (fX2_leavesIt o4 S2) fun r5 S3 => if r5 = 0 then (bi (fX2_worthOf o4 S3 (99 : Int32) (9 : Int32) (0 : Int32)) fun r7 S4 => bS (pI S4 o0 3 (if ((S3.1 o0 3) + r7) < (9999 : Int32) then ((S3.1 o0 3) + r7) else (9999 : Int32))) fun S5 => bS (pI S5 o0 1 x1) fun S6 => some S6) else (some S3))
theorem wfX6_carry {X : CX} (hX : Ok RX6 cX6_carry none 0 55 5 X) {o0 : Nat} (ho0 : isS o0) {o3 : Nat} (ho3 : isT o3) {o4 : Nat} (ho4 : isL o4) {rr : St} (hq : rs X = (none, rr)) {S : St} {x1 : Int32} {x2 : Int32} (hres : fX6_carry o0 o3 o4 S x1 x2 = some rr) : Wat 0 55 5 5 X 0 [(0, .ref (ad X o0)), (1, .int x1), (2, .int x2), (3, .ref (ad X o3)), (4, .ref (ad X o4))] [] S := by
  unfold fX6_carry at hres
  refine q_aload_n 1 hX 0 dX6_carry_0 rfl rfl rfl ?_
  refine q_getI 4 hX ci6 lf_RX6_15 (fI_S_1 ho0) dX6_carry_1 rfl ?_
  refine q_iload_n 5 hX 1 dX6_carry_4 rfl rfl rfl ?_
  refine q_icmp_ne 8 hX 9 dX6_carry_5 rfl (by decide) (fun hc => ?_) (fun hc => ?_)
  · have hres := it_f hc hres
    refine q_aload_n 10 hX 0 dX6_carry_9 rfl rfl rfl ?_
    refine q_aload 12 hX 4 dX6_carry_10 rfl rfl ?_
    refine q_iload_n 13 hX 1 dX6_carry_12 rfl rfl rfl ?_
    refine q_iload_n 14 hX 2 dX6_carry_13 rfl rfl rfl ?_
    refine q_aload_n 15 hX 3 dX6_carry_14 rfl rfl rfl ?_
    refine q_iload_n 16 hX 1 dX6_carry_15 rfl rfl rfl ?_
    refine q_iload_n 17 hX 2 dX6_carry_16 rfl rfl rfl ?_
    obtain ⟨r2, S1, hk1, hres⟩ := ob hres
    refine q_callVi 20 (st := [.int x2, .int x1, .ref (ad X o4), .ref (ad X o0)]) (As := [.int x1, .int x2]) hX (cX8_view9 hX.dj ho3 hk1) cv_RX6_58 ci8 (oB_T ho3) rfl (by decide) rfl (Nat.le_of_ble_eq_true rfl) dX6_carry_17 rfl ?_
    obtain ⟨S2, hk3, hres⟩ := obv hres
    refine q_callVv 23 (st := []) (As := [.ref (ad X o4), .int x1, .int x2, .int r2]) hX (cX6_tellLaw9 hX.dj ho0 ho4 hk3) cv_RX6_62 ci6 (oB_S ho0) rfl (by decide) rfl (Nat.le_of_ble_eq_true rfl) dX6_carry_20 rfl ?_
    refine q_aload 25 hX 4 dX6_carry_23 rfl rfl ?_
    obtain ⟨r5, S3, hk4, hres⟩ := ob hres
    refine q_callVi 28 (st := []) (As := []) hX (cX2_leavesIt9 hX.dj ho4 hk4) cv_RX6_66 ci2 (oB_L ho4) rfl (by decide) rfl (Nat.le_of_ble_eq_true rfl) dX6_carry_25 rfl ?_
    refine q_if_ne 31 hX 61 dX6_carry_28 rfl (by decide) (fun hc => ?_) (fun hc => ?_)
    · have hres := it_f hc hres
      exact q_vret hX (eqv hq hres) dX6_carry_61
    · have hres := it_t hc hres
      refine q_aload_n 32 hX 0 dX6_carry_31 rfl rfl rfl ?_
      refine q_sipush 35 hX dX6_carry_32 rfl kS_9999 ?_
      refine q_aload_n 36 hX 0 dX6_carry_35 rfl rfl rfl ?_
      refine q_getI 39 hX ci6 lf_RX6_22 (fI_S_3 ho0) dX6_carry_36 rfl ?_
      refine q_aload 41 hX 4 dX6_carry_39 rfl rfl ?_
      refine q_bipush 43 hX dX6_carry_41 rfl kB_99 ?_
      refine q_bipush 45 hX dX6_carry_43 rfl kB_9 ?_
      refine q_iconst 46 hX dX6_carry_45 rfl kI_0 ?_
      obtain ⟨r7, S4, hk6, hres⟩ := ob hres
      refine q_callVi 49 (st := [.int (S3.1 o0 3), .int (9999 : Int32), .ref (ad X o0)]) (As := [.int (99 : Int32), .int (9 : Int32), .int (0 : Int32)]) hX (cX2_worthOf9 hX.dj ho4 hk6) cv_RX6_72 ci2 (oB_L ho4) rfl (by decide) rfl (Nat.le_of_ble_eq_true rfl) dX6_carry_46 rfl ?_
      refine q_iadd 50 hX dX6_carry_49 rfl ?_
      refine q_min 53 hX mw_RX6_76 (by decide) (Nat.le_of_ble_eq_true rfl) dX6_carry_50 rfl ?_
      refine q_putI 56 hX ci6 lf_RX6_22 (fI_S_3 ho0) (nar_i rfl) dX6_carry_53 rfl ?_
      refine q_bS hres (fun S5 _ hres => ?_)
      refine q_aload_n 57 hX 0 dX6_carry_56 rfl rfl rfl ?_
      refine q_iload_n 58 hX 1 dX6_carry_57 rfl rfl rfl ?_
      refine q_putI 61 hX ci6 lf_RX6_15 (fI_S_1 ho0) (nar_i rfl) dX6_carry_58 rfl ?_
      refine q_bS hres (fun S6 _ hres => ?_)
      exact q_vret hX (eqv hq hres) dX6_carry_61
  · have hres := it_t hc hres
    exact q_vret hX (eqv hq hres) dX6_carry_8
theorem cX6_carry9 {l : Launch} {w : WD} (hj : Dj w 0 55) {o0 : Nat} (ho0 : isS o0) {o3 : Nat} (ho3 : isT o3) {o4 : Nat} (ho4 : isL o4) {rr : St} {S : St} {x1 : Int32} {x2 : Int32} (hres : fX6_carry o0 o3 o4 S x1 x2 = some rr) : Ct l yX6_carry cX6_carry 5 none 5 w 0 55 [.ref (w.1 o0), .int x1, .int x2, .ref (w.1 o3), .ref (w.1 o4)] S (none, rr) := by
  refine Ct.of (lv := [(0, .ref (w.1 o0)), (1, .int x1), (2, .int x2), (3, .ref (w.1 o3)), (4, .ref (w.1 o4))]) hj (by decide +kernel) (Nat.le_of_ble_eq_true rfl) rfl ?_
  rintro X rfl rfl hq hX
  exact wfX6_carry hX ho0 ho3 ho4 hq hres
def fX6_lookThrough (o0 : Nat) (o2 : Nat) (o3 : Nat) (S : St) (x1 : Int32) : Option (St) :=
  if (S.1 o0 1) < 0 then (some S) else (if (S.1 o0 1) < (16 : Int32) then (bi (fX8_view o2 S (S.1 o0 1) x1) fun r2 S1 => bv (fX6_tellLaw o0 o3 S1 (S1.1 o0 1) x1 r2) fun S2 => bi (fJ6_bitCount_0f7a4 S2 r2) fun r5 S3 => bi (fJ6_bitCount_0f7a4 S3 (S3.1 o0 2)) fun r7 S4 => bV ((r5 + r7)) fun v8 => if inb (S4.1 o0 1) 16 = true then bi (fX2_worthOf o3 S4 (106 : Int32) (99 : Int32) v8) fun r11 S5 => if inb (S4.1 o0 1) 16 = true then bS (pI S5 (o0 + 1) ((S4.1 o0 1).toNatClampNeg) (if ((S4.1 (o0 + 1) ((S4.1 o0 1).toNatClampNeg)) + r11) < (99999 : Int32) then ((S4.1 (o0 + 1) ((S4.1 o0 1).toNatClampNeg)) + r11) else (99999 : Int32))) fun S6 => if r2 = 0 then (some S6) else (bS (pI S6 o0 2 r2) fun S7 => some S7) else none else none) else (some S))
theorem wfX6_lookThrough {X : CX} (hX : Ok RX6 cX6_lookThrough none 0 55 6 X) {o0 : Nat} (ho0 : isS o0) {o2 : Nat} (ho2 : isT o2) {o3 : Nat} (ho3 : isL o3) {rr : St} (hq : rs X = (none, rr)) {S : St} {x1 : Int32} (hres : fX6_lookThrough o0 o2 o3 S x1 = some rr) : Wat 0 55 5 6 X 0 [(0, .ref (ad X o0)), (1, .int x1), (2, .ref (ad X o2)), (3, .ref (ad X o3))] [] S := by
  unfold fX6_lookThrough at hres
  refine q_aload_n 1 hX 0 dX6_lookThrough_0 rfl rfl rfl ?_
  refine q_getI 4 hX ci6 lf_RX6_15 (fI_S_1 ho0) dX6_lookThrough_1 rfl ?_
  refine q_if_lt 7 hX 16 dX6_lookThrough_4 rfl (by decide) (fun hc => ?_) (fun hc => ?_)
  · have hres := it_t hc hres
    exact q_vret hX (eqv hq hres) dX6_lookThrough_16
  · have hres := it_f hc hres
    refine q_aload_n 8 hX 0 dX6_lookThrough_7 rfl rfl rfl ?_
    refine q_getI 11 hX ci6 lf_RX6_15 (fI_S_1 ho0) dX6_lookThrough_8 rfl ?_
    refine q_bipush 13 hX dX6_lookThrough_11 rfl kB_16 ?_
    refine q_icmp_lt 16 hX 17 dX6_lookThrough_13 rfl (by decide) (fun hc => ?_) (fun hc => ?_)
    · have hres := it_t hc hres
      refine q_aload_n 18 hX 2 dX6_lookThrough_17 rfl rfl rfl ?_
      refine q_aload_n 19 hX 0 dX6_lookThrough_18 rfl rfl rfl ?_
      refine q_getI 22 hX ci6 lf_RX6_15 (fI_S_1 ho0) dX6_lookThrough_19 rfl ?_
      refine q_iload_n 23 hX 1 dX6_lookThrough_22 rfl rfl rfl ?_
      obtain ⟨r2, S1, hk1, hres⟩ := ob hres
      refine q_callVi 26 (st := []) (As := [.int (S.1 o0 1), .int x1]) hX (cX8_view9 hX.dj ho2 hk1) cv_RX6_58 ci8 (oB_T ho2) rfl (by decide) rfl (Nat.le_of_ble_eq_true rfl) dX6_lookThrough_23 rfl ?_
      refine q_istore 28 (lv' := [(4, .int r2), (0, .ref (ad X o0)), (1, .int x1), (2, .ref (ad X o2)), (3, .ref (ad X o3))]) hX dX6_lookThrough_26 rfl (by decide) rfl ?_
      refine q_aload_n 29 hX 1 dX6_lookThrough_28 rfl rfl rfl ?_
      refine q_aload_n 30 hX 4 dX6_lookThrough_29 rfl rfl rfl ?_
      refine q_aload_n 31 hX 1 dX6_lookThrough_30 rfl rfl rfl ?_
      refine q_getI 34 hX ci6 lf_RX6_15 (fI_S_1 ho0) dX6_lookThrough_31 rfl ?_
      refine q_iload_n 35 hX 2 dX6_lookThrough_34 rfl rfl rfl ?_
      refine q_iload 37 hX 0 dX6_lookThrough_35 rfl rfl ?_
      obtain ⟨S2, hk3, hres⟩ := obv hres
      refine q_callVv 40 (st := []) (As := [.ref (ad X o3), .int (S1.1 o0 1), .int x1, .int r2]) hX (cX6_tellLaw9 hX.dj ho0 ho3 hk3) cv_RX6_62 ci6 (oB_S ho0) rfl (by decide) rfl (Nat.le_of_ble_eq_true rfl) dX6_lookThrough_37 rfl ?_
      refine q_iload 42 hX 0 dX6_lookThrough_40 rfl rfl ?_
      obtain ⟨r5, S3, hk4, hres⟩ := ob hres
      refine q_callSi 45 (st := []) (As := [.int r2]) hX (cJ6_bitCount_0f7a49 hX.dj hk4) cs_RX6_81 rfl (by decide) rfl (Nat.le_of_ble_eq_true rfl) dX6_lookThrough_42 rfl ?_
      refine q_aload_n 46 hX 1 dX6_lookThrough_45 rfl rfl rfl ?_
      refine q_getI 49 hX ci6 lf_RX6_19 (fI_S_2 ho0) dX6_lookThrough_46 rfl ?_
      obtain ⟨r7, S4, hk6, hres⟩ := ob hres
      refine q_callSi 52 (st := [.int r5]) (As := [.int (S3.1 o0 2)]) hX (cJ6_bitCount_0f7a49 hX.dj hk6) cs_RX6_81 rfl (by decide) rfl (Nat.le_of_ble_eq_true rfl) dX6_lookThrough_49 rfl ?_
      refine q_iadd 53 hX dX6_lookThrough_52 rfl ?_
      refine q_istoreB 55 (lv0 := [(4, .int r2), (0, .ref (ad X o0)), (1, .int x1), (2, .ref (ad X o2)), (3, .ref (ad X o3))]) hX dX6_lookThrough_53 rfl (by decide) rfl hres (fun v8 hres => ?_)
      refine q_aload_n 56 hX 2 dX6_lookThrough_55 rfl rfl rfl ?_
      refine q_getR 59 hX ci6 lf_RX6_9 (fR_S_0 ho0) dX6_lookThrough_56 rfl ?_
      refine q_aload_n 60 hX 2 dX6_lookThrough_59 rfl rfl rfl ?_
      refine q_getI 63 hX ci6 lf_RX6_15 (fI_S_1 ho0) dX6_lookThrough_60 rfl ?_
      refine q_ldc 65 hX dX6_lookThrough_63 rfl gw415 ?_
      refine q_aload_n 66 hX 2 dX6_lookThrough_65 rfl rfl rfl ?_
      refine q_getR 69 hX ci6 lf_RX6_9 (fR_S_0 ho0) dX6_lookThrough_66 rfl ?_
      refine q_aload_n 70 hX 2 dX6_lookThrough_69 rfl rfl rfl ?_
      refine q_getI 73 hX ci6 lf_RX6_15 (fI_S_1 ho0) dX6_lookThrough_70 rfl ?_
      obtain ⟨hb9, hres⟩ := gd hres
      refine q_iald 74 hX rfl (aF_S_1 ho0) hb9 dX6_lookThrough_73 rfl ?_
      refine q_aload_n 75 hX 5 dX6_lookThrough_74 rfl rfl rfl ?_
      refine q_bipush 77 hX dX6_lookThrough_75 rfl kB_106 ?_
      refine q_bipush 79 hX dX6_lookThrough_77 rfl kB_99 ?_
      refine q_iload 81 hX 0 dX6_lookThrough_79 rfl rfl ?_
      obtain ⟨r11, S5, hk10, hres⟩ := ob hres
      refine q_callVi 84 (st := [.int (S4.1 (o0 + 1) ((S4.1 o0 1).toNatClampNeg)), .int (99999 : Int32), .int (S4.1 o0 1), .ref (ad X (o0 + 1))]) (As := [.int (106 : Int32), .int (99 : Int32), .int v8]) hX (cX2_worthOf9 hX.dj ho3 hk10) cv_RX6_72 ci2 (oB_L ho3) rfl (by decide) rfl (Nat.le_of_ble_eq_true rfl) dX6_lookThrough_81 rfl ?_
      refine q_iadd 85 hX dX6_lookThrough_84 rfl ?_
      refine q_min 88 hX mw_RX6_76 (by decide) (Nat.le_of_ble_eq_true rfl) dX6_lookThrough_85 rfl ?_
      obtain ⟨hb12, hres⟩ := gd hres
      refine q_iast 89 hX rfl (aF_S_1 ho0) hb12 dX6_lookThrough_88 rfl ?_
      refine q_bS hres (fun S6 _ hres => ?_)
      refine q_iload 91 hX 1 dX6_lookThrough_89 rfl rfl ?_
      refine q_if_eq 94 hX 100 dX6_lookThrough_91 rfl (by decide) (fun hc => ?_) (fun hc => ?_)
      · have hres := it_t hc hres
        exact q_vret hX (eqv hq hres) dX6_lookThrough_100
      · have hres := it_f hc hres
        refine q_aload_n 95 hX 2 dX6_lookThrough_94 rfl rfl rfl ?_
        refine q_iload 97 hX 1 dX6_lookThrough_95 rfl rfl ?_
        refine q_putI 100 hX ci6 lf_RX6_19 (fI_S_2 ho0) (nar_i rfl) dX6_lookThrough_97 rfl ?_
        refine q_bS hres (fun S7 _ hres => ?_)
        exact q_vret hX (eqv hq hres) dX6_lookThrough_100
    · have hres := it_f hc hres
      exact q_vret hX (eqv hq hres) dX6_lookThrough_16
theorem cX6_lookThrough9 {l : Launch} {w : WD} (hj : Dj w 0 55) {o0 : Nat} (ho0 : isS o0) {o2 : Nat} (ho2 : isT o2) {o3 : Nat} (ho3 : isL o3) {rr : St} {S : St} {x1 : Int32} (hres : fX6_lookThrough o0 o2 o3 S x1 = some rr) : Ct l yX6_lookThrough cX6_lookThrough 6 none 5 w 0 55 [.ref (w.1 o0), .int x1, .ref (w.1 o2), .ref (w.1 o3)] S (none, rr) := by
  refine Ct.of (lv := [(0, .ref (w.1 o0)), (1, .int x1), (2, .ref (w.1 o2)), (3, .ref (w.1 o3))]) hj (by decide +kernel) (Nat.le_of_ble_eq_true rfl) rfl ?_
  rintro X rfl rfl hq hX
  exact wfX6_lookThrough hX ho0 ho2 ho3 hq hres
def bX6_liveDays_22 (o0 : Nat) (o3 : Nat) (o4 : Nat) (rc3 : St → Int32 → Int32 → Option (St)) (rc22 : St → Int32 → Int32 → Int32 → Option (St)) (S : St) (x1 : Int32) (x5 : Int32) (x6 : Int32) : Option (St) :=
  if (12 : Int32) ≤ x6 then (bS (pI S o0 4 ((S.1 o0 4) + (1 : Int32))) fun S1 => bV (x5 + (1 : Int32)) fun v1 => rc3 S1 x1 v1) else (bi (fX4_holder S x6) fun r3 S2 => if r3 = (-1 : Int32) then (bV (x6 + (1 : Int32)) fun v4 => rc22 S2 x1 x5 v4) else (bS (pI S2 o0 5 ((((25173 : Int32) * (S2.1 o0 5)) + (13849 : Int32)) - (((25173 : Int32) * (S2.1 o0 5)) + (13849 : Int32)) / (65536 : Int32) * (65536 : Int32))) fun S3 => bv (fX6_carry o0 o3 o4 S3 r3 x6) fun S4 => bv (fX6_lookThrough o0 o3 o4 S4 x6) fun S5 => bV (x6 + (1 : Int32)) fun v7 => rc22 S5 x1 x5 v7))
theorem wbX6_liveDays_22 {X : CX} (hX : Ok RX6 cX6_liveDays none 0 55 8 X) {o0 : Nat} (ho0 : isS o0) {o3 : Nat} (ho3 : isT o3) {o4 : Nat} (ho4 : isL o4) {rr : St} (hq : rs X = (none, rr)) {rc3 : St → Int32 → Int32 → Option (St)} (hrc3 : ∀ (S : St) (x1 : Int32) (x5 : Int32), rc3 S x1 x5 = some rr → Wat 0 55 6 8 X 3 [(0, .ref (ad X o0)), (1, .int x1), (2, .ref (ad X 8)), (3, .ref (ad X o3)), (4, .ref (ad X o4)), (5, .int x5)] [] S) {rc22 : St → Int32 → Int32 → Int32 → Option (St)} (hrc22 : ∀ (S : St) (x1 : Int32) (x5 : Int32) (x6 : Int32), rc22 S x1 x5 x6 = some rr → Wat 0 55 6 8 X 22 [(0, .ref (ad X o0)), (1, .int x1), (2, .ref (ad X 8)), (3, .ref (ad X o3)), (4, .ref (ad X o4)), (5, .int x5), (6, .int x6)] [] S) {S : St} {x1 : Int32} {x5 : Int32} {x6 : Int32} (hres : bX6_liveDays_22 o0 o3 o4 rc3 rc22 S x1 x5 x6 = some rr) : Wat 0 55 6 8 X 22 [(0, .ref (ad X o0)), (1, .int x1), (2, .ref (ad X 8)), (3, .ref (ad X o3)), (4, .ref (ad X o4)), (5, .int x5), (6, .int x6)] [] S := by
  unfold bX6_liveDays_22 at hres
  refine q_iload 24 hX 6 dX6_liveDays_22 rfl rfl ?_
  refine q_bipush 26 hX dX6_liveDays_24 rfl kB_12 ?_
  refine q_icmp_ge 29 hX 88 dX6_liveDays_26 rfl (by decide) (fun hc => ?_) (fun hc => ?_)
  · have hres := it_t hc hres
    refine q_aload_n 89 hX 0 dX6_liveDays_88 rfl rfl rfl ?_
    refine q_dup 90 hX dX6_liveDays_89 rfl rfl ?_
    refine q_getI 93 hX ci6 lf_RX6_25 (fI_S_4 ho0) dX6_liveDays_90 rfl ?_
    refine q_iconst 94 hX dX6_liveDays_93 rfl kI_1 ?_
    refine q_iadd 95 hX dX6_liveDays_94 rfl ?_
    refine q_putI 98 hX ci6 lf_RX6_25 (fI_S_4 ho0) (nar_i rfl) dX6_liveDays_95 rfl ?_
    refine q_bS hres (fun S1 _ hres => ?_)
    refine q_iincB 101 5 (lv0 := [(0, .ref (ad X o0)), (1, .int x1), (2, .ref (ad X 8)), (3, .ref (ad X o3)), (4, .ref (ad X o4)), (6, .int x6)]) hX dX6_liveDays_98 rfl rfl kI_1 (by decide) rfl hres (fun v1 hres => ?_)
    refine q_goto 3 hX dX6_liveDays_101 (by decide) ?_
    exact q_sub [1, 2, 3, 4, 5, 0] rfl (hrc3 _ _ _ hres)
  · have hres := it_f hc hres
    refine q_aload_n 30 hX 2 dX6_liveDays_29 rfl rfl rfl ?_
    refine q_iload 32 hX 6 dX6_liveDays_30 rfl rfl ?_
    obtain ⟨r3, S2, hk2, hres⟩ := ob hres
    refine q_callVi 35 (st := []) (As := [.int x6]) hX (cX4_holder9 hX.dj hk2) cv_RX6_43 ci4 oB_8 rfl (by decide) rfl (Nat.le_of_ble_eq_true rfl) dX6_liveDays_32 rfl ?_
    refine q_istore 37 (lv' := [(7, .int r3), (0, .ref (ad X o0)), (1, .int x1), (2, .ref (ad X 8)), (3, .ref (ad X o3)), (4, .ref (ad X o4)), (5, .int x5), (6, .int x6)]) hX dX6_liveDays_35 rfl (by decide) rfl ?_
    refine q_iload 39 hX 0 dX6_liveDays_37 rfl rfl ?_
    refine q_iconst 40 hX dX6_liveDays_39 rfl kI_m1 ?_
    refine q_icmp_eq 43 hX 82 dX6_liveDays_40 rfl (by decide) (fun hc => ?_) (fun hc => ?_)
    · have hres := it_t hc hres
      refine q_iincB 85 7 (lv0 := [(7, .int r3), (0, .ref (ad X o0)), (1, .int x1), (2, .ref (ad X 8)), (3, .ref (ad X o3)), (4, .ref (ad X o4)), (5, .int x5)]) hX dX6_liveDays_82 rfl rfl kI_1 (by decide) rfl hres (fun v4 hres => ?_)
      refine q_goto 22 hX dX6_liveDays_85 (by decide) ?_
      exact q_sub [2, 3, 4, 5, 6, 7, 0] rfl (hrc22 _ _ _ _ hres)
    · have hres := it_f hc hres
      refine q_aload_n 44 hX 1 dX6_liveDays_43 rfl rfl rfl ?_
      refine q_sipush 47 hX dX6_liveDays_44 rfl kS_25173 ?_
      refine q_aload_n 48 hX 1 dX6_liveDays_47 rfl rfl rfl ?_
      refine q_getI 51 hX ci6 lf_RX6_28 (fI_S_5 ho0) dX6_liveDays_48 rfl ?_
      refine q_imul 52 hX dX6_liveDays_51 rfl ?_
      refine q_sipush 55 hX dX6_liveDays_52 rfl kS_13849 ?_
      refine q_iadd 56 hX dX6_liveDays_55 rfl ?_
      refine q_ldc 58 hX dX6_liveDays_56 rfl gw417 ?_
      refine q_irem 59 hX dX6_liveDays_58 rfl (by decide) ?_
      refine q_putI 62 hX ci6 lf_RX6_28 (fI_S_5 ho0) (nar_i rfl) dX6_liveDays_59 rfl ?_
      refine q_bS hres (fun S3 _ hres => ?_)
      refine q_aload_n 63 hX 1 dX6_liveDays_62 rfl rfl rfl ?_
      refine q_iload 65 hX 0 dX6_liveDays_63 rfl rfl ?_
      refine q_iload 67 hX 7 dX6_liveDays_65 rfl rfl ?_
      refine q_aload_n 68 hX 4 dX6_liveDays_67 rfl rfl rfl ?_
      refine q_aload 70 hX 5 dX6_liveDays_68 rfl rfl ?_
      obtain ⟨S4, hk5, hres⟩ := obv hres
      refine q_callVv 73 (st := []) (As := [.int r3, .int x6, .ref (ad X o3), .ref (ad X o4)]) hX (cX6_carry9 hX.dj ho0 ho3 ho4 hk5) cv_RX6_50 ci6 (oB_S ho0) rfl (by decide) rfl (Nat.le_of_ble_eq_true rfl) dX6_liveDays_70 rfl ?_
      refine q_aload_n 74 hX 1 dX6_liveDays_73 rfl rfl rfl ?_
      refine q_iload 76 hX 7 dX6_liveDays_74 rfl rfl ?_
      refine q_aload_n 77 hX 4 dX6_liveDays_76 rfl rfl rfl ?_
      refine q_aload 79 hX 5 dX6_liveDays_77 rfl rfl ?_
      obtain ⟨S5, hk6, hres⟩ := obv hres
      refine q_callVv 82 (st := []) (As := [.int x6, .ref (ad X o3), .ref (ad X o4)]) hX (cX6_lookThrough9 hX.dj ho0 ho3 ho4 hk6) cv_RX6_54 ci6 (oB_S ho0) rfl (by decide) rfl (Nat.le_of_ble_eq_true rfl) dX6_liveDays_79 rfl ?_
      refine q_iincB 85 7 (lv0 := [(7, .int r3), (0, .ref (ad X o0)), (1, .int x1), (2, .ref (ad X 8)), (3, .ref (ad X o3)), (4, .ref (ad X o4)), (5, .int x5)]) hX dX6_liveDays_82 rfl rfl kI_1 (by decide) rfl hres (fun v7 hres => ?_)
      refine q_goto 22 hX dX6_liveDays_85 (by decide) ?_
      exact q_sub [2, 3, 4, 5, 6, 7, 0] rfl (hrc22 _ _ _ _ hres)
def fX6_liveDays_22 (o0 : Nat) (o3 : Nat) (o4 : Nat) (rc3 : St → Int32 → Int32 → Option (St)) : Nat → St → Int32 → Int32 → Int32 → Option (St)
  | 0 => fun _ _ _ _ => none
  | k + 1 => fun S x1 x5 x6 => bX6_liveDays_22 o0 o3 o4 rc3 (fX6_liveDays_22 o0 o3 o4 rc3 k) S x1 x5 x6
theorem wfX6_liveDays_22 {X : CX} (hX : Ok RX6 cX6_liveDays none 0 55 8 X) {o0 : Nat} (ho0 : isS o0) {o3 : Nat} (ho3 : isT o3) {o4 : Nat} (ho4 : isL o4) {rr : St} (hq : rs X = (none, rr)) {rc3 : St → Int32 → Int32 → Option (St)} (hrc3 : ∀ (S : St) (x1 : Int32) (x5 : Int32), rc3 S x1 x5 = some rr → Wat 0 55 6 8 X 3 [(0, .ref (ad X o0)), (1, .int x1), (2, .ref (ad X 8)), (3, .ref (ad X o3)), (4, .ref (ad X o4)), (5, .int x5)] [] S) (k : Nat) : ∀ (S : St) (x1 : Int32) (x5 : Int32) (x6 : Int32), fX6_liveDays_22 o0 o3 o4 rc3 k S x1 x5 x6 = some rr → Wat 0 55 6 8 X 22 [(0, .ref (ad X o0)), (1, .int x1), (2, .ref (ad X 8)), (3, .ref (ad X o3)), (4, .ref (ad X o4)), (5, .int x5), (6, .int x6)] [] S := by
  induction k with
  | zero => intro S x1 x5 x6 hres; exact absurd hres (by simp [fX6_liveDays_22])
  | succ k ih => intro S x1 x5 x6 hres; exact wbX6_liveDays_22 hX ho0 ho3 ho4 hq hrc3 ih hres
def bX6_liveDays_3 (o0 : Nat) (o3 : Nat) (o4 : Nat) (rc3 : St → Int32 → Int32 → Option (St)) (S : St) (x1 : Int32) (x5 : Int32) : Option (St) :=
  if x1 ≤ x5 then (some S) else (if (9999 : Int32) ≤ (S.1 o0 4) then (some S) else (fX6_liveDays_22 o0 o3 o4 rc3 100 S x1 x5 (0 : Int32)))
theorem wbX6_liveDays_3 {X : CX} (hX : Ok RX6 cX6_liveDays none 0 55 8 X) {o0 : Nat} (ho0 : isS o0) {o3 : Nat} (ho3 : isT o3) {o4 : Nat} (ho4 : isL o4) {rr : St} (hq : rs X = (none, rr)) {rc3 : St → Int32 → Int32 → Option (St)} (hrc3 : ∀ (S : St) (x1 : Int32) (x5 : Int32), rc3 S x1 x5 = some rr → Wat 0 55 6 8 X 3 [(0, .ref (ad X o0)), (1, .int x1), (2, .ref (ad X 8)), (3, .ref (ad X o3)), (4, .ref (ad X o4)), (5, .int x5)] [] S) {S : St} {x1 : Int32} {x5 : Int32} (hres : bX6_liveDays_3 o0 o3 o4 rc3 S x1 x5 = some rr) : Wat 0 55 6 8 X 3 [(0, .ref (ad X o0)), (1, .int x1), (2, .ref (ad X 8)), (3, .ref (ad X o3)), (4, .ref (ad X o4)), (5, .int x5)] [] S := by
  unfold bX6_liveDays_3 at hres
  refine q_iload 5 hX 5 dX6_liveDays_3 rfl rfl ?_
  refine q_iload_n 6 hX 1 dX6_liveDays_5 rfl rfl rfl ?_
  refine q_icmp_ge 9 hX 104 dX6_liveDays_6 rfl (by decide) (fun hc => ?_) (fun hc => ?_)
  · have hres := it_t hc hres
    exact q_vret hX (eqv hq hres) dX6_liveDays_104
  · have hres := it_f hc hres
    refine q_aload_n 10 hX 0 dX6_liveDays_9 rfl rfl rfl ?_
    refine q_getI 13 hX ci6 lf_RX6_25 (fI_S_4 ho0) dX6_liveDays_10 rfl ?_
    refine q_sipush 16 hX dX6_liveDays_13 rfl kS_9999 ?_
    refine q_icmp_ge 19 hX 104 dX6_liveDays_16 rfl (by decide) (fun hc => ?_) (fun hc => ?_)
    · have hres := it_t hc hres
      exact q_vret hX (eqv hq hres) dX6_liveDays_104
    · have hres := it_f hc hres
      refine q_iconst 20 hX dX6_liveDays_19 rfl kI_0 ?_
      refine q_istore 22 (lv' := [(6, .int (0 : Int32)), (0, .ref (ad X o0)), (1, .int x1), (2, .ref (ad X 8)), (3, .ref (ad X o3)), (4, .ref (ad X o4)), (5, .int x5)]) hX dX6_liveDays_20 rfl (by decide) rfl ?_
      exact q_sub [1, 2, 3, 4, 5, 6, 0] rfl (wfX6_liveDays_22 hX ho0 ho3 ho4 hq hrc3 _ _ _ _ _ hres)
def fX6_liveDays_3 (o0 : Nat) (o3 : Nat) (o4 : Nat) : Nat → St → Int32 → Int32 → Option (St)
  | 0 => fun _ _ _ => none
  | k + 1 => fun S x1 x5 => bX6_liveDays_3 o0 o3 o4 (fX6_liveDays_3 o0 o3 o4 k) S x1 x5
theorem wfX6_liveDays_3 {X : CX} (hX : Ok RX6 cX6_liveDays none 0 55 8 X) {o0 : Nat} (ho0 : isS o0) {o3 : Nat} (ho3 : isT o3) {o4 : Nat} (ho4 : isL o4) {rr : St} (hq : rs X = (none, rr)) (k : Nat) : ∀ (S : St) (x1 : Int32) (x5 : Int32), fX6_liveDays_3 o0 o3 o4 k S x1 x5 = some rr → Wat 0 55 6 8 X 3 [(0, .ref (ad X o0)), (1, .int x1), (2, .ref (ad X 8)), (3, .ref (ad X o3)), (4, .ref (ad X o4)), (5, .int x5)] [] S := by
  induction k with
  | zero => intro S x1 x5 hres; exact absurd hres (by simp [fX6_liveDays_3])
  | succ k ih => intro S x1 x5 hres; exact wbX6_liveDays_3 hX ho0 ho3 ho4 hq ih hres
def fX6_liveDays (o0 : Nat) (o3 : Nat) (o4 : Nat) (S : St) (x1 : Int32) : Option (St) :=
  fX6_liveDays_3 o0 o3 o4 200 S x1 (0 : Int32)
theorem wfX6_liveDays {X : CX} (hX : Ok RX6 cX6_liveDays none 0 55 8 X) {o0 : Nat} (ho0 : isS o0) {o3 : Nat} (ho3 : isT o3) {o4 : Nat} (ho4 : isL o4) {rr : St} (hq : rs X = (none, rr)) {S : St} {x1 : Int32} (hres : fX6_liveDays o0 o3 o4 S x1 = some rr) : Wat 0 55 6 8 X 0 [(0, .ref (ad X o0)), (1, .int x1), (2, .ref (ad X 8)), (3, .ref (ad X o3)), (4, .ref (ad X o4))] [] S := by
  unfold fX6_liveDays at hres
  refine q_iconst 1 hX dX6_liveDays_0 rfl kI_0 ?_
  refine q_istore 3 (lv' := [(5, .int (0 : Int32)), (0, .ref (ad X o0)), (1, .int x1), (2, .ref (ad X 8)), (3, .ref (ad X o3)), (4, .ref (ad X o4))]) hX dX6_liveDays_1 rfl (by decide) rfl ?_
  exact q_sub [1, 2, 3, 4, 5, 0] rfl (wfX6_liveDays_3 hX ho0 ho3 ho4 hq _ _ _ _ hres)
theorem cX6_liveDays9 {l : Launch} {w : WD} (hj : Dj w 0 55) {o0 : Nat} (ho0 : isS o0) {o3 : Nat} (ho3 : isT o3) {o4 : Nat} (ho4 : isL o4) {rr : St} {S : St} {x1 : Int32} (hres : fX6_liveDays o0 o3 o4 S x1 = some rr) : Ct l yX6_liveDays cX6_liveDays 8 none 6 w 0 55 [.ref (w.1 o0), .int x1, .ref (w.1 8), .ref (w.1 o3), .ref (w.1 o4)] S (none, rr) := by
  refine Ct.of (lv := [(0, .ref (w.1 o0)), (1, .int x1), (2, .ref (w.1 8)), (3, .ref (w.1 o3)), (4, .ref (w.1 o4))]) hj (by decide +kernel) (Nat.le_of_ble_eq_true rfl) rfl ?_
  rintro X rfl rfl hq hX
  exact wfX6_liveDays hX ho0 ho3 ho4 hq hres
