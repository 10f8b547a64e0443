def fX10_take_94 (o3 : Nat) (rc16 : St → Int32 → Int32 → Option (Int32 × St)) (S : St) (x5 : Int32) : Option (Int32 × St) :=
  bV (x5 + (1 : Int32)) fun v1 => rc16 S (0 : Int32) v1
theorem wfX10_take_94 {X : CX} (hX : Ok RX10 cX10_take (some .boolean) 0 55 6 X) {o3 : Nat} (ho3 : isT o3) {rr : Int32 × St} (hq : rs X = (some (.int rr.1), rr.2)) {rc16 : St → Int32 → Int32 → Option (Int32 × St)} (hrc16 : ∀ (S : St) (x4 : Int32) (x5 : Int32), rc16 S x4 x5 = some rr → Wat 0 55 1 6 X 16 [(0, .ref (ad X 10)), (1, .ref (ad X 1)), (3, .ref (ad X o3)), (4, .int x4), (5, .int x5)] [] S) {S : St} {x5 : Int32} (hres : fX10_take_94 o3 rc16 S x5 = some rr) : Wat 0 55 1 6 X 94 [(0, .ref (ad X 10)), (1, .ref (ad X 1)), (3, .ref (ad X o3)), (5, .int x5)] [] S := by
  unfold fX10_take_94 at hres
  refine q_iconst 95 hX dX10_take_94 rfl kI_0 ?_
  refine q_istore 97 (lv' := [(4, .int (0 : Int32)), (0, .ref (ad X 10)), (1, .ref (ad X 1)), (3, .ref (ad X o3)), (5, .int x5)]) hX dX10_take_95 rfl (by decide) rfl ?_
  refine q_iincB 100 4 (lv0 := [(4, .int (0 : Int32)), (0, .ref (ad X 10)), (1, .ref (ad X 1)), (3, .ref (ad X o3))]) hX dX10_take_97 rfl rfl kI_1 (by decide) rfl hres (fun v1 hres => ?_)
  refine q_goto 16 hX dX10_take_100 (by decide) ?_
  exact q_sub [2, 3, 4, 1, 0] rfl (hrc16 _ _ _ hres)
def bX10_take_16 (o3 : Nat) (rc16 : St → Int32 → Int32 → Option (Int32 × St)) (S : St) (x4 : Int32) (x5 : Int32) : Option (Int32 × St) :=
  if (S.1 10 4) ≤ x5 then (if x4 = 0 ∨ x4 = 1 then some (x4, S) else none) else (bi (fX7_byteAt S ((2 : Int32) * x5)) fun r3 S1 => if inb x5 6 = true then bS (pI S1 11 (x5.toNatClampNeg) r3) fun S2 => bi (fX7_byteAt S2 (((2 : Int32) * x5) + (1 : Int32))) fun r6 S3 => if inb x5 6 = true then bS (pI S3 12 (x5.toNatClampNeg) r6) fun S4 => if x4 = 0 then (fX10_take_94 o3 rc16 S4 x5) else (if inb x5 6 = true then bi (fX8_hasHouse o3 S4 (S4.1 11 (x5.toNatClampNeg))) fun r10 S5 => if r10 = 0 then (fX10_take_94 o3 rc16 S5 x5) else (if inb x5 6 = true then bi (fX8_hasThing o3 S5 (S5.1 12 (x5.toNatClampNeg))) fun r13 S6 => if r13 = 0 then (fX10_take_94 o3 rc16 S6 x5) else (bV (x5 + (1 : Int32)) fun v14 => rc16 S6 (1 : Int32) v14) else none) else none) else none else none)
theorem wbX10_take_16 {X : CX} (hX : Ok RX10 cX10_take (some .boolean) 0 55 6 X) {o3 : Nat} (ho3 : isT o3) {rr : Int32 × St} (hq : rs X = (some (.int rr.1), rr.2)) {rc16 : St → Int32 → Int32 → Option (Int32 × St)} (hrc16 : ∀ (S : St) (x4 : Int32) (x5 : Int32), rc16 S x4 x5 = some rr → Wat 0 55 1 6 X 16 [(0, .ref (ad X 10)), (1, .ref (ad X 1)), (3, .ref (ad X o3)), (4, .int x4), (5, .int x5)] [] S) {S : St} {x4 : Int32} {x5 : Int32} (hres : bX10_take_16 o3 rc16 S x4 x5 = some rr) : Wat 0 55 1 6 X 16 [(0, .ref (ad X 10)), (1, .ref (ad X 1)), (3, .ref (ad X o3)), (4, .int x4), (5, .int x5)] [] S := by
  unfold bX10_take_16 at hres
  refine q_iload 18 hX 4 dX10_take_16 rfl rfl ?_
  refine q_aload_n 19 hX 0 dX10_take_18 rfl rfl rfl ?_
  refine q_getI 22 hX ci10 lf_RX10_24 fI_10_4 dX10_take_19 rfl ?_
  refine q_icmp_ge 25 hX 103 dX10_take_22 rfl (by decide) (fun hc => ?_) (fun hc => ?_)
  · have hres := it_t hc hres
    refine q_iload 105 hX 3 dX10_take_103 rfl rfl ?_
    obtain ⟨hz1, hres⟩ := gd hres
    exact q_zret hX hz1 (eqi hq hres) dX10_take_105
  · have hres := it_f hc hres
    refine q_aload_n 26 hX 0 dX10_take_25 rfl rfl rfl ?_
    refine q_getR 29 hX ci10 lf_RX10_11 fR_10_0 dX10_take_26 rfl ?_
    refine q_iload 31 hX 4 dX10_take_29 rfl rfl ?_
    refine q_aload_n 32 hX 1 dX10_take_31 rfl rfl rfl ?_
    refine q_iconst 33 hX dX10_take_32 rfl kI_2 ?_
    refine q_iload 35 hX 4 dX10_take_33 rfl rfl ?_
    refine q_imul 36 hX dX10_take_35 rfl ?_
    obtain ⟨r3, S1, hk2, hres⟩ := ob hres
    refine q_callVi 39 (st := [.int x5, .ref (ad X 11)]) (As := [.int ((2 : Int32) * x5)]) hX (cX7_byteAt9 hX.dj hk2) cv_RX10_34 ci7 oB_1 rfl (by decide) rfl (Nat.le_of_ble_eq_true rfl) dX10_take_36 rfl ?_
    obtain ⟨hb4, hres⟩ := gd hres
    refine q_iast 40 hX rfl aF_11 hb4 dX10_take_39 rfl ?_
    refine q_bS hres (fun S2 _ hres => ?_)
    refine q_aload_n 41 hX 0 dX10_take_40 rfl rfl rfl ?_
    refine q_getR 44 hX ci10 lf_RX10_15 fR_10_1 dX10_take_41 rfl ?_
    refine q_iload 46 hX 4 dX10_take_44 rfl rfl ?_
    refine q_aload_n 47 hX 1 dX10_take_46 rfl rfl rfl ?_
    refine q_iconst 48 hX dX10_take_47 rfl kI_2 ?_
    refine q_iload 50 hX 4 dX10_take_48 rfl rfl ?_
    refine q_imul 51 hX dX10_take_50 rfl ?_
    refine q_iconst 52 hX dX10_take_51 rfl kI_1 ?_
    refine q_iadd 53 hX dX10_take_52 rfl ?_
    obtain ⟨r6, S3, hk5, hres⟩ := ob hres
    refine q_callVi 56 (st := [.int x5, .ref (ad X 12)]) (As := [.int (((2 : Int32) * x5) + (1 : Int32))]) hX (cX7_byteAt9 hX.dj hk5) cv_RX10_34 ci7 oB_1 rfl (by decide) rfl (Nat.le_of_ble_eq_true rfl) dX10_take_53 rfl ?_
    obtain ⟨hb7, hres⟩ := gd hres
    refine q_iast 57 hX rfl aF_12 hb7 dX10_take_56 rfl ?_
    refine q_bS hres (fun S4 _ hres => ?_)
    refine q_iload 59 hX 3 dX10_take_57 rfl rfl ?_
    refine q_if_eq 62 hX 94 dX10_take_59 rfl (by decide) (fun hc => ?_) (fun hc => ?_)
    · have hres := it_t hc hres
      exact q_sub [0, 1, 2, 4] rfl (wfX10_take_94 hX ho3 hq hrc16 hres)
    · have hres := it_f hc hres
      refine q_aload_n 63 hX 2 dX10_take_62 rfl rfl rfl ?_
      refine q_aload_n 64 hX 0 dX10_take_63 rfl rfl rfl ?_
      refine q_getR 67 hX ci10 lf_RX10_11 fR_10_0 dX10_take_64 rfl ?_
      refine q_iload 69 hX 4 dX10_take_67 rfl rfl ?_
      obtain ⟨hb8, hres⟩ := gd hres
      refine q_iald 70 hX rfl aF_11 hb8 dX10_take_69 rfl ?_
      obtain ⟨r10, S5, hk9, hres⟩ := ob hres
      refine q_callVi 73 (st := []) (As := [.int (S4.1 11 (x5.toNatClampNeg))]) hX (cX8_hasHouse9 hX.dj ho3 hk9) cv_RX10_40 ci8 (oB_T ho3) rfl (by decide) rfl (Nat.le_of_ble_eq_true rfl) dX10_take_70 rfl ?_
      refine q_if_eq 76 hX 94 dX10_take_73 rfl (by decide) (fun hc => ?_) (fun hc => ?_)
      · have hres := it_t hc hres
        exact q_sub [0, 1, 2, 4] rfl (wfX10_take_94 hX ho3 hq hrc16 hres)
      · have hres := it_f hc hres
        refine q_aload_n 77 hX 2 dX10_take_76 rfl rfl rfl ?_
        refine q_aload_n 78 hX 0 dX10_take_77 rfl rfl rfl ?_
        refine q_getR 81 hX ci10 lf_RX10_15 fR_10_1 dX10_take_78 rfl ?_
        refine q_iload 83 hX 4 dX10_take_81 rfl rfl ?_
        obtain ⟨hb11, hres⟩ := gd hres
        refine q_iald 84 hX rfl aF_12 hb11 dX10_take_83 rfl ?_
        obtain ⟨r13, S6, hk12, hres⟩ := ob hres
        refine q_callVi 87 (st := []) (As := [.int (S5.1 12 (x5.toNatClampNeg))]) hX (cX8_hasThing9 hX.dj ho3 hk12) cv_RX10_46 ci8 (oB_T ho3) rfl (by decide) rfl (Nat.le_of_ble_eq_true rfl) dX10_take_84 rfl ?_
        refine q_if_eq 90 hX 94 dX10_take_87 rfl (by decide) (fun hc => ?_) (fun hc => ?_)
        · have hres := it_t hc hres
          exact q_sub [0, 1, 2, 4] rfl (wfX10_take_94 hX ho3 hq hrc16 hres)
        · have hres := it_f hc hres
          refine q_iconst 91 hX dX10_take_90 rfl kI_1 ?_
          refine q_goto 95 hX dX10_take_91 (by decide) ?_
          refine q_istore 97 (lv' := [(4, .int (1 : Int32)), (0, .ref (ad X 10)), (1, .ref (ad X 1)), (3, .ref (ad X o3)), (5, .int x5)]) hX dX10_take_95 rfl (by decide) rfl ?_
          refine q_iincB 100 4 (lv0 := [(4, .int (1 : Int32)), (0, .ref (ad X 10)), (1, .ref (ad X 1)), (3, .ref (ad X o3))]) hX dX10_take_97 rfl rfl kI_1 (by decide) rfl hres (fun v14 hres => ?_)
          refine q_goto 16 hX dX10_take_100 (by decide) ?_
          exact q_sub [2, 3, 4, 1, 0] rfl (hrc16 _ _ _ hres)
def fX10_take_16 (o3 : Nat) : Nat → St → Int32 → Int32 → Option (Int32 × St)
  | 0 => fun _ _ _ => none
  | k + 1 => fun S x4 x5 => bX10_take_16 o3 (fX10_take_16 o3 k) S x4 x5
theorem wfX10_take_16 {X : CX} (hX : Ok RX10 cX10_take (some .boolean) 0 55 6 X) {o3 : Nat} (ho3 : isT o3) {rr : Int32 × St} (hq : rs X = (some (.int rr.1), rr.2)) (k : Nat) : ∀ (S : St) (x4 : Int32) (x5 : Int32), fX10_take_16 o3 k S x4 x5 = some rr → Wat 0 55 1 6 X 16 [(0, .ref (ad X 10)), (1, .ref (ad X 1)), (3, .ref (ad X o3)), (4, .int x4), (5, .int x5)] [] S := by
  induction k with
  | zero => intro S x4 x5 hres; exact absurd hres (by simp [fX10_take_16])
  | succ k ih => intro S x4 x5 hres; exact wbX10_take_16 hX ho3 hq ih hres
def fX10_take (o3 : Nat) (S : St) (x2 : Int32) : Option (Int32 × St) :=
  bS (pI S 10 4 (if (6 : Int32) < x2 then (6 : Int32) else x2)) fun S1 => fX10_take_16 o3 100 S1 (1 : Int32) (0 : Int32)
theorem wfX10_take {X : CX} (hX : Ok RX10 cX10_take (some .boolean) 0 55 6 X) {o3 : Nat} (ho3 : isT o3) {rr : Int32 × St} (hq : rs X = (some (.int rr.1), rr.2)) {S : St} {x2 : Int32} (hres : fX10_take o3 S x2 = some rr) : Wat 0 55 1 6 X 0 [(0, .ref (ad X 10)), (1, .ref (ad X 1)), (2, .int x2), (3, .ref (ad X o3))] [] S := by
  unfold fX10_take at hres
  refine q_iconst 1 hX dX10_take_0 rfl kI_1 ?_
  refine q_istore 3 (lv' := [(4, .int (1 : Int32)), (0, .ref (ad X 10)), (1, .ref (ad X 1)), (2, .int x2), (3, .ref (ad X o3))]) hX dX10_take_1 rfl (by decide) rfl ?_
  refine q_aload_n 4 hX 1 dX10_take_3 rfl rfl rfl ?_
  refine q_iload_n 5 hX 3 dX10_take_4 rfl rfl rfl ?_
  refine q_bipush 7 hX dX10_take_5 rfl kB_6 ?_
  refine q_min 10 hX mw_RX10_28 (by decide) (Nat.le_of_ble_eq_true rfl) dX10_take_7 rfl ?_
  refine q_putI 13 hX ci10 lf_RX10_24 fI_10_4 (nar_i rfl) dX10_take_10 rfl ?_
  refine q_bS hres (fun S1 _ hres => ?_)
  refine q_iconst 14 hX dX10_take_13 rfl kI_0 ?_
  refine q_istore 16 (lv' := [(5, .int (0 : Int32)), (4, .int (1 : Int32)), (0, .ref (ad X 10)), (1, .ref (ad X 1)), (2, .int x2), (3, .ref (ad X o3))]) hX dX10_take_14 rfl (by decide) rfl ?_
  exact q_sub [2, 3, 5, 1, 0] rfl (wfX10_take_16 hX ho3 hq _ _ _ _ hres)
theorem cX10_take9 {l : Launch} {w : WD} (hj : Dj w 0 55) {o3 : Nat} (ho3 : isT o3) {rr : Int32 × St} {S : St} {x2 : Int32} (hres : fX10_take o3 S x2 = some rr) : Ct l yX10_take cX10_take 6 (some .boolean) 1 w 0 55 [.ref (w.1 10), .ref (w.1 1), .int x2, .ref (w.1 o3)] S (some (.int rr.1), rr.2) := by
  refine Ct.of (lv := [(0, .ref (w.1 10)), (1, .ref (w.1 1)), (2, .int x2), (3, .ref (w.1 o3))]) hj (by decide +kernel) (Nat.le_of_ble_eq_true rfl) rfl ?_
  rintro X rfl rfl hq hX
  exact wfX10_take hX ho3 hq hres
def bX10_granted_5 (rc5 : St → Int32 → Int32 → Int32 → Int32 → Option (Int32 × St)) (S : St) (x1 : Int32) (x2 : Int32) (x3 : Int32) (x4 : Int32) : Option (Int32 × St) :=
  if (S.1 10 4) ≤ x4 then (some (x3, S)) else (if inb x4 6 = true then if (S.1 11 (x4.toNatClampNeg)) = x2 then (if inb x4 6 = true then if ((x1 >>> ((S.1 12 (x4.toNatClampNeg)) &&& 31)) &&& (1 : Int32)) = (1 : Int32) then (bV ((x3 ||| ((1 : Int32) <<< (x4 &&& 31)))) fun v5 => bV (x4 + (1 : Int32)) fun v6 => rc5 S x1 x2 v5 v6) else (bV (x4 + (1 : Int32)) fun v4 => rc5 S x1 x2 x3 v4) else none) else (bV (x4 + (1 : Int32)) fun v2 => rc5 S x1 x2 x3 v2) else none)
theorem wbX10_granted_5 {X : CX} (hX : Ok RX10 cX10_granted (some .int) 0 55 5 X) {rr : Int32 × St} (hq : rs X = (some (.int rr.1), rr.2)) {rc5 : St → Int32 → Int32 → Int32 → Int32 → Option (Int32 × St)} (hrc5 : ∀ (S : St) (x1 : Int32) (x2 : Int32) (x3 : Int32) (x4 : Int32), rc5 S x1 x2 x3 x4 = some rr → Wat 0 55 0 5 X 5 [(0, .ref (ad X 10)), (1, .int x1), (2, .int x2), (3, .int x3), (4, .int x4)] [] S) {S : St} {x1 : Int32} {x2 : Int32} {x3 : Int32} {x4 : Int32} (hres : bX10_granted_5 rc5 S x1 x2 x3 x4 = some rr) : Wat 0 55 0 5 X 5 [(0, .ref (ad X 10)), (1, .int x1), (2, .int x2), (3, .int x3), (4, .int x4)] [] S := by
  unfold bX10_granted_5 at hres
  refine q_iload 7 hX 4 dX10_granted_5 rfl rfl ?_
  refine q_aload_n 8 hX 0 dX10_granted_7 rfl rfl rfl ?_
  refine q_getI 11 hX ci10 lf_RX10_24 fI_10_4 dX10_granted_8 rfl ?_
  refine q_icmp_ge 14 hX 53 dX10_granted_11 rfl (by decide) (fun hc => ?_) (fun hc => ?_)
  · have hres := it_t hc hres
    refine q_iload_n 54 hX 3 dX10_granted_53 rfl rfl rfl ?_
    exact q_iret hX (eqi hq hres) dX10_granted_54
  · have hres := it_f hc hres
    refine q_aload_n 15 hX 0 dX10_granted_14 rfl rfl rfl ?_
    refine q_getR 18 hX ci10 lf_RX10_11 fR_10_0 dX10_granted_15 rfl ?_
    refine q_iload 20 hX 4 dX10_granted_18 rfl rfl ?_
    obtain ⟨hb1, hres⟩ := gd hres
    refine q_iald 21 hX rfl aF_11 hb1 dX10_granted_20 rfl ?_
    refine q_iload_n 22 hX 2 dX10_granted_21 rfl rfl rfl ?_
    refine q_icmp_ne 25 hX 47 dX10_granted_22 rfl (by decide) (fun hc => ?_) (fun hc => ?_)
    · have hres := it_f hc hres
      refine q_iincB 50 4 (lv0 := [(0, .ref (ad X 10)), (1, .int x1), (2, .int x2), (3, .int x3)]) hX dX10_granted_47 rfl rfl kI_1 (by decide) rfl hres (fun v2 hres => ?_)
      refine q_goto 5 hX dX10_granted_50 (by decide) ?_
      exact q_sub [1, 2, 3, 4, 0] rfl (hrc5 _ _ _ _ _ hres)
    · have hres := it_t hc hres
      refine q_iload_n 26 hX 1 dX10_granted_25 rfl rfl rfl ?_
      refine q_aload_n 27 hX 0 dX10_granted_26 rfl rfl rfl ?_
      refine q_getR 30 hX ci10 lf_RX10_15 fR_10_1 dX10_granted_27 rfl ?_
      refine q_iload 32 hX 4 dX10_granted_30 rfl rfl ?_
      obtain ⟨hb3, hres⟩ := gd hres
      refine q_iald 33 hX rfl aF_12 hb3 dX10_granted_32 rfl ?_
      refine q_ishr 34 hX dX10_granted_33 rfl ?_
      refine q_iconst 35 hX dX10_granted_34 rfl kI_1 ?_
      refine q_iand 36 hX dX10_granted_35 rfl ?_
      refine q_iconst 37 hX dX10_granted_36 rfl kI_1 ?_
      refine q_icmp_ne 40 hX 47 dX10_granted_37 rfl (by decide) (fun hc => ?_) (fun hc => ?_)
      · have hres := it_f hc hres
        refine q_iincB 50 4 (lv0 := [(0, .ref (ad X 10)), (1, .int x1), (2, .int x2), (3, .int x3)]) hX dX10_granted_47 rfl rfl kI_1 (by decide) rfl hres (fun v4 hres => ?_)
        refine q_goto 5 hX dX10_granted_50 (by decide) ?_
        exact q_sub [1, 2, 3, 4, 0] rfl (hrc5 _ _ _ _ _ hres)
      · have hres := it_t hc hres
        refine q_iload_n 41 hX 3 dX10_granted_40 rfl rfl rfl ?_
        refine q_iconst 42 hX dX10_granted_41 rfl kI_1 ?_
        refine q_iload 44 hX 4 dX10_granted_42 rfl rfl ?_
        refine q_ishl 45 hX dX10_granted_44 rfl ?_
        refine q_ior 46 hX dX10_granted_45 rfl ?_
        refine q_istoreB_n 47 (lv0 := [(0, .ref (ad X 10)), (1, .int x1), (2, .int x2), (4, .int x4)]) hX dX10_granted_46 rfl rfl (by decide) rfl hres (fun v5 hres => ?_)
        refine q_iincB 50 4 (lv0 := [(3, .int v5), (0, .ref (ad X 10)), (1, .int x1), (2, .int x2)]) hX dX10_granted_47 rfl rfl kI_1 (by decide) rfl hres (fun v6 hres => ?_)
        refine q_goto 5 hX dX10_granted_50 (by decide) ?_
        exact q_sub [2, 3, 4, 1, 0] rfl (hrc5 _ _ _ _ _ hres)
def fX10_granted_5 : Nat → St → Int32 → Int32 → Int32 → Int32 → Option (Int32 × St)
  | 0 => fun _ _ _ _ _ => none
  | k + 1 => fun S x1 x2 x3 x4 => bX10_granted_5 (fX10_granted_5 k) S x1 x2 x3 x4
theorem wfX10_granted_5 {X : CX} (hX : Ok RX10 cX10_granted (some .int) 0 55 5 X) {rr : Int32 × St} (hq : rs X = (some (.int rr.1), rr.2)) (k : Nat) : ∀ (S : St) (x1 : Int32) (x2 : Int32) (x3 : Int32) (x4 : Int32), fX10_granted_5 k S x1 x2 x3 x4 = some rr → Wat 0 55 0 5 X 5 [(0, .ref (ad X 10)), (1, .int x1), (2, .int x2), (3, .int x3), (4, .int x4)] [] S := by
  induction k with
  | zero => intro S x1 x2 x3 x4 hres; exact absurd hres (by simp [fX10_granted_5])
  | succ k ih => intro S x1 x2 x3 x4 hres; exact wbX10_granted_5 hX hq ih hres
def fX10_granted (S : St) (x1 : Int32) (x2 : Int32) : Option (Int32 × St) :=
  fX10_granted_5 100 S x1 x2 (0 : Int32) (0 : Int32)
theorem wfX10_granted {X : CX} (hX : Ok RX10 cX10_granted (some .int) 0 55 5 X) {rr : Int32 × St} (hq : rs X = (some (.int rr.1), rr.2)) {S : St} {x1 : Int32} {x2 : Int32} (hres : fX10_granted S x1 x2 = some rr) : Wat 0 55 0 5 X 0 [(0, .ref (ad X 10)), (1, .int x1), (2, .int x2)] [] S := by
  unfold fX10_granted at hres
  refine q_iconst 1 hX dX10_granted_0 rfl kI_0 ?_
  refine q_istore_n 2 (lv' := [(3, .int (0 : Int32)), (0, .ref (ad X 10)), (1, .int x1), (2, .int x2)]) hX dX10_granted_1 rfl rfl (by decide) rfl ?_
  refine q_iconst 3 hX dX10_granted_2 rfl kI_0 ?_
  refine q_istore 5 (lv' := [(4, .int (0 : Int32)), (3, .int (0 : Int32)), (0, .ref (ad X 10)), (1, .int x1), (2, .int x2)]) hX dX10_granted_3 rfl (by decide) rfl ?_
  exact q_sub [2, 3, 4, 1, 0] rfl (wfX10_granted_5 hX hq _ _ _ _ _ _ hres)
theorem cX10_granted9 {l : Launch} {w : WD} (hj : Dj w 0 55) {rr : Int32 × St} {S : St} {x1 : Int32} {x2 : Int32} (hres : fX10_granted S x1 x2 = some rr) : Ct l yX10_granted cX10_granted 5 (some .int) 0 w 0 55 [.ref (w.1 10), .int x1, .int x2] S (some (.int rr.1), rr.2) := by
  refine Ct.of (lv := [(0, .ref (w.1 10)), (1, .int x1), (2, .int x2)]) hj (by decide +kernel) (Nat.le_of_ble_eq_true rfl) rfl ?_
  rintro X rfl rfl hq hX
  exact wfX10_granted hX hq hres
def bX10_costTo_12 (rc12 : St → Int32 → Int32 → Int32 → Int32 → Option (Int32 × St)) (S : St) (x1 : Int32) (x2 : Int32) (x3 : Int32) (x4 : Int32) : Option (Int32 × St) :=
  if (S.1 10 4) ≤ x4 then (some (x3, S)) else (if inb ((x1 * (6 : Int32)) + x4) 384 = true then bV ((S.1 14 (((x1 * (6 : Int32)) + x4).toNatClampNeg))) fun v2 => if (1000000 : Int32) ≤ v2 then (bV (x4 + (1 : Int32)) fun v3 => rc12 S x1 x2 x3 v3) else (if inb x4 6 = true then bV ((if (v2 + ((16 : Int32) * (if 0 ≤ (x2 - (S.1 11 (x4.toNatClampNeg))) then (x2 - (S.1 11 (x4.toNatClampNeg))) else 0 - (x2 - (S.1 11 (x4.toNatClampNeg)))))) < x3 then (v2 + ((16 : Int32) * (if 0 ≤ (x2 - (S.1 11 (x4.toNatClampNeg))) then (x2 - (S.1 11 (x4.toNatClampNeg))) else 0 - (x2 - (S.1 11 (x4.toNatClampNeg)))))) else x3)) fun v5 => bV (x4 + (1 : Int32)) fun v6 => rc12 S x1 x2 v5 v6 else none) else none)
theorem wbX10_costTo_12 {X : CX} (hX : Ok RX10 cX10_costTo (some .int) 0 55 6 X) {rr : Int32 × St} (hq : rs X = (some (.int rr.1), rr.2)) {rc12 : St → Int32 → Int32 → Int32 → Int32 → Option (Int32 × St)} (hrc12 : ∀ (S : St) (x1 : Int32) (x2 : Int32) (x3 : Int32) (x4 : Int32), rc12 S x1 x2 x3 x4 = some rr → Wat 0 55 1 6 X 12 [(0, .ref (ad X 10)), (1, .int x1), (2, .int x2), (3, .int x3), (4, .int x4)] [] S) {S : St} {x1 : Int32} {x2 : Int32} {x3 : Int32} {x4 : Int32} (hres : bX10_costTo_12 rc12 S x1 x2 x3 x4 = some rr) : Wat 0 55 1 6 X 12 [(0, .ref (ad X 10)), (1, .int x1), (2, .int x2), (3, .int x3), (4, .int x4)] [] S := by
  unfold bX10_costTo_12 at hres
  refine q_iload 14 hX 4 dX10_costTo_12 rfl rfl ?_
  refine q_aload_n 15 hX 0 dX10_costTo_14 rfl rfl rfl ?_
  refine q_getI 18 hX ci10 lf_RX10_24 fI_10_4 dX10_costTo_15 rfl ?_
  refine q_icmp_ge 21 hX 71 dX10_costTo_18 rfl (by decide) (fun hc => ?_) (fun hc => ?_)
  · have hres := it_t hc hres
    refine q_iload_n 72 hX 3 dX10_costTo_71 rfl rfl rfl ?_
    exact q_iret hX (eqi hq hres) dX10_costTo_72
  · have hres := it_f hc hres
    refine q_aload_n 22 hX 0 dX10_costTo_21 rfl rfl rfl ?_
    refine q_getR 25 hX ci10 lf_RX10_21 fR_10_3 dX10_costTo_22 rfl ?_
    refine q_iload_n 26 hX 1 dX10_costTo_25 rfl rfl rfl ?_
    refine q_bipush 28 hX dX10_costTo_26 rfl kB_6 ?_
    refine q_imul 29 hX dX10_costTo_28 rfl ?_
    refine q_iload 31 hX 4 dX10_costTo_29 rfl rfl ?_
    refine q_iadd 32 hX dX10_costTo_31 rfl ?_
    obtain ⟨hb1, hres⟩ := gd hres
    refine q_iald 33 hX rfl aF_14 hb1 dX10_costTo_32 rfl ?_
    refine q_istoreB 35 (lv0 := [(0, .ref (ad X 10)), (1, .int x1), (2, .int x2), (3, .int x3), (4, .int x4)]) hX dX10_costTo_33 rfl (by decide) rfl hres (fun v2 hres => ?_)
    refine q_iload 37 hX 0 dX10_costTo_35 rfl rfl ?_
    refine q_ldc 39 hX dX10_costTo_37 rfl gw434 ?_
    refine q_icmp_ge 42 hX 65 dX10_costTo_39 rfl (by decide) (fun hc => ?_) (fun hc => ?_)
    · have hres := it_t hc hres
      refine q_iincB 68 5 (lv0 := [(5, .int v2), (0, .ref (ad X 10)), (1, .int x1), (2, .int x2), (3, .int x3)]) hX dX10_costTo_65 rfl rfl kI_1 (by decide) rfl hres (fun v3 hres => ?_)
      refine q_goto 12 hX dX10_costTo_68 (by decide) ?_
      exact q_sub [2, 3, 4, 5, 0] rfl (hrc12 _ _ _ _ _ hres)
    · have hres := it_f hc hres
      refine q_iload_n 43 hX 4 dX10_costTo_42 rfl rfl rfl ?_
      refine q_iload 45 hX 0 dX10_costTo_43 rfl rfl ?_
      refine q_bipush 47 hX dX10_costTo_45 rfl kB_16 ?_
      refine q_iload_n 48 hX 3 dX10_costTo_47 rfl rfl rfl ?_
      refine q_aload_n 49 hX 1 dX10_costTo_48 rfl rfl rfl ?_
      refine q_getR 52 hX ci10 lf_RX10_11 fR_10_0 dX10_costTo_49 rfl ?_
      refine q_iload 54 hX 5 dX10_costTo_52 rfl rfl ?_
      obtain ⟨hb4, hres⟩ := gd hres
      refine q_iald 55 hX rfl aF_11 hb4 dX10_costTo_54 rfl ?_
      refine q_isub 56 hX dX10_costTo_55 rfl ?_
      refine q_abs 59 hX mw_RX10_63 (by decide) (Nat.le_of_ble_eq_true rfl) dX10_costTo_56 rfl ?_
      refine q_imul 60 hX dX10_costTo_59 rfl ?_
      refine q_iadd 61 hX dX10_costTo_60 rfl ?_
      refine q_min 64 hX mw_RX10_28 (by decide) (Nat.le_of_ble_eq_true rfl) dX10_costTo_61 rfl ?_
      refine q_istoreB_n 65 (lv0 := [(5, .int v2), (0, .ref (ad X 10)), (1, .int x1), (2, .int x2), (4, .int x4)]) hX dX10_costTo_64 rfl rfl (by decide) rfl hres (fun v5 hres => ?_)
      refine q_iincB 68 5 (lv0 := [(3, .int v5), (5, .int v2), (0, .ref (ad X 10)), (1, .int x1), (2, .int x2)]) hX dX10_costTo_65 rfl rfl kI_1 (by decide) rfl hres (fun v6 hres => ?_)
      refine q_goto 12 hX dX10_costTo_68 (by decide) ?_
      exact q_sub [3, 4, 5, 1, 0] rfl (hrc12 _ _ _ _ _ hres)
def fX10_costTo_12 : Nat → St → Int32 → Int32 → Int32 → Int32 → Option (Int32 × St)
  | 0 => fun _ _ _ _ _ => none
  | k + 1 => fun S x1 x2 x3 x4 => bX10_costTo_12 (fX10_costTo_12 k) S x1 x2 x3 x4
theorem wfX10_costTo_12 {X : CX} (hX : Ok RX10 cX10_costTo (some .int) 0 55 6 X) {rr : Int32 × St} (hq : rs X = (some (.int rr.1), rr.2)) (k : Nat) : ∀ (S : St) (x1 : Int32) (x2 : Int32) (x3 : Int32) (x4 : Int32), fX10_costTo_12 k S x1 x2 x3 x4 = some rr → Wat 0 55 1 6 X 12 [(0, .ref (ad X 10)), (1, .int x1), (2, .int x2), (3, .int x3), (4, .int x4)] [] S := by
  induction k with
  | zero => intro S x1 x2 x3 x4 hres; exact absurd hres (by simp [fX10_costTo_12])
  | succ k ih => intro S x1 x2 x3 x4 hres; exact wbX10_costTo_12 hX hq ih hres
def fX10_costTo (S : St) (x1 : Int32) (x2 : Int32) : Option (Int32 × St) :=
  if x1 = 0 then (some (x2, S)) else (fX10_costTo_12 100 S x1 x2 (1000000 : Int32) (0 : Int32))
theorem wfX10_costTo {X : CX} (hX : Ok RX10 cX10_costTo (some .int) 0 55 6 X) {rr : Int32 × St} (hq : rs X = (some (.int rr.1), rr.2)) {S : St} {x1 : Int32} {x2 : Int32} (hres : fX10_costTo S x1 x2 = some rr) : Wat 0 55 1 6 X 0 [(0, .ref (ad X 10)), (1, .int x1), (2, .int x2)] [] S := by
  unfold fX10_costTo at hres
  refine q_iload_n 1 hX 1 dX10_costTo_0 rfl rfl rfl ?_
  refine q_if_ne 4 hX 6 dX10_costTo_1 rfl (by decide) (fun hc => ?_) (fun hc => ?_)
  · have hres := it_f hc hres
    refine q_ldc 8 hX dX10_costTo_6 rfl gw434 ?_
    refine q_istore_n 9 (lv' := [(3, .int (1000000 : Int32)), (0, .ref (ad X 10)), (1, .int x1), (2, .int x2)]) hX dX10_costTo_8 rfl rfl (by decide) rfl ?_
    refine q_iconst 10 hX dX10_costTo_9 rfl kI_0 ?_
    refine q_istore 12 (lv' := [(4, .int (0 : Int32)), (3, .int (1000000 : Int32)), (0, .ref (ad X 10)), (1, .int x1), (2, .int x2)]) hX dX10_costTo_10 rfl (by decide) rfl ?_
    exact q_sub [2, 3, 4, 1, 0] rfl (wfX10_costTo_12 hX hq _ _ _ _ _ _ hres)
  · have hres := it_t hc hres
    refine q_iload_n 5 hX 2 dX10_costTo_4 rfl rfl rfl ?_
    exact q_iret hX (eqi hq hres) dX10_costTo_5
theorem cX10_costTo9 {l : Launch} {w : WD} (hj : Dj w 0 55) {rr : Int32 × St} {S : St} {x1 : Int32} {x2 : Int32} (hres : fX10_costTo S x1 x2 = some rr) : Ct l yX10_costTo cX10_costTo 6 (some .int) 1 w 0 55 [.ref (w.1 10), .int x1, .int x2] S (some (.int rr.1), rr.2) := by
  refine Ct.of (lv := [(0, .ref (w.1 10)), (1, .int x1), (2, .int x2)]) hj (by decide +kernel) (Nat.le_of_ble_eq_true rfl) rfl ?_
  rintro X rfl rfl hq hX
  exact wfX10_costTo hX hq hres
def bX10_tryTurn_59 (o1 : Nat) (rc52 : St → Int32 → Option (St)) (rc59 : St → Int32 → Int32 → Option (St)) (S : St) (x3 : Int32) (x4 : Int32) : Option (St) :=
  if (S.1 10 4) ≤ x4 then (bV (x3 + (-1 : Int32)) fun v1 => rc52 S v1) else (if inb x4 6 = true then bV ((x3 ||| (S.1 13 (x4.toNatClampNeg)))) fun v3 => if v3 = x3 then (bV (x4 + (1 : Int32)) fun v4 => rc59 S x3 v4) else (bV (((v3 * (6 : Int32)) + x4)) fun v5 => if inb v5 384 = true then if inb x4 6 = true then bi (fX10_costTo S x3 (S.1 11 (x4.toNatClampNeg))) fun r9 S1 => if inb v5 384 = true then bS (pI S1 14 (v5.toNatClampNeg) (if r9 < (S.1 14 (v5.toNatClampNeg)) then r9 else (S.1 14 (v5.toNatClampNeg)))) fun S2 => bV (x4 + (1 : Int32)) fun v11 => rc59 S2 x3 v11 else none else none else none) else none)
theorem wbX10_tryTurn_59 {X : CX} (hX : Ok RX10 cX10_tryTurn none 0 55 7 X) {o1 : Nat} (ho1 : isT o1) {rr : St} (hq : rs X = (none, rr)) {rc52 : St → Int32 → Option (St)} (hrc52 : ∀ (S : St) (x3 : Int32), rc52 S x3 = some rr → Wat 0 55 2 7 X 52 [(0, .ref (ad X 10)), (3, .int x3)] [] S) {rc59 : St → Int32 → Int32 → Option (St)} (hrc59 : ∀ (S : St) (x3 : Int32) (x4 : Int32), rc59 S x3 x4 = some rr → Wat 0 55 2 7 X 59 [(0, .ref (ad X 10)), (3, .int x3), (4, .int x4)] [] S) {S : St} {x3 : Int32} {x4 : Int32} (hres : bX10_tryTurn_59 o1 rc52 rc59 S x3 x4 = some rr) : Wat 0 55 2 7 X 59 [(0, .ref (ad X 10)), (3, .int x3), (4, .int x4)] [] S := by
  unfold bX10_tryTurn_59 at hres
  refine q_iload 61 hX 2 dX10_tryTurn_59 rfl rfl ?_
  refine q_aload_n 62 hX 0 dX10_tryTurn_61 rfl rfl rfl ?_
  refine q_getI 65 hX ci10 lf_RX10_24 fI_10_4 dX10_tryTurn_62 rfl ?_
  refine q_icmp_ge 68 hX 130 dX10_tryTurn_65 rfl (by decide) (fun hc => ?_) (fun hc => ?_)
  · have hres := it_t hc hres
    refine q_iincB 133 1 (lv0 := [(0, .ref (ad X 10)), (4, .int x4)]) hX dX10_tryTurn_130 rfl rfl kI_m1 (by decide) rfl hres (fun v1 hres => ?_)
    refine q_goto 52 hX dX10_tryTurn_133 (by decide) ?_
    exact q_sub [1, 0] rfl (hrc52 _ _ hres)
  · have hres := it_f hc hres
    refine q_iload_n 69 hX 1 dX10_tryTurn_68 rfl rfl rfl ?_
    refine q_aload_n 70 hX 0 dX10_tryTurn_69 rfl rfl rfl ?_
    refine q_getR 73 hX ci10 lf_RX10_18 fR_10_2 dX10_tryTurn_70 rfl ?_
    refine q_iload 75 hX 2 dX10_tryTurn_73 rfl rfl ?_
    obtain ⟨hb2, hres⟩ := gd hres
    refine q_iald 76 hX rfl aF_13 hb2 dX10_tryTurn_75 rfl ?_
    refine q_ior 77 hX dX10_tryTurn_76 rfl ?_
    refine q_istoreB 79 (lv0 := [(0, .ref (ad X 10)), (3, .int x3), (4, .int x4)]) hX dX10_tryTurn_77 rfl (by decide) rfl hres (fun v3 hres => ?_)
    refine q_iload 81 hX 0 dX10_tryTurn_79 rfl rfl ?_
    refine q_iload_n 82 hX 2 dX10_tryTurn_81 rfl rfl rfl ?_
    refine q_icmp_eq 85 hX 124 dX10_tryTurn_82 rfl (by decide) (fun hc => ?_) (fun hc => ?_)
    · have hres := it_t hc hres
      refine q_iincB 127 3 (lv0 := [(5, .int v3), (0, .ref (ad X 10)), (3, .int x3)]) hX dX10_tryTurn_124 rfl rfl kI_1 (by decide) rfl hres (fun v4 hres => ?_)
      refine q_goto 59 hX dX10_tryTurn_127 (by decide) ?_
      exact q_sub [2, 3, 0] rfl (hrc59 _ _ _ hres)
    · have hres := it_f hc hres
      refine q_iload 87 hX 0 dX10_tryTurn_85 rfl rfl ?_
      refine q_bipush 89 hX dX10_tryTurn_87 rfl kB_6 ?_
      refine q_imul 90 hX dX10_tryTurn_89 rfl ?_
      refine q_iload 92 hX 3 dX10_tryTurn_90 rfl rfl ?_
      refine q_iadd 93 hX dX10_tryTurn_92 rfl ?_
      refine q_istoreB 95 (lv0 := [(5, .int v3), (0, .ref (ad X 10)), (3, .int x3), (4, .int x4)]) hX dX10_tryTurn_93 rfl (by decide) rfl hres (fun v5 hres => ?_)
      refine q_aload_n 96 hX 2 dX10_tryTurn_95 rfl rfl rfl ?_
      refine q_getR 99 hX ci10 lf_RX10_21 fR_10_3 dX10_tryTurn_96 rfl ?_
      refine q_iload 101 hX 0 dX10_tryTurn_99 rfl rfl ?_
      refine q_aload_n 102 hX 2 dX10_tryTurn_101 rfl rfl rfl ?_
      refine q_getR 105 hX ci10 lf_RX10_21 fR_10_3 dX10_tryTurn_102 rfl ?_
      refine q_iload 107 hX 0 dX10_tryTurn_105 rfl rfl ?_
      obtain ⟨hb6, hres⟩ := gd hres
      refine q_iald 108 hX rfl aF_14 hb6 dX10_tryTurn_107 rfl ?_
      refine q_aload_n 109 hX 2 dX10_tryTurn_108 rfl rfl rfl ?_
      refine q_iload_n 110 hX 3 dX10_tryTurn_109 rfl rfl rfl ?_
      refine q_aload_n 111 hX 2 dX10_tryTurn_110 rfl rfl rfl ?_
      refine q_getR 114 hX ci10 lf_RX10_11 fR_10_0 dX10_tryTurn_111 rfl ?_
      refine q_iload 116 hX 4 dX10_tryTurn_114 rfl rfl ?_
      obtain ⟨hb7, hres⟩ := gd hres
      refine q_iald 117 hX rfl aF_11 hb7 dX10_tryTurn_116 rfl ?_
      obtain ⟨r9, S1, hk8, hres⟩ := ob hres
      refine q_callVi 120 (st := [.int (S.1 14 (v5.toNatClampNeg)), .int v5, .ref (ad X 14)]) (As := [.int x3, .int (S.1 11 (x4.toNatClampNeg))]) hX (cX10_costTo9 hX.dj hk8) cv_RX10_60 ci10 oB_10 rfl (by decide) rfl (Nat.le_of_ble_eq_true rfl) dX10_tryTurn_117 rfl ?_
      refine q_min 123 hX mw_RX10_28 (by decide) (Nat.le_of_ble_eq_true rfl) dX10_tryTurn_120 rfl ?_
      obtain ⟨hb10, hres⟩ := gd hres
      refine q_iast 124 hX rfl aF_14 hb10 dX10_tryTurn_123 rfl ?_
      refine q_bS hres (fun S2 _ hres => ?_)
      refine q_iincB 127 4 (lv0 := [(6, .int v5), (5, .int v3), (0, .ref (ad X 10)), (3, .int x3)]) hX dX10_tryTurn_124 rfl rfl kI_1 (by decide) rfl hres (fun v11 hres => ?_)
      refine q_goto 59 hX dX10_tryTurn_127 (by decide) ?_
      exact q_sub [3, 4, 0] rfl (hrc59 _ _ _ hres)
def fX10_tryTurn_59 (o1 : Nat) (rc52 : St → Int32 → Option (St)) : Nat → St → Int32 → Int32 → Option (St)
  | 0 => fun _ _ _ => none
  | k + 1 => fun S x3 x4 => bX10_tryTurn_59 o1 rc52 (fX10_tryTurn_59 o1 rc52 k) S x3 x4
theorem wfX10_tryTurn_59 {X : CX} (hX : Ok RX10 cX10_tryTurn none 0 55 7 X) {o1 : Nat} (ho1 : isT o1) {rr : St} (hq : rs X = (none, rr)) {rc52 : St → Int32 → Option (St)} (hrc52 : ∀ (S : St) (x3 : Int32), rc52 S x3 = some rr → Wat 0 55 2 7 X 52 [(0, .ref (ad X 10)), (3, .int x3)] [] S) (k : Nat) : ∀ (S : St) (x3 : Int32) (x4 : Int32), fX10_tryTurn_59 o1 rc52 k S x3 x4 = some rr → Wat 0 55 2 7 X 59 [(0, .ref (ad X 10)), (3, .int x3), (4, .int x4)] [] S := by
  induction k with
  | zero => intro S x3 x4 hres; exact absurd hres (by simp [fX10_tryTurn_59])
  | succ k ih => intro S x3 x4 hres; exact wbX10_tryTurn_59 hX ho1 hq hrc52 ih hres
def bX10_tryTurn_52 (o1 : Nat) (rc52 : St → Int32 → Option (St)) (S : St) (x3 : Int32) : Option (St) :=
  if x3 < 0 then (some S) else (fX10_tryTurn_59 o1 rc52 100 S x3 (0 : Int32))
theorem wbX10_tryTurn_52 {X : CX} (hX : Ok RX10 cX10_tryTurn none 0 55 7 X) {o1 : Nat} (ho1 : isT o1) {rr : St} (hq : rs X = (none, rr)) {rc52 : St → Int32 → Option (St)} (hrc52 : ∀ (S : St) (x3 : Int32), rc52 S x3 = some rr → Wat 0 55 2 7 X 52 [(0, .ref (ad X 10)), (3, .int x3)] [] S) {S : St} {x3 : Int32} (hres : bX10_tryTurn_52 o1 rc52 S x3 = some rr) : Wat 0 55 2 7 X 52 [(0, .ref (ad X 10)), (3, .int x3)] [] S := by
  unfold bX10_tryTurn_52 at hres
  refine q_iload_n 53 hX 1 dX10_tryTurn_52 rfl rfl rfl ?_
  refine q_if_lt 56 hX 136 dX10_tryTurn_53 rfl (by decide) (fun hc => ?_) (fun hc => ?_)
  · have hres := it_t hc hres
    exact q_vret hX (eqv hq hres) dX10_tryTurn_136
  · have hres := it_f hc hres
    refine q_iconst 57 hX dX10_tryTurn_56 rfl kI_0 ?_
    refine q_istore 59 (lv' := [(4, .int (0 : Int32)), (0, .ref (ad X 10)), (3, .int x3)]) hX dX10_tryTurn_57 rfl (by decide) rfl ?_
    exact q_sub [1, 2, 0] rfl (wfX10_tryTurn_59 hX ho1 hq hrc52 _ _ _ _ hres)
def fX10_tryTurn_52 (o1 : Nat) : Nat → St → Int32 → Option (St)
  | 0 => fun _ _ => none
  | k + 1 => fun S x3 => bX10_tryTurn_52 o1 (fX10_tryTurn_52 o1 k) S x3
theorem wfX10_tryTurn_52 {X : CX} (hX : Ok RX10 cX10_tryTurn none 0 55 7 X) {o1 : Nat} (ho1 : isT o1) {rr : St} (hq : rs X = (none, rr)) (k : Nat) : ∀ (S : St) (x3 : Int32), fX10_tryTurn_52 o1 k S x3 = some rr → Wat 0 55 2 7 X 52 [(0, .ref (ad X 10)), (3, .int x3)] [] S := by
  induction k with
  | zero => intro S x3 hres; exact absurd hres (by simp [fX10_tryTurn_52])
  | succ k ih => intro S x3 hres; exact wbX10_tryTurn_52 hX ho1 hq ih hres
def bX10_tryTurn_2 (o1 : Nat) (rc2 : St → Int32 → Int32 → Option (St)) (S : St) (x2 : Int32) (x3 : Int32) : Option (St) :=
  if (S.1 10 4) ≤ x3 then (bV ((((1 : Int32) <<< ((S.1 10 4) &&& 31)) - (1 : Int32))) fun v1 => fX10_tryTurn_52 o1 100 S v1) else (if inb x3 6 = true then bi (fX8_view o1 S (S.1 11 (x3.toNatClampNeg)) x2) fun r4 S1 => if inb x3 6 = true then bi (fX10_granted S1 r4 (S1.1 11 (x3.toNatClampNeg))) fun r7 S2 => if inb x3 6 = true then bS (pI S2 13 (x3.toNatClampNeg) r7) fun S3 => bV (x3 + (1 : Int32)) fun v9 => rc2 S3 x2 v9 else none else none else none)
theorem wbX10_tryTurn_2 {X : CX} (hX : Ok RX10 cX10_tryTurn none 0 55 7 X) {o1 : Nat} (ho1 : isT o1) {rr : St} (hq : rs X = (none, rr)) {rc2 : St → Int32 → Int32 → Option (St)} (hrc2 : ∀ (S : St) (x2 : Int32) (x3 : Int32), rc2 S x2 x3 = some rr → Wat 0 55 2 7 X 2 [(0, .ref (ad X 10)), (1, .ref (ad X o1)), (2, .int x2), (3, .int x3)] [] S) {S : St} {x2 : Int32} {x3 : Int32} (hres : bX10_tryTurn_2 o1 rc2 S x2 x3 = some rr) : Wat 0 55 2 7 X 2 [(0, .ref (ad X 10)), (1, .ref (ad X o1)), (2, .int x2), (3, .int x3)] [] S := by
  unfold bX10_tryTurn_2 at hres
  refine q_iload_n 3 hX 3 dX10_tryTurn_2 rfl rfl rfl ?_
  refine q_aload_n 4 hX 0 dX10_tryTurn_3 rfl rfl rfl ?_
  refine q_getI 7 hX ci10 lf_RX10_24 fI_10_4 dX10_tryTurn_4 rfl ?_
  refine q_icmp_ge 10 hX 43 dX10_tryTurn_7 rfl (by decide) (fun hc => ?_) (fun hc => ?_)
  · have hres := it_t hc hres
    refine q_iconst 44 hX dX10_tryTurn_43 rfl kI_1 ?_
    refine q_aload_n 45 hX 0 dX10_tryTurn_44 rfl rfl rfl ?_
    refine q_getI 48 hX ci10 lf_RX10_24 fI_10_4 dX10_tryTurn_45 rfl ?_
    refine q_ishl 49 hX dX10_tryTurn_48 rfl ?_
    refine q_iconst 50 hX dX10_tryTurn_49 rfl kI_1 ?_
    refine q_isub 51 hX dX10_tryTurn_50 rfl ?_
    refine q_istoreB_n 52 (lv0 := [(0, .ref (ad X 10)), (1, .ref (ad X o1)), (2, .int x2)]) hX dX10_tryTurn_51 rfl rfl (by decide) rfl hres (fun v1 hres => ?_)
    exact q_sub [1, 0] rfl (wfX10_tryTurn_52 hX ho1 hq _ _ _ hres)
  · have hres := it_f hc hres
    refine q_aload_n 11 hX 0 dX10_tryTurn_10 rfl rfl rfl ?_
    refine q_getR 14 hX ci10 lf_RX10_18 fR_10_2 dX10_tryTurn_11 rfl ?_
    refine q_iload_n 15 hX 3 dX10_tryTurn_14 rfl rfl rfl ?_
    refine q_aload_n 16 hX 0 dX10_tryTurn_15 rfl rfl rfl ?_
    refine q_aload_n 17 hX 1 dX10_tryTurn_16 rfl rfl rfl ?_
    refine q_aload_n 18 hX 0 dX10_tryTurn_17 rfl rfl rfl ?_
    refine q_getR 21 hX ci10 lf_RX10_11 fR_10_0 dX10_tryTurn_18 rfl ?_
    refine q_iload_n 22 hX 3 dX10_tryTurn_21 rfl rfl rfl ?_
    obtain ⟨hb2, hres⟩ := gd hres
    refine q_iald 23 hX rfl aF_11 hb2 dX10_tryTurn_22 rfl ?_
    refine q_iload_n 24 hX 2 dX10_tryTurn_23 rfl rfl rfl ?_
    obtain ⟨r4, S1, hk3, hres⟩ := ob hres
    refine q_callVi 27 (st := [.ref (ad X 10), .int x3, .ref (ad X 13)]) (As := [.int (S.1 11 (x3.toNatClampNeg)), .int x2]) hX (cX8_view9 hX.dj ho1 hk3) cv_RX10_54 ci8 (oB_T ho1) rfl (by decide) rfl (Nat.le_of_ble_eq_true rfl) dX10_tryTurn_24 rfl ?_
    refine q_aload_n 28 hX 0 dX10_tryTurn_27 rfl rfl rfl ?_
    refine q_getR 31 hX ci10 lf_RX10_11 fR_10_0 dX10_tryTurn_28 rfl ?_
    refine q_iload_n 32 hX 3 dX10_tryTurn_31 rfl rfl rfl ?_
    obtain ⟨hb5, hres⟩ := gd hres
    refine q_iald 33 hX rfl aF_11 hb5 dX10_tryTurn_32 rfl ?_
    obtain ⟨r7, S2, hk6, hres⟩ := ob hres
    refine q_callVi 36 (st := [.int x3, .ref (ad X 13)]) (As := [.int r4, .int (S1.1 11 (x3.toNatClampNeg))]) hX (cX10_granted9 hX.dj hk6) cv_RX10_57 ci10 oB_10 rfl (by decide) rfl (Nat.le_of_ble_eq_true rfl) dX10_tryTurn_33 rfl ?_
    obtain ⟨hb8, hres⟩ := gd hres
    refine q_iast 37 hX rfl aF_13 hb8 dX10_tryTurn_36 rfl ?_
    refine q_bS hres (fun S3 _ hres => ?_)
    refine q_iincB 40 3 (lv0 := [(0, .ref (ad X 10)), (1, .ref (ad X o1)), (2, .int x2)]) hX dX10_tryTurn_37 rfl rfl kI_1 (by decide) rfl hres (fun v9 hres => ?_)
    refine q_goto 2 hX dX10_tryTurn_40 (by decide) ?_
    exact q_sub [1, 2, 3, 0] rfl (hrc2 _ _ _ hres)
def fX10_tryTurn_2 (o1 : Nat) : Nat → St → Int32 → Int32 → Option (St)
  | 0 => fun _ _ _ => none
  | k + 1 => fun S x2 x3 => bX10_tryTurn_2 o1 (fX10_tryTurn_2 o1 k) S x2 x3
theorem wfX10_tryTurn_2 {X : CX} (hX : Ok RX10 cX10_tryTurn none 0 55 7 X) {o1 : Nat} (ho1 : isT o1) {rr : St} (hq : rs X = (none, rr)) (k : Nat) : ∀ (S : St) (x2 : Int32) (x3 : Int32), fX10_tryTurn_2 o1 k S x2 x3 = some rr → Wat 0 55 2 7 X 2 [(0, .ref (ad X 10)), (1, .ref (ad X o1)), (2, .int x2), (3, .int x3)] [] S := by
  induction k with
  | zero => intro S x2 x3 hres; exact absurd hres (by simp [fX10_tryTurn_2])
  | succ k ih => intro S x2 x3 hres; exact wbX10_tryTurn_2 hX ho1 hq ih hres
def fX10_tryTurn (o1 : Nat) (S : St) (x2 : Int32) : Option (St) :=
  fX10_tryTurn_2 o1 100 S x2 (0 : Int32)
theorem wfX10_tryTurn {X : CX} (hX : Ok RX10 cX10_tryTurn none 0 55 7 X) {o1 : Nat} (ho1 : isT o1) {rr : St} (hq : rs X = (none, rr)) {S : St} {x2 : Int32} (hres : fX10_tryTurn o1 S x2 = some rr) : Wat 0 55 2 7 X 0 [(0, .ref (ad X 10)), (1, .ref (ad X o1)), (2, .int x2)] [] S := by
  unfold fX10_tryTurn at hres
  refine q_iconst 1 hX dX10_tryTurn_0 rfl kI_0 ?_
  refine q_istore_n 2 (lv' := [(3, .int (0 : Int32)), (0, .ref (ad X 10)), (1, .ref (ad X o1)), (2, .int x2)]) hX dX10_tryTurn_1 rfl rfl (by decide) rfl ?_
  exact q_sub [1, 2, 3, 0] rfl (wfX10_tryTurn_2 hX ho1 hq _ _ _ _ hres)
theorem cX10_tryTurn9 {l : Launch} {w : WD} (hj : Dj w 0 55) {o1 : Nat} (ho1 : isT o1) {rr : St} {S : St} {x2 : Int32} (hres : fX10_tryTurn o1 S x2 = some rr) : Ct l yX10_tryTurn cX10_tryTurn 7 none 2 w 0 55 [.ref (w.1 10), .ref (w.1 o1), .int x2] S (none, rr) := by
  refine Ct.of (lv := [(0, .ref (w.1 10)), (1, .ref (w.1 o1)), (2, .int x2)]) hj (by decide +kernel) (Nat.le_of_ble_eq_true rfl) rfl ?_
  rintro X rfl rfl hq hX
  exact wfX10_tryTurn hX ho1 hq hres
def bX10_answer_49 (o1 : Nat) (rc49 : St → Int32 → Int32 → Int32 → Option (Int32 × St)) (S : St) (x2 : Int32) (x3 : Int32) (x4 : Int32) : Option (Int32 × St) :=
  if (S.1 10 4) ≤ x4 then (if x3 < (1000000 : Int32) then (if x2 = 0 then (some ((x3 / (16 : Int32)), S)) else (some ((x3 - x3 / (16 : Int32) * (16 : Int32)), S))) else (some ((-2 : Int32), S))) else (if inb (((((1 : Int32) <<< ((S.1 10 4) &&& 31)) - (1 : Int32)) * (6 : Int32)) + x4) 384 = true then bV ((if (S.1 14 ((((((1 : Int32) <<< ((S.1 10 4) &&& 31)) - (1 : Int32)) * (6 : Int32)) + x4).toNatClampNeg)) < x3 then (S.1 14 ((((((1 : Int32) <<< ((S.1 10 4) &&& 31)) - (1 : Int32)) * (6 : Int32)) + x4).toNatClampNeg)) else x3)) fun v2 => bV (x4 + (1 : Int32)) fun v3 => rc49 S x2 v2 v3 else none)
theorem wbX10_answer_49 {X : CX} (hX : Ok RX10 cX10_answer (some .int) 0 55 5 X) {o1 : Nat} (ho1 : isT o1) {rr : Int32 × St} (hq : rs X = (some (.int rr.1), rr.2)) {rc49 : St → Int32 → Int32 → Int32 → Option (Int32 × St)} (hrc49 : ∀ (S : St) (x2 : Int32) (x3 : Int32) (x4 : Int32), rc49 S x2 x3 x4 = some rr → Wat 0 55 3 5 X 49 [(0, .ref (ad X 10)), (2, .int x2), (3, .int x3), (4, .int x4)] [] S) {S : St} {x2 : Int32} {x3 : Int32} {x4 : Int32} (hres : bX10_answer_49 o1 rc49 S x2 x3 x4 = some rr) : Wat 0 55 3 5 X 49 [(0, .ref (ad X 10)), (2, .int x2), (3, .int x3), (4, .int x4)] [] S := by
  unfold bX10_answer_49 at hres
  refine q_iload 51 hX 3 dX10_answer_49 rfl rfl ?_
  refine q_aload_n 52 hX 0 dX10_answer_51 rfl rfl rfl ?_
  refine q_getI 55 hX ci10 lf_RX10_24 fI_10_4 dX10_answer_52 rfl ?_
  refine q_icmp_ge 58 hX 88 dX10_answer_55 rfl (by decide) (fun hc => ?_) (fun hc => ?_)
  · have hres := it_t hc hres
    refine q_iload_n 89 hX 2 dX10_answer_88 rfl rfl rfl ?_
    refine q_ldc 91 hX dX10_answer_89 rfl gw434 ?_
    refine q_icmp_lt 94 hX 97 dX10_answer_91 rfl (by decide) (fun hc => ?_) (fun hc => ?_)
    · have hres := it_t hc hres
      refine q_iload_n 98 hX 1 dX10_answer_97 rfl rfl rfl ?_
      refine q_if_ne 101 hX 108 dX10_answer_98 rfl (by decide) (fun hc => ?_) (fun hc => ?_)
      · have hres := it_f hc hres
        refine q_iload_n 109 hX 2 dX10_answer_108 rfl rfl rfl ?_
        refine q_bipush 111 hX dX10_answer_109 rfl kB_16 ?_
        refine q_irem 112 hX dX10_answer_111 rfl (by decide) ?_
        exact q_iret hX (eqi hq hres) dX10_answer_112
      · have hres := it_t hc hres
        refine q_iload_n 102 hX 2 dX10_answer_101 rfl rfl rfl ?_
        refine q_bipush 104 hX dX10_answer_102 rfl kB_16 ?_
        refine q_idiv 105 hX dX10_answer_104 rfl (by decide) ?_
        refine q_goto 112 hX dX10_answer_105 (by decide) ?_
        exact q_iret hX (eqi hq hres) dX10_answer_112
    · have hres := it_f hc hres
      refine q_bipush 96 hX dX10_answer_94 rfl kB_m2 ?_
      exact q_iret hX (eqi hq hres) dX10_answer_96
  · have hres := it_f hc hres
    refine q_iload_n 59 hX 2 dX10_answer_58 rfl rfl rfl ?_
    refine q_aload_n 60 hX 0 dX10_answer_59 rfl rfl rfl ?_
    refine q_getR 63 hX ci10 lf_RX10_21 fR_10_3 dX10_answer_60 rfl ?_
    refine q_iconst 64 hX dX10_answer_63 rfl kI_1 ?_
    refine q_aload_n 65 hX 0 dX10_answer_64 rfl rfl rfl ?_
    refine q_getI 68 hX ci10 lf_RX10_24 fI_10_4 dX10_answer_65 rfl ?_
    refine q_ishl 69 hX dX10_answer_68 rfl ?_
    refine q_iconst 70 hX dX10_answer_69 rfl kI_1 ?_
    refine q_isub 71 hX dX10_answer_70 rfl ?_
    refine q_bipush 73 hX dX10_answer_71 rfl kB_6 ?_
    refine q_imul 74 hX dX10_answer_73 rfl ?_
    refine q_iload 76 hX 3 dX10_answer_74 rfl rfl ?_
    refine q_iadd 77 hX dX10_answer_76 rfl ?_
    obtain ⟨hb1, hres⟩ := gd hres
    refine q_iald 78 hX rfl aF_14 hb1 dX10_answer_77 rfl ?_
    refine q_min 81 hX mw_RX10_28 (by decide) (Nat.le_of_ble_eq_true rfl) dX10_answer_78 rfl ?_
    refine q_istoreB_n 82 (lv0 := [(0, .ref (ad X 10)), (2, .int x2), (4, .int x4)]) hX dX10_answer_81 rfl rfl (by decide) rfl hres (fun v2 hres => ?_)
    refine q_iincB 85 3 (lv0 := [(3, .int v2), (0, .ref (ad X 10)), (2, .int x2)]) hX dX10_answer_82 rfl rfl kI_1 (by decide) rfl hres (fun v3 hres => ?_)
    refine q_goto 49 hX dX10_answer_85 (by decide) ?_
    exact q_sub [2, 3, 1, 0] rfl (hrc49 _ _ _ _ hres)
def fX10_answer_49 (o1 : Nat) : Nat → St → Int32 → Int32 → Int32 → Option (Int32 × St)
  | 0 => fun _ _ _ _ => none
  | k + 1 => fun S x2 x3 x4 => bX10_answer_49 o1 (fX10_answer_49 o1 k) S x2 x3 x4
theorem wfX10_answer_49 {X : CX} (hX : Ok RX10 cX10_answer (some .int) 0 55 5 X) {o1 : Nat} (ho1 : isT o1) {rr : Int32 × St} (hq : rs X = (some (.int rr.1), rr.2)) (k : Nat) : ∀ (S : St) (x2 : Int32) (x3 : Int32) (x4 : Int32), fX10_answer_49 o1 k S x2 x3 x4 = some rr → Wat 0 55 3 5 X 49 [(0, .ref (ad X 10)), (2, .int x2), (3, .int x3), (4, .int x4)] [] S := by
  induction k with
  | zero => intro S x2 x3 x4 hres; exact absurd hres (by simp [fX10_answer_49])
  | succ k ih => intro S x2 x3 x4 hres; exact wbX10_answer_49 hX ho1 hq ih hres
def bX10_answer_25 (o1 : Nat) (rc25 : St → Int32 → Int32 → Option (Int32 × St)) (S : St) (x2 : Int32) (x3 : Int32) : Option (Int32 × St) :=
  if (12 : Int32) ≤ x3 then (fX10_answer_49 o1 400 S x2 (1000000 : Int32) (0 : Int32)) else (bv (fX10_tryTurn o1 S x3) fun S1 => bV (x3 + (1 : Int32)) fun v2 => rc25 S1 x2 v2)
theorem wbX10_answer_25 {X : CX} (hX : Ok RX10 cX10_answer (some .int) 0 55 5 X) {o1 : Nat} (ho1 : isT o1) {rr : Int32 × St} (hq : rs X = (some (.int rr.1), rr.2)) {rc25 : St → Int32 → Int32 → Option (Int32 × St)} (hrc25 : ∀ (S : St) (x2 : Int32) (x3 : Int32), rc25 S x2 x3 = some rr → Wat 0 55 3 5 X 25 [(0, .ref (ad X 10)), (1, .ref (ad X o1)), (2, .int x2), (3, .int x3)] [] S) {S : St} {x2 : Int32} {x3 : Int32} (hres : bX10_answer_25 o1 rc25 S x2 x3 = some rr) : Wat 0 55 3 5 X 25 [(0, .ref (ad X 10)), (1, .ref (ad X o1)), (2, .int x2), (3, .int x3)] [] S := by
  unfold bX10_answer_25 at hres
  refine q_iload_n 26 hX 3 dX10_answer_25 rfl rfl rfl ?_
  refine q_bipush 28 hX dX10_answer_26 rfl kB_12 ?_
  refine q_icmp_ge 31 hX 43 dX10_answer_28 rfl (by decide) (fun hc => ?_) (fun hc => ?_)
  · have hres := it_t hc hres
    refine q_ldc 45 hX dX10_answer_43 rfl gw434 ?_
    refine q_istore_n 46 (lv' := [(3, .int (1000000 : Int32)), (0, .ref (ad X 10)), (1, .ref (ad X o1)), (2, .int x2)]) hX dX10_answer_45 rfl rfl (by decide) rfl ?_
    refine q_iconst 47 hX dX10_answer_46 rfl kI_0 ?_
    refine q_istore 49 (lv' := [(4, .int (0 : Int32)), (3, .int (1000000 : Int32)), (0, .ref (ad X 10)), (1, .ref (ad X o1)), (2, .int x2)]) hX dX10_answer_47 rfl (by decide) rfl ?_
    exact q_sub [2, 4, 1, 0] rfl (wfX10_answer_49 hX ho1 hq _ _ _ _ _ hres)
  · have hres := it_f hc hres
    refine q_aload_n 32 hX 0 dX10_answer_31 rfl rfl rfl ?_
    refine q_aload_n 33 hX 1 dX10_answer_32 rfl rfl rfl ?_
    refine q_iload_n 34 hX 3 dX10_answer_33 rfl rfl rfl ?_
    obtain ⟨S1, hk1, hres⟩ := obv hres
    refine q_callVv 37 (st := []) (As := [.ref (ad X o1), .int x3]) hX (cX10_tryTurn9 hX.dj ho1 hk1) cv_RX10_50 ci10 oB_10 rfl (by decide) rfl (Nat.le_of_ble_eq_true rfl) dX10_answer_34 rfl ?_
    refine q_iincB 40 3 (lv0 := [(0, .ref (ad X 10)), (1, .ref (ad X o1)), (2, .int x2)]) hX dX10_answer_37 rfl rfl kI_1 (by decide) rfl hres (fun v2 hres => ?_)
    refine q_goto 25 hX dX10_answer_40 (by decide) ?_
    exact q_sub [1, 2, 3, 0] rfl (hrc25 _ _ _ hres)
def fX10_answer_25 (o1 : Nat) : Nat → St → Int32 → Int32 → Option (Int32 × St)
  | 0 => fun _ _ _ => none
  | k + 1 => fun S x2 x3 => bX10_answer_25 o1 (fX10_answer_25 o1 k) S x2 x3
theorem wfX10_answer_25 {X : CX} (hX : Ok RX10 cX10_answer (some .int) 0 55 5 X) {o1 : Nat} (ho1 : isT o1) {rr : Int32 × St} (hq : rs X = (some (.int rr.1), rr.2)) (k : Nat) : ∀ (S : St) (x2 : Int32) (x3 : Int32), fX10_answer_25 o1 k S x2 x3 = some rr → Wat 0 55 3 5 X 25 [(0, .ref (ad X 10)), (1, .ref (ad X o1)), (2, .int x2), (3, .int x3)] [] S := by
  induction k with
  | zero => intro S x2 x3 hres; exact absurd hres (by simp [fX10_answer_25])
  | succ k ih => intro S x2 x3 hres; exact wbX10_answer_25 hX ho1 hq ih hres
def bX10_answer_2 (o1 : Nat) (rc2 : St → Int32 → Int32 → Option (Int32 × St)) (S : St) (x2 : Int32) (x3 : Int32) : Option (Int32 × St) :=
  if (384 : Int32) ≤ x3 then (fX10_answer_25 o1 400 S x2 (0 : Int32)) else (if inb x3 384 = true then bS (pI S 14 (x3.toNatClampNeg) (1000000 : Int32)) fun S1 => bV (x3 + (1 : Int32)) fun v2 => rc2 S1 x2 v2 else none)
theorem wbX10_answer_2 {X : CX} (hX : Ok RX10 cX10_answer (some .int) 0 55 5 X) {o1 : Nat} (ho1 : isT o1) {rr : Int32 × St} (hq : rs X = (some (.int rr.1), rr.2)) {rc2 : St → Int32 → Int32 → Option (Int32 × St)} (hrc2 : ∀ (S : St) (x2 : Int32) (x3 : Int32), rc2 S x2 x3 = some rr → Wat 0 55 3 5 X 2 [(0, .ref (ad X 10)), (1, .ref (ad X o1)), (2, .int x2), (3, .int x3)] [] S) {S : St} {x2 : Int32} {x3 : Int32} (hres : bX10_answer_2 o1 rc2 S x2 x3 = some rr) : Wat 0 55 3 5 X 2 [(0, .ref (ad X 10)), (1, .ref (ad X o1)), (2, .int x2), (3, .int x3)] [] S := by
  unfold bX10_answer_2 at hres
  refine q_iload_n 3 hX 3 dX10_answer_2 rfl rfl rfl ?_
  refine q_sipush 6 hX dX10_answer_3 rfl kS_384 ?_
  refine q_icmp_ge 9 hX 23 dX10_answer_6 rfl (by decide) (fun hc => ?_) (fun hc => ?_)
  · have hres := it_t hc hres
    refine q_iconst 24 hX dX10_answer_23 rfl kI_0 ?_
    refine q_istore_n 25 (lv' := [(3, .int (0 : Int32)), (0, .ref (ad X 10)), (1, .ref (ad X o1)), (2, .int x2)]) hX dX10_answer_24 rfl rfl (by decide) rfl ?_
    exact q_sub [1, 2, 3, 0] rfl (wfX10_answer_25 hX ho1 hq _ _ _ _ hres)
  · have hres := it_f hc hres
    refine q_aload_n 10 hX 0 dX10_answer_9 rfl rfl rfl ?_
    refine q_getR 13 hX ci10 lf_RX10_21 fR_10_3 dX10_answer_10 rfl ?_
    refine q_iload_n 14 hX 3 dX10_answer_13 rfl rfl rfl ?_
    refine q_ldc 16 hX dX10_answer_14 rfl gw434 ?_
    obtain ⟨hb1, hres⟩ := gd hres
    refine q_iast 17 hX rfl aF_14 hb1 dX10_answer_16 rfl ?_
    refine q_bS hres (fun S1 _ hres => ?_)
    refine q_iincB 20 3 (lv0 := [(0, .ref (ad X 10)), (1, .ref (ad X o1)), (2, .int x2)]) hX dX10_answer_17 rfl rfl kI_1 (by decide) rfl hres (fun v2 hres => ?_)
    refine q_goto 2 hX dX10_answer_20 (by decide) ?_
    exact q_sub [1, 2, 3, 0] rfl (hrc2 _ _ _ hres)
def fX10_answer_2 (o1 : Nat) : Nat → St → Int32 → Int32 → Option (Int32 × St)
  | 0 => fun _ _ _ => none
  | k + 1 => fun S x2 x3 => bX10_answer_2 o1 (fX10_answer_2 o1 k) S x2 x3
theorem wfX10_answer_2 {X : CX} (hX : Ok RX10 cX10_answer (some .int) 0 55 5 X) {o1 : Nat} (ho1 : isT o1) {rr : Int32 × St} (hq : rs X = (some (.int rr.1), rr.2)) (k : Nat) : ∀ (S : St) (x2 : Int32) (x3 : Int32), fX10_answer_2 o1 k S x2 x3 = some rr → Wat 0 55 3 5 X 2 [(0, .ref (ad X 10)), (1, .ref (ad X o1)), (2, .int x2), (3, .int x3)] [] S := by
  induction k with
  | zero => intro S x2 x3 hres; exact absurd hres (by simp [fX10_answer_2])
  | succ k ih => intro S x2 x3 hres; exact wbX10_answer_2 hX ho1 hq ih hres
def fX10_answer (o1 : Nat) (S : St) (x2 : Int32) : Option (Int32 × St) :=
  fX10_answer_2 o1 400 S x2 (0 : Int32)
theorem wfX10_answer {X : CX} (hX : Ok RX10 cX10_answer (some .int) 0 55 5 X) {o1 : Nat} (ho1 : isT o1) {rr : Int32 × St} (hq : rs X = (some (.int rr.1), rr.2)) {S : St} {x2 : Int32} (hres : fX10_answer o1 S x2 = some rr) : Wat 0 55 3 5 X 0 [(0, .ref (ad X 10)), (1, .ref (ad X o1)), (2, .int x2)] [] S := by
  unfold fX10_answer at hres
  refine q_iconst 1 hX dX10_answer_0 rfl kI_0 ?_
  refine q_istore_n 2 (lv' := [(3, .int (0 : Int32)), (0, .ref (ad X 10)), (1, .ref (ad X o1)), (2, .int x2)]) hX dX10_answer_1 rfl rfl (by decide) rfl ?_
  exact q_sub [1, 2, 3, 0] rfl (wfX10_answer_2 hX ho1 hq _ _ _ _ hres)
theorem cX10_answer9 {l : Launch} {w : WD} (hj : Dj w 0 55) {o1 : Nat} (ho1 : isT o1) {rr : Int32 × St} {S : St} {x2 : Int32} (hres : fX10_answer o1 S x2 = some rr) : Ct l yX10_answer cX10_answer 5 (some .int) 3 w 0 55 [.ref (w.1 10), .ref (w.1 o1), .int x2] S (some (.int rr.1), rr.2) := by
  refine Ct.of (lv := [(0, .ref (w.1 10)), (1, .ref (w.1 o1)), (2, .int x2)]) hj (by decide +kernel) (Nat.le_of_ble_eq_true rfl) rfl ?_
  rintro X rfl rfl hq hX
  exact wfX10_answer hX ho1 hq hres
