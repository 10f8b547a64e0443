def bX1_possibleCracks_24 (rc24 : St → Int32 → Int32 → Int32 → Option (Int32 × St)) (S : St) (x1 : Int32) (x2 : Int32) (x3 : Int32) : Option (Int32 × St) :=
  if x1 ≤ x3 then (some (x2, S)) else (bi (fX7_byteAt S ((2 : Int32) * x3)) fun r2 S1 => bi (fX7_byteAt S1 (((2 : Int32) * x3) + (1 : Int32))) fun r4 S2 => bi (fX11_isTurn S2 r2) fun r6 S3 => if r6 = 0 then (some ((-3 : Int32), S3)) else (if r4 ≤ (1 : Int32) then (bV ((((2 : Int32) <<< (r2 &&& 31)) - (1 : Int32))) fun v7 => if r4 = (1 : Int32) then (bV ((x2 &&& v7)) fun v10 => bV (x3 + (1 : Int32)) fun v11 => rc24 S3 x1 v10 v11) else (bV ((x2 &&& (v7 ^^^ (-1 : Int32)))) fun v8 => bV (x3 + (1 : Int32)) fun v9 => rc24 S3 x1 v8 v9)) else (some ((-3 : Int32), S3))))
theorem wbX1_possibleCracks_24 {X : CX} (hX : Ok RX1 cX1_possibleCracks (some .int) 0 55 7 X) {rr : Int32 × St} (hq : rs X = (some (.int rr.1), rr.2)) {rc24 : St → Int32 → Int32 → Int32 → Option (Int32 × St)} (hrc24 : ∀ (S : St) (x1 : Int32) (x2 : Int32) (x3 : Int32), rc24 S x1 x2 x3 = some rr → Wat 0 55 1 7 X 24 [(0, .ref (ad X 15)), (1, .int x1), (2, .int x2), (3, .int x3)] [] S) {S : St} {x1 : Int32} {x2 : Int32} {x3 : Int32} (hres : bX1_possibleCracks_24 rc24 S x1 x2 x3 = some rr) : Wat 0 55 1 7 X 24 [(0, .ref (ad X 15)), (1, .int x1), (2, .int x2), (3, .int x3)] [] S := by
  unfold bX1_possibleCracks_24 at hres
  refine q_iload_n 25 hX 3 dX1_possibleCracks_24 rfl rfl rfl ?_
  refine q_iload_n 26 hX 1 dX1_possibleCracks_25 rfl rfl rfl ?_
  refine q_icmp_ge 29 hX 104 dX1_possibleCracks_26 rfl (by decide) (fun hc => ?_) (fun hc => ?_)
  · have hres := it_t hc hres
    refine q_iload_n 105 hX 2 dX1_possibleCracks_104 rfl rfl rfl ?_
    exact q_iret hX (eqi hq hres) dX1_possibleCracks_105
  · have hres := it_f hc hres
    refine q_aload_n 30 hX 0 dX1_possibleCracks_29 rfl rfl rfl ?_
    refine q_getR 33 hX ci1 lf_RX1_22 fR_15_0 dX1_possibleCracks_30 rfl ?_
    refine q_iconst 34 hX dX1_possibleCracks_33 rfl kI_2 ?_
    refine q_iload_n 35 hX 3 dX1_possibleCracks_34 rfl rfl rfl ?_
    refine q_imul 36 hX dX1_possibleCracks_35 rfl ?_
    obtain ⟨r2, S1, hk1, hres⟩ := ob hres
    refine q_callVi 39 (st := []) (As := [.int ((2 : Int32) * x3)]) hX (cX7_byteAt9 hX.dj hk1) cv_RX1_26 ci7 oB_1 rfl (by decide) rfl (Nat.le_of_ble_eq_true rfl) dX1_possibleCracks_36 rfl ?_
    refine q_istore 41 (lv' := [(4, .int r2), (0, .ref (ad X 15)), (1, .int x1), (2, .int x2), (3, .int x3)]) hX dX1_possibleCracks_39 rfl (by decide) rfl ?_
    refine q_aload_n 42 hX 1 dX1_possibleCracks_41 rfl rfl rfl ?_
    refine q_getR 45 hX ci1 lf_RX1_22 fR_15_0 dX1_possibleCracks_42 rfl ?_
    refine q_iconst 46 hX dX1_possibleCracks_45 rfl kI_2 ?_
    refine q_iload_n 47 hX 4 dX1_possibleCracks_46 rfl rfl rfl ?_
    refine q_imul 48 hX dX1_possibleCracks_47 rfl ?_
    refine q_iconst 49 hX dX1_possibleCracks_48 rfl kI_1 ?_
    refine q_iadd 50 hX dX1_possibleCracks_49 rfl ?_
    obtain ⟨r4, S2, hk3, hres⟩ := ob hres
    refine q_callVi 53 (st := []) (As := [.int (((2 : Int32) * x3) + (1 : Int32))]) hX (cX7_byteAt9 hX.dj hk3) cv_RX1_26 ci7 oB_1 rfl (by decide) rfl (Nat.le_of_ble_eq_true rfl) dX1_possibleCracks_50 rfl ?_
    refine q_istore 55 (lv' := [(5, .int r4), (4, .int r2), (0, .ref (ad X 15)), (1, .int x1), (2, .int x2), (3, .int x3)]) hX dX1_possibleCracks_53 rfl (by decide) rfl ?_
    refine q_iload 57 hX 1 dX1_possibleCracks_55 rfl rfl ?_
    obtain ⟨r6, S3, hk5, hres⟩ := ob hres
    refine q_callSi 60 (st := []) (As := [.int r2]) hX (cX11_isTurn9 hX.dj hk5) cs_RX1_32 rfl (by decide) rfl (Nat.le_of_ble_eq_true rfl) dX1_possibleCracks_57 rfl ?_
    refine q_if_eq 63 hX 69 dX1_possibleCracks_60 rfl (by decide) (fun hc => ?_) (fun hc => ?_)
    · have hres := it_t hc hres
      refine q_bipush 71 hX dX1_possibleCracks_69 rfl kB_m3 ?_
      exact q_iret hX (eqi hq hres) dX1_possibleCracks_71
    · have hres := it_f hc hres
      refine q_iload 65 hX 0 dX1_possibleCracks_63 rfl rfl ?_
      refine q_iconst 66 hX dX1_possibleCracks_65 rfl kI_1 ?_
      refine q_icmp_le 69 hX 72 dX1_possibleCracks_66 rfl (by decide) (fun hc => ?_) (fun hc => ?_)
      · have hres := it_t hc hres
        refine q_iconst 73 hX dX1_possibleCracks_72 rfl kI_2 ?_
        refine q_iload 75 hX 1 dX1_possibleCracks_73 rfl rfl ?_
        refine q_ishl 76 hX dX1_possibleCracks_75 rfl ?_
        refine q_iconst 77 hX dX1_possibleCracks_76 rfl kI_1 ?_
        refine q_isub 78 hX dX1_possibleCracks_77 rfl ?_
        refine q_istoreB 80 (lv0 := [(5, .int r4), (4, .int r2), (0, .ref (ad X 15)), (1, .int x1), (2, .int x2), (3, .int x3)]) hX dX1_possibleCracks_78 rfl (by decide) rfl hres (fun v7 hres => ?_)
        refine q_iload_n 81 hX 5 dX1_possibleCracks_80 rfl rfl rfl ?_
        refine q_iload 83 hX 1 dX1_possibleCracks_81 rfl rfl ?_
        refine q_iconst 84 hX dX1_possibleCracks_83 rfl kI_1 ?_
        refine q_icmp_ne 87 hX 92 dX1_possibleCracks_84 rfl (by decide) (fun hc => ?_) (fun hc => ?_)
        · have hres := it_f hc hres
          refine q_iload 94 hX 0 dX1_possibleCracks_92 rfl rfl ?_
          refine q_iconst 95 hX dX1_possibleCracks_94 rfl kI_m1 ?_
          refine q_ixor 96 hX dX1_possibleCracks_95 rfl ?_
          refine q_iand 97 hX dX1_possibleCracks_96 rfl ?_
          refine q_istoreB_n 98 (lv0 := [(6, .int v7), (5, .int r4), (4, .int r2), (0, .ref (ad X 15)), (1, .int x1), (3, .int x3)]) hX dX1_possibleCracks_97 rfl rfl (by decide) rfl hres (fun v8 hres => ?_)
          refine q_iincB 101 6 (lv0 := [(2, .int v8), (6, .int v7), (5, .int r4), (4, .int r2), (0, .ref (ad X 15)), (1, .int x1)]) hX dX1_possibleCracks_98 rfl rfl kI_1 (by decide) rfl hres (fun v9 hres => ?_)
          refine q_goto 24 hX dX1_possibleCracks_101 (by decide) ?_
          exact q_sub [5, 6, 1, 0] rfl (hrc24 _ _ _ _ hres)
        · have hres := it_t hc hres
          refine q_iload 89 hX 0 dX1_possibleCracks_87 rfl rfl ?_
          refine q_goto 96 hX dX1_possibleCracks_89 (by decide) ?_
          refine q_iand 97 hX dX1_possibleCracks_96 rfl ?_
          refine q_istoreB_n 98 (lv0 := [(6, .int v7), (5, .int r4), (4, .int r2), (0, .ref (ad X 15)), (1, .int x1), (3, .int x3)]) hX dX1_possibleCracks_97 rfl rfl (by decide) rfl hres (fun v10 hres => ?_)
          refine q_iincB 101 6 (lv0 := [(2, .int v10), (6, .int v7), (5, .int r4), (4, .int r2), (0, .ref (ad X 15)), (1, .int x1)]) hX dX1_possibleCracks_98 rfl rfl kI_1 (by decide) rfl hres (fun v11 hres => ?_)
          refine q_goto 24 hX dX1_possibleCracks_101 (by decide) ?_
          exact q_sub [5, 6, 1, 0] rfl (hrc24 _ _ _ _ hres)
      · have hres := it_f hc hres
        refine q_bipush 71 hX dX1_possibleCracks_69 rfl kB_m3 ?_
        exact q_iret hX (eqi hq hres) dX1_possibleCracks_71
def fX1_possibleCracks_24 : Nat → St → Int32 → Int32 → Int32 → Option (Int32 × St)
  | 0 => fun _ _ _ _ => none
  | k + 1 => fun S x1 x2 x3 => bX1_possibleCracks_24 (fX1_possibleCracks_24 k) S x1 x2 x3
theorem wfX1_possibleCracks_24 {X : CX} (hX : Ok RX1 cX1_possibleCracks (some .int) 0 55 7 X) {rr : Int32 × St} (hq : rs X = (some (.int rr.1), rr.2)) (k : Nat) : ∀ (S : St) (x1 : Int32) (x2 : Int32) (x3 : Int32), fX1_possibleCracks_24 k S x1 x2 x3 = some rr → Wat 0 55 1 7 X 24 [(0, .ref (ad X 15)), (1, .int x1), (2, .int x2), (3, .int x3)] [] S := by
  induction k with
  | zero => intro S x1 x2 x3 hres; exact absurd hres (by simp [fX1_possibleCracks_24])
  | succ k ih => intro S x1 x2 x3 hres; exact wbX1_possibleCracks_24 hX hq ih hres
def bX1_possibleCracks_4 (rc4 : St → Int32 → Int32 → Int32 → Option (Int32 × St)) (S : St) (x1 : Int32) (x2 : Int32) (x3 : Int32) : Option (Int32 × St) :=
  if (12 : Int32) < x3 then (fX1_possibleCracks_24 100 S x1 x2 (0 : Int32)) else (bV ((x2 ||| ((1 : Int32) <<< (x3 &&& 31)))) fun v1 => bV (x3 + (1 : Int32)) fun v2 => rc4 S x1 v1 v2)
theorem wbX1_possibleCracks_4 {X : CX} (hX : Ok RX1 cX1_possibleCracks (some .int) 0 55 7 X) {rr : Int32 × St} (hq : rs X = (some (.int rr.1), rr.2)) {rc4 : St → Int32 → Int32 → Int32 → Option (Int32 × St)} (hrc4 : ∀ (S : St) (x1 : Int32) (x2 : Int32) (x3 : Int32), rc4 S x1 x2 x3 = some rr → Wat 0 55 1 7 X 4 [(0, .ref (ad X 15)), (1, .int x1), (2, .int x2), (3, .int x3)] [] S) {S : St} {x1 : Int32} {x2 : Int32} {x3 : Int32} (hres : bX1_possibleCracks_4 rc4 S x1 x2 x3 = some rr) : Wat 0 55 1 7 X 4 [(0, .ref (ad X 15)), (1, .int x1), (2, .int x2), (3, .int x3)] [] S := by
  unfold bX1_possibleCracks_4 at hres
  refine q_iload_n 5 hX 3 dX1_possibleCracks_4 rfl rfl rfl ?_
  refine q_bipush 7 hX dX1_possibleCracks_5 rfl kB_12 ?_
  refine q_icmp_gt 10 hX 22 dX1_possibleCracks_7 rfl (by decide) (fun hc => ?_) (fun hc => ?_)
  · have hres := it_t hc hres
    refine q_iconst 23 hX dX1_possibleCracks_22 rfl kI_0 ?_
    refine q_istore_n 24 (lv' := [(3, .int (0 : Int32)), (0, .ref (ad X 15)), (1, .int x1), (2, .int x2)]) hX dX1_possibleCracks_23 rfl rfl (by decide) rfl ?_
    exact q_sub [1, 2, 3, 0] rfl (wfX1_possibleCracks_24 hX hq _ _ _ _ _ hres)
  · have hres := it_f hc hres
    refine q_iload_n 11 hX 2 dX1_possibleCracks_10 rfl rfl rfl ?_
    refine q_iconst 12 hX dX1_possibleCracks_11 rfl kI_1 ?_
    refine q_iload_n 13 hX 3 dX1_possibleCracks_12 rfl rfl rfl ?_
    refine q_ishl 14 hX dX1_possibleCracks_13 rfl ?_
    refine q_ior 15 hX dX1_possibleCracks_14 rfl ?_
    refine q_istoreB_n 16 (lv0 := [(0, .ref (ad X 15)), (1, .int x1), (3, .int x3)]) hX dX1_possibleCracks_15 rfl rfl (by decide) rfl hres (fun v1 hres => ?_)
    refine q_iincB 19 3 (lv0 := [(2, .int v1), (0, .ref (ad X 15)), (1, .int x1)]) hX dX1_possibleCracks_16 rfl rfl kI_1 (by decide) rfl hres (fun v2 hres => ?_)
    refine q_goto 4 hX dX1_possibleCracks_19 (by decide) ?_
    exact q_sub [2, 3, 1, 0] rfl (hrc4 _ _ _ _ hres)
def fX1_possibleCracks_4 : Nat → St → Int32 → Int32 → Int32 → Option (Int32 × St)
  | 0 => fun _ _ _ _ => none
  | k + 1 => fun S x1 x2 x3 => bX1_possibleCracks_4 (fX1_possibleCracks_4 k) S x1 x2 x3
theorem wfX1_possibleCracks_4 {X : CX} (hX : Ok RX1 cX1_possibleCracks (some .int) 0 55 7 X) {rr : Int32 × St} (hq : rs X = (some (.int rr.1), rr.2)) (k : Nat) : ∀ (S : St) (x1 : Int32) (x2 : Int32) (x3 : Int32), fX1_possibleCracks_4 k S x1 x2 x3 = some rr → Wat 0 55 1 7 X 4 [(0, .ref (ad X 15)), (1, .int x1), (2, .int x2), (3, .int x3)] [] S := by
  induction k with
  | zero => intro S x1 x2 x3 hres; exact absurd hres (by simp [fX1_possibleCracks_4])
  | succ k ih => intro S x1 x2 x3 hres; exact wbX1_possibleCracks_4 hX hq ih hres
def fX1_possibleCracks (S : St) (x1 : Int32) : Option (Int32 × St) :=
  fX1_possibleCracks_4 100 S x1 (0 : Int32) (0 : Int32)
theorem wfX1_possibleCracks {X : CX} (hX : Ok RX1 cX1_possibleCracks (some .int) 0 55 7 X) {rr : Int32 × St} (hq : rs X = (some (.int rr.1), rr.2)) {S : St} {x1 : Int32} (hres : fX1_possibleCracks S x1 = some rr) : Wat 0 55 1 7 X 0 [(0, .ref (ad X 15)), (1, .int x1)] [] S := by
  unfold fX1_possibleCracks at hres
  refine q_iconst 1 hX dX1_possibleCracks_0 rfl kI_0 ?_
  refine q_istore_n 2 (lv' := [(2, .int (0 : Int32)), (0, .ref (ad X 15)), (1, .int x1)]) hX dX1_possibleCracks_1 rfl rfl (by decide) rfl ?_
  refine q_iconst 3 hX dX1_possibleCracks_2 rfl kI_0 ?_
  refine q_istore_n 4 (lv' := [(3, .int (0 : Int32)), (2, .int (0 : Int32)), (0, .ref (ad X 15)), (1, .int x1)]) hX dX1_possibleCracks_3 rfl rfl (by decide) rfl ?_
  exact q_sub [2, 3, 1, 0] rfl (wfX1_possibleCracks_4 hX hq _ _ _ _ _ hres)
theorem cX1_possibleCracks9 {l : Launch} {w : WD} (hj : Dj w 0 55) {rr : Int32 × St} {S : St} {x1 : Int32} (hres : fX1_possibleCracks S x1 = some rr) : Ct l yX1_possibleCracks cX1_possibleCracks 7 (some .int) 1 w 0 55 [.ref (w.1 15), .int x1] S (some (.int rr.1), rr.2) := by
  refine Ct.of (lv := [(0, .ref (w.1 15)), (1, .int x1)]) hj (by decide +kernel) (Nat.le_of_ble_eq_true rfl) rfl ?_
  rintro X rfl rfl hq hX
  exact wfX1_possibleCracks hX hq hres
def bX1_firstShare_54 (rc46 : St → Int32 → Int32 → Int32 → Option (Int32 × St)) (rc54 : St → Int32 → Int32 → Int32 → Int32 → Option (Int32 × St)) (S : St) (x1 : Int32) (x2 : Int32) (x3 : Int32) (x4 : Int32) : Option (Int32 × St) :=
  if x1 < (x4 + x3) then (bV (x3 + (1 : Int32)) fun v1 => rc46 S x1 x2 v1) else (if (12 : Int32) ≤ (x4 + (1 : Int32)) then (bV (x3 + (1 : Int32)) fun v2 => rc46 S x1 x2 v2) else (bi (fX7_byteAt S x4) fun r4 S1 => if inb (x4 + (1 : Int32)) 12 = true then bV ((r4 - (S1.1 16 ((x4 + (1 : Int32)).toNatClampNeg)))) fun v6 => bi (fX7_byteAt S1 ((x4 + x3) - (1 : Int32))) fun r8 S2 => if inb x4 12 = true then bV ((r8 - (S2.1 16 (x4.toNatClampNeg)))) fun v10 => if inb x4 12 = true then bS (pI S2 16 (x4.toNatClampNeg) (if v6 < v10 then v10 else v6)) fun S3 => bV (x4 + (1 : Int32)) fun v12 => rc54 S3 x1 x2 x3 v12 else none else none else none))
theorem wbX1_firstShare_54 {X : CX} (hX : Ok RX1 cX1_firstShare (some .int) 0 55 7 X) {rr : Int32 × St} (hq : rs X = (some (.int rr.1), rr.2)) {rc46 : St → Int32 → Int32 → Int32 → Option (Int32 × St)} (hrc46 : ∀ (S : St) (x1 : Int32) (x2 : Int32) (x3 : Int32), rc46 S x1 x2 x3 = some rr → Wat 0 55 1 7 X 46 [(0, .ref (ad X 15)), (1, .int x1), (2, .int x2), (3, .int x3)] [] S) {rc54 : St → Int32 → Int32 → Int32 → Int32 → Option (Int32 × St)} (hrc54 : ∀ (S : St) (x1 : Int32) (x2 : Int32) (x3 : Int32) (x4 : Int32), rc54 S x1 x2 x3 x4 = some rr → Wat 0 55 1 7 X 54 [(0, .ref (ad X 15)), (1, .int x1), (2, .int x2), (3, .int x3), (4, .int x4)] [] S) {S : St} {x1 : Int32} {x2 : Int32} {x3 : Int32} {x4 : Int32} (hres : bX1_firstShare_54 rc46 rc54 S x1 x2 x3 x4 = some rr) : Wat 0 55 1 7 X 54 [(0, .ref (ad X 15)), (1, .int x1), (2, .int x2), (3, .int x3), (4, .int x4)] [] S := by
  unfold bX1_firstShare_54 at hres
  refine q_iload 56 hX 4 dX1_firstShare_54 rfl rfl ?_
  refine q_iload_n 57 hX 3 dX1_firstShare_56 rfl rfl rfl ?_
  refine q_iadd 58 hX dX1_firstShare_57 rfl ?_
  refine q_iload_n 59 hX 1 dX1_firstShare_58 rfl rfl rfl ?_
  refine q_icmp_gt 62 hX 135 dX1_firstShare_59 rfl (by decide) (fun hc => ?_) (fun hc => ?_)
  · have hres := it_t hc hres
    refine q_iincB 138 3 (lv0 := [(0, .ref (ad X 15)), (1, .int x1), (2, .int x2), (4, .int x4)]) hX dX1_firstShare_135 rfl rfl kI_1 (by decide) rfl hres (fun v1 hres => ?_)
    refine q_goto 46 hX dX1_firstShare_138 (by decide) ?_
    exact q_sub [1, 2, 3, 0] rfl (hrc46 _ _ _ _ hres)
  · have hres := it_f hc hres
    refine q_iload 64 hX 4 dX1_firstShare_62 rfl rfl ?_
    refine q_iconst 65 hX dX1_firstShare_64 rfl kI_1 ?_
    refine q_iadd 66 hX dX1_firstShare_65 rfl ?_
    refine q_bipush 68 hX dX1_firstShare_66 rfl kB_12 ?_
    refine q_icmp_ge 71 hX 135 dX1_firstShare_68 rfl (by decide) (fun hc => ?_) (fun hc => ?_)
    · have hres := it_t hc hres
      refine q_iincB 138 3 (lv0 := [(0, .ref (ad X 15)), (1, .int x1), (2, .int x2), (4, .int x4)]) hX dX1_firstShare_135 rfl rfl kI_1 (by decide) rfl hres (fun v2 hres => ?_)
      refine q_goto 46 hX dX1_firstShare_138 (by decide) ?_
      exact q_sub [1, 2, 3, 0] rfl (hrc46 _ _ _ _ hres)
    · have hres := it_f hc hres
      refine q_aload_n 72 hX 0 dX1_firstShare_71 rfl rfl rfl ?_
      refine q_getR 75 hX ci1 lf_RX1_22 fR_15_0 dX1_firstShare_72 rfl ?_
      refine q_iload 77 hX 4 dX1_firstShare_75 rfl rfl ?_
      obtain ⟨r4, S1, hk3, hres⟩ := ob hres
      refine q_callVi 80 (st := []) (As := [.int x4]) hX (cX7_byteAt9 hX.dj hk3) cv_RX1_26 ci7 oB_1 rfl (by decide) rfl (Nat.le_of_ble_eq_true rfl) dX1_firstShare_77 rfl ?_
      refine q_aload_n 81 hX 0 dX1_firstShare_80 rfl rfl rfl ?_
      refine q_getR 84 hX ci1 lf_RX1_11 fR_15_1 dX1_firstShare_81 rfl ?_
      refine q_iload 86 hX 4 dX1_firstShare_84 rfl rfl ?_
      refine q_iconst 87 hX dX1_firstShare_86 rfl kI_1 ?_
      refine q_iadd 88 hX dX1_firstShare_87 rfl ?_
      obtain ⟨hb5, hres⟩ := gd hres
      refine q_iald 89 hX rfl aF_16 hb5 dX1_firstShare_88 rfl ?_
      refine q_isub 90 hX dX1_firstShare_89 rfl ?_
      refine q_istoreB 92 (lv0 := [(0, .ref (ad X 15)), (1, .int x1), (2, .int x2), (3, .int x3), (4, .int x4)]) hX dX1_firstShare_90 rfl (by decide) rfl hres (fun v6 hres => ?_)
      refine q_aload_n 93 hX 1 dX1_firstShare_92 rfl rfl rfl ?_
      refine q_getR 96 hX ci1 lf_RX1_22 fR_15_0 dX1_firstShare_93 rfl ?_
      refine q_iload 98 hX 5 dX1_firstShare_96 rfl rfl ?_
      refine q_iload_n 99 hX 4 dX1_firstShare_98 rfl rfl rfl ?_
      refine q_iadd 100 hX dX1_firstShare_99 rfl ?_
      refine q_iconst 101 hX dX1_firstShare_100 rfl kI_1 ?_
      refine q_isub 102 hX dX1_firstShare_101 rfl ?_
      obtain ⟨r8, S2, hk7, hres⟩ := ob hres
      refine q_callVi 105 (st := []) (As := [.int ((x4 + x3) - (1 : Int32))]) hX (cX7_byteAt9 hX.dj hk7) cv_RX1_26 ci7 oB_1 rfl (by decide) rfl (Nat.le_of_ble_eq_true rfl) dX1_firstShare_102 rfl ?_
      refine q_aload_n 106 hX 1 dX1_firstShare_105 rfl rfl rfl ?_
      refine q_getR 109 hX ci1 lf_RX1_11 fR_15_1 dX1_firstShare_106 rfl ?_
      refine q_iload 111 hX 5 dX1_firstShare_109 rfl rfl ?_
      obtain ⟨hb9, hres⟩ := gd hres
      refine q_iald 112 hX rfl aF_16 hb9 dX1_firstShare_111 rfl ?_
      refine q_isub 113 hX dX1_firstShare_112 rfl ?_
      refine q_istoreB 115 (lv0 := [(5, .int v6), (0, .ref (ad X 15)), (1, .int x1), (2, .int x2), (3, .int x3), (4, .int x4)]) hX dX1_firstShare_113 rfl (by decide) rfl hres (fun v10 hres => ?_)
      refine q_aload_n 116 hX 2 dX1_firstShare_115 rfl rfl rfl ?_
      refine q_getR 119 hX ci1 lf_RX1_11 fR_15_1 dX1_firstShare_116 rfl ?_
      refine q_iload 121 hX 6 dX1_firstShare_119 rfl rfl ?_
      refine q_iload 123 hX 1 dX1_firstShare_121 rfl rfl ?_
      refine q_iload 125 hX 0 dX1_firstShare_123 rfl rfl ?_
      refine q_max 128 hX mw_RX1_36 (by decide) (Nat.le_of_ble_eq_true rfl) dX1_firstShare_125 rfl ?_
      obtain ⟨hb11, hres⟩ := gd hres
      refine q_iast 129 hX rfl aF_16 hb11 dX1_firstShare_128 rfl ?_
      refine q_bS hres (fun S3 _ hres => ?_)
      refine q_iincB 132 6 (lv0 := [(6, .int v10), (5, .int v6), (0, .ref (ad X 15)), (1, .int x1), (2, .int x2), (3, .int x3)]) hX dX1_firstShare_129 rfl rfl kI_1 (by decide) rfl hres (fun v12 hres => ?_)
      refine q_goto 54 hX dX1_firstShare_132 (by decide) ?_
      exact q_sub [3, 4, 5, 6, 0] rfl (hrc54 _ _ _ _ _ hres)
def fX1_firstShare_54 (rc46 : St → Int32 → Int32 → Int32 → Option (Int32 × St)) : Nat → St → Int32 → Int32 → Int32 → Int32 → Option (Int32 × St)
  | 0 => fun _ _ _ _ _ => none
  | k + 1 => fun S x1 x2 x3 x4 => bX1_firstShare_54 rc46 (fX1_firstShare_54 rc46 k) S x1 x2 x3 x4
theorem wfX1_firstShare_54 {X : CX} (hX : Ok RX1 cX1_firstShare (some .int) 0 55 7 X) {rr : Int32 × St} (hq : rs X = (some (.int rr.1), rr.2)) {rc46 : St → Int32 → Int32 → Int32 → Option (Int32 × St)} (hrc46 : ∀ (S : St) (x1 : Int32) (x2 : Int32) (x3 : Int32), rc46 S x1 x2 x3 = some rr → Wat 0 55 1 7 X 46 [(0, .ref (ad X 15)), (1, .int x1), (2, .int x2), (3, .int x3)] [] S) (k : Nat) : ∀ (S : St) (x1 : Int32) (x2 : Int32) (x3 : Int32) (x4 : Int32), fX1_firstShare_54 rc46 k S x1 x2 x3 x4 = some rr → Wat 0 55 1 7 X 54 [(0, .ref (ad X 15)), (1, .int x1), (2, .int x2), (3, .int x3), (4, .int x4)] [] S := by
  induction k with
  | zero => intro S x1 x2 x3 x4 hres; exact absurd hres (by simp [fX1_firstShare_54])
  | succ k ih => intro S x1 x2 x3 x4 hres; exact wbX1_firstShare_54 hX hq hrc46 ih hres
def bX1_firstShare_46 (rc46 : St → Int32 → Int32 → Int32 → Option (Int32 × St)) (S : St) (x1 : Int32) (x2 : Int32) (x3 : Int32) : Option (Int32 × St) :=
  if x1 < x3 then (some (((x2 + (S.1 16 0)) / (2 : Int32)), S)) else (fX1_firstShare_54 rc46 100 S x1 x2 x3 (0 : Int32))
theorem wbX1_firstShare_46 {X : CX} (hX : Ok RX1 cX1_firstShare (some .int) 0 55 7 X) {rr : Int32 × St} (hq : rs X = (some (.int rr.1), rr.2)) {rc46 : St → Int32 → Int32 → Int32 → Option (Int32 × St)} (hrc46 : ∀ (S : St) (x1 : Int32) (x2 : Int32) (x3 : Int32), rc46 S x1 x2 x3 = some rr → Wat 0 55 1 7 X 46 [(0, .ref (ad X 15)), (1, .int x1), (2, .int x2), (3, .int x3)] [] S) {S : St} {x1 : Int32} {x2 : Int32} {x3 : Int32} (hres : bX1_firstShare_46 rc46 S x1 x2 x3 = some rr) : Wat 0 55 1 7 X 46 [(0, .ref (ad X 15)), (1, .int x1), (2, .int x2), (3, .int x3)] [] S := by
  unfold bX1_firstShare_46 at hres
  refine q_iload_n 47 hX 3 dX1_firstShare_46 rfl rfl rfl ?_
  refine q_iload_n 48 hX 1 dX1_firstShare_47 rfl rfl rfl ?_
  refine q_icmp_gt 51 hX 141 dX1_firstShare_48 rfl (by decide) (fun hc => ?_) (fun hc => ?_)
  · have hres := it_t hc hres
    refine q_iload_n 142 hX 2 dX1_firstShare_141 rfl rfl rfl ?_
    refine q_aload_n 143 hX 0 dX1_firstShare_142 rfl rfl rfl ?_
    refine q_getR 146 hX ci1 lf_RX1_11 fR_15_1 dX1_firstShare_143 rfl ?_
    refine q_iconst 147 hX dX1_firstShare_146 rfl kI_0 ?_
    refine q_iald 148 hX kU_0 aF_16 kN_0_12 dX1_firstShare_147 rfl ?_
    refine q_iadd 149 hX dX1_firstShare_148 rfl ?_
    refine q_iconst 150 hX dX1_firstShare_149 rfl kI_2 ?_
    refine q_idiv 151 hX dX1_firstShare_150 rfl (by decide) ?_
    exact q_iret hX (eqi hq hres) dX1_firstShare_151
  · have hres := it_f hc hres
    refine q_iconst 52 hX dX1_firstShare_51 rfl kI_0 ?_
    refine q_istore 54 (lv' := [(4, .int (0 : Int32)), (0, .ref (ad X 15)), (1, .int x1), (2, .int x2), (3, .int x3)]) hX dX1_firstShare_52 rfl (by decide) rfl ?_
    exact q_sub [1, 2, 3, 4, 0] rfl (wfX1_firstShare_54 hX hq hrc46 _ _ _ _ _ _ hres)
def fX1_firstShare_46 : Nat → St → Int32 → Int32 → Int32 → Option (Int32 × St)
  | 0 => fun _ _ _ _ => none
  | k + 1 => fun S x1 x2 x3 => bX1_firstShare_46 (fX1_firstShare_46 k) S x1 x2 x3
theorem wfX1_firstShare_46 {X : CX} (hX : Ok RX1 cX1_firstShare (some .int) 0 55 7 X) {rr : Int32 × St} (hq : rs X = (some (.int rr.1), rr.2)) (k : Nat) : ∀ (S : St) (x1 : Int32) (x2 : Int32) (x3 : Int32), fX1_firstShare_46 k S x1 x2 x3 = some rr → Wat 0 55 1 7 X 46 [(0, .ref (ad X 15)), (1, .int x1), (2, .int x2), (3, .int x3)] [] S := by
  induction k with
  | zero => intro S x1 x2 x3 hres; exact absurd hres (by simp [fX1_firstShare_46])
  | succ k ih => intro S x1 x2 x3 hres; exact wbX1_firstShare_46 hX hq ih hres
def bX1_firstShare_4 (rc4 : St → Int32 → Int32 → Int32 → Option (Int32 × St)) (S : St) (x1 : Int32) (x2 : Int32) (x3 : Int32) : Option (Int32 × St) :=
  if x1 ≤ x3 then (fX1_firstShare_46 100 S x1 x2 (2 : Int32)) else (if (12 : Int32) ≤ x3 then (fX1_firstShare_46 100 S x1 x2 (2 : Int32)) else (bi (fX7_byteAt S x3) fun r2 S1 => if inb x3 12 = true then bS (pI S1 16 (x3.toNatClampNeg) r2) fun S2 => if inb x3 12 = true then bV ((x2 + (S2.1 16 (x3.toNatClampNeg)))) fun v5 => bV (x3 + (1 : Int32)) fun v6 => rc4 S2 x1 v5 v6 else none else none))
theorem wbX1_firstShare_4 {X : CX} (hX : Ok RX1 cX1_firstShare (some .int) 0 55 7 X) {rr : Int32 × St} (hq : rs X = (some (.int rr.1), rr.2)) {rc4 : St → Int32 → Int32 → Int32 → Option (Int32 × St)} (hrc4 : ∀ (S : St) (x1 : Int32) (x2 : Int32) (x3 : Int32), rc4 S x1 x2 x3 = some rr → Wat 0 55 1 7 X 4 [(0, .ref (ad X 15)), (1, .int x1), (2, .int x2), (3, .int x3)] [] S) {S : St} {x1 : Int32} {x2 : Int32} {x3 : Int32} (hres : bX1_firstShare_4 rc4 S x1 x2 x3 = some rr) : Wat 0 55 1 7 X 4 [(0, .ref (ad X 15)), (1, .int x1), (2, .int x2), (3, .int x3)] [] S := by
  unfold bX1_firstShare_4 at hres
  refine q_iload_n 5 hX 3 dX1_firstShare_4 rfl rfl rfl ?_
  refine q_iload_n 6 hX 1 dX1_firstShare_5 rfl rfl rfl ?_
  refine q_icmp_ge 9 hX 44 dX1_firstShare_6 rfl (by decide) (fun hc => ?_) (fun hc => ?_)
  · have hres := it_t hc hres
    refine q_iconst 45 hX dX1_firstShare_44 rfl kI_2 ?_
    refine q_istore_n 46 (lv' := [(3, .int (2 : Int32)), (0, .ref (ad X 15)), (1, .int x1), (2, .int x2)]) hX dX1_firstShare_45 rfl rfl (by decide) rfl ?_
    exact q_sub [1, 2, 3, 0] rfl (wfX1_firstShare_46 hX hq _ _ _ _ _ hres)
  · have hres := it_f hc hres
    refine q_iload_n 10 hX 3 dX1_firstShare_9 rfl rfl rfl ?_
    refine q_bipush 12 hX dX1_firstShare_10 rfl kB_12 ?_
    refine q_icmp_ge 15 hX 44 dX1_firstShare_12 rfl (by decide) (fun hc => ?_) (fun hc => ?_)
    · have hres := it_t hc hres
      refine q_iconst 45 hX dX1_firstShare_44 rfl kI_2 ?_
      refine q_istore_n 46 (lv' := [(3, .int (2 : Int32)), (0, .ref (ad X 15)), (1, .int x1), (2, .int x2)]) hX dX1_firstShare_45 rfl rfl (by decide) rfl ?_
      exact q_sub [1, 2, 3, 0] rfl (wfX1_firstShare_46 hX hq _ _ _ _ _ hres)
    · have hres := it_f hc hres
      refine q_aload_n 16 hX 0 dX1_firstShare_15 rfl rfl rfl ?_
      refine q_getR 19 hX ci1 lf_RX1_11 fR_15_1 dX1_firstShare_16 rfl ?_
      refine q_iload_n 20 hX 3 dX1_firstShare_19 rfl rfl rfl ?_
      refine q_aload_n 21 hX 0 dX1_firstShare_20 rfl rfl rfl ?_
      refine q_getR 24 hX ci1 lf_RX1_22 fR_15_0 dX1_firstShare_21 rfl ?_
      refine q_iload_n 25 hX 3 dX1_firstShare_24 rfl rfl rfl ?_
      obtain ⟨r2, S1, hk1, hres⟩ := ob hres
      refine q_callVi 28 (st := [.int x3, .ref (ad X 16)]) (As := [.int x3]) hX (cX7_byteAt9 hX.dj hk1) cv_RX1_26 ci7 oB_1 rfl (by decide) rfl (Nat.le_of_ble_eq_true rfl) dX1_firstShare_25 rfl ?_
      obtain ⟨hb3, hres⟩ := gd hres
      refine q_iast 29 hX rfl aF_16 hb3 dX1_firstShare_28 rfl ?_
      refine q_bS hres (fun S2 _ hres => ?_)
      refine q_iload_n 30 hX 2 dX1_firstShare_29 rfl rfl rfl ?_
      refine q_aload_n 31 hX 0 dX1_firstShare_30 rfl rfl rfl ?_
      refine q_getR 34 hX ci1 lf_RX1_11 fR_15_1 dX1_firstShare_31 rfl ?_
      refine q_iload_n 35 hX 3 dX1_firstShare_34 rfl rfl rfl ?_
      obtain ⟨hb4, hres⟩ := gd hres
      refine q_iald 36 hX rfl aF_16 hb4 dX1_firstShare_35 rfl ?_
      refine q_iadd 37 hX dX1_firstShare_36 rfl ?_
      refine q_istoreB_n 38 (lv0 := [(0, .ref (ad X 15)), (1, .int x1), (3, .int x3)]) hX dX1_firstShare_37 rfl rfl (by decide) rfl hres (fun v5 hres => ?_)
      refine q_iincB 41 3 (lv0 := [(2, .int v5), (0, .ref (ad X 15)), (1, .int x1)]) hX dX1_firstShare_38 rfl rfl kI_1 (by decide) rfl hres (fun v6 hres => ?_)
      refine q_goto 4 hX dX1_firstShare_41 (by decide) ?_
      exact q_sub [2, 3, 1, 0] rfl (hrc4 _ _ _ _ hres)
def fX1_firstShare_4 : Nat → St → Int32 → Int32 → Int32 → Option (Int32 × St)
  | 0 => fun _ _ _ _ => none
  | k + 1 => fun S x1 x2 x3 => bX1_firstShare_4 (fX1_firstShare_4 k) S x1 x2 x3
theorem wfX1_firstShare_4 {X : CX} (hX : Ok RX1 cX1_firstShare (some .int) 0 55 7 X) {rr : Int32 × St} (hq : rs X = (some (.int rr.1), rr.2)) (k : Nat) : ∀ (S : St) (x1 : Int32) (x2 : Int32) (x3 : Int32), fX1_firstShare_4 k S x1 x2 x3 = some rr → Wat 0 55 1 7 X 4 [(0, .ref (ad X 15)), (1, .int x1), (2, .int x2), (3, .int x3)] [] S := by
  induction k with
  | zero => intro S x1 x2 x3 hres; exact absurd hres (by simp [fX1_firstShare_4])
  | succ k ih => intro S x1 x2 x3 hres; exact wbX1_firstShare_4 hX hq ih hres
def fX1_firstShare (S : St) (x1 : Int32) : Option (Int32 × St) :=
  fX1_firstShare_4 100 S x1 (0 : Int32) (0 : Int32)
theorem wfX1_firstShare {X : CX} (hX : Ok RX1 cX1_firstShare (some .int) 0 55 7 X) {rr : Int32 × St} (hq : rs X = (some (.int rr.1), rr.2)) {S : St} {x1 : Int32} (hres : fX1_firstShare S x1 = some rr) : Wat 0 55 1 7 X 0 [(0, .ref (ad X 15)), (1, .int x1)] [] S := by
  unfold fX1_firstShare at hres
  refine q_iconst 1 hX dX1_firstShare_0 rfl kI_0 ?_
  refine q_istore_n 2 (lv' := [(2, .int (0 : Int32)), (0, .ref (ad X 15)), (1, .int x1)]) hX dX1_firstShare_1 rfl rfl (by decide) rfl ?_
  refine q_iconst 3 hX dX1_firstShare_2 rfl kI_0 ?_
  refine q_istore_n 4 (lv' := [(3, .int (0 : Int32)), (2, .int (0 : Int32)), (0, .ref (ad X 15)), (1, .int x1)]) hX dX1_firstShare_3 rfl rfl (by decide) rfl ?_
  exact q_sub [2, 3, 1, 0] rfl (wfX1_firstShare_4 hX hq _ _ _ _ _ hres)
theorem cX1_firstShare9 {l : Launch} {w : WD} (hj : Dj w 0 55) {rr : Int32 × St} {S : St} {x1 : Int32} (hres : fX1_firstShare S x1 = some rr) : Ct l yX1_firstShare cX1_firstShare 7 (some .int) 1 w 0 55 [.ref (w.1 15), .int x1] S (some (.int rr.1), rr.2) := by
  refine Ct.of (lv := [(0, .ref (w.1 15)), (1, .int x1)]) hj (by decide +kernel) (Nat.le_of_ble_eq_true rfl) rfl ?_
  rintro X rfl rfl hq hX
  exact wfX1_firstShare hX hq hres
def fX1_worth (S : St) (x1 : Int32) (x2 : Int32) (x3 : Int32) : Option (Int32 × St) :=
  bi (fX7_byteAt S ((x1 * x2) + x3)) fun r2 S1 => some (r2, S1)
theorem wfX1_worth {X : CX} (hX : Ok RX1 cX1_worth (some .int) 0 55 4 X) {rr : Int32 × St} (hq : rs X = (some (.int rr.1), rr.2)) {S : St} {x1 : Int32} {x2 : Int32} {x3 : Int32} (hres : fX1_worth S x1 x2 x3 = some rr) : Wat 0 55 1 4 X 0 [(0, .ref (ad X 15)), (1, .int x1), (2, .int x2), (3, .int x3)] [] S := by
  unfold fX1_worth at hres
  refine q_aload_n 1 hX 0 dX1_worth_0 rfl rfl rfl ?_
  refine q_getR 4 hX ci1 lf_RX1_22 fR_15_0 dX1_worth_1 rfl ?_
  refine q_iload_n 5 hX 1 dX1_worth_4 rfl rfl rfl ?_
  refine q_iload_n 6 hX 2 dX1_worth_5 rfl rfl rfl ?_
  refine q_imul 7 hX dX1_worth_6 rfl ?_
  refine q_iload_n 8 hX 3 dX1_worth_7 rfl rfl rfl ?_
  refine q_iadd 9 hX dX1_worth_8 rfl ?_
  obtain ⟨r2, S1, hk1, hres⟩ := ob hres
  refine q_callVi 12 (st := []) (As := [.int ((x1 * x2) + x3)]) hX (cX7_byteAt9 hX.dj hk1) cv_RX1_26 ci7 oB_1 rfl (by decide) rfl (Nat.le_of_ble_eq_true rfl) dX1_worth_9 rfl ?_
  exact q_iret hX (eqi hq hres) dX1_worth_12
theorem cX1_worth9 {l : Launch} {w : WD} (hj : Dj w 0 55) {rr : Int32 × St} {S : St} {x1 : Int32} {x2 : Int32} {x3 : Int32} (hres : fX1_worth S x1 x2 x3 = some rr) : Ct l yX1_worth cX1_worth 4 (some .int) 1 w 0 55 [.ref (w.1 15), .int x1, .int x2, .int x3] S (some (.int rr.1), rr.2) := by
  refine Ct.of (lv := [(0, .ref (w.1 15)), (1, .int x1), (2, .int x2), (3, .int x3)]) hj (by decide +kernel) (Nat.le_of_ble_eq_true rfl) rfl ?_
  rintro X rfl rfl hq hX
  exact wfX1_worth hX hq hres
def fX1_wouldSwap_38 (S : St) : Option (Int32 × St) :=
  some ((0 : Int32), S)
theorem wfX1_wouldSwap_38 {X : CX} (hX : Ok RX1 cX1_wouldSwap (some .boolean) 0 55 4 X) {rr : Int32 × St} (hq : rs X = (some (.int rr.1), rr.2)) {S : St} (hres : fX1_wouldSwap_38 S = some rr) : Wat 0 55 2 4 X 38 [] [] S := by
  unfold fX1_wouldSwap_38 at hres
  refine q_iconst 39 hX dX1_wouldSwap_38 rfl kI_0 ?_
  exact q_zret hX (by decide) (eqi hq hres) dX1_wouldSwap_39
def fX1_wouldSwap (S : St) (x1 : Int32) (x2 : Int32) (x3 : Int32) : Option (Int32 × St) :=
  bi (fX1_worth S x1 x2 x3) fun r2 S1 => bi (fX1_worth S1 x1 x2 x2) fun r4 S2 => if r2 ≤ r4 then (fX1_wouldSwap_38 S2) else (bi (fX1_worth S2 x1 x3 x2) fun r6 S3 => bi (fX1_worth S3 x1 x3 x3) fun r8 S4 => if r6 ≤ r8 then (fX1_wouldSwap_38 S4) else (some ((1 : Int32), S4)))
theorem wfX1_wouldSwap {X : CX} (hX : Ok RX1 cX1_wouldSwap (some .boolean) 0 55 4 X) {rr : Int32 × St} (hq : rs X = (some (.int rr.1), rr.2)) {S : St} {x1 : Int32} {x2 : Int32} {x3 : Int32} (hres : fX1_wouldSwap S x1 x2 x3 = some rr) : Wat 0 55 2 4 X 0 [(0, .ref (ad X 15)), (1, .int x1), (2, .int x2), (3, .int x3)] [] S := by
  unfold fX1_wouldSwap at hres
  refine q_aload_n 1 hX 0 dX1_wouldSwap_0 rfl rfl rfl ?_
  refine q_iload_n 2 hX 1 dX1_wouldSwap_1 rfl rfl rfl ?_
  refine q_iload_n 3 hX 2 dX1_wouldSwap_2 rfl rfl rfl ?_
  refine q_iload_n 4 hX 3 dX1_wouldSwap_3 rfl rfl rfl ?_
  obtain ⟨r2, S1, hk1, hres⟩ := ob hres
  refine q_callVi 7 (st := []) (As := [.int x1, .int x2, .int x3]) hX (cX1_worth9 hX.dj hk1) cv_RX1_42 ci1 oB_15 rfl (by decide) rfl (Nat.le_of_ble_eq_true rfl) dX1_wouldSwap_4 rfl ?_
  refine q_aload_n 8 hX 0 dX1_wouldSwap_7 rfl rfl rfl ?_
  refine q_iload_n 9 hX 1 dX1_wouldSwap_8 rfl rfl rfl ?_
  refine q_iload_n 10 hX 2 dX1_wouldSwap_9 rfl rfl rfl ?_
  refine q_iload_n 11 hX 2 dX1_wouldSwap_10 rfl rfl rfl ?_
  obtain ⟨r4, S2, hk3, hres⟩ := ob hres
  refine q_callVi 14 (st := [.int r2]) (As := [.int x1, .int x2, .int x2]) hX (cX1_worth9 hX.dj hk3) cv_RX1_42 ci1 oB_15 rfl (by decide) rfl (Nat.le_of_ble_eq_true rfl) dX1_wouldSwap_11 rfl ?_
  refine q_icmp_le 17 hX 38 dX1_wouldSwap_14 rfl (by decide) (fun hc => ?_) (fun hc => ?_)
  · have hres := it_t hc hres
    exact q_sub [] rfl (wfX1_wouldSwap_38 hX hq hres)
  · have hres := it_f hc hres
    refine q_aload_n 18 hX 0 dX1_wouldSwap_17 rfl rfl rfl ?_
    refine q_iload_n 19 hX 1 dX1_wouldSwap_18 rfl rfl rfl ?_
    refine q_iload_n 20 hX 3 dX1_wouldSwap_19 rfl rfl rfl ?_
    refine q_iload_n 21 hX 2 dX1_wouldSwap_20 rfl rfl rfl ?_
    obtain ⟨r6, S3, hk5, hres⟩ := ob hres
    refine q_callVi 24 (st := []) (As := [.int x1, .int x3, .int x2]) hX (cX1_worth9 hX.dj hk5) cv_RX1_42 ci1 oB_15 rfl (by decide) rfl (Nat.le_of_ble_eq_true rfl) dX1_wouldSwap_21 rfl ?_
    refine q_aload_n 25 hX 0 dX1_wouldSwap_24 rfl rfl rfl ?_
    refine q_iload_n 26 hX 1 dX1_wouldSwap_25 rfl rfl rfl ?_
    refine q_iload_n 27 hX 3 dX1_wouldSwap_26 rfl rfl rfl ?_
    refine q_iload_n 28 hX 3 dX1_wouldSwap_27 rfl rfl rfl ?_
    obtain ⟨r8, S4, hk7, hres⟩ := ob hres
    refine q_callVi 31 (st := [.int r6]) (As := [.int x1, .int x3, .int x3]) hX (cX1_worth9 hX.dj hk7) cv_RX1_42 ci1 oB_15 rfl (by decide) rfl (Nat.le_of_ble_eq_true rfl) dX1_wouldSwap_28 rfl ?_
    refine q_icmp_le 34 hX 38 dX1_wouldSwap_31 rfl (by decide) (fun hc => ?_) (fun hc => ?_)
    · have hres := it_t hc hres
      exact q_sub [] rfl (wfX1_wouldSwap_38 hX hq hres)
    · have hres := it_f hc hres
      refine q_iconst 35 hX dX1_wouldSwap_34 rfl kI_1 ?_
      refine q_goto 39 hX dX1_wouldSwap_35 (by decide) ?_
      exact q_zret hX (by decide) (eqi hq hres) dX1_wouldSwap_39
theorem cX1_wouldSwap9 {l : Launch} {w : WD} (hj : Dj w 0 55) {rr : Int32 × St} {S : St} {x1 : Int32} {x2 : Int32} {x3 : Int32} (hres : fX1_wouldSwap S x1 x2 x3 = some rr) : Ct l yX1_wouldSwap cX1_wouldSwap 4 (some .boolean) 2 w 0 55 [.ref (w.1 15), .int x1, .int x2, .int x3] S (some (.int rr.1), rr.2) := by
  refine Ct.of (lv := [(0, .ref (w.1 15)), (1, .int x1), (2, .int x2), (3, .int x3)]) hj (by decide +kernel) (Nat.le_of_ble_eq_true rfl) rfl ?_
  rintro X rfl rfl hq hX
  exact wfX1_wouldSwap hX hq hres
def bX1_willingTwos_14 (rc4 : St → Int32 → Int32 → Int32 → Option (Int32 × St)) (rc14 : St → Int32 → Int32 → Int32 → Int32 → Option (Int32 × St)) (S : St) (x1 : Int32) (x2 : Int32) (x3 : Int32) (x4 : Int32) : Option (Int32 × St) :=
  if x1 ≤ x4 then (bV (x3 + (1 : Int32)) fun v1 => rc4 S x1 x2 v1) else (bi (fX1_wouldSwap S x1 x3 x4) fun r3 S1 => if r3 = 0 then (bV (x4 + (1 : Int32)) fun v4 => rc14 S1 x1 x2 x3 v4) else (bV (x2 + (1 : Int32)) fun v5 => bV (x4 + (1 : Int32)) fun v6 => rc14 S1 x1 v5 x3 v6))
theorem wbX1_willingTwos_14 {X : CX} (hX : Ok RX1 cX1_willingTwos (some .int) 0 55 5 X) {rr : Int32 × St} (hq : rs X = (some (.int rr.1), rr.2)) {rc4 : St → Int32 → Int32 → Int32 → Option (Int32 × St)} (hrc4 : ∀ (S : St) (x1 : Int32) (x2 : Int32) (x3 : Int32), rc4 S x1 x2 x3 = some rr → Wat 0 55 3 5 X 4 [(0, .ref (ad X 15)), (1, .int x1), (2, .int x2), (3, .int x3)] [] S) {rc14 : St → Int32 → Int32 → Int32 → Int32 → Option (Int32 × St)} (hrc14 : ∀ (S : St) (x1 : Int32) (x2 : Int32) (x3 : Int32) (x4 : Int32), rc14 S x1 x2 x3 x4 = some rr → Wat 0 55 3 5 X 14 [(0, .ref (ad X 15)), (1, .int x1), (2, .int x2), (3, .int x3), (4, .int x4)] [] S) {S : St} {x1 : Int32} {x2 : Int32} {x3 : Int32} {x4 : Int32} (hres : bX1_willingTwos_14 rc4 rc14 S x1 x2 x3 x4 = some rr) : Wat 0 55 3 5 X 14 [(0, .ref (ad X 15)), (1, .int x1), (2, .int x2), (3, .int x3), (4, .int x4)] [] S := by
  unfold bX1_willingTwos_14 at hres
  refine q_iload 16 hX 4 dX1_willingTwos_14 rfl rfl ?_
  refine q_iload_n 17 hX 1 dX1_willingTwos_16 rfl rfl rfl ?_
  refine q_icmp_ge 20 hX 40 dX1_willingTwos_17 rfl (by decide) (fun hc => ?_) (fun hc => ?_)
  · have hres := it_t hc hres
    refine q_iincB 43 3 (lv0 := [(0, .ref (ad X 15)), (1, .int x1), (2, .int x2), (4, .int x4)]) hX dX1_willingTwos_40 rfl rfl kI_1 (by decide) rfl hres (fun v1 hres => ?_)
    refine q_goto 4 hX dX1_willingTwos_43 (by decide) ?_
    exact q_sub [1, 2, 3, 0] rfl (hrc4 _ _ _ _ hres)
  · have hres := it_f hc hres
    refine q_aload_n 21 hX 0 dX1_willingTwos_20 rfl rfl rfl ?_
    refine q_iload_n 22 hX 1 dX1_willingTwos_21 rfl rfl rfl ?_
    refine q_iload_n 23 hX 3 dX1_willingTwos_22 rfl rfl rfl ?_
    refine q_iload 25 hX 4 dX1_willingTwos_23 rfl rfl ?_
    obtain ⟨r3, S1, hk2, hres⟩ := ob hres
    refine q_callVi 28 (st := []) (As := [.int x1, .int x3, .int x4]) hX (cX1_wouldSwap9 hX.dj hk2) cv_RX1_46 ci1 oB_15 rfl (by decide) rfl (Nat.le_of_ble_eq_true rfl) dX1_willingTwos_25 rfl ?_
    refine q_if_eq 31 hX 34 dX1_willingTwos_28 rfl (by decide) (fun hc => ?_) (fun hc => ?_)
    · have hres := it_t hc hres
      refine q_iincB 37 4 (lv0 := [(0, .ref (ad X 15)), (1, .int x1), (2, .int x2), (3, .int x3)]) hX dX1_willingTwos_34 rfl rfl kI_1 (by decide) rfl hres (fun v4 hres => ?_)
      refine q_goto 14 hX dX1_willingTwos_37 (by decide) ?_
      exact q_sub [1, 2, 3, 4, 0] rfl (hrc14 _ _ _ _ _ hres)
    · have hres := it_f hc hres
      refine q_iincB 34 2 (lv0 := [(0, .ref (ad X 15)), (1, .int x1), (3, .int x3), (4, .int x4)]) hX dX1_willingTwos_31 rfl rfl kI_1 (by decide) rfl hres (fun v5 hres => ?_)
      refine q_iincB 37 4 (lv0 := [(2, .int v5), (0, .ref (ad X 15)), (1, .int x1), (3, .int x3)]) hX dX1_willingTwos_34 rfl rfl kI_1 (by decide) rfl hres (fun v6 hres => ?_)
      refine q_goto 14 hX dX1_willingTwos_37 (by decide) ?_
      exact q_sub [2, 3, 1, 4, 0] rfl (hrc14 _ _ _ _ _ hres)
def fX1_willingTwos_14 (rc4 : St → Int32 → Int32 → Int32 → Option (Int32 × St)) : Nat → St → Int32 → Int32 → Int32 → Int32 → Option (Int32 × St)
  | 0 => fun _ _ _ _ _ => none
  | k + 1 => fun S x1 x2 x3 x4 => bX1_willingTwos_14 rc4 (fX1_willingTwos_14 rc4 k) S x1 x2 x3 x4
theorem wfX1_willingTwos_14 {X : CX} (hX : Ok RX1 cX1_willingTwos (some .int) 0 55 5 X) {rr : Int32 × St} (hq : rs X = (some (.int rr.1), rr.2)) {rc4 : St → Int32 → Int32 → Int32 → Option (Int32 × St)} (hrc4 : ∀ (S : St) (x1 : Int32) (x2 : Int32) (x3 : Int32), rc4 S x1 x2 x3 = some rr → Wat 0 55 3 5 X 4 [(0, .ref (ad X 15)), (1, .int x1), (2, .int x2), (3, .int x3)] [] S) (k : Nat) : ∀ (S : St) (x1 : Int32) (x2 : Int32) (x3 : Int32) (x4 : Int32), fX1_willingTwos_14 rc4 k S x1 x2 x3 x4 = some rr → Wat 0 55 3 5 X 14 [(0, .ref (ad X 15)), (1, .int x1), (2, .int x2), (3, .int x3), (4, .int x4)] [] S := by
  induction k with
  | zero => intro S x1 x2 x3 x4 hres; exact absurd hres (by simp [fX1_willingTwos_14])
  | succ k ih => intro S x1 x2 x3 x4 hres; exact wbX1_willingTwos_14 hX hq hrc4 ih hres
def bX1_willingTwos_4 (rc4 : St → Int32 → Int32 → Int32 → Option (Int32 × St)) (S : St) (x1 : Int32) (x2 : Int32) (x3 : Int32) : Option (Int32 × St) :=
  if x1 ≤ x3 then (some (x2, S)) else (bV ((x3 + (1 : Int32))) fun v1 => fX1_willingTwos_14 rc4 100 S x1 x2 x3 v1)
theorem wbX1_willingTwos_4 {X : CX} (hX : Ok RX1 cX1_willingTwos (some .int) 0 55 5 X) {rr : Int32 × St} (hq : rs X = (some (.int rr.1), rr.2)) {rc4 : St → Int32 → Int32 → Int32 → Option (Int32 × St)} (hrc4 : ∀ (S : St) (x1 : Int32) (x2 : Int32) (x3 : Int32), rc4 S x1 x2 x3 = some rr → Wat 0 55 3 5 X 4 [(0, .ref (ad X 15)), (1, .int x1), (2, .int x2), (3, .int x3)] [] S) {S : St} {x1 : Int32} {x2 : Int32} {x3 : Int32} (hres : bX1_willingTwos_4 rc4 S x1 x2 x3 = some rr) : Wat 0 55 3 5 X 4 [(0, .ref (ad X 15)), (1, .int x1), (2, .int x2), (3, .int x3)] [] S := by
  unfold bX1_willingTwos_4 at hres
  refine q_iload_n 5 hX 3 dX1_willingTwos_4 rfl rfl rfl ?_
  refine q_iload_n 6 hX 1 dX1_willingTwos_5 rfl rfl rfl ?_
  refine q_icmp_ge 9 hX 46 dX1_willingTwos_6 rfl (by decide) (fun hc => ?_) (fun hc => ?_)
  · have hres := it_t hc hres
    refine q_iload_n 47 hX 2 dX1_willingTwos_46 rfl rfl rfl ?_
    exact q_iret hX (eqi hq hres) dX1_willingTwos_47
  · have hres := it_f hc hres
    refine q_iload_n 10 hX 3 dX1_willingTwos_9 rfl rfl rfl ?_
    refine q_iconst 11 hX dX1_willingTwos_10 rfl kI_1 ?_
    refine q_iadd 12 hX dX1_willingTwos_11 rfl ?_
    refine q_istoreB 14 (lv0 := [(0, .ref (ad X 15)), (1, .int x1), (2, .int x2), (3, .int x3)]) hX dX1_willingTwos_12 rfl (by decide) rfl hres (fun v1 hres => ?_)
    exact q_sub [1, 2, 3, 4, 0] rfl (wfX1_willingTwos_14 hX hq hrc4 _ _ _ _ _ _ hres)
def fX1_willingTwos_4 : Nat → St → Int32 → Int32 → Int32 → Option (Int32 × St)
  | 0 => fun _ _ _ _ => none
  | k + 1 => fun S x1 x2 x3 => bX1_willingTwos_4 (fX1_willingTwos_4 k) S x1 x2 x3
theorem wfX1_willingTwos_4 {X : CX} (hX : Ok RX1 cX1_willingTwos (some .int) 0 55 5 X) {rr : Int32 × St} (hq : rs X = (some (.int rr.1), rr.2)) (k : Nat) : ∀ (S : St) (x1 : Int32) (x2 : Int32) (x3 : Int32), fX1_willingTwos_4 k S x1 x2 x3 = some rr → Wat 0 55 3 5 X 4 [(0, .ref (ad X 15)), (1, .int x1), (2, .int x2), (3, .int x3)] [] S := by
  induction k with
  | zero => intro S x1 x2 x3 hres; exact absurd hres (by simp [fX1_willingTwos_4])
  | succ k ih => intro S x1 x2 x3 hres; exact wbX1_willingTwos_4 hX hq ih hres
def fX1_willingTwos (S : St) (x1 : Int32) : Option (Int32 × St) :=
  fX1_willingTwos_4 100 S x1 (0 : Int32) (0 : Int32)
theorem wfX1_willingTwos {X : CX} (hX : Ok RX1 cX1_willingTwos (some .int) 0 55 5 X) {rr : Int32 × St} (hq : rs X = (some (.int rr.1), rr.2)) {S : St} {x1 : Int32} (hres : fX1_willingTwos S x1 = some rr) : Wat 0 55 3 5 X 0 [(0, .ref (ad X 15)), (1, .int x1)] [] S := by
  unfold fX1_willingTwos at hres
  refine q_iconst 1 hX dX1_willingTwos_0 rfl kI_0 ?_
  refine q_istore_n 2 (lv' := [(2, .int (0 : Int32)), (0, .ref (ad X 15)), (1, .int x1)]) hX dX1_willingTwos_1 rfl rfl (by decide) rfl ?_
  refine q_iconst 3 hX dX1_willingTwos_2 rfl kI_0 ?_
  refine q_istore_n 4 (lv' := [(3, .int (0 : Int32)), (2, .int (0 : Int32)), (0, .ref (ad X 15)), (1, .int x1)]) hX dX1_willingTwos_3 rfl rfl (by decide) rfl ?_
  exact q_sub [2, 3, 1, 0] rfl (wfX1_willingTwos_4 hX hq _ _ _ _ _ hres)
theorem cX1_willingTwos9 {l : Launch} {w : WD} (hj : Dj w 0 55) {rr : Int32 × St} {S : St} {x1 : Int32} (hres : fX1_willingTwos S x1 = some rr) : Ct l yX1_willingTwos cX1_willingTwos 5 (some .int) 3 w 0 55 [.ref (w.1 15), .int x1] S (some (.int rr.1), rr.2) := by
  refine Ct.of (lv := [(0, .ref (w.1 15)), (1, .int x1)]) hj (by decide +kernel) (Nat.le_of_ble_eq_true rfl) rfl ?_
  rintro X rfl rfl hq hX
  exact wfX1_willingTwos hX hq hres
def bX1_mostSwapsAtOnce_51 (rc9 : St → Int32 → Int32 → Option (Int32 × St)) (rc51 : St → Int32 → Int32 → Int32 → Int32 → Int32 → Int32 → Option (Int32 × St)) (S : St) (x1 : Int32) (x2 : Int32) (x3 : Int32) (x4 : Int32) (x5 : Int32) (x6 : Int32) : Option (Int32 × St) :=
  if x1 ≤ x6 then (if inb x2 256 = true then bS (pI S 17 (x2.toNatClampNeg) x5) fun S1 => bV (x2 + (1 : Int32)) fun v2 => rc9 S1 x1 v2 else none) else (if ((x4 >>> (x6 &&& 31)) &&& (1 : Int32)) = (1 : Int32) then (bi (fX1_wouldSwap S x1 x3 x6) fun r5 S2 => if r5 = 0 then (bV (x6 + (1 : Int32)) fun v6 => rc51 S2 x1 x2 x3 x4 x5 v6) else (if inb (x4 &&& (((1 : Int32) <<< (x6 &&& 31)) ^^^ (-1 : Int32))) 256 = true then bV ((if x5 < ((1 : Int32) + (S2.1 17 ((x4 &&& (((1 : Int32) <<< (x6 &&& 31)) ^^^ (-1 : Int32))).toNatClampNeg))) then ((1 : Int32) + (S2.1 17 ((x4 &&& (((1 : Int32) <<< (x6 &&& 31)) ^^^ (-1 : Int32))).toNatClampNeg))) else x5)) fun v8 => bV (x6 + (1 : Int32)) fun v9 => rc51 S2 x1 x2 x3 x4 v8 v9 else none)) else (bV (x6 + (1 : Int32)) fun v3 => rc51 S x1 x2 x3 x4 x5 v3))
theorem wbX1_mostSwapsAtOnce_51 {X : CX} (hX : Ok RX1 cX1_mostSwapsAtOnce (some .int) 0 55 7 X) {rr : Int32 × St} (hq : rs X = (some (.int rr.1), rr.2)) {rc9 : St → Int32 → Int32 → Option (Int32 × St)} (hrc9 : ∀ (S : St) (x1 : Int32) (x2 : Int32), rc9 S x1 x2 = some rr → Wat 0 55 3 7 X 9 [(0, .ref (ad X 15)), (1, .int x1), (2, .int x2)] [] S) {rc51 : St → Int32 → Int32 → Int32 → Int32 → Int32 → Int32 → Option (Int32 × St)} (hrc51 : ∀ (S : St) (x1 : Int32) (x2 : Int32) (x3 : Int32) (x4 : Int32) (x5 : Int32) (x6 : Int32), rc51 S x1 x2 x3 x4 x5 x6 = some rr → Wat 0 55 3 7 X 51 [(0, .ref (ad X 15)), (1, .int x1), (2, .int x2), (3, .int x3), (4, .int x4), (5, .int x5), (6, .int x6)] [] S) {S : St} {x1 : Int32} {x2 : Int32} {x3 : Int32} {x4 : Int32} {x5 : Int32} {x6 : Int32} (hres : bX1_mostSwapsAtOnce_51 rc9 rc51 S x1 x2 x3 x4 x5 x6 = some rr) : Wat 0 55 3 7 X 51 [(0, .ref (ad X 15)), (1, .int x1), (2, .int x2), (3, .int x3), (4, .int x4), (5, .int x5), (6, .int x6)] [] S := by
  unfold bX1_mostSwapsAtOnce_51 at hres
  refine q_iload 53 hX 6 dX1_mostSwapsAtOnce_51 rfl rfl ?_
  refine q_iload_n 54 hX 1 dX1_mostSwapsAtOnce_53 rfl rfl rfl ?_
  refine q_icmp_ge 57 hX 108 dX1_mostSwapsAtOnce_54 rfl (by decide) (fun hc => ?_) (fun hc => ?_)
  · have hres := it_t hc hres
    refine q_aload_n 109 hX 0 dX1_mostSwapsAtOnce_108 rfl rfl rfl ?_
    refine q_getR 112 hX ci1 lf_RX1_15 fR_15_2 dX1_mostSwapsAtOnce_109 rfl ?_
    refine q_iload_n 113 hX 2 dX1_mostSwapsAtOnce_112 rfl rfl rfl ?_
    refine q_iload 115 hX 5 dX1_mostSwapsAtOnce_113 rfl rfl ?_
    obtain ⟨hb1, hres⟩ := gd hres
    refine q_iast 116 hX rfl aF_17 hb1 dX1_mostSwapsAtOnce_115 rfl ?_
    refine q_bS hres (fun S1 _ hres => ?_)
    refine q_iincB 119 2 (lv0 := [(0, .ref (ad X 15)), (1, .int x1), (3, .int x3), (4, .int x4), (5, .int x5), (6, .int x6)]) hX dX1_mostSwapsAtOnce_116 rfl rfl kI_1 (by decide) rfl hres (fun v2 hres => ?_)
    refine q_goto 9 hX dX1_mostSwapsAtOnce_119 (by decide) ?_
    exact q_sub [1, 2, 0] rfl (hrc9 _ _ _ hres)
  · have hres := it_f hc hres
    refine q_iload 59 hX 4 dX1_mostSwapsAtOnce_57 rfl rfl ?_
    refine q_iload 61 hX 6 dX1_mostSwapsAtOnce_59 rfl rfl ?_
    refine q_ishr 62 hX dX1_mostSwapsAtOnce_61 rfl ?_
    refine q_iconst 63 hX dX1_mostSwapsAtOnce_62 rfl kI_1 ?_
    refine q_iand 64 hX dX1_mostSwapsAtOnce_63 rfl ?_
    refine q_iconst 65 hX dX1_mostSwapsAtOnce_64 rfl kI_1 ?_
    refine q_icmp_ne 68 hX 102 dX1_mostSwapsAtOnce_65 rfl (by decide) (fun hc => ?_) (fun hc => ?_)
    · have hres := it_f hc hres
      refine q_iincB 105 6 (lv0 := [(0, .ref (ad X 15)), (1, .int x1), (2, .int x2), (3, .int x3), (4, .int x4), (5, .int x5)]) hX dX1_mostSwapsAtOnce_102 rfl rfl kI_1 (by decide) rfl hres (fun v3 hres => ?_)
      refine q_goto 51 hX dX1_mostSwapsAtOnce_105 (by decide) ?_
      exact q_sub [1, 2, 3, 4, 5, 6, 0] rfl (hrc51 _ _ _ _ _ _ _ hres)
    · have hres := it_t hc hres
      refine q_aload_n 69 hX 0 dX1_mostSwapsAtOnce_68 rfl rfl rfl ?_
      refine q_iload_n 70 hX 1 dX1_mostSwapsAtOnce_69 rfl rfl rfl ?_
      refine q_iload_n 71 hX 3 dX1_mostSwapsAtOnce_70 rfl rfl rfl ?_
      refine q_iload 73 hX 6 dX1_mostSwapsAtOnce_71 rfl rfl ?_
      obtain ⟨r5, S2, hk4, hres⟩ := ob hres
      refine q_callVi 76 (st := []) (As := [.int x1, .int x3, .int x6]) hX (cX1_wouldSwap9 hX.dj hk4) cv_RX1_46 ci1 oB_15 rfl (by decide) rfl (Nat.le_of_ble_eq_true rfl) dX1_mostSwapsAtOnce_73 rfl ?_
      refine q_if_eq 79 hX 102 dX1_mostSwapsAtOnce_76 rfl (by decide) (fun hc => ?_) (fun hc => ?_)
      · have hres := it_t hc hres
        refine q_iincB 105 6 (lv0 := [(0, .ref (ad X 15)), (1, .int x1), (2, .int x2), (3, .int x3), (4, .int x4), (5, .int x5)]) hX dX1_mostSwapsAtOnce_102 rfl rfl kI_1 (by decide) rfl hres (fun v6 hres => ?_)
        refine q_goto 51 hX dX1_mostSwapsAtOnce_105 (by decide) ?_
        exact q_sub [1, 2, 3, 4, 5, 6, 0] rfl (hrc51 _ _ _ _ _ _ _ hres)
      · have hres := it_f hc hres
        refine q_iload 81 hX 5 dX1_mostSwapsAtOnce_79 rfl rfl ?_
        refine q_iconst 82 hX dX1_mostSwapsAtOnce_81 rfl kI_1 ?_
        refine q_aload_n 83 hX 0 dX1_mostSwapsAtOnce_82 rfl rfl rfl ?_
        refine q_getR 86 hX ci1 lf_RX1_15 fR_15_2 dX1_mostSwapsAtOnce_83 rfl ?_
        refine q_iload 88 hX 4 dX1_mostSwapsAtOnce_86 rfl rfl ?_
        refine q_iconst 89 hX dX1_mostSwapsAtOnce_88 rfl kI_1 ?_
        refine q_iload 91 hX 6 dX1_mostSwapsAtOnce_89 rfl rfl ?_
        refine q_ishl 92 hX dX1_mostSwapsAtOnce_91 rfl ?_
        refine q_iconst 93 hX dX1_mostSwapsAtOnce_92 rfl kI_m1 ?_
        refine q_ixor 94 hX dX1_mostSwapsAtOnce_93 rfl ?_
        refine q_iand 95 hX dX1_mostSwapsAtOnce_94 rfl ?_
        obtain ⟨hb7, hres⟩ := gd hres
        refine q_iald 96 hX rfl aF_17 hb7 dX1_mostSwapsAtOnce_95 rfl ?_
        refine q_iadd 97 hX dX1_mostSwapsAtOnce_96 rfl ?_
        refine q_max 100 hX mw_RX1_36 (by decide) (Nat.le_of_ble_eq_true rfl) dX1_mostSwapsAtOnce_97 rfl ?_
        refine q_istoreB 102 (lv0 := [(0, .ref (ad X 15)), (1, .int x1), (2, .int x2), (3, .int x3), (4, .int x4), (6, .int x6)]) hX dX1_mostSwapsAtOnce_100 rfl (by decide) rfl hres (fun v8 hres => ?_)
        refine q_iincB 105 6 (lv0 := [(5, .int v8), (0, .ref (ad X 15)), (1, .int x1), (2, .int x2), (3, .int x3), (4, .int x4)]) hX dX1_mostSwapsAtOnce_102 rfl rfl kI_1 (by decide) rfl hres (fun v9 hres => ?_)
        refine q_goto 51 hX dX1_mostSwapsAtOnce_105 (by decide) ?_
        exact q_sub [2, 3, 4, 5, 6, 1, 0] rfl (hrc51 _ _ _ _ _ _ _ hres)
def fX1_mostSwapsAtOnce_51 (rc9 : St → Int32 → Int32 → Option (Int32 × St)) : Nat → St → Int32 → Int32 → Int32 → Int32 → Int32 → Int32 → Option (Int32 × St)
  | 0 => fun _ _ _ _ _ _ _ => none
  | k + 1 => fun S x1 x2 x3 x4 x5 x6 => bX1_mostSwapsAtOnce_51 rc9 (fX1_mostSwapsAtOnce_51 rc9 k) S x1 x2 x3 x4 x5 x6
theorem wfX1_mostSwapsAtOnce_51 {X : CX} (hX : Ok RX1 cX1_mostSwapsAtOnce (some .int) 0 55 7 X) {rr : Int32 × St} (hq : rs X = (some (.int rr.1), rr.2)) {rc9 : St → Int32 → Int32 → Option (Int32 × St)} (hrc9 : ∀ (S : St) (x1 : Int32) (x2 : Int32), rc9 S x1 x2 = some rr → Wat 0 55 3 7 X 9 [(0, .ref (ad X 15)), (1, .int x1), (2, .int x2)] [] S) (k : Nat) : ∀ (S : St) (x1 : Int32) (x2 : Int32) (x3 : Int32) (x4 : Int32) (x5 : Int32) (x6 : Int32), fX1_mostSwapsAtOnce_51 rc9 k S x1 x2 x3 x4 x5 x6 = some rr → Wat 0 55 3 7 X 51 [(0, .ref (ad X 15)), (1, .int x1), (2, .int x2), (3, .int x3), (4, .int x4), (5, .int x5), (6, .int x6)] [] S := by
  induction k with
  | zero => intro S x1 x2 x3 x4 x5 x6 hres; exact absurd hres (by simp [fX1_mostSwapsAtOnce_51])
  | succ k ih => intro S x1 x2 x3 x4 x5 x6 hres; exact wbX1_mostSwapsAtOnce_51 hX hq hrc9 ih hres
def fX1_mostSwapsAtOnce_122 (S : St) (x1 : Int32) : Option (Int32 × St) :=
  if (8 : Int32) < x1 then (some ((0 : Int32), S)) else (if inb (((1 : Int32) <<< (x1 &&& 31)) - (1 : Int32)) 256 = true then some ((S.1 17 ((((1 : Int32) <<< (x1 &&& 31)) - (1 : Int32)).toNatClampNeg)), S) else none)
theorem wfX1_mostSwapsAtOnce_122 {X : CX} (hX : Ok RX1 cX1_mostSwapsAtOnce (some .int) 0 55 7 X) {rr : Int32 × St} (hq : rs X = (some (.int rr.1), rr.2)) {S : St} {x1 : Int32} (hres : fX1_mostSwapsAtOnce_122 S x1 = some rr) : Wat 0 55 3 7 X 122 [(0, .ref (ad X 15)), (1, .int x1)] [] S := by
  unfold fX1_mostSwapsAtOnce_122 at hres
  refine q_iload_n 123 hX 1 dX1_mostSwapsAtOnce_122 rfl rfl rfl ?_
  refine q_bipush 125 hX dX1_mostSwapsAtOnce_123 rfl kB_8 ?_
  refine q_icmp_gt 128 hX 141 dX1_mostSwapsAtOnce_125 rfl (by decide) (fun hc => ?_) (fun hc => ?_)
  · have hres := it_t hc hres
    refine q_iconst 142 hX dX1_mostSwapsAtOnce_141 rfl kI_0 ?_
    exact q_iret hX (eqi hq hres) dX1_mostSwapsAtOnce_142
  · have hres := it_f hc hres
    refine q_aload_n 129 hX 0 dX1_mostSwapsAtOnce_128 rfl rfl rfl ?_
    refine q_getR 132 hX ci1 lf_RX1_15 fR_15_2 dX1_mostSwapsAtOnce_129 rfl ?_
    refine q_iconst 133 hX dX1_mostSwapsAtOnce_132 rfl kI_1 ?_
    refine q_iload_n 134 hX 1 dX1_mostSwapsAtOnce_133 rfl rfl rfl ?_
    refine q_ishl 135 hX dX1_mostSwapsAtOnce_134 rfl ?_
    refine q_iconst 136 hX dX1_mostSwapsAtOnce_135 rfl kI_1 ?_
    refine q_isub 137 hX dX1_mostSwapsAtOnce_136 rfl ?_
    obtain ⟨hb1, hres⟩ := gd hres
    refine q_iald 138 hX rfl aF_17 hb1 dX1_mostSwapsAtOnce_137 rfl ?_
    refine q_goto 142 hX dX1_mostSwapsAtOnce_138 (by decide) ?_
    exact q_iret hX (eqi hq hres) dX1_mostSwapsAtOnce_142
def bX1_mostSwapsAtOnce_9 (rc9 : St → Int32 → Int32 → Option (Int32 × St)) (S : St) (x1 : Int32) (x2 : Int32) : Option (Int32 × St) :=
  if ((1 : Int32) <<< (x1 &&& 31)) ≤ x2 then (fX1_mostSwapsAtOnce_122 S x1) else (if (256 : Int32) ≤ x2 then (fX1_mostSwapsAtOnce_122 S x1) else (bi (fJ6_numberOfTrailingZeros_0f7a4 S x2) fun r2 S1 => bV ((x2 &&& (((1 : Int32) <<< (r2 &&& 31)) ^^^ (-1 : Int32)))) fun v3 => if inb v3 256 = true then bV ((S1.1 17 (v3.toNatClampNeg))) fun v5 => bV ((r2 + (1 : Int32))) fun v6 => fX1_mostSwapsAtOnce_51 rc9 300 S1 x1 x2 r2 v3 v5 v6 else none))
theorem wbX1_mostSwapsAtOnce_9 {X : CX} (hX : Ok RX1 cX1_mostSwapsAtOnce (some .int) 0 55 7 X) {rr : Int32 × St} (hq : rs X = (some (.int rr.1), rr.2)) {rc9 : St → Int32 → Int32 → Option (Int32 × St)} (hrc9 : ∀ (S : St) (x1 : Int32) (x2 : Int32), rc9 S x1 x2 = some rr → Wat 0 55 3 7 X 9 [(0, .ref (ad X 15)), (1, .int x1), (2, .int x2)] [] S) {S : St} {x1 : Int32} {x2 : Int32} (hres : bX1_mostSwapsAtOnce_9 rc9 S x1 x2 = some rr) : Wat 0 55 3 7 X 9 [(0, .ref (ad X 15)), (1, .int x1), (2, .int x2)] [] S := by
  unfold bX1_mostSwapsAtOnce_9 at hres
  refine q_iload_n 10 hX 2 dX1_mostSwapsAtOnce_9 rfl rfl rfl ?_
  refine q_iconst 11 hX dX1_mostSwapsAtOnce_10 rfl kI_1 ?_
  refine q_iload_n 12 hX 1 dX1_mostSwapsAtOnce_11 rfl rfl rfl ?_
  refine q_ishl 13 hX dX1_mostSwapsAtOnce_12 rfl ?_
  refine q_icmp_ge 16 hX 122 dX1_mostSwapsAtOnce_13 rfl (by decide) (fun hc => ?_) (fun hc => ?_)
  · have hres := it_t hc hres
    exact q_sub [0, 1] rfl (wfX1_mostSwapsAtOnce_122 hX hq hres)
  · have hres := it_f hc hres
    refine q_iload_n 17 hX 2 dX1_mostSwapsAtOnce_16 rfl rfl rfl ?_
    refine q_sipush 20 hX dX1_mostSwapsAtOnce_17 rfl kS_256 ?_
    refine q_icmp_ge 23 hX 122 dX1_mostSwapsAtOnce_20 rfl (by decide) (fun hc => ?_) (fun hc => ?_)
    · have hres := it_t hc hres
      exact q_sub [0, 1] rfl (wfX1_mostSwapsAtOnce_122 hX hq hres)
    · have hres := it_f hc hres
      refine q_iload_n 24 hX 2 dX1_mostSwapsAtOnce_23 rfl rfl rfl ?_
      obtain ⟨r2, S1, hk1, hres⟩ := ob hres
      refine q_callSi 27 (st := []) (As := [.int x2]) hX (cJ6_numberOfTrailingZeros_0f7a49 hX.dj hk1) cs_RX1_50 rfl (by decide) rfl (Nat.le_of_ble_eq_true rfl) dX1_mostSwapsAtOnce_24 rfl ?_
      refine q_istore_n 28 (lv' := [(3, .int r2), (0, .ref (ad X 15)), (1, .int x1), (2, .int x2)]) hX dX1_mostSwapsAtOnce_27 rfl rfl (by decide) rfl ?_
      refine q_iload_n 29 hX 3 dX1_mostSwapsAtOnce_28 rfl rfl rfl ?_
      refine q_iconst 30 hX dX1_mostSwapsAtOnce_29 rfl kI_1 ?_
      refine q_iload_n 31 hX 0 dX1_mostSwapsAtOnce_30 rfl rfl rfl ?_
      refine q_ishl 32 hX dX1_mostSwapsAtOnce_31 rfl ?_
      refine q_iconst 33 hX dX1_mostSwapsAtOnce_32 rfl kI_m1 ?_
      refine q_ixor 34 hX dX1_mostSwapsAtOnce_33 rfl ?_
      refine q_iand 35 hX dX1_mostSwapsAtOnce_34 rfl ?_
      refine q_istoreB 37 (lv0 := [(3, .int r2), (0, .ref (ad X 15)), (1, .int x1), (2, .int x2)]) hX dX1_mostSwapsAtOnce_35 rfl (by decide) rfl hres (fun v3 hres => ?_)
      refine q_aload_n 38 hX 2 dX1_mostSwapsAtOnce_37 rfl rfl rfl ?_
      refine q_getR 41 hX ci1 lf_RX1_15 fR_15_2 dX1_mostSwapsAtOnce_38 rfl ?_
      refine q_iload 43 hX 0 dX1_mostSwapsAtOnce_41 rfl rfl ?_
      obtain ⟨hb4, hres⟩ := gd hres
      refine q_iald 44 hX rfl aF_17 hb4 dX1_mostSwapsAtOnce_43 rfl ?_
      refine q_istoreB 46 (lv0 := [(4, .int v3), (3, .int r2), (0, .ref (ad X 15)), (1, .int x1), (2, .int x2)]) hX dX1_mostSwapsAtOnce_44 rfl (by decide) rfl hres (fun v5 hres => ?_)
      refine q_iload_n 47 hX 2 dX1_mostSwapsAtOnce_46 rfl rfl rfl ?_
      refine q_iconst 48 hX dX1_mostSwapsAtOnce_47 rfl kI_1 ?_
      refine q_iadd 49 hX dX1_mostSwapsAtOnce_48 rfl ?_
      refine q_istoreB 51 (lv0 := [(5, .int v5), (4, .int v3), (3, .int r2), (0, .ref (ad X 15)), (1, .int x1), (2, .int x2)]) hX dX1_mostSwapsAtOnce_49 rfl (by decide) rfl hres (fun v6 hres => ?_)
      exact q_sub [4, 5, 6, 3, 2, 1, 0] rfl (wfX1_mostSwapsAtOnce_51 hX hq hrc9 _ _ _ _ _ _ _ _ hres)
def fX1_mostSwapsAtOnce_9 : Nat → St → Int32 → Int32 → Option (Int32 × St)
  | 0 => fun _ _ _ => none
  | k + 1 => fun S x1 x2 => bX1_mostSwapsAtOnce_9 (fX1_mostSwapsAtOnce_9 k) S x1 x2
theorem wfX1_mostSwapsAtOnce_9 {X : CX} (hX : Ok RX1 cX1_mostSwapsAtOnce (some .int) 0 55 7 X) {rr : Int32 × St} (hq : rs X = (some (.int rr.1), rr.2)) (k : Nat) : ∀ (S : St) (x1 : Int32) (x2 : Int32), fX1_mostSwapsAtOnce_9 k S x1 x2 = some rr → Wat 0 55 3 7 X 9 [(0, .ref (ad X 15)), (1, .int x1), (2, .int x2)] [] S := by
  induction k with
  | zero => intro S x1 x2 hres; exact absurd hres (by simp [fX1_mostSwapsAtOnce_9])
  | succ k ih => intro S x1 x2 hres; exact wbX1_mostSwapsAtOnce_9 hX hq ih hres
def fX1_mostSwapsAtOnce (S : St) (x1 : Int32) : Option (Int32 × St) :=
  bS (pI S 17 0 (0 : Int32)) fun S1 => fX1_mostSwapsAtOnce_9 300 S1 x1 (1 : Int32)
theorem wfX1_mostSwapsAtOnce {X : CX} (hX : Ok RX1 cX1_mostSwapsAtOnce (some .int) 0 55 7 X) {rr : Int32 × St} (hq : rs X = (some (.int rr.1), rr.2)) {S : St} {x1 : Int32} (hres : fX1_mostSwapsAtOnce S x1 = some rr) : Wat 0 55 3 7 X 0 [(0, .ref (ad X 15)), (1, .int x1)] [] S := by
  unfold fX1_mostSwapsAtOnce at hres
  refine q_aload_n 1 hX 0 dX1_mostSwapsAtOnce_0 rfl rfl rfl ?_
  refine q_getR 4 hX ci1 lf_RX1_15 fR_15_2 dX1_mostSwapsAtOnce_1 rfl ?_
  refine q_iconst 5 hX dX1_mostSwapsAtOnce_4 rfl kI_0 ?_
  refine q_iconst 6 hX dX1_mostSwapsAtOnce_5 rfl kI_0 ?_
  refine q_iast 7 hX kU_0 aF_17 kN_0_256 dX1_mostSwapsAtOnce_6 rfl ?_
  refine q_bS hres (fun S1 _ hres => ?_)
  refine q_iconst 8 hX dX1_mostSwapsAtOnce_7 rfl kI_1 ?_
  refine q_istore_n 9 (lv' := [(2, .int (1 : Int32)), (0, .ref (ad X 15)), (1, .int x1)]) hX dX1_mostSwapsAtOnce_8 rfl rfl (by decide) rfl ?_
  exact q_sub [1, 2, 0] rfl (wfX1_mostSwapsAtOnce_9 hX hq _ _ _ _ hres)
theorem cX1_mostSwapsAtOnce9 {l : Launch} {w : WD} (hj : Dj w 0 55) {rr : Int32 × St} {S : St} {x1 : Int32} (hres : fX1_mostSwapsAtOnce S x1 = some rr) : Ct l yX1_mostSwapsAtOnce cX1_mostSwapsAtOnce 7 (some .int) 3 w 0 55 [.ref (w.1 15), .int x1] S (some (.int rr.1), rr.2) := by
  refine Ct.of (lv := [(0, .ref (w.1 15)), (1, .int x1)]) hj (by decide +kernel) (Nat.le_of_ble_eq_true rfl) rfl ?_
  rintro X rfl rfl hq hX
  exact wfX1_mostSwapsAtOnce hX hq hres
def bX1_sell_27 (rc12 : St → Int32 → Int32 → Option (Int32 × St)) (rc27 : St → Int32 → Int32 → Int32 → Int32 → Int32 → Option (Int32 × St)) (S : St) (x1 : Int32) (x2 : Int32) (x3 : Int32) (x4 : Int32) (x5 : Int32) : Option (Int32 × St) :=
  if x1 ≤ x5 then (if inb x2 256 = true then bS (pI S 17 (x2.toNatClampNeg) x4) fun S1 => bV (x2 + (-1 : Int32)) fun v2 => rc12 S1 x1 v2 else none) else (if ((x2 >>> (x5 &&& 31)) &&& (1 : Int32)) = 0 then (bi (fX1_worth S x1 x3 x5) fun r5 S2 => if inb (x2 ||| ((1 : Int32) <<< (x5 &&& 31))) 256 = true then bV ((if x4 < (r5 + (S2.1 17 ((x2 ||| ((1 : Int32) <<< (x5 &&& 31))).toNatClampNeg))) then (r5 + (S2.1 17 ((x2 ||| ((1 : Int32) <<< (x5 &&& 31))).toNatClampNeg))) else x4)) fun v7 => bV (x5 + (1 : Int32)) fun v8 => rc27 S2 x1 x2 x3 v7 v8 else none) else (bV (x5 + (1 : Int32)) fun v3 => rc27 S x1 x2 x3 x4 v3))
theorem wbX1_sell_27 {X : CX} (hX : Ok RX1 cX1_sell (some .int) 0 55 6 X) {rr : Int32 × St} (hq : rs X = (some (.int rr.1), rr.2)) {rc12 : St → Int32 → Int32 → Option (Int32 × St)} (hrc12 : ∀ (S : St) (x1 : Int32) (x2 : Int32), rc12 S x1 x2 = some rr → Wat 0 55 2 6 X 12 [(0, .ref (ad X 15)), (1, .int x1), (2, .int x2)] [] S) {rc27 : St → Int32 → Int32 → Int32 → Int32 → Int32 → Option (Int32 × St)} (hrc27 : ∀ (S : St) (x1 : Int32) (x2 : Int32) (x3 : Int32) (x4 : Int32) (x5 : Int32), rc27 S x1 x2 x3 x4 x5 = some rr → Wat 0 55 2 6 X 27 [(0, .ref (ad X 15)), (1, .int x1), (2, .int x2), (3, .int x3), (4, .int x4), (5, .int x5)] [] S) {S : St} {x1 : Int32} {x2 : Int32} {x3 : Int32} {x4 : Int32} {x5 : Int32} (hres : bX1_sell_27 rc12 rc27 S x1 x2 x3 x4 x5 = some rr) : Wat 0 55 2 6 X 27 [(0, .ref (ad X 15)), (1, .int x1), (2, .int x2), (3, .int x3), (4, .int x4), (5, .int x5)] [] S := by
  unfold bX1_sell_27 at hres
  refine q_iload 29 hX 5 dX1_sell_27 rfl rfl ?_
  refine q_iload_n 30 hX 1 dX1_sell_29 rfl rfl rfl ?_
  refine q_icmp_ge 33 hX 75 dX1_sell_30 rfl (by decide) (fun hc => ?_) (fun hc => ?_)
  · have hres := it_t hc hres
    refine q_aload_n 76 hX 0 dX1_sell_75 rfl rfl rfl ?_
    refine q_getR 79 hX ci1 lf_RX1_15 fR_15_2 dX1_sell_76 rfl ?_
    refine q_iload_n 80 hX 2 dX1_sell_79 rfl rfl rfl ?_
    refine q_iload 82 hX 4 dX1_sell_80 rfl rfl ?_
    obtain ⟨hb1, hres⟩ := gd hres
    refine q_iast 83 hX rfl aF_17 hb1 dX1_sell_82 rfl ?_
    refine q_bS hres (fun S1 _ hres => ?_)
    refine q_iincB 86 2 (lv0 := [(0, .ref (ad X 15)), (1, .int x1), (3, .int x3), (4, .int x4), (5, .int x5)]) hX dX1_sell_83 rfl rfl kI_m1 (by decide) rfl hres (fun v2 hres => ?_)
    refine q_goto 12 hX dX1_sell_86 (by decide) ?_
    exact q_sub [1, 2, 0] rfl (hrc12 _ _ _ hres)
  · have hres := it_f hc hres
    refine q_iload_n 34 hX 2 dX1_sell_33 rfl rfl rfl ?_
    refine q_iload 36 hX 5 dX1_sell_34 rfl rfl ?_
    refine q_ishr 37 hX dX1_sell_36 rfl ?_
    refine q_iconst 38 hX dX1_sell_37 rfl kI_1 ?_
    refine q_iand 39 hX dX1_sell_38 rfl ?_
    refine q_if_ne 42 hX 69 dX1_sell_39 rfl (by decide) (fun hc => ?_) (fun hc => ?_)
    · have hres := it_f hc hres
      refine q_iincB 72 5 (lv0 := [(0, .ref (ad X 15)), (1, .int x1), (2, .int x2), (3, .int x3), (4, .int x4)]) hX dX1_sell_69 rfl rfl kI_1 (by decide) rfl hres (fun v3 hres => ?_)
      refine q_goto 27 hX dX1_sell_72 (by decide) ?_
      exact q_sub [1, 2, 3, 4, 5, 0] rfl (hrc27 _ _ _ _ _ _ hres)
    · have hres := it_t hc hres
      refine q_iload 44 hX 4 dX1_sell_42 rfl rfl ?_
      refine q_aload_n 45 hX 0 dX1_sell_44 rfl rfl rfl ?_
      refine q_iload_n 46 hX 1 dX1_sell_45 rfl rfl rfl ?_
      refine q_iload_n 47 hX 3 dX1_sell_46 rfl rfl rfl ?_
      refine q_iload 49 hX 5 dX1_sell_47 rfl rfl ?_
      obtain ⟨r5, S2, hk4, hres⟩ := ob hres
      refine q_callVi 52 (st := [.int x4]) (As := [.int x1, .int x3, .int x5]) hX (cX1_worth9 hX.dj hk4) cv_RX1_42 ci1 oB_15 rfl (by decide) rfl (Nat.le_of_ble_eq_true rfl) dX1_sell_49 rfl ?_
      refine q_aload_n 53 hX 0 dX1_sell_52 rfl rfl rfl ?_
      refine q_getR 56 hX ci1 lf_RX1_15 fR_15_2 dX1_sell_53 rfl ?_
      refine q_iload_n 57 hX 2 dX1_sell_56 rfl rfl rfl ?_
      refine q_iconst 58 hX dX1_sell_57 rfl kI_1 ?_
      refine q_iload 60 hX 5 dX1_sell_58 rfl rfl ?_
      refine q_ishl 61 hX dX1_sell_60 rfl ?_
      refine q_ior 62 hX dX1_sell_61 rfl ?_
      obtain ⟨hb6, hres⟩ := gd hres
      refine q_iald 63 hX rfl aF_17 hb6 dX1_sell_62 rfl ?_
      refine q_iadd 64 hX dX1_sell_63 rfl ?_
      refine q_max 67 hX mw_RX1_36 (by decide) (Nat.le_of_ble_eq_true rfl) dX1_sell_64 rfl ?_
      refine q_istoreB 69 (lv0 := [(0, .ref (ad X 15)), (1, .int x1), (2, .int x2), (3, .int x3), (5, .int x5)]) hX dX1_sell_67 rfl (by decide) rfl hres (fun v7 hres => ?_)
      refine q_iincB 72 5 (lv0 := [(4, .int v7), (0, .ref (ad X 15)), (1, .int x1), (2, .int x2), (3, .int x3)]) hX dX1_sell_69 rfl rfl kI_1 (by decide) rfl hres (fun v8 hres => ?_)
      refine q_goto 27 hX dX1_sell_72 (by decide) ?_
      exact q_sub [2, 3, 4, 5, 1, 0] rfl (hrc27 _ _ _ _ _ _ hres)
def fX1_sell_27 (rc12 : St → Int32 → Int32 → Option (Int32 × St)) : Nat → St → Int32 → Int32 → Int32 → Int32 → Int32 → Option (Int32 × St)
  | 0 => fun _ _ _ _ _ _ => none
  | k + 1 => fun S x1 x2 x3 x4 x5 => bX1_sell_27 rc12 (fX1_sell_27 rc12 k) S x1 x2 x3 x4 x5
theorem wfX1_sell_27 {X : CX} (hX : Ok RX1 cX1_sell (some .int) 0 55 6 X) {rr : Int32 × St} (hq : rs X = (some (.int rr.1), rr.2)) {rc12 : St → Int32 → Int32 → Option (Int32 × St)} (hrc12 : ∀ (S : St) (x1 : Int32) (x2 : Int32), rc12 S x1 x2 = some rr → Wat 0 55 2 6 X 12 [(0, .ref (ad X 15)), (1, .int x1), (2, .int x2)] [] S) (k : Nat) : ∀ (S : St) (x1 : Int32) (x2 : Int32) (x3 : Int32) (x4 : Int32) (x5 : Int32), fX1_sell_27 rc12 k S x1 x2 x3 x4 x5 = some rr → Wat 0 55 2 6 X 27 [(0, .ref (ad X 15)), (1, .int x1), (2, .int x2), (3, .int x3), (4, .int x4), (5, .int x5)] [] S := by
  induction k with
  | zero => intro S x1 x2 x3 x4 x5 hres; exact absurd hres (by simp [fX1_sell_27])
  | succ k ih => intro S x1 x2 x3 x4 x5 hres; exact wbX1_sell_27 hX hq hrc12 ih hres
def bX1_sell_12 (rc12 : St → Int32 → Int32 → Option (Int32 × St)) (S : St) (x1 : Int32) (x2 : Int32) : Option (Int32 × St) :=
  if x2 < 0 then (some ((S.1 17 0), S)) else (bi (fJ6_bitCount_0f7a4 S x2) fun r2 S1 => fX1_sell_27 rc12 300 S1 x1 x2 r2 (0 : Int32) (0 : Int32))
theorem wbX1_sell_12 {X : CX} (hX : Ok RX1 cX1_sell (some .int) 0 55 6 X) {rr : Int32 × St} (hq : rs X = (some (.int rr.1), rr.2)) {rc12 : St → Int32 → Int32 → Option (Int32 × St)} (hrc12 : ∀ (S : St) (x1 : Int32) (x2 : Int32), rc12 S x1 x2 = some rr → Wat 0 55 2 6 X 12 [(0, .ref (ad X 15)), (1, .int x1), (2, .int x2)] [] S) {S : St} {x1 : Int32} {x2 : Int32} (hres : bX1_sell_12 rc12 S x1 x2 = some rr) : Wat 0 55 2 6 X 12 [(0, .ref (ad X 15)), (1, .int x1), (2, .int x2)] [] S := by
  unfold bX1_sell_12 at hres
  refine q_iload_n 13 hX 2 dX1_sell_12 rfl rfl rfl ?_
  refine q_if_lt 16 hX 89 dX1_sell_13 rfl (by decide) (fun hc => ?_) (fun hc => ?_)
  · have hres := it_t hc hres
    refine q_aload_n 90 hX 0 dX1_sell_89 rfl rfl rfl ?_
    refine q_getR 93 hX ci1 lf_RX1_15 fR_15_2 dX1_sell_90 rfl ?_
    refine q_iconst 94 hX dX1_sell_93 rfl kI_0 ?_
    refine q_iald 95 hX kU_0 aF_17 kN_0_256 dX1_sell_94 rfl ?_
    exact q_iret hX (eqi hq hres) dX1_sell_95
  · have hres := it_f hc hres
    refine q_iload_n 17 hX 2 dX1_sell_16 rfl rfl rfl ?_
    obtain ⟨r2, S1, hk1, hres⟩ := ob hres
    refine q_callSi 20 (st := []) (As := [.int x2]) hX (cJ6_bitCount_0f7a49 hX.dj hk1) cs_RX1_58 rfl (by decide) rfl (Nat.le_of_ble_eq_true rfl) dX1_sell_17 rfl ?_
    refine q_istore_n 21 (lv' := [(3, .int r2), (0, .ref (ad X 15)), (1, .int x1), (2, .int x2)]) hX dX1_sell_20 rfl rfl (by decide) rfl ?_
    refine q_iconst 22 hX dX1_sell_21 rfl kI_0 ?_
    refine q_istore 24 (lv' := [(4, .int (0 : Int32)), (3, .int r2), (0, .ref (ad X 15)), (1, .int x1), (2, .int x2)]) hX dX1_sell_22 rfl (by decide) rfl ?_
    refine q_iconst 25 hX dX1_sell_24 rfl kI_0 ?_
    refine q_istore 27 (lv' := [(5, .int (0 : Int32)), (4, .int (0 : Int32)), (3, .int r2), (0, .ref (ad X 15)), (1, .int x1), (2, .int x2)]) hX dX1_sell_25 rfl (by decide) rfl ?_
    exact q_sub [3, 4, 5, 2, 1, 0] rfl (wfX1_sell_27 hX hq hrc12 _ _ _ _ _ _ _ hres)
def fX1_sell_12 : Nat → St → Int32 → Int32 → Option (Int32 × St)
  | 0 => fun _ _ _ => none
  | k + 1 => fun S x1 x2 => bX1_sell_12 (fX1_sell_12 k) S x1 x2
theorem wfX1_sell_12 {X : CX} (hX : Ok RX1 cX1_sell (some .int) 0 55 6 X) {rr : Int32 × St} (hq : rs X = (some (.int rr.1), rr.2)) (k : Nat) : ∀ (S : St) (x1 : Int32) (x2 : Int32), fX1_sell_12 k S x1 x2 = some rr → Wat 0 55 2 6 X 12 [(0, .ref (ad X 15)), (1, .int x1), (2, .int x2)] [] S := by
  induction k with
  | zero => intro S x1 x2 hres; exact absurd hres (by simp [fX1_sell_12])
  | succ k ih => intro S x1 x2 hres; exact wbX1_sell_12 hX hq ih hres
def fX1_sell (S : St) (x1 : Int32) : Option (Int32 × St) :=
  bV (((if (256 : Int32) < ((1 : Int32) <<< (x1 &&& 31)) then (256 : Int32) else ((1 : Int32) <<< (x1 &&& 31))) - (1 : Int32))) fun v1 => fX1_sell_12 300 S x1 v1
theorem wfX1_sell {X : CX} (hX : Ok RX1 cX1_sell (some .int) 0 55 6 X) {rr : Int32 × St} (hq : rs X = (some (.int rr.1), rr.2)) {S : St} {x1 : Int32} (hres : fX1_sell S x1 = some rr) : Wat 0 55 2 6 X 0 [(0, .ref (ad X 15)), (1, .int x1)] [] S := by
  unfold fX1_sell at hres
  refine q_iconst 1 hX dX1_sell_0 rfl kI_1 ?_
  refine q_iload_n 2 hX 1 dX1_sell_1 rfl rfl rfl ?_
  refine q_ishl 3 hX dX1_sell_2 rfl ?_
  refine q_sipush 6 hX dX1_sell_3 rfl kS_256 ?_
  refine q_min 9 hX mw_RX1_55 (by decide) (Nat.le_of_ble_eq_true rfl) dX1_sell_6 rfl ?_
  refine q_iconst 10 hX dX1_sell_9 rfl kI_1 ?_
  refine q_isub 11 hX dX1_sell_10 rfl ?_
  refine q_istoreB_n 12 (lv0 := [(0, .ref (ad X 15)), (1, .int x1)]) hX dX1_sell_11 rfl rfl (by decide) rfl hres (fun v1 hres => ?_)
  exact q_sub [1, 2, 0] rfl (wfX1_sell_12 hX hq _ _ _ _ hres)
theorem cX1_sell9 {l : Launch} {w : WD} (hj : Dj w 0 55) {rr : Int32 × St} {S : St} {x1 : Int32} (hres : fX1_sell S x1 = some rr) : Ct l yX1_sell cX1_sell 6 (some .int) 2 w 0 55 [.ref (w.1 15), .int x1] S (some (.int rr.1), rr.2) := by
  refine Ct.of (lv := [(0, .ref (w.1 15)), (1, .int x1)]) hj (by decide +kernel) (Nat.le_of_ble_eq_true rfl) rfl ?_
  rintro X rfl rfl hq hX
  exact wfX1_sell hX hq hres
def fX1_turnOf_30 (rc3 : St → Int32 → Int32 → Int32 → Int32 → Option (Int32 × St)) (S : St) (x1 : Int32) (x2 : Int32) (x3 : Int32) (x4 : Int32) (s0 : Int32) : Option (Int32 × St) :=
  if s0 = 0 then (bV (x4 + (1 : Int32)) fun v1 => rc3 S x1 x2 x3 v1) else (bi (fX1_worth S x3 x1 x4) fun r3 S1 => if inb (x2 ||| ((1 : Int32) <<< (x4 &&& 31))) 256 = true then if inb x2 256 = true then if (r3 + (S1.1 17 ((x2 ||| ((1 : Int32) <<< (x4 &&& 31))).toNatClampNeg))) = (S1.1 17 (x2.toNatClampNeg)) then (some (x4, S1)) else (bV (x4 + (1 : Int32)) fun v6 => rc3 S1 x1 x2 x3 v6) else none else none)
theorem wfX1_turnOf_30 {X : CX} (hX : Ok RX1 cX1_turnOf (some .int) 0 55 6 X) {rr : Int32 × St} (hq : rs X = (some (.int rr.1), rr.2)) {rc3 : St → Int32 → Int32 → Int32 → Int32 → Option (Int32 × St)} (hrc3 : ∀ (S : St) (x1 : Int32) (x2 : Int32) (x3 : Int32) (x4 : Int32), rc3 S x1 x2 x3 x4 = some rr → Wat 0 55 2 6 X 3 [(0, .ref (ad X 15)), (1, .int x1), (2, .int x2), (3, .int x3), (4, .int x4)] [] S) {S : St} {x1 : Int32} {x2 : Int32} {x3 : Int32} {x4 : Int32} {s0 : Int32} (hres : fX1_turnOf_30 rc3 S x1 x2 x3 x4 s0 = some rr) : Wat 0 55 2 6 X 30 [(0, .ref (ad X 15)), (1, .int x1), (2, .int x2), (3, .int x3), (4, .int x4)] [.int s0] S := by
  unfold fX1_turnOf_30 at hres
  refine q_istore 32 (lv' := [(5, .int s0), (0, .ref (ad X 15)), (1, .int x1), (2, .int x2), (3, .int x3), (4, .int x4)]) hX dX1_turnOf_30 rfl (by decide) rfl ?_
  refine q_iload 34 hX 0 dX1_turnOf_32 rfl rfl ?_
  refine q_if_eq 37 hX 69 dX1_turnOf_34 rfl (by decide) (fun hc => ?_) (fun hc => ?_)
  · have hres := it_t hc hres
    refine q_iincB 72 5 (lv0 := [(5, .int s0), (0, .ref (ad X 15)), (1, .int x1), (2, .int x2), (3, .int x3)]) hX dX1_turnOf_69 rfl rfl kI_1 (by decide) rfl hres (fun v1 hres => ?_)
    refine q_goto 3 hX dX1_turnOf_72 (by decide) ?_
    exact q_sub [2, 3, 4, 5, 0] rfl (hrc3 _ _ _ _ _ hres)
  · have hres := it_f hc hres
    refine q_aload_n 38 hX 1 dX1_turnOf_37 rfl rfl rfl ?_
    refine q_iload_n 39 hX 4 dX1_turnOf_38 rfl rfl rfl ?_
    refine q_iload_n 40 hX 2 dX1_turnOf_39 rfl rfl rfl ?_
    refine q_iload 42 hX 5 dX1_turnOf_40 rfl rfl ?_
    obtain ⟨r3, S1, hk2, hres⟩ := ob hres
    refine q_callVi 45 (st := []) (As := [.int x3, .int x1, .int x4]) hX (cX1_worth9 hX.dj hk2) cv_RX1_42 ci1 oB_15 rfl (by decide) rfl (Nat.le_of_ble_eq_true rfl) dX1_turnOf_42 rfl ?_
    refine q_aload_n 46 hX 1 dX1_turnOf_45 rfl rfl rfl ?_
    refine q_getR 49 hX ci1 lf_RX1_15 fR_15_2 dX1_turnOf_46 rfl ?_
    refine q_iload_n 50 hX 3 dX1_turnOf_49 rfl rfl rfl ?_
    refine q_iconst 51 hX dX1_turnOf_50 rfl kI_1 ?_
    refine q_iload 53 hX 5 dX1_turnOf_51 rfl rfl ?_
    refine q_ishl 54 hX dX1_turnOf_53 rfl ?_
    refine q_ior 55 hX dX1_turnOf_54 rfl ?_
    obtain ⟨hb4, hres⟩ := gd hres
    refine q_iald 56 hX rfl aF_17 hb4 dX1_turnOf_55 rfl ?_
    refine q_iadd 57 hX dX1_turnOf_56 rfl ?_
    refine q_aload_n 58 hX 1 dX1_turnOf_57 rfl rfl rfl ?_
    refine q_getR 61 hX ci1 lf_RX1_15 fR_15_2 dX1_turnOf_58 rfl ?_
    refine q_iload_n 62 hX 3 dX1_turnOf_61 rfl rfl rfl ?_
    obtain ⟨hb5, hres⟩ := gd hres
    refine q_iald 63 hX rfl aF_17 hb5 dX1_turnOf_62 rfl ?_
    refine q_icmp_ne 66 hX 69 dX1_turnOf_63 rfl (by decide) (fun hc => ?_) (fun hc => ?_)
    · have hres := it_f hc hres
      refine q_iincB 72 5 (lv0 := [(5, .int s0), (0, .ref (ad X 15)), (1, .int x1), (2, .int x2), (3, .int x3)]) hX dX1_turnOf_69 rfl rfl kI_1 (by decide) rfl hres (fun v6 hres => ?_)
      refine q_goto 3 hX dX1_turnOf_72 (by decide) ?_
      exact q_sub [2, 3, 4, 5, 0] rfl (hrc3 _ _ _ _ _ hres)
    · have hres := it_t hc hres
      refine q_iload 68 hX 5 dX1_turnOf_66 rfl rfl ?_
      exact q_iret hX (eqi hq hres) dX1_turnOf_68
def bX1_turnOf_3 (rc3 : St → Int32 → Int32 → Int32 → Int32 → Option (Int32 × St)) (S : St) (x1 : Int32) (x2 : Int32) (x3 : Int32) (x4 : Int32) : Option (Int32 × St) :=
  if x3 ≤ x4 then (some ((0 : Int32), S)) else (if (256 : Int32) ≤ x2 then (some ((0 : Int32), S)) else (if ((x2 >>> (x4 &&& 31)) &&& (1 : Int32)) = 0 then (fX1_turnOf_30 rc3 S x1 x2 x3 x4 (1 : Int32)) else (fX1_turnOf_30 rc3 S x1 x2 x3 x4 (0 : Int32))))
theorem wbX1_turnOf_3 {X : CX} (hX : Ok RX1 cX1_turnOf (some .int) 0 55 6 X) {rr : Int32 × St} (hq : rs X = (some (.int rr.1), rr.2)) {rc3 : St → Int32 → Int32 → Int32 → Int32 → Option (Int32 × St)} (hrc3 : ∀ (S : St) (x1 : Int32) (x2 : Int32) (x3 : Int32) (x4 : Int32), rc3 S x1 x2 x3 x4 = some rr → Wat 0 55 2 6 X 3 [(0, .ref (ad X 15)), (1, .int x1), (2, .int x2), (3, .int x3), (4, .int x4)] [] S) {S : St} {x1 : Int32} {x2 : Int32} {x3 : Int32} {x4 : Int32} (hres : bX1_turnOf_3 rc3 S x1 x2 x3 x4 = some rr) : Wat 0 55 2 6 X 3 [(0, .ref (ad X 15)), (1, .int x1), (2, .int x2), (3, .int x3), (4, .int x4)] [] S := by
  unfold bX1_turnOf_3 at hres
  refine q_iload 5 hX 4 dX1_turnOf_3 rfl rfl ?_
  refine q_iload_n 6 hX 3 dX1_turnOf_5 rfl rfl rfl ?_
  refine q_icmp_ge 9 hX 75 dX1_turnOf_6 rfl (by decide) (fun hc => ?_) (fun hc => ?_)
  · have hres := it_t hc hres
    refine q_iconst 76 hX dX1_turnOf_75 rfl kI_0 ?_
    exact q_iret hX (eqi hq hres) dX1_turnOf_76
  · have hres := it_f hc hres
    refine q_iload_n 10 hX 2 dX1_turnOf_9 rfl rfl rfl ?_
    refine q_sipush 13 hX dX1_turnOf_10 rfl kS_256 ?_
    refine q_icmp_ge 16 hX 75 dX1_turnOf_13 rfl (by decide) (fun hc => ?_) (fun hc => ?_)
    · have hres := it_t hc hres
      refine q_iconst 76 hX dX1_turnOf_75 rfl kI_0 ?_
      exact q_iret hX (eqi hq hres) dX1_turnOf_76
    · have hres := it_f hc hres
      refine q_iload_n 17 hX 2 dX1_turnOf_16 rfl rfl rfl ?_
      refine q_iload 19 hX 4 dX1_turnOf_17 rfl rfl ?_
      refine q_ishr 20 hX dX1_turnOf_19 rfl ?_
      refine q_iconst 21 hX dX1_turnOf_20 rfl kI_1 ?_
      refine q_iand 22 hX dX1_turnOf_21 rfl ?_
      refine q_if_ne 25 hX 29 dX1_turnOf_22 rfl (by decide) (fun hc => ?_) (fun hc => ?_)
      · have hres := it_f hc hres
        refine q_iconst 30 hX dX1_turnOf_29 rfl kI_0 ?_
        exact q_sub [0, 1, 2, 3, 4] rfl (wfX1_turnOf_30 hX hq hrc3 hres)
      · have hres := it_t hc hres
        refine q_iconst 26 hX dX1_turnOf_25 rfl kI_1 ?_
        refine q_goto 30 hX dX1_turnOf_26 (by decide) ?_
        exact q_sub [0, 1, 2, 3, 4] rfl (wfX1_turnOf_30 hX hq hrc3 hres)
def fX1_turnOf_3 : Nat → St → Int32 → Int32 → Int32 → Int32 → Option (Int32 × St)
  | 0 => fun _ _ _ _ _ => none
  | k + 1 => fun S x1 x2 x3 x4 => bX1_turnOf_3 (fX1_turnOf_3 k) S x1 x2 x3 x4
theorem wfX1_turnOf_3 {X : CX} (hX : Ok RX1 cX1_turnOf (some .int) 0 55 6 X) {rr : Int32 × St} (hq : rs X = (some (.int rr.1), rr.2)) (k : Nat) : ∀ (S : St) (x1 : Int32) (x2 : Int32) (x3 : Int32) (x4 : Int32), fX1_turnOf_3 k S x1 x2 x3 x4 = some rr → Wat 0 55 2 6 X 3 [(0, .ref (ad X 15)), (1, .int x1), (2, .int x2), (3, .int x3), (4, .int x4)] [] S := by
  induction k with
  | zero => intro S x1 x2 x3 x4 hres; exact absurd hres (by simp [fX1_turnOf_3])
  | succ k ih => intro S x1 x2 x3 x4 hres; exact wbX1_turnOf_3 hX hq ih hres
def fX1_turnOf (S : St) (x1 : Int32) (x2 : Int32) (x3 : Int32) : Option (Int32 × St) :=
  fX1_turnOf_3 100 S x1 x2 x3 (0 : Int32)
theorem wfX1_turnOf {X : CX} (hX : Ok RX1 cX1_turnOf (some .int) 0 55 6 X) {rr : Int32 × St} (hq : rs X = (some (.int rr.1), rr.2)) {S : St} {x1 : Int32} {x2 : Int32} {x3 : Int32} (hres : fX1_turnOf S x1 x2 x3 = some rr) : Wat 0 55 2 6 X 0 [(0, .ref (ad X 15)), (1, .int x1), (2, .int x2), (3, .int x3)] [] S := by
  unfold fX1_turnOf at hres
  refine q_iconst 1 hX dX1_turnOf_0 rfl kI_0 ?_
  refine q_istore 3 (lv' := [(4, .int (0 : Int32)), (0, .ref (ad X 15)), (1, .int x1), (2, .int x2), (3, .int x3)]) hX dX1_turnOf_1 rfl (by decide) rfl ?_
  exact q_sub [1, 2, 3, 4, 0] rfl (wfX1_turnOf_3 hX hq _ _ _ _ _ _ hres)
theorem cX1_turnOf9 {l : Launch} {w : WD} (hj : Dj w 0 55) {rr : Int32 × St} {S : St} {x1 : Int32} {x2 : Int32} {x3 : Int32} (hres : fX1_turnOf S x1 x2 x3 = some rr) : Ct l yX1_turnOf cX1_turnOf 6 (some .int) 2 w 0 55 [.ref (w.1 15), .int x1, .int x2, .int x3] S (some (.int rr.1), rr.2) := by
  refine Ct.of (lv := [(0, .ref (w.1 15)), (1, .int x1), (2, .int x2), (3, .int x3)]) hj (by decide +kernel) (Nat.le_of_ble_eq_true rfl) rfl ?_
  rintro X rfl rfl hq hX
  exact wfX1_turnOf hX hq hres
def bX1_buyerOf_5 (rc5 : St → Int32 → Int32 → Int32 → Int32 → Option (Int32 × St)) (S : St) (x1 : Int32) (x2 : Int32) (x3 : Int32) (x4 : Int32) : Option (Int32 × St) :=
  if x2 ≤ x4 then (some ((-1 : Int32), S)) else (bi (fX1_turnOf S x4 x3 x2) fun r2 S1 => if r2 = x1 then (some (x4, S1)) else (bV ((x3 ||| ((1 : Int32) <<< (r2 &&& 31)))) fun v3 => bV (x4 + (1 : Int32)) fun v4 => rc5 S1 x1 x2 v3 v4))
theorem wbX1_buyerOf_5 {X : CX} (hX : Ok RX1 cX1_buyerOf (some .int) 0 55 6 X) {rr : Int32 × St} (hq : rs X = (some (.int rr.1), rr.2)) {rc5 : St → Int32 → Int32 → Int32 → Int32 → Option (Int32 × St)} (hrc5 : ∀ (S : St) (x1 : Int32) (x2 : Int32) (x3 : Int32) (x4 : Int32), rc5 S x1 x2 x3 x4 = some rr → Wat 0 55 3 6 X 5 [(0, .ref (ad X 15)), (1, .int x1), (2, .int x2), (3, .int x3), (4, .int x4)] [] S) {S : St} {x1 : Int32} {x2 : Int32} {x3 : Int32} {x4 : Int32} (hres : bX1_buyerOf_5 rc5 S x1 x2 x3 x4 = some rr) : Wat 0 55 3 6 X 5 [(0, .ref (ad X 15)), (1, .int x1), (2, .int x2), (3, .int x3), (4, .int x4)] [] S := by
  unfold bX1_buyerOf_5 at hres
  refine q_iload 7 hX 4 dX1_buyerOf_5 rfl rfl ?_
  refine q_iload_n 8 hX 2 dX1_buyerOf_7 rfl rfl rfl ?_
  refine q_icmp_ge 11 hX 43 dX1_buyerOf_8 rfl (by decide) (fun hc => ?_) (fun hc => ?_)
  · have hres := it_t hc hres
    refine q_iconst 44 hX dX1_buyerOf_43 rfl kI_m1 ?_
    exact q_iret hX (eqi hq hres) dX1_buyerOf_44
  · have hres := it_f hc hres
    refine q_aload_n 12 hX 0 dX1_buyerOf_11 rfl rfl rfl ?_
    refine q_iload 14 hX 4 dX1_buyerOf_12 rfl rfl ?_
    refine q_iload_n 15 hX 3 dX1_buyerOf_14 rfl rfl rfl ?_
    refine q_iload_n 16 hX 2 dX1_buyerOf_15 rfl rfl rfl ?_
    obtain ⟨r2, S1, hk1, hres⟩ := ob hres
    refine q_callVi 19 (st := []) (As := [.int x4, .int x3, .int x2]) hX (cX1_turnOf9 hX.dj hk1) cv_RX1_61 ci1 oB_15 rfl (by decide) rfl (Nat.le_of_ble_eq_true rfl) dX1_buyerOf_16 rfl ?_
    refine q_istore 21 (lv' := [(5, .int r2), (0, .ref (ad X 15)), (1, .int x1), (2, .int x2), (3, .int x3), (4, .int x4)]) hX dX1_buyerOf_19 rfl (by decide) rfl ?_
    refine q_iload 23 hX 0 dX1_buyerOf_21 rfl rfl ?_
    refine q_iload_n 24 hX 2 dX1_buyerOf_23 rfl rfl rfl ?_
    refine q_icmp_ne 27 hX 30 dX1_buyerOf_24 rfl (by decide) (fun hc => ?_) (fun hc => ?_)
    · have hres := it_f hc hres
      refine q_iload_n 31 hX 4 dX1_buyerOf_30 rfl rfl rfl ?_
      refine q_iconst 32 hX dX1_buyerOf_31 rfl kI_1 ?_
      refine q_iload 34 hX 0 dX1_buyerOf_32 rfl rfl ?_
      refine q_ishl 35 hX dX1_buyerOf_34 rfl ?_
      refine q_ior 36 hX dX1_buyerOf_35 rfl ?_
      refine q_istoreB_n 37 (lv0 := [(5, .int r2), (0, .ref (ad X 15)), (1, .int x1), (2, .int x2), (4, .int x4)]) hX dX1_buyerOf_36 rfl rfl (by decide) rfl hres (fun v3 hres => ?_)
      refine q_iincB 40 5 (lv0 := [(3, .int v3), (5, .int r2), (0, .ref (ad X 15)), (1, .int x1), (2, .int x2)]) hX dX1_buyerOf_37 rfl rfl kI_1 (by decide) rfl hres (fun v4 hres => ?_)
      refine q_goto 5 hX dX1_buyerOf_40 (by decide) ?_
      exact q_sub [3, 4, 5, 1, 0] rfl (hrc5 _ _ _ _ _ hres)
    · have hres := it_t hc hres
      refine q_iload 29 hX 5 dX1_buyerOf_27 rfl rfl ?_
      exact q_iret hX (eqi hq hres) dX1_buyerOf_29
def fX1_buyerOf_5 : Nat → St → Int32 → Int32 → Int32 → Int32 → Option (Int32 × St)
  | 0 => fun _ _ _ _ _ => none
  | k + 1 => fun S x1 x2 x3 x4 => bX1_buyerOf_5 (fX1_buyerOf_5 k) S x1 x2 x3 x4
theorem wfX1_buyerOf_5 {X : CX} (hX : Ok RX1 cX1_buyerOf (some .int) 0 55 6 X) {rr : Int32 × St} (hq : rs X = (some (.int rr.1), rr.2)) (k : Nat) : ∀ (S : St) (x1 : Int32) (x2 : Int32) (x3 : Int32) (x4 : Int32), fX1_buyerOf_5 k S x1 x2 x3 x4 = some rr → Wat 0 55 3 6 X 5 [(0, .ref (ad X 15)), (1, .int x1), (2, .int x2), (3, .int x3), (4, .int x4)] [] S := by
  induction k with
  | zero => intro S x1 x2 x3 x4 hres; exact absurd hres (by simp [fX1_buyerOf_5])
  | succ k ih => intro S x1 x2 x3 x4 hres; exact wbX1_buyerOf_5 hX hq ih hres
def fX1_buyerOf (S : St) (x1 : Int32) (x2 : Int32) : Option (Int32 × St) :=
  fX1_buyerOf_5 100 S x1 x2 (0 : Int32) (0 : Int32)
theorem wfX1_buyerOf {X : CX} (hX : Ok RX1 cX1_buyerOf (some .int) 0 55 6 X) {rr : Int32 × St} (hq : rs X = (some (.int rr.1), rr.2)) {S : St} {x1 : Int32} {x2 : Int32} (hres : fX1_buyerOf S x1 x2 = some rr) : Wat 0 55 3 6 X 0 [(0, .ref (ad X 15)), (1, .int x1), (2, .int x2)] [] S := by
  unfold fX1_buyerOf at hres
  refine q_iconst 1 hX dX1_buyerOf_0 rfl kI_0 ?_
  refine q_istore_n 2 (lv' := [(3, .int (0 : Int32)), (0, .ref (ad X 15)), (1, .int x1), (2, .int x2)]) hX dX1_buyerOf_1 rfl rfl (by decide) rfl ?_
  refine q_iconst 3 hX dX1_buyerOf_2 rfl kI_0 ?_
  refine q_istore 5 (lv' := [(4, .int (0 : Int32)), (3, .int (0 : Int32)), (0, .ref (ad X 15)), (1, .int x1), (2, .int x2)]) hX dX1_buyerOf_3 rfl (by decide) rfl ?_
  exact q_sub [2, 3, 4, 1, 0] rfl (wfX1_buyerOf_5 hX hq _ _ _ _ _ _ hres)
theorem cX1_buyerOf9 {l : Launch} {w : WD} (hj : Dj w 0 55) {rr : Int32 × St} {S : St} {x1 : Int32} {x2 : Int32} (hres : fX1_buyerOf S x1 x2 = some rr) : Ct l yX1_buyerOf cX1_buyerOf 6 (some .int) 3 w 0 55 [.ref (w.1 15), .int x1, .int x2] S (some (.int rr.1), rr.2) := by
  refine Ct.of (lv := [(0, .ref (w.1 15)), (1, .int x1), (2, .int x2)]) hj (by decide +kernel) (Nat.le_of_ble_eq_true rfl) rfl ?_
  rintro X rfl rfl hq hX
  exact wfX1_buyerOf hX hq hres
def bX1_rotasOf_56 (rc48 : St → Int32 → Int32 → Option (Int64 × St)) (rc56 : St → Int32 → Int32 → Int32 → Option (Int64 × St)) (S : St) (x1 : Int32) (x2 : Int32) (x3 : Int32) : Option (Int64 × St) :=
  if x3 < (1 : Int32) then (bV (x2 + (1 : Int32)) fun v1 => rc48 S x1 v1) else (if inb x3 13 = true then if inb (x3 - (1 : Int32)) 13 = true then if inb x3 13 = true then bS (pL S 18 (x3.toNatClampNeg) (((S.2.1 18 (x3.toNatClampNeg)) * ((x3 - (1 : Int32)).toInt64)) + ((S.2.1 18 ((x3 - (1 : Int32)).toNatClampNeg)) * (((x1 - x3) + (1 : Int32)).toInt64)))) fun S1 => bV (x3 + (-1 : Int32)) fun v5 => rc56 S1 x1 x2 v5 else none else none else none)
theorem wbX1_rotasOf_56 {X : CX} (hX : Ok RX1 cX1_rotasOf (some .long) 0 55 4 X) {rr : Int64 × St} (hq : rs X = (some (.long rr.1), rr.2)) {rc48 : St → Int32 → Int32 → Option (Int64 × St)} (hrc48 : ∀ (S : St) (x1 : Int32) (x2 : Int32), rc48 S x1 x2 = some rr → Wat 0 55 0 4 X 48 [(0, .ref (ad X 15)), (1, .int x1), (2, .int x2)] [] S) {rc56 : St → Int32 → Int32 → Int32 → Option (Int64 × St)} (hrc56 : ∀ (S : St) (x1 : Int32) (x2 : Int32) (x3 : Int32), rc56 S x1 x2 x3 = some rr → Wat 0 55 0 4 X 56 [(0, .ref (ad X 15)), (1, .int x1), (2, .int x2), (3, .int x3)] [] S) {S : St} {x1 : Int32} {x2 : Int32} {x3 : Int32} (hres : bX1_rotasOf_56 rc48 rc56 S x1 x2 x3 = some rr) : Wat 0 55 0 4 X 56 [(0, .ref (ad X 15)), (1, .int x1), (2, .int x2), (3, .int x3)] [] S := by
  unfold bX1_rotasOf_56 at hres
  refine q_iload_n 57 hX 3 dX1_rotasOf_56 rfl rfl rfl ?_
  refine q_iconst 58 hX dX1_rotasOf_57 rfl kI_1 ?_
  refine q_icmp_lt 61 hX 100 dX1_rotasOf_58 rfl (by decide) (fun hc => ?_) (fun hc => ?_)
  · have hres := it_t hc hres
    refine q_iincB 103 2 (lv0 := [(0, .ref (ad X 15)), (1, .int x1), (3, .int x3)]) hX dX1_rotasOf_100 rfl rfl kI_1 (by decide) rfl hres (fun v1 hres => ?_)
    refine q_goto 48 hX dX1_rotasOf_103 (by decide) ?_
    exact q_sub [1, 2, 0] rfl (hrc48 _ _ _ hres)
  · have hres := it_f hc hres
    refine q_aload_n 62 hX 0 dX1_rotasOf_61 rfl rfl rfl ?_
    refine q_getR 65 hX ci1 lf_RX1_18 fR_15_3 dX1_rotasOf_62 rfl ?_
    refine q_iload_n 66 hX 3 dX1_rotasOf_65 rfl rfl rfl ?_
    refine q_aload_n 67 hX 0 dX1_rotasOf_66 rfl rfl rfl ?_
    refine q_getR 70 hX ci1 lf_RX1_18 fR_15_3 dX1_rotasOf_67 rfl ?_
    refine q_iload_n 71 hX 3 dX1_rotasOf_70 rfl rfl rfl ?_
    obtain ⟨hb2, hres⟩ := gd hres
    refine q_lald 72 hX rfl aF_18 hb2 dX1_rotasOf_71 rfl ?_
    refine q_iload_n 73 hX 3 dX1_rotasOf_72 rfl rfl rfl ?_
    refine q_iconst 74 hX dX1_rotasOf_73 rfl kI_1 ?_
    refine q_isub 75 hX dX1_rotasOf_74 rfl ?_
    refine q_i2l 76 hX dX1_rotasOf_75 rfl ?_
    refine q_lmul 77 hX dX1_rotasOf_76 rfl ?_
    refine q_aload_n 78 hX 0 dX1_rotasOf_77 rfl rfl rfl ?_
    refine q_getR 81 hX ci1 lf_RX1_18 fR_15_3 dX1_rotasOf_78 rfl ?_
    refine q_iload_n 82 hX 3 dX1_rotasOf_81 rfl rfl rfl ?_
    refine q_iconst 83 hX dX1_rotasOf_82 rfl kI_1 ?_
    refine q_isub 84 hX dX1_rotasOf_83 rfl ?_
    obtain ⟨hb3, hres⟩ := gd hres
    refine q_lald 85 hX rfl aF_18 hb3 dX1_rotasOf_84 rfl ?_
    refine q_iload_n 86 hX 1 dX1_rotasOf_85 rfl rfl rfl ?_
    refine q_iload_n 87 hX 3 dX1_rotasOf_86 rfl rfl rfl ?_
    refine q_isub 88 hX dX1_rotasOf_87 rfl ?_
    refine q_iconst 89 hX dX1_rotasOf_88 rfl kI_1 ?_
    refine q_iadd 90 hX dX1_rotasOf_89 rfl ?_
    refine q_i2l 91 hX dX1_rotasOf_90 rfl ?_
    refine q_lmul 92 hX dX1_rotasOf_91 rfl ?_
    refine q_ladd 93 hX dX1_rotasOf_92 rfl ?_
    obtain ⟨hb4, hres⟩ := gd hres
    refine q_last 94 hX rfl aF_18 hb4 dX1_rotasOf_93 rfl ?_
    refine q_bS hres (fun S1 _ hres => ?_)
    refine q_iincB 97 3 (lv0 := [(0, .ref (ad X 15)), (1, .int x1), (2, .int x2)]) hX dX1_rotasOf_94 rfl rfl kI_m1 (by decide) rfl hres (fun v5 hres => ?_)
    refine q_goto 56 hX dX1_rotasOf_97 (by decide) ?_
    exact q_sub [1, 2, 3, 0] rfl (hrc56 _ _ _ _ hres)
def fX1_rotasOf_56 (rc48 : St → Int32 → Int32 → Option (Int64 × St)) : Nat → St → Int32 → Int32 → Int32 → Option (Int64 × St)
  | 0 => fun _ _ _ _ => none
  | k + 1 => fun S x1 x2 x3 => bX1_rotasOf_56 rc48 (fX1_rotasOf_56 rc48 k) S x1 x2 x3
theorem wfX1_rotasOf_56 {X : CX} (hX : Ok RX1 cX1_rotasOf (some .long) 0 55 4 X) {rr : Int64 × St} (hq : rs X = (some (.long rr.1), rr.2)) {rc48 : St → Int32 → Int32 → Option (Int64 × St)} (hrc48 : ∀ (S : St) (x1 : Int32) (x2 : Int32), rc48 S x1 x2 = some rr → Wat 0 55 0 4 X 48 [(0, .ref (ad X 15)), (1, .int x1), (2, .int x2)] [] S) (k : Nat) : ∀ (S : St) (x1 : Int32) (x2 : Int32) (x3 : Int32), fX1_rotasOf_56 rc48 k S x1 x2 x3 = some rr → Wat 0 55 0 4 X 56 [(0, .ref (ad X 15)), (1, .int x1), (2, .int x2), (3, .int x3)] [] S := by
  induction k with
  | zero => intro S x1 x2 x3 hres; exact absurd hres (by simp [fX1_rotasOf_56])
  | succ k ih => intro S x1 x2 x3 hres; exact wbX1_rotasOf_56 hX hq hrc48 ih hres
def bX1_rotasOf_48 (rc48 : St → Int32 → Int32 → Option (Int64 × St)) (S : St) (x1 : Int32) (x2 : Int32) : Option (Int64 × St) :=
  if (12 : Int32) ≤ x2 then (if inb x1 13 = true then some ((S.2.1 18 (x1.toNatClampNeg)), S) else none) else (fX1_rotasOf_56 rc48 100 S x1 x2 x1)
theorem wbX1_rotasOf_48 {X : CX} (hX : Ok RX1 cX1_rotasOf (some .long) 0 55 4 X) {rr : Int64 × St} (hq : rs X = (some (.long rr.1), rr.2)) {rc48 : St → Int32 → Int32 → Option (Int64 × St)} (hrc48 : ∀ (S : St) (x1 : Int32) (x2 : Int32), rc48 S x1 x2 = some rr → Wat 0 55 0 4 X 48 [(0, .ref (ad X 15)), (1, .int x1), (2, .int x2)] [] S) {S : St} {x1 : Int32} {x2 : Int32} (hres : bX1_rotasOf_48 rc48 S x1 x2 = some rr) : Wat 0 55 0 4 X 48 [(0, .ref (ad X 15)), (1, .int x1), (2, .int x2)] [] S := by
  unfold bX1_rotasOf_48 at hres
  refine q_iload_n 49 hX 2 dX1_rotasOf_48 rfl rfl rfl ?_
  refine q_bipush 51 hX dX1_rotasOf_49 rfl kB_12 ?_
  refine q_icmp_ge 54 hX 106 dX1_rotasOf_51 rfl (by decide) (fun hc => ?_) (fun hc => ?_)
  · have hres := it_t hc hres
    refine q_aload_n 107 hX 0 dX1_rotasOf_106 rfl rfl rfl ?_
    refine q_getR 110 hX ci1 lf_RX1_18 fR_15_3 dX1_rotasOf_107 rfl ?_
    refine q_iload_n 111 hX 1 dX1_rotasOf_110 rfl rfl rfl ?_
    obtain ⟨hb1, hres⟩ := gd hres
    refine q_lald 112 hX rfl aF_18 hb1 dX1_rotasOf_111 rfl ?_
    exact q_lret hX (eql hq hres) dX1_rotasOf_112
  · have hres := it_f hc hres
    refine q_iload_n 55 hX 1 dX1_rotasOf_54 rfl rfl rfl ?_
    refine q_istore_n 56 (lv' := [(3, .int x1), (0, .ref (ad X 15)), (1, .int x1), (2, .int x2)]) hX dX1_rotasOf_55 rfl rfl (by decide) rfl ?_
    exact q_sub [1, 2, 3, 0] rfl (wfX1_rotasOf_56 hX hq hrc48 _ _ _ _ _ hres)
def fX1_rotasOf_48 : Nat → St → Int32 → Int32 → Option (Int64 × St)
  | 0 => fun _ _ _ => none
  | k + 1 => fun S x1 x2 => bX1_rotasOf_48 (fX1_rotasOf_48 k) S x1 x2
theorem wfX1_rotasOf_48 {X : CX} (hX : Ok RX1 cX1_rotasOf (some .long) 0 55 4 X) {rr : Int64 × St} (hq : rs X = (some (.long rr.1), rr.2)) (k : Nat) : ∀ (S : St) (x1 : Int32) (x2 : Int32), fX1_rotasOf_48 k S x1 x2 = some rr → Wat 0 55 0 4 X 48 [(0, .ref (ad X 15)), (1, .int x1), (2, .int x2)] [] S := by
  induction k with
  | zero => intro S x1 x2 hres; exact absurd hres (by simp [fX1_rotasOf_48])
  | succ k ih => intro S x1 x2 hres; exact wbX1_rotasOf_48 hX hq ih hres
def bX1_rotasOf_17 (rc17 : St → Int32 → Int32 → Option (Int64 × St)) (S : St) (x1 : Int32) (x2 : Int32) : Option (Int64 × St) :=
  if (12 : Int32) < x2 then (fX1_rotasOf_48 100 S x1 (1 : Int32)) else (if x2 = (1 : Int32) then (if inb x2 13 = true then bS (pL S 18 (x2.toNatClampNeg) (x1.toInt64)) fun S2 => bV (x2 + (1 : Int32)) fun v4 => rc17 S2 x1 v4 else none) else (if inb x2 13 = true then bS (pL S 18 (x2.toNatClampNeg) (0 : Int64)) fun S1 => bV (x2 + (1 : Int32)) fun v2 => rc17 S1 x1 v2 else none))
theorem wbX1_rotasOf_17 {X : CX} (hX : Ok RX1 cX1_rotasOf (some .long) 0 55 4 X) {rr : Int64 × St} (hq : rs X = (some (.long rr.1), rr.2)) {rc17 : St → Int32 → Int32 → Option (Int64 × St)} (hrc17 : ∀ (S : St) (x1 : Int32) (x2 : Int32), rc17 S x1 x2 = some rr → Wat 0 55 0 4 X 17 [(0, .ref (ad X 15)), (1, .int x1), (2, .int x2)] [] S) {S : St} {x1 : Int32} {x2 : Int32} (hres : bX1_rotasOf_17 rc17 S x1 x2 = some rr) : Wat 0 55 0 4 X 17 [(0, .ref (ad X 15)), (1, .int x1), (2, .int x2)] [] S := by
  unfold bX1_rotasOf_17 at hres
  refine q_iload_n 18 hX 2 dX1_rotasOf_17 rfl rfl rfl ?_
  refine q_bipush 20 hX dX1_rotasOf_18 rfl kB_12 ?_
  refine q_icmp_gt 23 hX 46 dX1_rotasOf_20 rfl (by decide) (fun hc => ?_) (fun hc => ?_)
  · have hres := it_t hc hres
    refine q_iconst 47 hX dX1_rotasOf_46 rfl kI_1 ?_
    refine q_istore_n 48 (lv' := [(2, .int (1 : Int32)), (0, .ref (ad X 15)), (1, .int x1)]) hX dX1_rotasOf_47 rfl rfl (by decide) rfl ?_
    exact q_sub [1, 2, 0] rfl (wfX1_rotasOf_48 hX hq _ _ _ _ hres)
  · have hres := it_f hc hres
    refine q_aload_n 24 hX 0 dX1_rotasOf_23 rfl rfl rfl ?_
    refine q_getR 27 hX ci1 lf_RX1_18 fR_15_3 dX1_rotasOf_24 rfl ?_
    refine q_iload_n 28 hX 2 dX1_rotasOf_27 rfl rfl rfl ?_
    refine q_iload_n 29 hX 2 dX1_rotasOf_28 rfl rfl rfl ?_
    refine q_iconst 30 hX dX1_rotasOf_29 rfl kI_1 ?_
    refine q_icmp_ne 33 hX 38 dX1_rotasOf_30 rfl (by decide) (fun hc => ?_) (fun hc => ?_)
    · have hres := it_f hc hres
      refine q_lconst 39 hX (v := 0) dX1_rotasOf_38 rfl (by decide) ?_
      obtain ⟨hb1, hres⟩ := gd hres
      refine q_last 40 hX rfl aF_18 hb1 dX1_rotasOf_39 rfl ?_
      refine q_bS hres (fun S1 _ hres => ?_)
      refine q_iincB 43 2 (lv0 := [(0, .ref (ad X 15)), (1, .int x1)]) hX dX1_rotasOf_40 rfl rfl kI_1 (by decide) rfl hres (fun v2 hres => ?_)
      refine q_goto 17 hX dX1_rotasOf_43 (by decide) ?_
      exact q_sub [1, 2, 0] rfl (hrc17 _ _ _ hres)
    · have hres := it_t hc hres
      refine q_iload_n 34 hX 1 dX1_rotasOf_33 rfl rfl rfl ?_
      refine q_i2l 35 hX dX1_rotasOf_34 rfl ?_
      refine q_goto 39 hX dX1_rotasOf_35 (by decide) ?_
      obtain ⟨hb3, hres⟩ := gd hres
      refine q_last 40 hX rfl aF_18 hb3 dX1_rotasOf_39 rfl ?_
      refine q_bS hres (fun S2 _ hres => ?_)
      refine q_iincB 43 2 (lv0 := [(0, .ref (ad X 15)), (1, .int x1)]) hX dX1_rotasOf_40 rfl rfl kI_1 (by decide) rfl hres (fun v4 hres => ?_)
      refine q_goto 17 hX dX1_rotasOf_43 (by decide) ?_
      exact q_sub [1, 2, 0] rfl (hrc17 _ _ _ hres)
def fX1_rotasOf_17 : Nat → St → Int32 → Int32 → Option (Int64 × St)
  | 0 => fun _ _ _ => none
  | k + 1 => fun S x1 x2 => bX1_rotasOf_17 (fX1_rotasOf_17 k) S x1 x2
theorem wfX1_rotasOf_17 {X : CX} (hX : Ok RX1 cX1_rotasOf (some .long) 0 55 4 X) {rr : Int64 × St} (hq : rs X = (some (.long rr.1), rr.2)) (k : Nat) : ∀ (S : St) (x1 : Int32) (x2 : Int32), fX1_rotasOf_17 k S x1 x2 = some rr → Wat 0 55 0 4 X 17 [(0, .ref (ad X 15)), (1, .int x1), (2, .int x2)] [] S := by
  induction k with
  | zero => intro S x1 x2 hres; exact absurd hres (by simp [fX1_rotasOf_17])
  | succ k ih => intro S x1 x2 hres; exact wbX1_rotasOf_17 hX hq ih hres
def fX1_rotasOf (S : St) (x1 : Int32) : Option (Int64 × St) :=
  if x1 < (1 : Int32) then (some ((-1 : Int64), S)) else (if x1 ≤ (12 : Int32) then (fX1_rotasOf_17 100 S x1 (0 : Int32)) else (some ((-1 : Int64), S)))
theorem wfX1_rotasOf {X : CX} (hX : Ok RX1 cX1_rotasOf (some .long) 0 55 4 X) {rr : Int64 × St} (hq : rs X = (some (.long rr.1), rr.2)) {S : St} {x1 : Int32} (hres : fX1_rotasOf S x1 = some rr) : Wat 0 55 0 4 X 0 [(0, .ref (ad X 15)), (1, .int x1)] [] S := by
  unfold fX1_rotasOf at hres
  refine q_iload_n 1 hX 1 dX1_rotasOf_0 rfl rfl rfl ?_
  refine q_iconst 2 hX dX1_rotasOf_1 rfl kI_1 ?_
  refine q_icmp_lt 5 hX 11 dX1_rotasOf_2 rfl (by decide) (fun hc => ?_) (fun hc => ?_)
  · have hres := it_t hc hres
    refine q_ldc2 14 hX dX1_rotasOf_11 rfl gw476 ?_
    exact q_lret hX (eql hq hres) dX1_rotasOf_14
  · have hres := it_f hc hres
    refine q_iload_n 6 hX 1 dX1_rotasOf_5 rfl rfl rfl ?_
    refine q_bipush 8 hX dX1_rotasOf_6 rfl kB_12 ?_
    refine q_icmp_le 11 hX 15 dX1_rotasOf_8 rfl (by decide) (fun hc => ?_) (fun hc => ?_)
    · have hres := it_t hc hres
      refine q_iconst 16 hX dX1_rotasOf_15 rfl kI_0 ?_
      refine q_istore_n 17 (lv' := [(2, .int (0 : Int32)), (0, .ref (ad X 15)), (1, .int x1)]) hX dX1_rotasOf_16 rfl rfl (by decide) rfl ?_
      exact q_sub [1, 2, 0] rfl (wfX1_rotasOf_17 hX hq _ _ _ _ hres)
    · have hres := it_f hc hres
      refine q_ldc2 14 hX dX1_rotasOf_11 rfl gw476 ?_
      exact q_lret hX (eql hq hres) dX1_rotasOf_14
theorem cX1_rotasOf9 {l : Launch} {w : WD} (hj : Dj w 0 55) {rr : Int64 × St} {S : St} {x1 : Int32} (hres : fX1_rotasOf S x1 = some rr) : Ct l yX1_rotasOf cX1_rotasOf 4 (some .long) 0 w 0 55 [.ref (w.1 15), .int x1] S (some (.long rr.1), rr.2) := by
  refine Ct.of (lv := [(0, .ref (w.1 15)), (1, .int x1)]) hj (by decide +kernel) (Nat.le_of_ble_eq_true rfl) rfl ?_
  rintro X rfl rfl hq hX
  exact wfX1_rotasOf hX hq hres
def fX1_widestClear_29 (rc7 : St → Int32 → Int32 → Int32 → Int32 → Int32 → Option (Int32 × St)) (S : St) (x0 : Int32) (x1 : Int32) (x3 : Int32) (x4 : Int32) (s0 : Int32) : Option (Int32 × St) :=
  bV ((if x3 < s0 then s0 else x3)) fun v1 => bV (x4 + (1 : Int32)) fun v2 => rc7 S x0 x1 s0 v1 v2
theorem wfX1_widestClear_29 {X : CX} (hX : Ok RX1 cX1_widestClear (some .int) 0 55 5 X) {rr : Int32 × St} (hq : rs X = (some (.int rr.1), rr.2)) {rc7 : St → Int32 → Int32 → Int32 → Int32 → Int32 → Option (Int32 × St)} (hrc7 : ∀ (S : St) (x0 : Int32) (x1 : Int32) (x2 : Int32) (x3 : Int32) (x4 : Int32), rc7 S x0 x1 x2 x3 x4 = some rr → Wat 0 55 1 5 X 7 [(0, .int x0), (1, .int x1), (2, .int x2), (3, .int x3), (4, .int x4)] [] S) {S : St} {x0 : Int32} {x1 : Int32} {x3 : Int32} {x4 : Int32} {s0 : Int32} (hres : fX1_widestClear_29 rc7 S x0 x1 x3 x4 s0 = some rr) : Wat 0 55 1 5 X 29 [(0, .int x0), (1, .int x1), (3, .int x3), (4, .int x4)] [.int s0] S := by
  unfold fX1_widestClear_29 at hres
  refine q_istore_n 30 (lv' := [(2, .int s0), (0, .int x0), (1, .int x1), (3, .int x3), (4, .int x4)]) hX dX1_widestClear_29 rfl rfl (by decide) rfl ?_
  refine q_iload_n 31 hX 3 dX1_widestClear_30 rfl rfl rfl ?_
  refine q_iload_n 32 hX 0 dX1_widestClear_31 rfl rfl rfl ?_
  refine q_max 35 hX mw_RX1_36 (by decide) (Nat.le_of_ble_eq_true rfl) dX1_widestClear_32 rfl ?_
  refine q_istoreB_n 36 (lv0 := [(2, .int s0), (0, .int x0), (1, .int x1), (4, .int x4)]) hX dX1_widestClear_35 rfl rfl (by decide) rfl hres (fun v1 hres => ?_)
  refine q_iincB 39 4 (lv0 := [(3, .int v1), (2, .int s0), (0, .int x0), (1, .int x1)]) hX dX1_widestClear_36 rfl rfl kI_1 (by decide) rfl hres (fun v2 hres => ?_)
  refine q_goto 7 hX dX1_widestClear_39 (by decide) ?_
  exact q_sub [3, 4, 2, 1, 0] rfl (hrc7 _ _ _ _ _ _ hres)
def bX1_widestClear_7 (rc7 : St → Int32 → Int32 → Int32 → Int32 → Int32 → Option (Int32 × St)) (S : St) (x0 : Int32) (x1 : Int32) (x2 : Int32) (x3 : Int32) (x4 : Int32) : Option (Int32 × St) :=
  if x1 ≤ x4 then (some (x3, S)) else (if ((x0 >>> (x4 &&& 31)) &&& (1 : Int32)) = 0 then (fX1_widestClear_29 rc7 S x0 x1 x3 x4 (x2 + (1 : Int32))) else (fX1_widestClear_29 rc7 S x0 x1 x3 x4 (0 : Int32)))
theorem wbX1_widestClear_7 {X : CX} (hX : Ok RX1 cX1_widestClear (some .int) 0 55 5 X) {rr : Int32 × St} (hq : rs X = (some (.int rr.1), rr.2)) {rc7 : St → Int32 → Int32 → Int32 → Int32 → Int32 → Option (Int32 × St)} (hrc7 : ∀ (S : St) (x0 : Int32) (x1 : Int32) (x2 : Int32) (x3 : Int32) (x4 : Int32), rc7 S x0 x1 x2 x3 x4 = some rr → Wat 0 55 1 5 X 7 [(0, .int x0), (1, .int x1), (2, .int x2), (3, .int x3), (4, .int x4)] [] S) {S : St} {x0 : Int32} {x1 : Int32} {x2 : Int32} {x3 : Int32} {x4 : Int32} (hres : bX1_widestClear_7 rc7 S x0 x1 x2 x3 x4 = some rr) : Wat 0 55 1 5 X 7 [(0, .int x0), (1, .int x1), (2, .int x2), (3, .int x3), (4, .int x4)] [] S := by
  unfold bX1_widestClear_7 at hres
  refine q_iload 9 hX 4 dX1_widestClear_7 rfl rfl ?_
  refine q_iload_n 10 hX 1 dX1_widestClear_9 rfl rfl rfl ?_
  refine q_icmp_ge 13 hX 42 dX1_widestClear_10 rfl (by decide) (fun hc => ?_) (fun hc => ?_)
  · have hres := it_t hc hres
    refine q_iload_n 43 hX 3 dX1_widestClear_42 rfl rfl rfl ?_
    exact q_iret hX (eqi hq hres) dX1_widestClear_43
  · have hres := it_f hc hres
    refine q_iload_n 14 hX 0 dX1_widestClear_13 rfl rfl rfl ?_
    refine q_iload 16 hX 4 dX1_widestClear_14 rfl rfl ?_
    refine q_ishr 17 hX dX1_widestClear_16 rfl ?_
    refine q_iconst 18 hX dX1_widestClear_17 rfl kI_1 ?_
    refine q_iand 19 hX dX1_widestClear_18 rfl ?_
    refine q_if_ne 22 hX 28 dX1_widestClear_19 rfl (by decide) (fun hc => ?_) (fun hc => ?_)
    · have hres := it_f hc hres
      refine q_iconst 29 hX dX1_widestClear_28 rfl kI_0 ?_
      exact q_sub [0, 1, 3, 4] rfl (wfX1_widestClear_29 hX hq hrc7 hres)
    · have hres := it_t hc hres
      refine q_iload_n 23 hX 2 dX1_widestClear_22 rfl rfl rfl ?_
      refine q_iconst 24 hX dX1_widestClear_23 rfl kI_1 ?_
      refine q_iadd 25 hX dX1_widestClear_24 rfl ?_
      refine q_goto 29 hX dX1_widestClear_25 (by decide) ?_
      exact q_sub [0, 1, 3, 4] rfl (wfX1_widestClear_29 hX hq hrc7 hres)
def fX1_widestClear_7 : Nat → St → Int32 → Int32 → Int32 → Int32 → Int32 → Option (Int32 × St)
  | 0 => fun _ _ _ _ _ _ => none
  | k + 1 => fun S x0 x1 x2 x3 x4 => bX1_widestClear_7 (fX1_widestClear_7 k) S x0 x1 x2 x3 x4
theorem wfX1_widestClear_7 {X : CX} (hX : Ok RX1 cX1_widestClear (some .int) 0 55 5 X) {rr : Int32 × St} (hq : rs X = (some (.int rr.1), rr.2)) (k : Nat) : ∀ (S : St) (x0 : Int32) (x1 : Int32) (x2 : Int32) (x3 : Int32) (x4 : Int32), fX1_widestClear_7 k S x0 x1 x2 x3 x4 = some rr → Wat 0 55 1 5 X 7 [(0, .int x0), (1, .int x1), (2, .int x2), (3, .int x3), (4, .int x4)] [] S := by
  induction k with
  | zero => intro S x0 x1 x2 x3 x4 hres; exact absurd hres (by simp [fX1_widestClear_7])
  | succ k ih => intro S x0 x1 x2 x3 x4 hres; exact wbX1_widestClear_7 hX hq ih hres
def fX1_widestClear (S : St) (x0 : Int32) (x1 : Int32) : Option (Int32 × St) :=
  fX1_widestClear_7 100 S x0 x1 (0 : Int32) (0 : Int32) (0 : Int32)
theorem wfX1_widestClear {X : CX} (hX : Ok RX1 cX1_widestClear (some .int) 0 55 5 X) {rr : Int32 × St} (hq : rs X = (some (.int rr.1), rr.2)) {S : St} {x0 : Int32} {x1 : Int32} (hres : fX1_widestClear S x0 x1 = some rr) : Wat 0 55 1 5 X 0 [(0, .int x0), (1, .int x1)] [] S := by
  unfold fX1_widestClear at hres
  refine q_iconst 1 hX dX1_widestClear_0 rfl kI_0 ?_
  refine q_istore_n 2 (lv' := [(2, .int (0 : Int32)), (0, .int x0), (1, .int x1)]) hX dX1_widestClear_1 rfl rfl (by decide) rfl ?_
  refine q_iconst 3 hX dX1_widestClear_2 rfl kI_0 ?_
  refine q_istore_n 4 (lv' := [(3, .int (0 : Int32)), (2, .int (0 : Int32)), (0, .int x0), (1, .int x1)]) hX dX1_widestClear_3 rfl rfl (by decide) rfl ?_
  refine q_iconst 5 hX dX1_widestClear_4 rfl kI_0 ?_
  refine q_istore 7 (lv' := [(4, .int (0 : Int32)), (3, .int (0 : Int32)), (2, .int (0 : Int32)), (0, .int x0), (1, .int x1)]) hX dX1_widestClear_5 rfl (by decide) rfl ?_
  exact q_sub [3, 4, 2, 1, 0] rfl (wfX1_widestClear_7 hX hq _ _ _ _ _ _ _ hres)
theorem cX1_widestClear9 {l : Launch} {w : WD} (hj : Dj w 0 55) {rr : Int32 × St} {S : St} {x0 : Int32} {x1 : Int32} (hres : fX1_widestClear S x0 x1 = some rr) : Ct l yX1_widestClear cX1_widestClear 5 (some .int) 1 w 0 55 [.int x0, .int x1] S (some (.int rr.1), rr.2) := by
  refine Ct.of (lv := [(0, .int x0), (1, .int x1)]) hj (by decide +kernel) (Nat.le_of_ble_eq_true rfl) rfl ?_
  rintro X rfl rfl hq hX
  exact wfX1_widestClear hX hq hres
def bX1_greatestPane_18 (rc5 : St → Int32 → Int32 → Int32 → Int32 → Option (Int32 × St)) (rc18 : St → Int32 → Int32 → Int32 → Int32 → Int32 → Int32 → Option (Int32 × St)) (S : St) (x1 : Int32) (x2 : Int32) (x3 : Int32) (x4 : Int32) (x5 : Int32) (x6 : Int32) : Option (Int32 × St) :=
  if x1 ≤ x6 then (bV (x4 + (1 : Int32)) fun v1 => rc5 S x1 x2 x3 v1) else (bi (fX7_byteAt S x6) fun r3 S1 => bV ((x5 ||| r3)) fun v4 => bi (fX1_widestClear S1 v4 x2) fun r6 S2 => bV ((if x3 < (((x6 - x4) + (1 : Int32)) * r6) then (((x6 - x4) + (1 : Int32)) * r6) else x3)) fun v7 => bV (x6 + (1 : Int32)) fun v8 => rc18 S2 x1 x2 v7 x4 v4 v8)
theorem wbX1_greatestPane_18 {X : CX} (hX : Ok RX1 cX1_greatestPane (some .int) 0 55 7 X) {rr : Int32 × St} (hq : rs X = (some (.int rr.1), rr.2)) {rc5 : St → Int32 → Int32 → Int32 → Int32 → Option (Int32 × St)} (hrc5 : ∀ (S : St) (x1 : Int32) (x2 : Int32) (x3 : Int32) (x4 : Int32), rc5 S x1 x2 x3 x4 = some rr → Wat 0 55 2 7 X 5 [(0, .ref (ad X 15)), (1, .int x1), (2, .int x2), (3, .int x3), (4, .int x4)] [] S) {rc18 : St → Int32 → Int32 → Int32 → Int32 → Int32 → Int32 → Option (Int32 × St)} (hrc18 : ∀ (S : St) (x1 : Int32) (x2 : Int32) (x3 : Int32) (x4 : Int32) (x5 : Int32) (x6 : Int32), rc18 S x1 x2 x3 x4 x5 x6 = some rr → Wat 0 55 2 7 X 18 [(0, .ref (ad X 15)), (1, .int x1), (2, .int x2), (3, .int x3), (4, .int x4), (5, .int x5), (6, .int x6)] [] S) {S : St} {x1 : Int32} {x2 : Int32} {x3 : Int32} {x4 : Int32} {x5 : Int32} {x6 : Int32} (hres : bX1_greatestPane_18 rc5 rc18 S x1 x2 x3 x4 x5 x6 = some rr) : Wat 0 55 2 7 X 18 [(0, .ref (ad X 15)), (1, .int x1), (2, .int x2), (3, .int x3), (4, .int x4), (5, .int x5), (6, .int x6)] [] S := by
  unfold bX1_greatestPane_18 at hres
  refine q_iload 20 hX 6 dX1_greatestPane_18 rfl rfl ?_
  refine q_iload_n 21 hX 1 dX1_greatestPane_20 rfl rfl rfl ?_
  refine q_icmp_ge 24 hX 63 dX1_greatestPane_21 rfl (by decide) (fun hc => ?_) (fun hc => ?_)
  · have hres := it_t hc hres
    refine q_iincB 66 4 (lv0 := [(0, .ref (ad X 15)), (1, .int x1), (2, .int x2), (3, .int x3), (5, .int x5), (6, .int x6)]) hX dX1_greatestPane_63 rfl rfl kI_1 (by decide) rfl hres (fun v1 hres => ?_)
    refine q_goto 5 hX dX1_greatestPane_66 (by decide) ?_
    exact q_sub [1, 2, 3, 4, 0] rfl (hrc5 _ _ _ _ _ hres)
  · have hres := it_f hc hres
    refine q_iload 26 hX 5 dX1_greatestPane_24 rfl rfl ?_
    refine q_aload_n 27 hX 0 dX1_greatestPane_26 rfl rfl rfl ?_
    refine q_getR 30 hX ci1 lf_RX1_22 fR_15_0 dX1_greatestPane_27 rfl ?_
    refine q_iload 32 hX 6 dX1_greatestPane_30 rfl rfl ?_
    obtain ⟨r3, S1, hk2, hres⟩ := ob hres
    refine q_callVi 35 (st := [.int x5]) (As := [.int x6]) hX (cX7_byteAt9 hX.dj hk2) cv_RX1_26 ci7 oB_1 rfl (by decide) rfl (Nat.le_of_ble_eq_true rfl) dX1_greatestPane_32 rfl ?_
    refine q_ior 36 hX dX1_greatestPane_35 rfl ?_
    refine q_istoreB 38 (lv0 := [(0, .ref (ad X 15)), (1, .int x1), (2, .int x2), (3, .int x3), (4, .int x4), (6, .int x6)]) hX dX1_greatestPane_36 rfl (by decide) rfl hres (fun v4 hres => ?_)
    refine q_iload_n 39 hX 4 dX1_greatestPane_38 rfl rfl rfl ?_
    refine q_iload 41 hX 6 dX1_greatestPane_39 rfl rfl ?_
    refine q_iload 43 hX 5 dX1_greatestPane_41 rfl rfl ?_
    refine q_isub 44 hX dX1_greatestPane_43 rfl ?_
    refine q_iconst 45 hX dX1_greatestPane_44 rfl kI_1 ?_
    refine q_iadd 46 hX dX1_greatestPane_45 rfl ?_
    refine q_iload 48 hX 0 dX1_greatestPane_46 rfl rfl ?_
    refine q_iload_n 49 hX 3 dX1_greatestPane_48 rfl rfl rfl ?_
    obtain ⟨r6, S2, hk5, hres⟩ := ob hres
    refine q_callSi 52 (st := [.int ((x6 - x4) + (1 : Int32)), .int x3]) (As := [.int v4, .int x2]) hX (cX1_widestClear9 hX.dj hk5) cs_RX1_66 rfl (by decide) rfl (Nat.le_of_ble_eq_true rfl) dX1_greatestPane_49 rfl ?_
    refine q_imul 53 hX dX1_greatestPane_52 rfl ?_
    refine q_max 56 hX mw_RX1_36 (by decide) (Nat.le_of_ble_eq_true rfl) dX1_greatestPane_53 rfl ?_
    refine q_istoreB_n 57 (lv0 := [(5, .int v4), (0, .ref (ad X 15)), (1, .int x1), (2, .int x2), (4, .int x4), (6, .int x6)]) hX dX1_greatestPane_56 rfl rfl (by decide) rfl hres (fun v7 hres => ?_)
    refine q_iincB 60 6 (lv0 := [(3, .int v7), (5, .int v4), (0, .ref (ad X 15)), (1, .int x1), (2, .int x2), (4, .int x4)]) hX dX1_greatestPane_57 rfl rfl kI_1 (by decide) rfl hres (fun v8 hres => ?_)
    refine q_goto 18 hX dX1_greatestPane_60 (by decide) ?_
    exact q_sub [3, 4, 5, 1, 6, 2, 0] rfl (hrc18 _ _ _ _ _ _ _ hres)
def fX1_greatestPane_18 (rc5 : St → Int32 → Int32 → Int32 → Int32 → Option (Int32 × St)) : Nat → St → Int32 → Int32 → Int32 → Int32 → Int32 → Int32 → Option (Int32 × St)
  | 0 => fun _ _ _ _ _ _ _ => none
  | k + 1 => fun S x1 x2 x3 x4 x5 x6 => bX1_greatestPane_18 rc5 (fX1_greatestPane_18 rc5 k) S x1 x2 x3 x4 x5 x6
theorem wfX1_greatestPane_18 {X : CX} (hX : Ok RX1 cX1_greatestPane (some .int) 0 55 7 X) {rr : Int32 × St} (hq : rs X = (some (.int rr.1), rr.2)) {rc5 : St → Int32 → Int32 → Int32 → Int32 → Option (Int32 × St)} (hrc5 : ∀ (S : St) (x1 : Int32) (x2 : Int32) (x3 : Int32) (x4 : Int32), rc5 S x1 x2 x3 x4 = some rr → Wat 0 55 2 7 X 5 [(0, .ref (ad X 15)), (1, .int x1), (2, .int x2), (3, .int x3), (4, .int x4)] [] S) (k : Nat) : ∀ (S : St) (x1 : Int32) (x2 : Int32) (x3 : Int32) (x4 : Int32) (x5 : Int32) (x6 : Int32), fX1_greatestPane_18 rc5 k S x1 x2 x3 x4 x5 x6 = some rr → Wat 0 55 2 7 X 18 [(0, .ref (ad X 15)), (1, .int x1), (2, .int x2), (3, .int x3), (4, .int x4), (5, .int x5), (6, .int x6)] [] S := by
  induction k with
  | zero => intro S x1 x2 x3 x4 x5 x6 hres; exact absurd hres (by simp [fX1_greatestPane_18])
  | succ k ih => intro S x1 x2 x3 x4 x5 x6 hres; exact wbX1_greatestPane_18 hX hq hrc5 ih hres
def bX1_greatestPane_5 (rc5 : St → Int32 → Int32 → Int32 → Int32 → Option (Int32 × St)) (S : St) (x1 : Int32) (x2 : Int32) (x3 : Int32) (x4 : Int32) : Option (Int32 × St) :=
  if x1 ≤ x4 then (some (x3, S)) else (fX1_greatestPane_18 rc5 100 S x1 x2 x3 x4 (0 : Int32) x4)
theorem wbX1_greatestPane_5 {X : CX} (hX : Ok RX1 cX1_greatestPane (some .int) 0 55 7 X) {rr : Int32 × St} (hq : rs X = (some (.int rr.1), rr.2)) {rc5 : St → Int32 → Int32 → Int32 → Int32 → Option (Int32 × St)} (hrc5 : ∀ (S : St) (x1 : Int32) (x2 : Int32) (x3 : Int32) (x4 : Int32), rc5 S x1 x2 x3 x4 = some rr → Wat 0 55 2 7 X 5 [(0, .ref (ad X 15)), (1, .int x1), (2, .int x2), (3, .int x3), (4, .int x4)] [] S) {S : St} {x1 : Int32} {x2 : Int32} {x3 : Int32} {x4 : Int32} (hres : bX1_greatestPane_5 rc5 S x1 x2 x3 x4 = some rr) : Wat 0 55 2 7 X 5 [(0, .ref (ad X 15)), (1, .int x1), (2, .int x2), (3, .int x3), (4, .int x4)] [] S := by
  unfold bX1_greatestPane_5 at hres
  refine q_iload 7 hX 4 dX1_greatestPane_5 rfl rfl ?_
  refine q_iload_n 8 hX 1 dX1_greatestPane_7 rfl rfl rfl ?_
  refine q_icmp_ge 11 hX 69 dX1_greatestPane_8 rfl (by decide) (fun hc => ?_) (fun hc => ?_)
  · have hres := it_t hc hres
    refine q_iload_n 70 hX 3 dX1_greatestPane_69 rfl rfl rfl ?_
    exact q_iret hX (eqi hq hres) dX1_greatestPane_70
  · have hres := it_f hc hres
    refine q_iconst 12 hX dX1_greatestPane_11 rfl kI_0 ?_
    refine q_istore 14 (lv' := [(5, .int (0 : Int32)), (0, .ref (ad X 15)), (1, .int x1), (2, .int x2), (3, .int x3), (4, .int x4)]) hX dX1_greatestPane_12 rfl (by decide) rfl ?_
    refine q_iload 16 hX 5 dX1_greatestPane_14 rfl rfl ?_
    refine q_istore 18 (lv' := [(6, .int x4), (5, .int (0 : Int32)), (0, .ref (ad X 15)), (1, .int x1), (2, .int x2), (3, .int x3), (4, .int x4)]) hX dX1_greatestPane_16 rfl (by decide) rfl ?_
    exact q_sub [2, 3, 4, 5, 6, 1, 0] rfl (wfX1_greatestPane_18 hX hq hrc5 _ _ _ _ _ _ _ _ hres)
def fX1_greatestPane_5 : Nat → St → Int32 → Int32 → Int32 → Int32 → Option (Int32 × St)
  | 0 => fun _ _ _ _ _ => none
  | k + 1 => fun S x1 x2 x3 x4 => bX1_greatestPane_5 (fX1_greatestPane_5 k) S x1 x2 x3 x4
theorem wfX1_greatestPane_5 {X : CX} (hX : Ok RX1 cX1_greatestPane (some .int) 0 55 7 X) {rr : Int32 × St} (hq : rs X = (some (.int rr.1), rr.2)) (k : Nat) : ∀ (S : St) (x1 : Int32) (x2 : Int32) (x3 : Int32) (x4 : Int32), fX1_greatestPane_5 k S x1 x2 x3 x4 = some rr → Wat 0 55 2 7 X 5 [(0, .ref (ad X 15)), (1, .int x1), (2, .int x2), (3, .int x3), (4, .int x4)] [] S := by
  induction k with
  | zero => intro S x1 x2 x3 x4 hres; exact absurd hres (by simp [fX1_greatestPane_5])
  | succ k ih => intro S x1 x2 x3 x4 hres; exact wbX1_greatestPane_5 hX hq ih hres
def fX1_greatestPane (S : St) (x1 : Int32) (x2 : Int32) : Option (Int32 × St) :=
  fX1_greatestPane_5 100 S x1 x2 (0 : Int32) (0 : Int32)
theorem wfX1_greatestPane {X : CX} (hX : Ok RX1 cX1_greatestPane (some .int) 0 55 7 X) {rr : Int32 × St} (hq : rs X = (some (.int rr.1), rr.2)) {S : St} {x1 : Int32} {x2 : Int32} (hres : fX1_greatestPane S x1 x2 = some rr) : Wat 0 55 2 7 X 0 [(0, .ref (ad X 15)), (1, .int x1), (2, .int x2)] [] S := by
  unfold fX1_greatestPane at hres
  refine q_iconst 1 hX dX1_greatestPane_0 rfl kI_0 ?_
  refine q_istore_n 2 (lv' := [(3, .int (0 : Int32)), (0, .ref (ad X 15)), (1, .int x1), (2, .int x2)]) hX dX1_greatestPane_1 rfl rfl (by decide) rfl ?_
  refine q_iconst 3 hX dX1_greatestPane_2 rfl kI_0 ?_
  refine q_istore 5 (lv' := [(4, .int (0 : Int32)), (3, .int (0 : Int32)), (0, .ref (ad X 15)), (1, .int x1), (2, .int x2)]) hX dX1_greatestPane_3 rfl (by decide) rfl ?_
  exact q_sub [2, 3, 4, 1, 0] rfl (wfX1_greatestPane_5 hX hq _ _ _ _ _ _ hres)
theorem cX1_greatestPane9 {l : Launch} {w : WD} (hj : Dj w 0 55) {rr : Int32 × St} {S : St} {x1 : Int32} {x2 : Int32} (hres : fX1_greatestPane S x1 x2 = some rr) : Ct l yX1_greatestPane cX1_greatestPane 7 (some .int) 2 w 0 55 [.ref (w.1 15), .int x1, .int x2] S (some (.int rr.1), rr.2) := by
  refine Ct.of (lv := [(0, .ref (w.1 15)), (1, .int x1), (2, .int x2)]) hj (by decide +kernel) (Nat.le_of_ble_eq_true rfl) rfl ?_
  rintro X rfl rfl hq hX
  exact wfX1_greatestPane hX hq hres
def fX1_hadByLettingGo_37 (rc5 : St → Int32 → Int32 → Int32 → Int32 → Option (Int32 × St)) (S : St) (x1 : Int32) (x2 : Int32) (x3 : Int32) (x4 : Int32) (x5 : Int32) : Option (Int32 × St) :=
  bV ((if x3 < x5 then x5 else x3)) fun v1 => bV (x4 + (1 : Int32)) fun v2 => rc5 S x1 x2 v1 v2
theorem wfX1_hadByLettingGo_37 {X : CX} (hX : Ok RX1 cX1_hadByLettingGo (some .int) 0 55 6 X) {rr : Int32 × St} (hq : rs X = (some (.int rr.1), rr.2)) {rc5 : St → Int32 → Int32 → Int32 → Int32 → Option (Int32 × St)} (hrc5 : ∀ (S : St) (x1 : Int32) (x2 : Int32) (x3 : Int32) (x4 : Int32), rc5 S x1 x2 x3 x4 = some rr → Wat 0 55 1 6 X 5 [(0, .ref (ad X 15)), (1, .int x1), (2, .int x2), (3, .int x3), (4, .int x4)] [] S) {S : St} {x1 : Int32} {x2 : Int32} {x3 : Int32} {x4 : Int32} {x5 : Int32} (hres : fX1_hadByLettingGo_37 rc5 S x1 x2 x3 x4 x5 = some rr) : Wat 0 55 1 6 X 37 [(0, .ref (ad X 15)), (1, .int x1), (2, .int x2), (3, .int x3), (4, .int x4), (5, .int x5)] [] S := by
  unfold fX1_hadByLettingGo_37 at hres
  refine q_iload_n 38 hX 3 dX1_hadByLettingGo_37 rfl rfl rfl ?_
  refine q_iload 40 hX 5 dX1_hadByLettingGo_38 rfl rfl ?_
  refine q_max 43 hX mw_RX1_36 (by decide) (Nat.le_of_ble_eq_true rfl) dX1_hadByLettingGo_40 rfl ?_
  refine q_istoreB_n 44 (lv0 := [(0, .ref (ad X 15)), (1, .int x1), (2, .int x2), (4, .int x4), (5, .int x5)]) hX dX1_hadByLettingGo_43 rfl rfl (by decide) rfl hres (fun v1 hres => ?_)
  refine q_iincB 47 4 (lv0 := [(3, .int v1), (0, .ref (ad X 15)), (1, .int x1), (2, .int x2), (5, .int x5)]) hX dX1_hadByLettingGo_44 rfl rfl kI_1 (by decide) rfl hres (fun v2 hres => ?_)
  refine q_goto 5 hX dX1_hadByLettingGo_47 (by decide) ?_
  exact q_sub [2, 3, 4, 1, 0] rfl (hrc5 _ _ _ _ _ hres)
def bX1_hadByLettingGo_5 (rc5 : St → Int32 → Int32 → Int32 → Int32 → Option (Int32 × St)) (S : St) (x1 : Int32) (x2 : Int32) (x3 : Int32) (x4 : Int32) : Option (Int32 × St) :=
  if x2 ≤ x4 then (bi (fX7_byteAt S (x2 - (1 : Int32))) fun r2 S1 => some (r2, S1)) else (bi (fX7_byteAt S x4) fun r4 S2 => if x4 < x1 then (fX1_hadByLettingGo_37 rc5 S2 x1 x2 x3 x4 r4) else (if r4 ≤ x3 then (fX1_hadByLettingGo_37 rc5 S2 x1 x2 x3 x4 r4) else (some (r4, S2))))
theorem wbX1_hadByLettingGo_5 {X : CX} (hX : Ok RX1 cX1_hadByLettingGo (some .int) 0 55 6 X) {rr : Int32 × St} (hq : rs X = (some (.int rr.1), rr.2)) {rc5 : St → Int32 → Int32 → Int32 → Int32 → Option (Int32 × St)} (hrc5 : ∀ (S : St) (x1 : Int32) (x2 : Int32) (x3 : Int32) (x4 : Int32), rc5 S x1 x2 x3 x4 = some rr → Wat 0 55 1 6 X 5 [(0, .ref (ad X 15)), (1, .int x1), (2, .int x2), (3, .int x3), (4, .int x4)] [] S) {S : St} {x1 : Int32} {x2 : Int32} {x3 : Int32} {x4 : Int32} (hres : bX1_hadByLettingGo_5 rc5 S x1 x2 x3 x4 = some rr) : Wat 0 55 1 6 X 5 [(0, .ref (ad X 15)), (1, .int x1), (2, .int x2), (3, .int x3), (4, .int x4)] [] S := by
  unfold bX1_hadByLettingGo_5 at hres
  refine q_iload 7 hX 4 dX1_hadByLettingGo_5 rfl rfl ?_
  refine q_iload_n 8 hX 2 dX1_hadByLettingGo_7 rfl rfl rfl ?_
  refine q_icmp_ge 11 hX 50 dX1_hadByLettingGo_8 rfl (by decide) (fun hc => ?_) (fun hc => ?_)
  · have hres := it_t hc hres
    refine q_aload_n 51 hX 0 dX1_hadByLettingGo_50 rfl rfl rfl ?_
    refine q_getR 54 hX ci1 lf_RX1_22 fR_15_0 dX1_hadByLettingGo_51 rfl ?_
    refine q_iload_n 55 hX 2 dX1_hadByLettingGo_54 rfl rfl rfl ?_
    refine q_iconst 56 hX dX1_hadByLettingGo_55 rfl kI_1 ?_
    refine q_isub 57 hX dX1_hadByLettingGo_56 rfl ?_
    obtain ⟨r2, S1, hk1, hres⟩ := ob hres
    refine q_callVi 60 (st := []) (As := [.int (x2 - (1 : Int32))]) hX (cX7_byteAt9 hX.dj hk1) cv_RX1_26 ci7 oB_1 rfl (by decide) rfl (Nat.le_of_ble_eq_true rfl) dX1_hadByLettingGo_57 rfl ?_
    exact q_iret hX (eqi hq hres) dX1_hadByLettingGo_60
  · have hres := it_f hc hres
    refine q_aload_n 12 hX 0 dX1_hadByLettingGo_11 rfl rfl rfl ?_
    refine q_getR 15 hX ci1 lf_RX1_22 fR_15_0 dX1_hadByLettingGo_12 rfl ?_
    refine q_iload 17 hX 4 dX1_hadByLettingGo_15 rfl rfl ?_
    obtain ⟨r4, S2, hk3, hres⟩ := ob hres
    refine q_callVi 20 (st := []) (As := [.int x4]) hX (cX7_byteAt9 hX.dj hk3) cv_RX1_26 ci7 oB_1 rfl (by decide) rfl (Nat.le_of_ble_eq_true rfl) dX1_hadByLettingGo_17 rfl ?_
    refine q_istore 22 (lv' := [(5, .int r4), (0, .ref (ad X 15)), (1, .int x1), (2, .int x2), (3, .int x3), (4, .int x4)]) hX dX1_hadByLettingGo_20 rfl (by decide) rfl ?_
    refine q_iload 24 hX 5 dX1_hadByLettingGo_22 rfl rfl ?_
    refine q_iload_n 25 hX 2 dX1_hadByLettingGo_24 rfl rfl rfl ?_
    refine q_icmp_lt 28 hX 37 dX1_hadByLettingGo_25 rfl (by decide) (fun hc => ?_) (fun hc => ?_)
    · have hres := it_t hc hres
      exact q_sub [1, 2, 3, 4, 5, 0] rfl (wfX1_hadByLettingGo_37 hX hq hrc5 hres)
    · have hres := it_f hc hres
      refine q_iload 30 hX 0 dX1_hadByLettingGo_28 rfl rfl ?_
      refine q_iload_n 31 hX 4 dX1_hadByLettingGo_30 rfl rfl rfl ?_
      refine q_icmp_le 34 hX 37 dX1_hadByLettingGo_31 rfl (by decide) (fun hc => ?_) (fun hc => ?_)
      · have hres := it_t hc hres
        exact q_sub [1, 2, 3, 4, 5, 0] rfl (wfX1_hadByLettingGo_37 hX hq hrc5 hres)
      · have hres := it_f hc hres
        refine q_iload 36 hX 0 dX1_hadByLettingGo_34 rfl rfl ?_
        exact q_iret hX (eqi hq hres) dX1_hadByLettingGo_36
def fX1_hadByLettingGo_5 : Nat → St → Int32 → Int32 → Int32 → Int32 → Option (Int32 × St)
  | 0 => fun _ _ _ _ _ => none
  | k + 1 => fun S x1 x2 x3 x4 => bX1_hadByLettingGo_5 (fX1_hadByLettingGo_5 k) S x1 x2 x3 x4
theorem wfX1_hadByLettingGo_5 {X : CX} (hX : Ok RX1 cX1_hadByLettingGo (some .int) 0 55 6 X) {rr : Int32 × St} (hq : rs X = (some (.int rr.1), rr.2)) (k : Nat) : ∀ (S : St) (x1 : Int32) (x2 : Int32) (x3 : Int32) (x4 : Int32), fX1_hadByLettingGo_5 k S x1 x2 x3 x4 = some rr → Wat 0 55 1 6 X 5 [(0, .ref (ad X 15)), (1, .int x1), (2, .int x2), (3, .int x3), (4, .int x4)] [] S := by
  induction k with
  | zero => intro S x1 x2 x3 x4 hres; exact absurd hres (by simp [fX1_hadByLettingGo_5])
  | succ k ih => intro S x1 x2 x3 x4 hres; exact wbX1_hadByLettingGo_5 hX hq ih hres
def fX1_hadByLettingGo (S : St) (x1 : Int32) (x2 : Int32) : Option (Int32 × St) :=
  fX1_hadByLettingGo_5 100 S x1 x2 (-1 : Int32) (0 : Int32)
theorem wfX1_hadByLettingGo {X : CX} (hX : Ok RX1 cX1_hadByLettingGo (some .int) 0 55 6 X) {rr : Int32 × St} (hq : rs X = (some (.int rr.1), rr.2)) {S : St} {x1 : Int32} {x2 : Int32} (hres : fX1_hadByLettingGo S x1 x2 = some rr) : Wat 0 55 1 6 X 0 [(0, .ref (ad X 15)), (1, .int x1), (2, .int x2)] [] S := by
  unfold fX1_hadByLettingGo at hres
  refine q_iconst 1 hX dX1_hadByLettingGo_0 rfl kI_m1 ?_
  refine q_istore_n 2 (lv' := [(3, .int (-1 : Int32)), (0, .ref (ad X 15)), (1, .int x1), (2, .int x2)]) hX dX1_hadByLettingGo_1 rfl rfl (by decide) rfl ?_
  refine q_iconst 3 hX dX1_hadByLettingGo_2 rfl kI_0 ?_
  refine q_istore 5 (lv' := [(4, .int (0 : Int32)), (3, .int (-1 : Int32)), (0, .ref (ad X 15)), (1, .int x1), (2, .int x2)]) hX dX1_hadByLettingGo_3 rfl (by decide) rfl ?_
  exact q_sub [2, 3, 4, 1, 0] rfl (wfX1_hadByLettingGo_5 hX hq _ _ _ _ _ _ hres)
theorem cX1_hadByLettingGo9 {l : Launch} {w : WD} (hj : Dj w 0 55) {rr : Int32 × St} {S : St} {x1 : Int32} {x2 : Int32} (hres : fX1_hadByLettingGo S x1 x2 = some rr) : Ct l yX1_hadByLettingGo cX1_hadByLettingGo 6 (some .int) 1 w 0 55 [.ref (w.1 15), .int x1, .int x2] S (some (.int rr.1), rr.2) := by
  refine Ct.of (lv := [(0, .ref (w.1 15)), (1, .int x1), (2, .int x2)]) hj (by decide +kernel) (Nat.le_of_ble_eq_true rfl) rfl ?_
  rintro X rfl rfl hq hX
  exact wfX1_hadByLettingGo hX hq hres
def bX1_bestToLetGo_4 (rc4 : St → Int32 → Int32 → Int32 → Option (Int32 × St)) (S : St) (x1 : Int32) (x2 : Int32) (x3 : Int32) : Option (Int32 × St) :=
  if x1 ≤ x3 then (some (x2, S)) else (bi (fX1_hadByLettingGo S x3 x1) fun r2 S1 => bi (fX1_hadByLettingGo S1 x2 x1) fun r4 S2 => if r2 ≤ r4 then (bV (x3 + (1 : Int32)) fun v5 => rc4 S2 x1 x2 v5) else (bV (x3 + (1 : Int32)) fun v6 => rc4 S2 x1 x3 v6))
theorem wbX1_bestToLetGo_4 {X : CX} (hX : Ok RX1 cX1_bestToLetGo (some .int) 0 55 4 X) {rr : Int32 × St} (hq : rs X = (some (.int rr.1), rr.2)) {rc4 : St → Int32 → Int32 → Int32 → Option (Int32 × St)} (hrc4 : ∀ (S : St) (x1 : Int32) (x2 : Int32) (x3 : Int32), rc4 S x1 x2 x3 = some rr → Wat 0 55 2 4 X 4 [(0, .ref (ad X 15)), (1, .int x1), (2, .int x2), (3, .int x3)] [] S) {S : St} {x1 : Int32} {x2 : Int32} {x3 : Int32} (hres : bX1_bestToLetGo_4 rc4 S x1 x2 x3 = some rr) : Wat 0 55 2 4 X 4 [(0, .ref (ad X 15)), (1, .int x1), (2, .int x2), (3, .int x3)] [] S := by
  unfold bX1_bestToLetGo_4 at hres
  refine q_iload_n 5 hX 3 dX1_bestToLetGo_4 rfl rfl rfl ?_
  refine q_iload_n 6 hX 1 dX1_bestToLetGo_5 rfl rfl rfl ?_
  refine q_icmp_ge 9 hX 32 dX1_bestToLetGo_6 rfl (by decide) (fun hc => ?_) (fun hc => ?_)
  · have hres := it_t hc hres
    refine q_iload_n 33 hX 2 dX1_bestToLetGo_32 rfl rfl rfl ?_
    exact q_iret hX (eqi hq hres) dX1_bestToLetGo_33
  · have hres := it_f hc hres
    refine q_aload_n 10 hX 0 dX1_bestToLetGo_9 rfl rfl rfl ?_
    refine q_iload_n 11 hX 3 dX1_bestToLetGo_10 rfl rfl rfl ?_
    refine q_iload_n 12 hX 1 dX1_bestToLetGo_11 rfl rfl rfl ?_
    obtain ⟨r2, S1, hk1, hres⟩ := ob hres
    refine q_callVi 15 (st := []) (As := [.int x3, .int x1]) hX (cX1_hadByLettingGo9 hX.dj hk1) cv_RX1_69 ci1 oB_15 rfl (by decide) rfl (Nat.le_of_ble_eq_true rfl) dX1_bestToLetGo_12 rfl ?_
    refine q_aload_n 16 hX 0 dX1_bestToLetGo_15 rfl rfl rfl ?_
    refine q_iload_n 17 hX 2 dX1_bestToLetGo_16 rfl rfl rfl ?_
    refine q_iload_n 18 hX 1 dX1_bestToLetGo_17 rfl rfl rfl ?_
    obtain ⟨r4, S2, hk3, hres⟩ := ob hres
    refine q_callVi 21 (st := [.int r2]) (As := [.int x2, .int x1]) hX (cX1_hadByLettingGo9 hX.dj hk3) cv_RX1_69 ci1 oB_15 rfl (by decide) rfl (Nat.le_of_ble_eq_true rfl) dX1_bestToLetGo_18 rfl ?_
    refine q_icmp_le 24 hX 26 dX1_bestToLetGo_21 rfl (by decide) (fun hc => ?_) (fun hc => ?_)
    · have hres := it_t hc hres
      refine q_iincB 29 3 (lv0 := [(0, .ref (ad X 15)), (1, .int x1), (2, .int x2)]) hX dX1_bestToLetGo_26 rfl rfl kI_1 (by decide) rfl hres (fun v5 hres => ?_)
      refine q_goto 4 hX dX1_bestToLetGo_29 (by decide) ?_
      exact q_sub [1, 2, 3, 0] rfl (hrc4 _ _ _ _ hres)
    · have hres := it_f hc hres
      refine q_iload_n 25 hX 3 dX1_bestToLetGo_24 rfl rfl rfl ?_
      refine q_istore_n 26 (lv' := [(2, .int x3), (0, .ref (ad X 15)), (1, .int x1), (3, .int x3)]) hX dX1_bestToLetGo_25 rfl rfl (by decide) rfl ?_
      refine q_iincB 29 3 (lv0 := [(2, .int x3), (0, .ref (ad X 15)), (1, .int x1)]) hX dX1_bestToLetGo_26 rfl rfl kI_1 (by decide) rfl hres (fun v6 hres => ?_)
      refine q_goto 4 hX dX1_bestToLetGo_29 (by decide) ?_
      exact q_sub [2, 3, 1, 0] rfl (hrc4 _ _ _ _ hres)
def fX1_bestToLetGo_4 : Nat → St → Int32 → Int32 → Int32 → Option (Int32 × St)
  | 0 => fun _ _ _ _ => none
  | k + 1 => fun S x1 x2 x3 => bX1_bestToLetGo_4 (fX1_bestToLetGo_4 k) S x1 x2 x3
theorem wfX1_bestToLetGo_4 {X : CX} (hX : Ok RX1 cX1_bestToLetGo (some .int) 0 55 4 X) {rr : Int32 × St} (hq : rs X = (some (.int rr.1), rr.2)) (k : Nat) : ∀ (S : St) (x1 : Int32) (x2 : Int32) (x3 : Int32), fX1_bestToLetGo_4 k S x1 x2 x3 = some rr → Wat 0 55 2 4 X 4 [(0, .ref (ad X 15)), (1, .int x1), (2, .int x2), (3, .int x3)] [] S := by
  induction k with
  | zero => intro S x1 x2 x3 hres; exact absurd hres (by simp [fX1_bestToLetGo_4])
  | succ k ih => intro S x1 x2 x3 hres; exact wbX1_bestToLetGo_4 hX hq ih hres
def fX1_bestToLetGo (S : St) (x1 : Int32) : Option (Int32 × St) :=
  fX1_bestToLetGo_4 100 S x1 (0 : Int32) (1 : Int32)
theorem wfX1_bestToLetGo {X : CX} (hX : Ok RX1 cX1_bestToLetGo (some .int) 0 55 4 X) {rr : Int32 × St} (hq : rs X = (some (.int rr.1), rr.2)) {S : St} {x1 : Int32} (hres : fX1_bestToLetGo S x1 = some rr) : Wat 0 55 2 4 X 0 [(0, .ref (ad X 15)), (1, .int x1)] [] S := by
  unfold fX1_bestToLetGo at hres
  refine q_iconst 1 hX dX1_bestToLetGo_0 rfl kI_0 ?_
  refine q_istore_n 2 (lv' := [(2, .int (0 : Int32)), (0, .ref (ad X 15)), (1, .int x1)]) hX dX1_bestToLetGo_1 rfl rfl (by decide) rfl ?_
  refine q_iconst 3 hX dX1_bestToLetGo_2 rfl kI_1 ?_
  refine q_istore_n 4 (lv' := [(3, .int (1 : Int32)), (2, .int (0 : Int32)), (0, .ref (ad X 15)), (1, .int x1)]) hX dX1_bestToLetGo_3 rfl rfl (by decide) rfl ?_
  exact q_sub [2, 3, 1, 0] rfl (wfX1_bestToLetGo_4 hX hq _ _ _ _ _ hres)
theorem cX1_bestToLetGo9 {l : Launch} {w : WD} (hj : Dj w 0 55) {rr : Int32 × St} {S : St} {x1 : Int32} (hres : fX1_bestToLetGo S x1 = some rr) : Ct l yX1_bestToLetGo cX1_bestToLetGo 4 (some .int) 2 w 0 55 [.ref (w.1 15), .int x1] S (some (.int rr.1), rr.2) := by
  refine Ct.of (lv := [(0, .ref (w.1 15)), (1, .int x1)]) hj (by decide +kernel) (Nat.le_of_ble_eq_true rfl) rfl ?_
  rintro X rfl rfl hq hX
  exact wfX1_bestToLetGo hX hq hres
