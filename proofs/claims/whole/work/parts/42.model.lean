def bX12_byLaw_3 (rc3 : St → Int32 → Int32 → Int32 → Int32 → Option (Int32 × St)) (S : St) (x1 : Int32) (x2 : Int32) (x3 : Int32) (x4 : Int32) : Option (Int32 × St) :=
  if (S.1 55 20) ≤ x4 then (some (x3, S)) else (if inb x4 16 = true then if (S.1 72 (x4.toNatClampNeg)) = x1 then (if inb x4 16 = true then if inb x4 16 = true then bi (fX12_reckonsTo S (S.1 74 (x4.toNatClampNeg)) (S.1 75 (x4.toNatClampNeg))) fun r6 S1 => if r6 = (1 : Int32) then (if inb x4 16 = true then if inb x4 16 = true then bi (fX12_reckonsTo S1 (S1.1 73 (x4.toNatClampNeg)) (S1.1 74 (x4.toNatClampNeg))) fun r10 S2 => if 0 ≤ r10 then (if r10 ≤ x2 then (some (r10, S2)) else (some (x2, S2))) else (some ((0 : Int32), S2)) else none else none) else (bV (x4 + (1 : Int32)) fun v11 => rc3 S1 x1 x2 x3 v11) else none else none) else (bV (x4 + (1 : Int32)) fun v2 => rc3 S x1 x2 x3 v2) else none)
theorem wbX12_byLaw_3 {X : CX} (hX : Ok RX12 cX12_byLaw (some .int) 55 40 6 X) {rr : Int32 × St} (hq : rs X = (some (.int rr.1), rr.2)) {rc3 : St → Int32 → Int32 → Int32 → Int32 → Option (Int32 × St)} (hrc3 : ∀ (S : St) (x1 : Int32) (x2 : Int32) (x3 : Int32) (x4 : Int32), rc3 S x1 x2 x3 x4 = some rr → Wat 55 40 2 6 X 3 [(0, .ref (ad X 55)), (1, .int x1), (2, .int x2), (3, .int x3), (4, .int x4)] [] S) {S : St} {x1 : Int32} {x2 : Int32} {x3 : Int32} {x4 : Int32} (hres : bX12_byLaw_3 rc3 S x1 x2 x3 x4 = some rr) : Wat 55 40 2 6 X 3 [(0, .ref (ad X 55)), (1, .int x1), (2, .int x2), (3, .int x3), (4, .int x4)] [] S := by
  unfold bX12_byLaw_3 at hres
  refine q_iload 5 hX 4 dX12_byLaw_3 rfl rfl ?_
  refine q_aload_n 6 hX 0 dX12_byLaw_5 rfl rfl rfl ?_
  refine q_getI 9 hX ci12 lf_RX12_262 fI_55_20 dX12_byLaw_6 rfl ?_
  refine q_icmp_ge 12 hX 96 dX12_byLaw_9 rfl (by decide) (fun hc => ?_) (fun hc => ?_)
  · have hres := it_t hc hres
    refine q_iload_n 97 hX 3 dX12_byLaw_96 rfl rfl rfl ?_
    exact q_iret hX (eqi hq hres) dX12_byLaw_97
  · have hres := it_f hc hres
    refine q_aload_n 13 hX 0 dX12_byLaw_12 rfl rfl rfl ?_
    refine q_getR 16 hX ci12 lf_RX12_59 fR_55_28 dX12_byLaw_13 rfl ?_
    refine q_iload 18 hX 4 dX12_byLaw_16 rfl rfl ?_
    obtain ⟨hb1, hres⟩ := gd hres
    refine q_iald 19 hX rfl aF_72 hb1 dX12_byLaw_18 rfl ?_
    refine q_iload_n 20 hX 1 dX12_byLaw_19 rfl rfl rfl ?_
    refine q_icmp_ne 23 hX 90 dX12_byLaw_20 rfl (by decide) (fun hc => ?_) (fun hc => ?_)
    · have hres := it_f hc hres
      refine q_iincB 93 4 (lv0 := [(0, .ref (ad X 55)), (1, .int x1), (2, .int x2), (3, .int x3)]) hX dX12_byLaw_90 rfl rfl kI_1 (by decide) rfl hres (fun v2 hres => ?_)
      refine q_goto 3 hX dX12_byLaw_93 (by decide) ?_
      exact q_sub [1, 2, 3, 4, 0] rfl (hrc3 _ _ _ _ _ hres)
    · have hres := it_t hc hres
      refine q_aload_n 24 hX 0 dX12_byLaw_23 rfl rfl rfl ?_
      refine q_aload_n 25 hX 0 dX12_byLaw_24 rfl rfl rfl ?_
      refine q_getR 28 hX ci12 lf_RX12_65 fR_55_30 dX12_byLaw_25 rfl ?_
      refine q_iload 30 hX 4 dX12_byLaw_28 rfl rfl ?_
      obtain ⟨hb3, hres⟩ := gd hres
      refine q_iald 31 hX rfl aF_74 hb3 dX12_byLaw_30 rfl ?_
      refine q_aload_n 32 hX 0 dX12_byLaw_31 rfl rfl rfl ?_
      refine q_getR 35 hX ci12 lf_RX12_68 fR_55_31 dX12_byLaw_32 rfl ?_
      refine q_iload 37 hX 4 dX12_byLaw_35 rfl rfl ?_
      obtain ⟨hb4, hres⟩ := gd hres
      refine q_iald 38 hX rfl aF_75 hb4 dX12_byLaw_37 rfl ?_
      obtain ⟨r6, S1, hk5, hres⟩ := ob hres
      refine q_callVi 41 (st := []) (As := [.int (S.1 74 (x4.toNatClampNeg)), .int (S.1 75 (x4.toNatClampNeg))]) hX (cX12_reckonsTo9 hX.dj hk5) cv_RX12_269 ci12 oB_55 rfl (by decide) rfl (Nat.le_of_ble_eq_true rfl) dX12_byLaw_38 rfl ?_
      refine q_iconst 42 hX dX12_byLaw_41 rfl kI_1 ?_
      refine q_icmp_eq 45 hX 48 dX12_byLaw_42 rfl (by decide) (fun hc => ?_) (fun hc => ?_)
      · have hres := it_t hc hres
        refine q_aload_n 49 hX 0 dX12_byLaw_48 rfl rfl rfl ?_
        refine q_aload_n 50 hX 0 dX12_byLaw_49 rfl rfl rfl ?_
        refine q_getR 53 hX ci12 lf_RX12_62 fR_55_29 dX12_byLaw_50 rfl ?_
        refine q_iload 55 hX 4 dX12_byLaw_53 rfl rfl ?_
        obtain ⟨hb7, hres⟩ := gd hres
        refine q_iald 56 hX rfl aF_73 hb7 dX12_byLaw_55 rfl ?_
        refine q_aload_n 57 hX 0 dX12_byLaw_56 rfl rfl rfl ?_
        refine q_getR 60 hX ci12 lf_RX12_65 fR_55_30 dX12_byLaw_57 rfl ?_
        refine q_iload 62 hX 4 dX12_byLaw_60 rfl rfl ?_
        obtain ⟨hb8, hres⟩ := gd hres
        refine q_iald 63 hX rfl aF_74 hb8 dX12_byLaw_62 rfl ?_
        obtain ⟨r10, S2, hk9, hres⟩ := ob hres
        refine q_callVi 66 (st := []) (As := [.int (S1.1 73 (x4.toNatClampNeg)), .int (S1.1 74 (x4.toNatClampNeg))]) hX (cX12_reckonsTo9 hX.dj hk9) cv_RX12_269 ci12 oB_55 rfl (by decide) rfl (Nat.le_of_ble_eq_true rfl) dX12_byLaw_63 rfl ?_
        refine q_istore 68 (lv' := [(5, .int r10), (0, .ref (ad X 55)), (1, .int x1), (2, .int x2), (3, .int x3), (4, .int x4)]) hX dX12_byLaw_66 rfl (by decide) rfl ?_
        refine q_iload 70 hX 0 dX12_byLaw_68 rfl rfl ?_
        refine q_if_ge 73 hX 77 dX12_byLaw_70 rfl (by decide) (fun hc => ?_) (fun hc => ?_)
        · have hres := it_t hc hres
          refine q_iload 79 hX 0 dX12_byLaw_77 rfl rfl ?_
          refine q_iload_n 80 hX 3 dX12_byLaw_79 rfl rfl rfl ?_
          refine q_icmp_le 83 hX 87 dX12_byLaw_80 rfl (by decide) (fun hc => ?_) (fun hc => ?_)
          · have hres := it_t hc hres
            refine q_iload 89 hX 0 dX12_byLaw_87 rfl rfl ?_
            exact q_iret hX (eqi hq hres) dX12_byLaw_89
          · have hres := it_f hc hres
            refine q_iload_n 84 hX 3 dX12_byLaw_83 rfl rfl rfl ?_
            refine q_goto 89 hX dX12_byLaw_84 (by decide) ?_
            exact q_iret hX (eqi hq hres) dX12_byLaw_89
        · have hres := it_f hc hres
          refine q_iconst 74 hX dX12_byLaw_73 rfl kI_0 ?_
          refine q_goto 89 hX dX12_byLaw_74 (by decide) ?_
          exact q_iret hX (eqi hq hres) dX12_byLaw_89
      · have hres := it_f hc hres
        refine q_goto 90 hX dX12_byLaw_45 (by decide) ?_
        refine q_iincB 93 4 (lv0 := [(0, .ref (ad X 55)), (1, .int x1), (2, .int x2), (3, .int x3)]) hX dX12_byLaw_90 rfl rfl kI_1 (by decide) rfl hres (fun v11 hres => ?_)
        refine q_goto 3 hX dX12_byLaw_93 (by decide) ?_
        exact q_sub [1, 2, 3, 4, 0] rfl (hrc3 _ _ _ _ _ hres)
def fX12_byLaw_3 : Nat → St → Int32 → Int32 → Int32 → Int32 → Option (Int32 × St)
  | 0 => fun _ _ _ _ _ => none
  | k + 1 => fun S x1 x2 x3 x4 => bX12_byLaw_3 (fX12_byLaw_3 k) S x1 x2 x3 x4
theorem wfX12_byLaw_3 {X : CX} (hX : Ok RX12 cX12_byLaw (some .int) 55 40 6 X) {rr : Int32 × St} (hq : rs X = (some (.int rr.1), rr.2)) (k : Nat) : ∀ (S : St) (x1 : Int32) (x2 : Int32) (x3 : Int32) (x4 : Int32), fX12_byLaw_3 k S x1 x2 x3 x4 = some rr → Wat 55 40 2 6 X 3 [(0, .ref (ad X 55)), (1, .int x1), (2, .int x2), (3, .int x3), (4, .int x4)] [] S := by
  induction k with
  | zero => intro S x1 x2 x3 x4 hres; exact absurd hres (by simp [fX12_byLaw_3])
  | succ k ih => intro S x1 x2 x3 x4 hres; exact wbX12_byLaw_3 hX hq ih hres
def fX12_byLaw (S : St) (x1 : Int32) (x2 : Int32) (x3 : Int32) : Option (Int32 × St) :=
  fX12_byLaw_3 100 S x1 x2 x3 (0 : Int32)
theorem wfX12_byLaw {X : CX} (hX : Ok RX12 cX12_byLaw (some .int) 55 40 6 X) {rr : Int32 × St} (hq : rs X = (some (.int rr.1), rr.2)) {S : St} {x1 : Int32} {x2 : Int32} {x3 : Int32} (hres : fX12_byLaw S x1 x2 x3 = some rr) : Wat 55 40 2 6 X 0 [(0, .ref (ad X 55)), (1, .int x1), (2, .int x2), (3, .int x3)] [] S := by
  unfold fX12_byLaw at hres
  refine q_iconst 1 hX dX12_byLaw_0 rfl kI_0 ?_
  refine q_istore 3 (lv' := [(4, .int (0 : Int32)), (0, .ref (ad X 55)), (1, .int x1), (2, .int x2), (3, .int x3)]) hX dX12_byLaw_1 rfl (by decide) rfl ?_
  exact q_sub [1, 2, 3, 4, 0] rfl (wfX12_byLaw_3 hX hq _ _ _ _ _ _ hres)
theorem cX12_byLaw9 {l : Launch} {w : WD} (hj : Dj w 55 40) {rr : Int32 × St} {S : St} {x1 : Int32} {x2 : Int32} {x3 : Int32} (hres : fX12_byLaw S x1 x2 x3 = some rr) : Ct l yX12_byLaw cX12_byLaw 6 (some .int) 2 w 55 40 [.ref (w.1 55), .int x1, .int x2, .int x3] S (some (.int rr.1), rr.2) := by
  refine Ct.of (lv := [(0, .ref (w.1 55)), (1, .int x1), (2, .int x2), (3, .int x3)]) hj (by decide +kernel) (Nat.le_of_ble_eq_true rfl) rfl ?_
  rintro X rfl rfl hq hX
  exact wfX12_byLaw hX hq hres
def bX12_holdsAny_2 (rc2 : St → Int32 → Int32 → Option (Int32 × St)) (S : St) (x1 : Int32) (x2 : Int32) : Option (Int32 × St) :=
  if (S.1 55 20) ≤ x2 then (some ((0 : Int32), S)) else (if inb x2 16 = true then if (S.1 72 (x2.toNatClampNeg)) = x1 then (if inb x2 16 = true then if inb x2 16 = true then bi (fX12_reckonsTo S (S.1 74 (x2.toNatClampNeg)) (S.1 75 (x2.toNatClampNeg))) fun r6 S1 => if r6 = (1 : Int32) then (some ((1 : Int32), S1)) else (bV (x2 + (1 : Int32)) fun v7 => rc2 S1 x1 v7) else none else none) else (bV (x2 + (1 : Int32)) fun v2 => rc2 S x1 v2) else none)
theorem wbX12_holdsAny_2 {X : CX} (hX : Ok RX12 cX12_holdsAny (some .boolean) 55 40 3 X) {rr : Int32 × St} (hq : rs X = (some (.int rr.1), rr.2)) {rc2 : St → Int32 → Int32 → Option (Int32 × St)} (hrc2 : ∀ (S : St) (x1 : Int32) (x2 : Int32), rc2 S x1 x2 = some rr → Wat 55 40 2 3 X 2 [(0, .ref (ad X 55)), (1, .int x1), (2, .int x2)] [] S) {S : St} {x1 : Int32} {x2 : Int32} (hres : bX12_holdsAny_2 rc2 S x1 x2 = some rr) : Wat 55 40 2 3 X 2 [(0, .ref (ad X 55)), (1, .int x1), (2, .int x2)] [] S := by
  unfold bX12_holdsAny_2 at hres
  refine q_iload_n 3 hX 2 dX12_holdsAny_2 rfl rfl rfl ?_
  refine q_aload_n 4 hX 0 dX12_holdsAny_3 rfl rfl rfl ?_
  refine q_getI 7 hX ci12 lf_RX12_262 fI_55_20 dX12_holdsAny_4 rfl ?_
  refine q_icmp_ge 10 hX 48 dX12_holdsAny_7 rfl (by decide) (fun hc => ?_) (fun hc => ?_)
  · have hres := it_t hc hres
    refine q_iconst 49 hX dX12_holdsAny_48 rfl kI_0 ?_
    exact q_zret hX (by decide) (eqi hq hres) dX12_holdsAny_49
  · have hres := it_f hc hres
    refine q_aload_n 11 hX 0 dX12_holdsAny_10 rfl rfl rfl ?_
    refine q_getR 14 hX ci12 lf_RX12_59 fR_55_28 dX12_holdsAny_11 rfl ?_
    refine q_iload_n 15 hX 2 dX12_holdsAny_14 rfl rfl rfl ?_
    obtain ⟨hb1, hres⟩ := gd hres
    refine q_iald 16 hX rfl aF_72 hb1 dX12_holdsAny_15 rfl ?_
    refine q_iload_n 17 hX 1 dX12_holdsAny_16 rfl rfl rfl ?_
    refine q_icmp_ne 20 hX 42 dX12_holdsAny_17 rfl (by decide) (fun hc => ?_) (fun hc => ?_)
    · have hres := it_f hc hres
      refine q_iincB 45 2 (lv0 := [(0, .ref (ad X 55)), (1, .int x1)]) hX dX12_holdsAny_42 rfl rfl kI_1 (by decide) rfl hres (fun v2 hres => ?_)
      refine q_goto 2 hX dX12_holdsAny_45 (by decide) ?_
      exact q_sub [1, 2, 0] rfl (hrc2 _ _ _ hres)
    · have hres := it_t hc hres
      refine q_aload_n 21 hX 0 dX12_holdsAny_20 rfl rfl rfl ?_
      refine q_aload_n 22 hX 0 dX12_holdsAny_21 rfl rfl rfl ?_
      refine q_getR 25 hX ci12 lf_RX12_65 fR_55_30 dX12_holdsAny_22 rfl ?_
      refine q_iload_n 26 hX 2 dX12_holdsAny_25 rfl rfl rfl ?_
      obtain ⟨hb3, hres⟩ := gd hres
      refine q_iald 27 hX rfl aF_74 hb3 dX12_holdsAny_26 rfl ?_
      refine q_aload_n 28 hX 0 dX12_holdsAny_27 rfl rfl rfl ?_
      refine q_getR 31 hX ci12 lf_RX12_68 fR_55_31 dX12_holdsAny_28 rfl ?_
      refine q_iload_n 32 hX 2 dX12_holdsAny_31 rfl rfl rfl ?_
      obtain ⟨hb4, hres⟩ := gd hres
      refine q_iald 33 hX rfl aF_75 hb4 dX12_holdsAny_32 rfl ?_
      obtain ⟨r6, S1, hk5, hres⟩ := ob hres
      refine q_callVi 36 (st := []) (As := [.int (S.1 74 (x2.toNatClampNeg)), .int (S.1 75 (x2.toNatClampNeg))]) hX (cX12_reckonsTo9 hX.dj hk5) cv_RX12_269 ci12 oB_55 rfl (by decide) rfl (Nat.le_of_ble_eq_true rfl) dX12_holdsAny_33 rfl ?_
      refine q_iconst 37 hX dX12_holdsAny_36 rfl kI_1 ?_
      refine q_icmp_ne 40 hX 42 dX12_holdsAny_37 rfl (by decide) (fun hc => ?_) (fun hc => ?_)
      · have hres := it_f hc hres
        refine q_iincB 45 2 (lv0 := [(0, .ref (ad X 55)), (1, .int x1)]) hX dX12_holdsAny_42 rfl rfl kI_1 (by decide) rfl hres (fun v7 hres => ?_)
        refine q_goto 2 hX dX12_holdsAny_45 (by decide) ?_
        exact q_sub [1, 2, 0] rfl (hrc2 _ _ _ hres)
      · have hres := it_t hc hres
        refine q_iconst 41 hX dX12_holdsAny_40 rfl kI_1 ?_
        exact q_zret hX (by decide) (eqi hq hres) dX12_holdsAny_41
def fX12_holdsAny_2 : Nat → St → Int32 → Int32 → Option (Int32 × St)
  | 0 => fun _ _ _ => none
  | k + 1 => fun S x1 x2 => bX12_holdsAny_2 (fX12_holdsAny_2 k) S x1 x2
theorem wfX12_holdsAny_2 {X : CX} (hX : Ok RX12 cX12_holdsAny (some .boolean) 55 40 3 X) {rr : Int32 × St} (hq : rs X = (some (.int rr.1), rr.2)) (k : Nat) : ∀ (S : St) (x1 : Int32) (x2 : Int32), fX12_holdsAny_2 k S x1 x2 = some rr → Wat 55 40 2 3 X 2 [(0, .ref (ad X 55)), (1, .int x1), (2, .int x2)] [] S := by
  induction k with
  | zero => intro S x1 x2 hres; exact absurd hres (by simp [fX12_holdsAny_2])
  | succ k ih => intro S x1 x2 hres; exact wbX12_holdsAny_2 hX hq ih hres
def fX12_holdsAny (S : St) (x1 : Int32) : Option (Int32 × St) :=
  fX12_holdsAny_2 100 S x1 (0 : Int32)
theorem wfX12_holdsAny {X : CX} (hX : Ok RX12 cX12_holdsAny (some .boolean) 55 40 3 X) {rr : Int32 × St} (hq : rs X = (some (.int rr.1), rr.2)) {S : St} {x1 : Int32} (hres : fX12_holdsAny S x1 = some rr) : Wat 55 40 2 3 X 0 [(0, .ref (ad X 55)), (1, .int x1)] [] S := by
  unfold fX12_holdsAny at hres
  refine q_iconst 1 hX dX12_holdsAny_0 rfl kI_0 ?_
  refine q_istore_n 2 (lv' := [(2, .int (0 : Int32)), (0, .ref (ad X 55)), (1, .int x1)]) hX dX12_holdsAny_1 rfl rfl (by decide) rfl ?_
  exact q_sub [1, 2, 0] rfl (wfX12_holdsAny_2 hX hq _ _ _ _ hres)
theorem cX12_holdsAny9 {l : Launch} {w : WD} (hj : Dj w 55 40) {rr : Int32 × St} {S : St} {x1 : Int32} (hres : fX12_holdsAny S x1 = some rr) : Ct l yX12_holdsAny cX12_holdsAny 3 (some .boolean) 2 w 55 40 [.ref (w.1 55), .int x1] S (some (.int rr.1), rr.2) := by
  refine Ct.of (lv := [(0, .ref (w.1 55)), (1, .int x1)]) hj (by decide +kernel) (Nat.le_of_ble_eq_true rfl) rfl ?_
  rintro X rfl rfl hq hX
  exact wfX12_holdsAny hX hq hres
def bX12_readsWithin_27 (rc27 : St → Int32 → Option (Int32 × St)) (S : St) (x1 : Int32) : Option (Int32 × St) :=
  bi (fX12_isDigit S) fun r2 S1 => if r2 = 0 then (if (S1.1 55 15) < (12 : Int32) then (some ((1 : Int32), S1)) else (bi (fX12_wrongAt S1 (3 : Int32) x1) fun r4 S2 => if r4 = 0 then (some ((0 : Int32), S2)) else (some ((1 : Int32), S2)))) else (if (S1.1 55 12) = (x1 + (2 : Int32)) then (bi (fX12_wrongAt S1 (2 : Int32) (S1.1 55 12)) fun r8 S6 => if r8 = 0 ∨ r8 = 1 then some (r8, S6) else none) else (bi (fX12_here S1) fun r6 S3 => bS (pI S3 55 15 ((((10 : Int32) * (S1.1 55 15)) + r6) - (48 : Int32))) fun S4 => bS (pI S4 55 12 ((S4.1 55 12) + (1 : Int32))) fun S5 => rc27 S5 x1))
theorem wbX12_readsWithin_27 {X : CX} (hX : Ok RX12 cX12_readsWithin (some .boolean) 55 40 2 X) {rr : Int32 × St} (hq : rs X = (some (.int rr.1), rr.2)) {rc27 : St → Int32 → Option (Int32 × St)} (hrc27 : ∀ (S : St) (x1 : Int32), rc27 S x1 = some rr → Wat 55 40 2 2 X 27 [(0, .ref (ad X 55)), (1, .int x1)] [] S) {S : St} {x1 : Int32} (hres : bX12_readsWithin_27 rc27 S x1 = some rr) : Wat 55 40 2 2 X 27 [(0, .ref (ad X 55)), (1, .int x1)] [] S := by
  unfold bX12_readsWithin_27 at hres
  refine q_aload_n 28 hX 0 dX12_readsWithin_27 rfl rfl rfl ?_
  obtain ⟨r2, S1, hk1, hres⟩ := ob hres
  refine q_callVi 31 (st := []) (As := []) hX (cX12_isDigit9 hX.dj hk1) cv_RX12_188 ci12 oB_55 rfl (by decide) rfl (Nat.le_of_ble_eq_true rfl) dX12_readsWithin_28 rfl ?_
  refine q_if_eq 34 hX 86 dX12_readsWithin_31 rfl (by decide) (fun hc => ?_) (fun hc => ?_)
  · have hres := it_t hc hres
    refine q_aload_n 87 hX 0 dX12_readsWithin_86 rfl rfl rfl ?_
    refine q_getI 90 hX ci12 lf_RX12_185 fI_55_15 dX12_readsWithin_87 rfl ?_
    refine q_bipush 92 hX dX12_readsWithin_90 rfl kB_12 ?_
    refine q_icmp_lt 95 hX 104 dX12_readsWithin_92 rfl (by decide) (fun hc => ?_) (fun hc => ?_)
    · have hres := it_t hc hres
      refine q_iconst 105 hX dX12_readsWithin_104 rfl kI_1 ?_
      refine q_goto 109 hX dX12_readsWithin_105 (by decide) ?_
      exact q_zret hX (by decide) (eqi hq hres) dX12_readsWithin_109
    · have hres := it_f hc hres
      refine q_aload_n 96 hX 0 dX12_readsWithin_95 rfl rfl rfl ?_
      refine q_iconst 97 hX dX12_readsWithin_96 rfl kI_3 ?_
      refine q_iload_n 98 hX 1 dX12_readsWithin_97 rfl rfl rfl ?_
      obtain ⟨r4, S2, hk3, hres⟩ := ob hres
      refine q_callVi 101 (st := []) (As := [.int (3 : Int32), .int x1]) hX (cX12_wrongAt9 hX.dj hk3) cv_RX12_182 ci12 oB_55 rfl (by decide) rfl (Nat.le_of_ble_eq_true rfl) dX12_readsWithin_98 rfl ?_
      refine q_if_eq 104 hX 108 dX12_readsWithin_101 rfl (by decide) (fun hc => ?_) (fun hc => ?_)
      · have hres := it_t hc hres
        refine q_iconst 109 hX dX12_readsWithin_108 rfl kI_0 ?_
        exact q_zret hX (by decide) (eqi hq hres) dX12_readsWithin_109
      · have hres := it_f hc hres
        refine q_iconst 105 hX dX12_readsWithin_104 rfl kI_1 ?_
        refine q_goto 109 hX dX12_readsWithin_105 (by decide) ?_
        exact q_zret hX (by decide) (eqi hq hres) dX12_readsWithin_109
  · have hres := it_f hc hres
    refine q_aload_n 35 hX 0 dX12_readsWithin_34 rfl rfl rfl ?_
    refine q_getI 38 hX ci12 lf_RX12_169 fI_55_12 dX12_readsWithin_35 rfl ?_
    refine q_iload_n 39 hX 1 dX12_readsWithin_38 rfl rfl rfl ?_
    refine q_iconst 40 hX dX12_readsWithin_39 rfl kI_2 ?_
    refine q_iadd 41 hX dX12_readsWithin_40 rfl ?_
    refine q_icmp_ne 44 hX 54 dX12_readsWithin_41 rfl (by decide) (fun hc => ?_) (fun hc => ?_)
    · have hres := it_f hc hres
      refine q_aload_n 55 hX 0 dX12_readsWithin_54 rfl rfl rfl ?_
      refine q_bipush 57 hX dX12_readsWithin_55 rfl kB_10 ?_
      refine q_aload_n 58 hX 0 dX12_readsWithin_57 rfl rfl rfl ?_
      refine q_getI 61 hX ci12 lf_RX12_185 fI_55_15 dX12_readsWithin_58 rfl ?_
      refine q_imul 62 hX dX12_readsWithin_61 rfl ?_
      refine q_aload_n 63 hX 0 dX12_readsWithin_62 rfl rfl rfl ?_
      obtain ⟨r6, S3, hk5, hres⟩ := ob hres
      refine q_callVi 66 (st := [.int ((10 : Int32) * (S1.1 55 15)), .ref (ad X 55)]) (As := []) hX (cX12_here9 hX.dj hk5) cv_RX12_175 ci12 oB_55 rfl (by decide) rfl (Nat.le_of_ble_eq_true rfl) dX12_readsWithin_63 rfl ?_
      refine q_iadd 67 hX dX12_readsWithin_66 rfl ?_
      refine q_bipush 69 hX dX12_readsWithin_67 rfl kB_48 ?_
      refine q_isub 70 hX dX12_readsWithin_69 rfl ?_
      refine q_putI 73 hX ci12 lf_RX12_185 fI_55_15 (nar_i rfl) dX12_readsWithin_70 rfl ?_
      refine q_bS hres (fun S4 _ hres => ?_)
      refine q_aload_n 74 hX 0 dX12_readsWithin_73 rfl rfl rfl ?_
      refine q_aload_n 75 hX 0 dX12_readsWithin_74 rfl rfl rfl ?_
      refine q_getI 78 hX ci12 lf_RX12_169 fI_55_12 dX12_readsWithin_75 rfl ?_
      refine q_iconst 79 hX dX12_readsWithin_78 rfl kI_1 ?_
      refine q_iadd 80 hX dX12_readsWithin_79 rfl ?_
      refine q_putI 83 hX ci12 lf_RX12_169 fI_55_12 (nar_i rfl) dX12_readsWithin_80 rfl ?_
      refine q_bS hres (fun S5 _ hres => ?_)
      refine q_goto 27 hX dX12_readsWithin_83 (by decide) ?_
      exact q_sub [0, 1] rfl (hrc27 _ _ hres)
    · have hres := it_t hc hres
      refine q_aload_n 45 hX 0 dX12_readsWithin_44 rfl rfl rfl ?_
      refine q_iconst 46 hX dX12_readsWithin_45 rfl kI_2 ?_
      refine q_aload_n 47 hX 0 dX12_readsWithin_46 rfl rfl rfl ?_
      refine q_getI 50 hX ci12 lf_RX12_169 fI_55_12 dX12_readsWithin_47 rfl ?_
      obtain ⟨r8, S6, hk7, hres⟩ := ob hres
      refine q_callVi 53 (st := []) (As := [.int (2 : Int32), .int (S1.1 55 12)]) hX (cX12_wrongAt9 hX.dj hk7) cv_RX12_182 ci12 oB_55 rfl (by decide) rfl (Nat.le_of_ble_eq_true rfl) dX12_readsWithin_50 rfl ?_
      obtain ⟨hz9, hres⟩ := gd hres
      exact q_zret hX hz9 (eqi hq hres) dX12_readsWithin_53
def fX12_readsWithin_27 : Nat → St → Int32 → Option (Int32 × St)
  | 0 => fun _ _ => none
  | k + 1 => fun S x1 => bX12_readsWithin_27 (fX12_readsWithin_27 k) S x1
theorem wfX12_readsWithin_27 {X : CX} (hX : Ok RX12 cX12_readsWithin (some .boolean) 55 40 2 X) {rr : Int32 × St} (hq : rs X = (some (.int rr.1), rr.2)) (k : Nat) : ∀ (S : St) (x1 : Int32), fX12_readsWithin_27 k S x1 = some rr → Wat 55 40 2 2 X 27 [(0, .ref (ad X 55)), (1, .int x1)] [] S := by
  induction k with
  | zero => intro S x1 hres; exact absurd hres (by simp [fX12_readsWithin_27])
  | succ k ih => intro S x1 hres; exact wbX12_readsWithin_27 hX hq ih hres
def fX12_readsWithin (S : St) : Option (Int32 × St) :=
  bV ((S.1 55 12)) fun v1 => bi (fX12_isDigit S) fun r3 S1 => if r3 = 0 then (bi (fX12_wrongAt S1 (1 : Int32) (S1.1 55 12)) fun r5 S3 => if r5 = 0 ∨ r5 = 1 then some (r5, S3) else none) else (bS (pI S1 55 15 (0 : Int32)) fun S2 => fX12_readsWithin_27 100 S2 v1)
theorem wfX12_readsWithin {X : CX} (hX : Ok RX12 cX12_readsWithin (some .boolean) 55 40 2 X) {rr : Int32 × St} (hq : rs X = (some (.int rr.1), rr.2)) {S : St} (hres : fX12_readsWithin S = some rr) : Wat 55 40 2 2 X 0 [(0, .ref (ad X 55))] [] S := by
  unfold fX12_readsWithin at hres
  refine q_aload_n 1 hX 0 dX12_readsWithin_0 rfl rfl rfl ?_
  refine q_getI 4 hX ci12 lf_RX12_169 fI_55_12 dX12_readsWithin_1 rfl ?_
  refine q_istoreB_n 5 (lv0 := [(0, .ref (ad X 55))]) hX dX12_readsWithin_4 rfl rfl (by decide) rfl hres (fun v1 hres => ?_)
  refine q_aload_n 6 hX 1 dX12_readsWithin_5 rfl rfl rfl ?_
  obtain ⟨r3, S1, hk2, hres⟩ := ob hres
  refine q_callVi 9 (st := []) (As := []) hX (cX12_isDigit9 hX.dj hk2) cv_RX12_188 ci12 oB_55 rfl (by decide) rfl (Nat.le_of_ble_eq_true rfl) dX12_readsWithin_6 rfl ?_
  refine q_if_ne 12 hX 22 dX12_readsWithin_9 rfl (by decide) (fun hc => ?_) (fun hc => ?_)
  · have hres := it_f hc hres
    refine q_aload_n 23 hX 1 dX12_readsWithin_22 rfl rfl rfl ?_
    refine q_iconst 24 hX dX12_readsWithin_23 rfl kI_0 ?_
    refine q_putI 27 hX ci12 lf_RX12_185 fI_55_15 (nar_i rfl) dX12_readsWithin_24 rfl ?_
    refine q_bS hres (fun S2 _ hres => ?_)
    exact q_sub [1, 0] rfl (wfX12_readsWithin_27 hX hq _ _ _ hres)
  · have hres := it_t hc hres
    refine q_aload_n 13 hX 1 dX12_readsWithin_12 rfl rfl rfl ?_
    refine q_iconst 14 hX dX12_readsWithin_13 rfl kI_1 ?_
    refine q_aload_n 15 hX 1 dX12_readsWithin_14 rfl rfl rfl ?_
    refine q_getI 18 hX ci12 lf_RX12_169 fI_55_12 dX12_readsWithin_15 rfl ?_
    obtain ⟨r5, S3, hk4, hres⟩ := ob hres
    refine q_callVi 21 (st := []) (As := [.int (1 : Int32), .int (S1.1 55 12)]) hX (cX12_wrongAt9 hX.dj hk4) cv_RX12_182 ci12 oB_55 rfl (by decide) rfl (Nat.le_of_ble_eq_true rfl) dX12_readsWithin_18 rfl ?_
    obtain ⟨hz6, hres⟩ := gd hres
    exact q_zret hX hz6 (eqi hq hres) dX12_readsWithin_21
theorem cX12_readsWithin9 {l : Launch} {w : WD} (hj : Dj w 55 40) {rr : Int32 × St} {S : St} (hres : fX12_readsWithin S = some rr) : Ct l yX12_readsWithin cX12_readsWithin 2 (some .boolean) 2 w 55 40 [.ref (w.1 55)] S (some (.int rr.1), rr.2) := by
  refine Ct.of (lv := [(0, .ref (w.1 55))]) hj (by decide +kernel) (Nat.le_of_ble_eq_true rfl) rfl ?_
  rintro X rfl rfl hq hX
  exact wfX12_readsWithin hX hq hres
def fX12_readsHouse (S : St) (x1 : Int32) : Option (Int32 × St) :=
  bi (fX12_has S (S.1 55 38) x1) fun r2 S1 => if r2 = 0 then (bS (pI S1 55 12 ((S1.1 55 12) + (1 : Int32))) fun S2 => bi (fX12_readsWithin S2) fun r4 S3 => if r4 = 0 then (some ((0 : Int32), S3)) else (if inb x1 16 = true then bS (pI S3 78 (x1.toNatClampNeg) (S3.1 55 15)) fun S4 => bS (pI S4 55 38 ((S4.1 55 38) ||| ((1 : Int32) <<< (x1 &&& 31)))) fun S5 => some ((1 : Int32), S5) else none)) else (bi (fX12_wrongAt S1 (6 : Int32) (S1.1 55 12)) fun r7 S6 => if r7 = 0 ∨ r7 = 1 then some (r7, S6) else none)
theorem wfX12_readsHouse {X : CX} (hX : Ok RX12 cX12_readsHouse (some .boolean) 55 40 2 X) {rr : Int32 × St} (hq : rs X = (some (.int rr.1), rr.2)) {S : St} {x1 : Int32} (hres : fX12_readsHouse S x1 = some rr) : Wat 55 40 3 2 X 0 [(0, .ref (ad X 55)), (1, .int x1)] [] S := by
  unfold fX12_readsHouse at hres
  refine q_aload_n 1 hX 0 dX12_readsHouse_0 rfl rfl rfl ?_
  refine q_getI 4 hX ci12 lf_RX12_272 fI_55_38 dX12_readsHouse_1 rfl ?_
  refine q_iload_n 5 hX 1 dX12_readsHouse_4 rfl rfl rfl ?_
  obtain ⟨r2, S1, hk1, hres⟩ := ob hres
  refine q_callSi 8 (st := []) (As := [.int (S.1 55 38), .int x1]) hX (cX12_has9 hX.dj hk1) cs_RX12_130 rfl (by decide) rfl (Nat.le_of_ble_eq_true rfl) dX12_readsHouse_5 rfl ?_
  refine q_if_eq 11 hX 22 dX12_readsHouse_8 rfl (by decide) (fun hc => ?_) (fun hc => ?_)
  · have hres := it_t hc hres
    refine q_aload_n 23 hX 0 dX12_readsHouse_22 rfl rfl rfl ?_
    refine q_aload_n 24 hX 0 dX12_readsHouse_23 rfl rfl rfl ?_
    refine q_getI 27 hX ci12 lf_RX12_169 fI_55_12 dX12_readsHouse_24 rfl ?_
    refine q_iconst 28 hX dX12_readsHouse_27 rfl kI_1 ?_
    refine q_iadd 29 hX dX12_readsHouse_28 rfl ?_
    refine q_putI 32 hX ci12 lf_RX12_169 fI_55_12 (nar_i rfl) dX12_readsHouse_29 rfl ?_
    refine q_bS hres (fun S2 _ hres => ?_)
    refine q_aload_n 33 hX 0 dX12_readsHouse_32 rfl rfl rfl ?_
    obtain ⟨r4, S3, hk3, hres⟩ := ob hres
    refine q_callVi 36 (st := []) (As := []) hX (cX12_readsWithin9 hX.dj hk3) cv_RX12_275 ci12 oB_55 rfl (by decide) rfl (Nat.le_of_ble_eq_true rfl) dX12_readsHouse_33 rfl ?_
    refine q_if_ne 39 hX 41 dX12_readsHouse_36 rfl (by decide) (fun hc => ?_) (fun hc => ?_)
    · have hres := it_f hc hres
      refine q_aload_n 42 hX 0 dX12_readsHouse_41 rfl rfl rfl ?_
      refine q_getR 45 hX ci12 lf_RX12_77 fR_55_34 dX12_readsHouse_42 rfl ?_
      refine q_iload_n 46 hX 1 dX12_readsHouse_45 rfl rfl rfl ?_
      refine q_aload_n 47 hX 0 dX12_readsHouse_46 rfl rfl rfl ?_
      refine q_getI 50 hX ci12 lf_RX12_185 fI_55_15 dX12_readsHouse_47 rfl ?_
      obtain ⟨hb5, hres⟩ := gd hres
      refine q_iast 51 hX rfl aF_78 hb5 dX12_readsHouse_50 rfl ?_
      refine q_bS hres (fun S4 _ hres => ?_)
      refine q_aload_n 52 hX 0 dX12_readsHouse_51 rfl rfl rfl ?_
      refine q_aload_n 53 hX 0 dX12_readsHouse_52 rfl rfl rfl ?_
      refine q_getI 56 hX ci12 lf_RX12_272 fI_55_38 dX12_readsHouse_53 rfl ?_
      refine q_iconst 57 hX dX12_readsHouse_56 rfl kI_1 ?_
      refine q_iload_n 58 hX 1 dX12_readsHouse_57 rfl rfl rfl ?_
      refine q_ishl 59 hX dX12_readsHouse_58 rfl ?_
      refine q_ior 60 hX dX12_readsHouse_59 rfl ?_
      refine q_putI 63 hX ci12 lf_RX12_272 fI_55_38 (nar_i rfl) dX12_readsHouse_60 rfl ?_
      refine q_bS hres (fun S5 _ hres => ?_)
      refine q_iconst 64 hX dX12_readsHouse_63 rfl kI_1 ?_
      exact q_zret hX (by decide) (eqi hq hres) dX12_readsHouse_64
    · have hres := it_t hc hres
      refine q_iconst 40 hX dX12_readsHouse_39 rfl kI_0 ?_
      exact q_zret hX (by decide) (eqi hq hres) dX12_readsHouse_40
  · have hres := it_f hc hres
    refine q_aload_n 12 hX 0 dX12_readsHouse_11 rfl rfl rfl ?_
    refine q_bipush 14 hX dX12_readsHouse_12 rfl kB_6 ?_
    refine q_aload_n 15 hX 0 dX12_readsHouse_14 rfl rfl rfl ?_
    refine q_getI 18 hX ci12 lf_RX12_169 fI_55_12 dX12_readsHouse_15 rfl ?_
    obtain ⟨r7, S6, hk6, hres⟩ := ob hres
    refine q_callVi 21 (st := []) (As := [.int (6 : Int32), .int (S1.1 55 12)]) hX (cX12_wrongAt9 hX.dj hk6) cv_RX12_182 ci12 oB_55 rfl (by decide) rfl (Nat.le_of_ble_eq_true rfl) dX12_readsHouse_18 rfl ?_
    obtain ⟨hz8, hres⟩ := gd hres
    exact q_zret hX hz8 (eqi hq hres) dX12_readsHouse_21
theorem cX12_readsHouse9 {l : Launch} {w : WD} (hj : Dj w 55 40) {rr : Int32 × St} {S : St} {x1 : Int32} (hres : fX12_readsHouse S x1 = some rr) : Ct l yX12_readsHouse cX12_readsHouse 2 (some .boolean) 3 w 55 40 [.ref (w.1 55), .int x1] S (some (.int rr.1), rr.2) := by
  refine Ct.of (lv := [(0, .ref (w.1 55)), (1, .int x1)]) hj (by decide +kernel) (Nat.le_of_ble_eq_true rfl) rfl ?_
  rintro X rfl rfl hq hX
  exact wfX12_readsHouse hX hq hres
def fX12_readsThing (S : St) (x1 : Int32) : Option (Int32 × St) :=
  bi (fX12_has S (S.1 55 39) x1) fun r2 S1 => if r2 = 0 then (bS (pI S1 55 12 ((S1.1 55 12) + (1 : Int32))) fun S2 => bi (fX12_readsWithin S2) fun r4 S3 => if r4 = 0 then (some ((0 : Int32), S3)) else (if inb x1 16 = true then bS (pI S3 79 (x1.toNatClampNeg) (S3.1 55 15)) fun S4 => bi (fX12_takes S4 (64 : Int32)) fun r7 S5 => if r7 = 0 then (some ((0 : Int32), S5)) else (bi (fX12_readsWithin S5) fun r9 S6 => if r9 = 0 then (some ((0 : Int32), S6)) else (if inb x1 16 = true then bS (pI S6 80 (x1.toNatClampNeg) (S6.1 55 15)) fun S7 => bi (fX12_takes S7 (45 : Int32)) fun r12 S8 => if r12 = 0 then (some ((0 : Int32), S8)) else (bi (fX12_readsWithin S8) fun r14 S9 => if r14 = 0 then (some ((0 : Int32), S9)) else (if inb x1 16 = true then bS (pI S9 81 (x1.toNatClampNeg) (S9.1 55 15)) fun S10 => bS (pI S10 55 39 ((S10.1 55 39) ||| ((1 : Int32) <<< (x1 &&& 31)))) fun S11 => some ((1 : Int32), S11) else none)) else none)) else none)) else (bi (fX12_wrongAt S1 (6 : Int32) (S1.1 55 12)) fun r17 S12 => if r17 = 0 ∨ r17 = 1 then some (r17, S12) else none)
theorem wfX12_readsThing {X : CX} (hX : Ok RX12 cX12_readsThing (some .boolean) 55 40 2 X) {rr : Int32 × St} (hq : rs X = (some (.int rr.1), rr.2)) {S : St} {x1 : Int32} (hres : fX12_readsThing S x1 = some rr) : Wat 55 40 3 2 X 0 [(0, .ref (ad X 55)), (1, .int x1)] [] S := by
  unfold fX12_readsThing at hres
  refine q_aload_n 1 hX 0 dX12_readsThing_0 rfl rfl rfl ?_
  refine q_getI 4 hX ci12 lf_RX12_278 fI_55_39 dX12_readsThing_1 rfl ?_
  refine q_iload_n 5 hX 1 dX12_readsThing_4 rfl rfl rfl ?_
  obtain ⟨r2, S1, hk1, hres⟩ := ob hres
  refine q_callSi 8 (st := []) (As := [.int (S.1 55 39), .int x1]) hX (cX12_has9 hX.dj hk1) cs_RX12_130 rfl (by decide) rfl (Nat.le_of_ble_eq_true rfl) dX12_readsThing_5 rfl ?_
  refine q_if_eq 11 hX 22 dX12_readsThing_8 rfl (by decide) (fun hc => ?_) (fun hc => ?_)
  · have hres := it_t hc hres
    refine q_aload_n 23 hX 0 dX12_readsThing_22 rfl rfl rfl ?_
    refine q_aload_n 24 hX 0 dX12_readsThing_23 rfl rfl rfl ?_
    refine q_getI 27 hX ci12 lf_RX12_169 fI_55_12 dX12_readsThing_24 rfl ?_
    refine q_iconst 28 hX dX12_readsThing_27 rfl kI_1 ?_
    refine q_iadd 29 hX dX12_readsThing_28 rfl ?_
    refine q_putI 32 hX ci12 lf_RX12_169 fI_55_12 (nar_i rfl) dX12_readsThing_29 rfl ?_
    refine q_bS hres (fun S2 _ hres => ?_)
    refine q_aload_n 33 hX 0 dX12_readsThing_32 rfl rfl rfl ?_
    obtain ⟨r4, S3, hk3, hres⟩ := ob hres
    refine q_callVi 36 (st := []) (As := []) hX (cX12_readsWithin9 hX.dj hk3) cv_RX12_275 ci12 oB_55 rfl (by decide) rfl (Nat.le_of_ble_eq_true rfl) dX12_readsThing_33 rfl ?_
    refine q_if_ne 39 hX 41 dX12_readsThing_36 rfl (by decide) (fun hc => ?_) (fun hc => ?_)
    · have hres := it_f hc hres
      refine q_aload_n 42 hX 0 dX12_readsThing_41 rfl rfl rfl ?_
      refine q_getR 45 hX ci12 lf_RX12_80 fR_55_35 dX12_readsThing_42 rfl ?_
      refine q_iload_n 46 hX 1 dX12_readsThing_45 rfl rfl rfl ?_
      refine q_aload_n 47 hX 0 dX12_readsThing_46 rfl rfl rfl ?_
      refine q_getI 50 hX ci12 lf_RX12_185 fI_55_15 dX12_readsThing_47 rfl ?_
      obtain ⟨hb5, hres⟩ := gd hres
      refine q_iast 51 hX rfl aF_79 hb5 dX12_readsThing_50 rfl ?_
      refine q_bS hres (fun S4 _ hres => ?_)
      refine q_aload_n 52 hX 0 dX12_readsThing_51 rfl rfl rfl ?_
      refine q_bipush 54 hX dX12_readsThing_52 rfl kB_64 ?_
      obtain ⟨r7, S5, hk6, hres⟩ := ob hres
      refine q_callVi 57 (st := []) (As := [.int (64 : Int32)]) hX (cX12_takes9 hX.dj hk6) cv_RX12_259 ci12 oB_55 rfl (by decide) rfl (Nat.le_of_ble_eq_true rfl) dX12_readsThing_54 rfl ?_
      refine q_if_eq 60 hX 67 dX12_readsThing_57 rfl (by decide) (fun hc => ?_) (fun hc => ?_)
      · have hres := it_t hc hres
        refine q_iconst 68 hX dX12_readsThing_67 rfl kI_0 ?_
        exact q_zret hX (by decide) (eqi hq hres) dX12_readsThing_68
      · have hres := it_f hc hres
        refine q_aload_n 61 hX 0 dX12_readsThing_60 rfl rfl rfl ?_
        obtain ⟨r9, S6, hk8, hres⟩ := ob hres
        refine q_callVi 64 (st := []) (As := []) hX (cX12_readsWithin9 hX.dj hk8) cv_RX12_275 ci12 oB_55 rfl (by decide) rfl (Nat.le_of_ble_eq_true rfl) dX12_readsThing_61 rfl ?_
        refine q_if_ne 67 hX 69 dX12_readsThing_64 rfl (by decide) (fun hc => ?_) (fun hc => ?_)
        · have hres := it_f hc hres
          refine q_aload_n 70 hX 0 dX12_readsThing_69 rfl rfl rfl ?_
          refine q_getR 73 hX ci12 lf_RX12_83 fR_55_36 dX12_readsThing_70 rfl ?_
          refine q_iload_n 74 hX 1 dX12_readsThing_73 rfl rfl rfl ?_
          refine q_aload_n 75 hX 0 dX12_readsThing_74 rfl rfl rfl ?_
          refine q_getI 78 hX ci12 lf_RX12_185 fI_55_15 dX12_readsThing_75 rfl ?_
          obtain ⟨hb10, hres⟩ := gd hres
          refine q_iast 79 hX rfl aF_80 hb10 dX12_readsThing_78 rfl ?_
          refine q_bS hres (fun S7 _ hres => ?_)
          refine q_aload_n 80 hX 0 dX12_readsThing_79 rfl rfl rfl ?_
          refine q_bipush 82 hX dX12_readsThing_80 rfl kB_45 ?_
          obtain ⟨r12, S8, hk11, hres⟩ := ob hres
          refine q_callVi 85 (st := []) (As := [.int (45 : Int32)]) hX (cX12_takes9 hX.dj hk11) cv_RX12_259 ci12 oB_55 rfl (by decide) rfl (Nat.le_of_ble_eq_true rfl) dX12_readsThing_82 rfl ?_
          refine q_if_eq 88 hX 95 dX12_readsThing_85 rfl (by decide) (fun hc => ?_) (fun hc => ?_)
          · have hres := it_t hc hres
            refine q_iconst 96 hX dX12_readsThing_95 rfl kI_0 ?_
            exact q_zret hX (by decide) (eqi hq hres) dX12_readsThing_96
          · have hres := it_f hc hres
            refine q_aload_n 89 hX 0 dX12_readsThing_88 rfl rfl rfl ?_
            obtain ⟨r14, S9, hk13, hres⟩ := ob hres
            refine q_callVi 92 (st := []) (As := []) hX (cX12_readsWithin9 hX.dj hk13) cv_RX12_275 ci12 oB_55 rfl (by decide) rfl (Nat.le_of_ble_eq_true rfl) dX12_readsThing_89 rfl ?_
            refine q_if_ne 95 hX 97 dX12_readsThing_92 rfl (by decide) (fun hc => ?_) (fun hc => ?_)
            · have hres := it_f hc hres
              refine q_aload_n 98 hX 0 dX12_readsThing_97 rfl rfl rfl ?_
              refine q_getR 101 hX ci12 lf_RX12_86 fR_55_37 dX12_readsThing_98 rfl ?_
              refine q_iload_n 102 hX 1 dX12_readsThing_101 rfl rfl rfl ?_
              refine q_aload_n 103 hX 0 dX12_readsThing_102 rfl rfl rfl ?_
              refine q_getI 106 hX ci12 lf_RX12_185 fI_55_15 dX12_readsThing_103 rfl ?_
              obtain ⟨hb15, hres⟩ := gd hres
              refine q_iast 107 hX rfl aF_81 hb15 dX12_readsThing_106 rfl ?_
              refine q_bS hres (fun S10 _ hres => ?_)
              refine q_aload_n 108 hX 0 dX12_readsThing_107 rfl rfl rfl ?_
              refine q_aload_n 109 hX 0 dX12_readsThing_108 rfl rfl rfl ?_
              refine q_getI 112 hX ci12 lf_RX12_278 fI_55_39 dX12_readsThing_109 rfl ?_
              refine q_iconst 113 hX dX12_readsThing_112 rfl kI_1 ?_
              refine q_iload_n 114 hX 1 dX12_readsThing_113 rfl rfl rfl ?_
              refine q_ishl 115 hX dX12_readsThing_114 rfl ?_
              refine q_ior 116 hX dX12_readsThing_115 rfl ?_
              refine q_putI 119 hX ci12 lf_RX12_278 fI_55_39 (nar_i rfl) dX12_readsThing_116 rfl ?_
              refine q_bS hres (fun S11 _ hres => ?_)
              refine q_iconst 120 hX dX12_readsThing_119 rfl kI_1 ?_
              exact q_zret hX (by decide) (eqi hq hres) dX12_readsThing_120
            · have hres := it_t hc hres
              refine q_iconst 96 hX dX12_readsThing_95 rfl kI_0 ?_
              exact q_zret hX (by decide) (eqi hq hres) dX12_readsThing_96
        · have hres := it_t hc hres
          refine q_iconst 68 hX dX12_readsThing_67 rfl kI_0 ?_
          exact q_zret hX (by decide) (eqi hq hres) dX12_readsThing_68
    · have hres := it_t hc hres
      refine q_iconst 40 hX dX12_readsThing_39 rfl kI_0 ?_
      exact q_zret hX (by decide) (eqi hq hres) dX12_readsThing_40
  · have hres := it_f hc hres
    refine q_aload_n 12 hX 0 dX12_readsThing_11 rfl rfl rfl ?_
    refine q_bipush 14 hX dX12_readsThing_12 rfl kB_6 ?_
    refine q_aload_n 15 hX 0 dX12_readsThing_14 rfl rfl rfl ?_
    refine q_getI 18 hX ci12 lf_RX12_169 fI_55_12 dX12_readsThing_15 rfl ?_
    obtain ⟨r17, S12, hk16, hres⟩ := ob hres
    refine q_callVi 21 (st := []) (As := [.int (6 : Int32), .int (S1.1 55 12)]) hX (cX12_wrongAt9 hX.dj hk16) cv_RX12_182 ci12 oB_55 rfl (by decide) rfl (Nat.le_of_ble_eq_true rfl) dX12_readsThing_18 rfl ?_
    obtain ⟨hz18, hres⟩ := gd hres
    exact q_zret hX hz18 (eqi hq hres) dX12_readsThing_21
theorem cX12_readsThing9 {l : Launch} {w : WD} (hj : Dj w 55 40) {rr : Int32 × St} {S : St} {x1 : Int32} (hres : fX12_readsThing S x1 = some rr) : Ct l yX12_readsThing cX12_readsThing 2 (some .boolean) 3 w 55 40 [.ref (w.1 55), .int x1] S (some (.int rr.1), rr.2) := by
  refine Ct.of (lv := [(0, .ref (w.1 55)), (1, .int x1)]) hj (by decide +kernel) (Nat.le_of_ble_eq_true rfl) rfl ?_
  rintro X rfl rfl hq hX
  exact wfX12_readsThing hX hq hres
def fX12_readsLine_48 (S : St) (x1 : Int32) (x2 : Int32) (x3 : Int32) : Option (Int32 × St) :=
  if (S.1 55 40) = (32 : Int32) then (bi (fX12_wrongAt S (4 : Int32) (S.1 55 12)) fun r8 S4 => if r8 = 0 ∨ r8 = 1 then some (r8, S4) else none) else (bS (pI S 55 40 ((S.1 55 40) + (1 : Int32))) fun S1 => if x3 = 0 then (bi (fX12_readsThing S1 x2) fun r2 S2 => if r2 = 0 ∨ r2 = 1 then some (r2, S2) else none) else (bi (fX12_readsHouse S1 x1) fun r5 S3 => if r5 = 0 ∨ r5 = 1 then some (r5, S3) else none))
theorem wfX12_readsLine_48 {X : CX} (hX : Ok RX12 cX12_readsLine (some .boolean) 55 40 4 X) {rr : Int32 × St} (hq : rs X = (some (.int rr.1), rr.2)) {S : St} {x1 : Int32} {x2 : Int32} {x3 : Int32} (hres : fX12_readsLine_48 S x1 x2 x3 = some rr) : Wat 55 40 4 4 X 48 [(0, .ref (ad X 55)), (1, .int x1), (2, .int x2), (3, .int x3)] [] S := by
  unfold fX12_readsLine_48 at hres
  refine q_aload_n 49 hX 0 dX12_readsLine_48 rfl rfl rfl ?_
  refine q_getI 52 hX ci12 lf_RX12_281 fI_55_40 dX12_readsLine_49 rfl ?_
  refine q_bipush 54 hX dX12_readsLine_52 rfl kB_32 ?_
  refine q_icmp_ne 57 hX 67 dX12_readsLine_54 rfl (by decide) (fun hc => ?_) (fun hc => ?_)
  · have hres := it_f hc hres
    refine q_aload_n 68 hX 0 dX12_readsLine_67 rfl rfl rfl ?_
    refine q_aload_n 69 hX 0 dX12_readsLine_68 rfl rfl rfl ?_
    refine q_getI 72 hX ci12 lf_RX12_281 fI_55_40 dX12_readsLine_69 rfl ?_
    refine q_iconst 73 hX dX12_readsLine_72 rfl kI_1 ?_
    refine q_iadd 74 hX dX12_readsLine_73 rfl ?_
    refine q_putI 77 hX ci12 lf_RX12_281 fI_55_40 (nar_i rfl) dX12_readsLine_74 rfl ?_
    refine q_bS hres (fun S1 _ hres => ?_)
    refine q_iload_n 78 hX 3 dX12_readsLine_77 rfl rfl rfl ?_
    refine q_if_eq 81 hX 89 dX12_readsLine_78 rfl (by decide) (fun hc => ?_) (fun hc => ?_)
    · have hres := it_t hc hres
      refine q_aload_n 90 hX 0 dX12_readsLine_89 rfl rfl rfl ?_
      refine q_iload_n 91 hX 2 dX12_readsLine_90 rfl rfl rfl ?_
      obtain ⟨r2, S2, hk1, hres⟩ := ob hres
      refine q_callVi 94 (st := []) (As := [.int x2]) hX (cX12_readsThing9 hX.dj hk1) cv_RX12_287 ci12 oB_55 rfl (by decide) rfl (Nat.le_of_ble_eq_true rfl) dX12_readsLine_91 rfl ?_
      obtain ⟨hz3, hres⟩ := gd hres
      exact q_zret hX hz3 (eqi hq hres) dX12_readsLine_94
    · have hres := it_f hc hres
      refine q_aload_n 82 hX 0 dX12_readsLine_81 rfl rfl rfl ?_
      refine q_iload_n 83 hX 1 dX12_readsLine_82 rfl rfl rfl ?_
      obtain ⟨r5, S3, hk4, hres⟩ := ob hres
      refine q_callVi 86 (st := []) (As := [.int x1]) hX (cX12_readsHouse9 hX.dj hk4) cv_RX12_284 ci12 oB_55 rfl (by decide) rfl (Nat.le_of_ble_eq_true rfl) dX12_readsLine_83 rfl ?_
      refine q_goto 94 hX dX12_readsLine_86 (by decide) ?_
      obtain ⟨hz6, hres⟩ := gd hres
      exact q_zret hX hz6 (eqi hq hres) dX12_readsLine_94
  · have hres := it_t hc hres
    refine q_aload_n 58 hX 0 dX12_readsLine_57 rfl rfl rfl ?_
    refine q_iconst 59 hX dX12_readsLine_58 rfl kI_4 ?_
    refine q_aload_n 60 hX 0 dX12_readsLine_59 rfl rfl rfl ?_
    refine q_getI 63 hX ci12 lf_RX12_169 fI_55_12 dX12_readsLine_60 rfl ?_
    obtain ⟨r8, S4, hk7, hres⟩ := ob hres
    refine q_callVi 66 (st := []) (As := [.int (4 : Int32), .int (S.1 55 12)]) hX (cX12_wrongAt9 hX.dj hk7) cv_RX12_182 ci12 oB_55 rfl (by decide) rfl (Nat.le_of_ble_eq_true rfl) dX12_readsLine_63 rfl ?_
    obtain ⟨hz9, hres⟩ := gd hres
    exact q_zret hX hz9 (eqi hq hres) dX12_readsLine_66
def fX12_readsLine (S : St) : Option (Int32 × St) :=
  bi (fX12_here S) fun r2 S1 => bV ((r2 - (97 : Int32))) fun v3 => bi (fX12_here S1) fun r5 S2 => bV ((r5 - (65 : Int32))) fun v6 => bi (fX12_in S2 v3 (0 : Int32) (15 : Int32)) fun r8 S3 => if r8 = 0 then (bi (fX12_in S3 v6 (0 : Int32) (15 : Int32)) fun r10 S4 => if r10 = 0 then (bi (fX12_wrongAt S4 (1 : Int32) (S4.1 55 12)) fun r12 S5 => if r12 = 0 ∨ r12 = 1 then some (r12, S5) else none) else (fX12_readsLine_48 S4 v3 v6 r8)) else (fX12_readsLine_48 S3 v3 v6 r8)
theorem wfX12_readsLine {X : CX} (hX : Ok RX12 cX12_readsLine (some .boolean) 55 40 4 X) {rr : Int32 × St} (hq : rs X = (some (.int rr.1), rr.2)) {S : St} (hres : fX12_readsLine S = some rr) : Wat 55 40 4 4 X 0 [(0, .ref (ad X 55))] [] S := by
  unfold fX12_readsLine at hres
  refine q_aload_n 1 hX 0 dX12_readsLine_0 rfl rfl rfl ?_
  obtain ⟨r2, S1, hk1, hres⟩ := ob hres
  refine q_callVi 4 (st := []) (As := []) hX (cX12_here9 hX.dj hk1) cv_RX12_175 ci12 oB_55 rfl (by decide) rfl (Nat.le_of_ble_eq_true rfl) dX12_readsLine_1 rfl ?_
  refine q_bipush 6 hX dX12_readsLine_4 rfl kB_97 ?_
  refine q_isub 7 hX dX12_readsLine_6 rfl ?_
  refine q_istoreB_n 8 (lv0 := [(0, .ref (ad X 55))]) hX dX12_readsLine_7 rfl rfl (by decide) rfl hres (fun v3 hres => ?_)
  refine q_aload_n 9 hX 1 dX12_readsLine_8 rfl rfl rfl ?_
  obtain ⟨r5, S2, hk4, hres⟩ := ob hres
  refine q_callVi 12 (st := []) (As := []) hX (cX12_here9 hX.dj hk4) cv_RX12_175 ci12 oB_55 rfl (by decide) rfl (Nat.le_of_ble_eq_true rfl) dX12_readsLine_9 rfl ?_
  refine q_bipush 14 hX dX12_readsLine_12 rfl kB_65 ?_
  refine q_isub 15 hX dX12_readsLine_14 rfl ?_
  refine q_istoreB_n 16 (lv0 := [(1, .int v3), (0, .ref (ad X 55))]) hX dX12_readsLine_15 rfl rfl (by decide) rfl hres (fun v6 hres => ?_)
  refine q_iload_n 17 hX 1 dX12_readsLine_16 rfl rfl rfl ?_
  refine q_iconst 18 hX dX12_readsLine_17 rfl kI_0 ?_
  refine q_bipush 20 hX dX12_readsLine_18 rfl kB_15 ?_
  obtain ⟨r8, S3, hk7, hres⟩ := ob hres
  refine q_callSi 23 (st := []) (As := [.int v3, .int (0 : Int32), .int (15 : Int32)]) hX (cX12_in9 hX.dj hk7) cs_RX12_134 rfl (by decide) rfl (Nat.le_of_ble_eq_true rfl) dX12_readsLine_20 rfl ?_
  refine q_istore_n 24 (lv' := [(3, .int r8), (2, .int v6), (1, .int v3), (0, .ref (ad X 55))]) hX dX12_readsLine_23 rfl rfl (by decide) rfl ?_
  refine q_iload_n 25 hX 0 dX12_readsLine_24 rfl rfl rfl ?_
  refine q_if_ne 28 hX 48 dX12_readsLine_25 rfl (by decide) (fun hc => ?_) (fun hc => ?_)
  · have hres := it_f hc hres
    exact q_sub [3, 2, 1, 0] rfl (wfX12_readsLine_48 hX hq hres)
  · have hres := it_t hc hres
    refine q_iload_n 29 hX 1 dX12_readsLine_28 rfl rfl rfl ?_
    refine q_iconst 30 hX dX12_readsLine_29 rfl kI_0 ?_
    refine q_bipush 32 hX dX12_readsLine_30 rfl kB_15 ?_
    obtain ⟨r10, S4, hk9, hres⟩ := ob hres
    refine q_callSi 35 (st := []) (As := [.int v6, .int (0 : Int32), .int (15 : Int32)]) hX (cX12_in9 hX.dj hk9) cs_RX12_134 rfl (by decide) rfl (Nat.le_of_ble_eq_true rfl) dX12_readsLine_32 rfl ?_
    refine q_if_ne 38 hX 48 dX12_readsLine_35 rfl (by decide) (fun hc => ?_) (fun hc => ?_)
    · have hres := it_f hc hres
      exact q_sub [3, 2, 1, 0] rfl (wfX12_readsLine_48 hX hq hres)
    · have hres := it_t hc hres
      refine q_aload_n 39 hX 3 dX12_readsLine_38 rfl rfl rfl ?_
      refine q_iconst 40 hX dX12_readsLine_39 rfl kI_1 ?_
      refine q_aload_n 41 hX 3 dX12_readsLine_40 rfl rfl rfl ?_
      refine q_getI 44 hX ci12 lf_RX12_169 fI_55_12 dX12_readsLine_41 rfl ?_
      obtain ⟨r12, S5, hk11, hres⟩ := ob hres
      refine q_callVi 47 (st := []) (As := [.int (1 : Int32), .int (S4.1 55 12)]) hX (cX12_wrongAt9 hX.dj hk11) cv_RX12_182 ci12 oB_55 rfl (by decide) rfl (Nat.le_of_ble_eq_true rfl) dX12_readsLine_44 rfl ?_
      obtain ⟨hz13, hres⟩ := gd hres
      exact q_zret hX hz13 (eqi hq hres) dX12_readsLine_47
theorem cX12_readsLine9 {l : Launch} {w : WD} (hj : Dj w 55 40) {rr : Int32 × St} {S : St} (hres : fX12_readsLine S = some rr) : Ct l yX12_readsLine cX12_readsLine 4 (some .boolean) 4 w 55 40 [.ref (w.1 55)] S (some (.int rr.1), rr.2) := by
  refine Ct.of (lv := [(0, .ref (w.1 55))]) hj (by decide +kernel) (Nat.le_of_ble_eq_true rfl) rfl ?_
  rintro X rfl rfl hq hX
  exact wfX12_readsLine hX hq hres
def fX12_terrace_81 (rc46 : St → Int32 → Option (Int32 × St)) (S : St) : Option (Int32 × St) :=
  rc46 S (0 : Int32)
theorem wfX12_terrace_81 {X : CX} (hX : Ok RX12 cX12_terrace (some .int) 55 40 4 X) {rr : Int32 × St} (hq : rs X = (some (.int rr.1), rr.2)) {rc46 : St → Int32 → Option (Int32 × St)} (hrc46 : ∀ (S : St) (x2 : Int32), rc46 S x2 = some rr → Wat 55 40 5 4 X 46 [(0, .ref (ad X 55)), (2, .int x2)] [] S) {S : St} (hres : fX12_terrace_81 rc46 S = some rr) : Wat 55 40 5 4 X 81 [(0, .ref (ad X 55))] [] S := by
  unfold fX12_terrace_81 at hres
  refine q_iconst 82 hX dX12_terrace_81 rfl kI_0 ?_
  refine q_istore_n 83 (lv' := [(2, .int (0 : Int32)), (0, .ref (ad X 55))]) hX dX12_terrace_82 rfl rfl (by decide) rfl ?_
  refine q_goto 46 hX dX12_terrace_83 (by decide) ?_
  exact q_sub [1, 0] rfl (hrc46 _ _ hres)
def bX12_terrace_213 (rc213 : St → Int32 → Option (Int32 × St)) (S : St) (x3 : Int32) : Option (Int32 × St) :=
  if (12 : Int32) ≤ x3 then (some ((S.1 55 40), S)) else (if inb x3 12 = true then bi (fX12_isHouse S (S.1 59 (x3.toNatClampNeg))) fun r3 S1 => if r3 = 0 then (if inb x3 12 = true then bS (pI S1 59 (x3.toNatClampNeg) (-1 : Int32)) fun S2 => bV (x3 + (1 : Int32)) fun v6 => rc213 S2 v6 else none) else (bV (x3 + (1 : Int32)) fun v4 => rc213 S1 v4) else none)
theorem wbX12_terrace_213 {X : CX} (hX : Ok RX12 cX12_terrace (some .int) 55 40 4 X) {rr : Int32 × St} (hq : rs X = (some (.int rr.1), rr.2)) {rc213 : St → Int32 → Option (Int32 × St)} (hrc213 : ∀ (S : St) (x3 : Int32), rc213 S x3 = some rr → Wat 55 40 5 4 X 213 [(0, .ref (ad X 55)), (3, .int x3)] [] S) {S : St} {x3 : Int32} (hres : bX12_terrace_213 rc213 S x3 = some rr) : Wat 55 40 5 4 X 213 [(0, .ref (ad X 55)), (3, .int x3)] [] S := by
  unfold bX12_terrace_213 at hres
  refine q_iload_n 214 hX 1 dX12_terrace_213 rfl rfl rfl ?_
  refine q_bipush 216 hX dX12_terrace_214 rfl kB_12 ?_
  refine q_icmp_ge 219 hX 245 dX12_terrace_216 rfl (by decide) (fun hc => ?_) (fun hc => ?_)
  · have hres := it_t hc hres
    refine q_aload_n 246 hX 0 dX12_terrace_245 rfl rfl rfl ?_
    refine q_getI 249 hX ci12 lf_RX12_281 fI_55_40 dX12_terrace_246 rfl ?_
    exact q_iret hX (eqi hq hres) dX12_terrace_249
  · have hres := it_f hc hres
    refine q_aload_n 220 hX 0 dX12_terrace_219 rfl rfl rfl ?_
    refine q_aload_n 221 hX 0 dX12_terrace_220 rfl rfl rfl ?_
    refine q_getR 224 hX ci12 lf_RX12_19 fR_55_3 dX12_terrace_221 rfl ?_
    refine q_iload_n 225 hX 1 dX12_terrace_224 rfl rfl rfl ?_
    obtain ⟨hb1, hres⟩ := gd hres
    refine q_iald 226 hX rfl aF_59 hb1 dX12_terrace_225 rfl ?_
    obtain ⟨r3, S1, hk2, hres⟩ := ob hres
    refine q_callVi 229 (st := []) (As := [.int (S.1 59 (x3.toNatClampNeg))]) hX (cX12_isHouse9 hX.dj hk2) cv_RX12_159 ci12 oB_55 rfl (by decide) rfl (Nat.le_of_ble_eq_true rfl) dX12_terrace_226 rfl ?_
    refine q_if_ne 232 hX 239 dX12_terrace_229 rfl (by decide) (fun hc => ?_) (fun hc => ?_)
    · have hres := it_f hc hres
      refine q_iincB 242 1 (lv0 := [(0, .ref (ad X 55))]) hX dX12_terrace_239 rfl rfl kI_1 (by decide) rfl hres (fun v4 hres => ?_)
      refine q_goto 213 hX dX12_terrace_242 (by decide) ?_
      exact q_sub [1, 0] rfl (hrc213 _ _ hres)
    · have hres := it_t hc hres
      refine q_aload_n 233 hX 0 dX12_terrace_232 rfl rfl rfl ?_
      refine q_getR 236 hX ci12 lf_RX12_19 fR_55_3 dX12_terrace_233 rfl ?_
      refine q_iload_n 237 hX 1 dX12_terrace_236 rfl rfl rfl ?_
      refine q_iconst 238 hX dX12_terrace_237 rfl kI_m1 ?_
      obtain ⟨hb5, hres⟩ := gd hres
      refine q_iast 239 hX rfl aF_59 hb5 dX12_terrace_238 rfl ?_
      refine q_bS hres (fun S2 _ hres => ?_)
      refine q_iincB 242 1 (lv0 := [(0, .ref (ad X 55))]) hX dX12_terrace_239 rfl rfl kI_1 (by decide) rfl hres (fun v6 hres => ?_)
      refine q_goto 213 hX dX12_terrace_242 (by decide) ?_
      exact q_sub [1, 0] rfl (hrc213 _ _ hres)
def fX12_terrace_213 : Nat → St → Int32 → Option (Int32 × St)
  | 0 => fun _ _ => none
  | k + 1 => fun S x3 => bX12_terrace_213 (fX12_terrace_213 k) S x3
theorem wfX12_terrace_213 {X : CX} (hX : Ok RX12 cX12_terrace (some .int) 55 40 4 X) {rr : Int32 × St} (hq : rs X = (some (.int rr.1), rr.2)) (k : Nat) : ∀ (S : St) (x3 : Int32), fX12_terrace_213 k S x3 = some rr → Wat 55 40 5 4 X 213 [(0, .ref (ad X 55)), (3, .int x3)] [] S := by
  induction k with
  | zero => intro S x3 hres; exact absurd hres (by simp [fX12_terrace_213])
  | succ k ih => intro S x3 hres; exact wbX12_terrace_213 hX hq ih hres
def bX12_terrace_118 (rc118 : St → Int32 → Option (Int32 × St)) (S : St) (x3 : Int32) : Option (Int32 × St) :=
  if (16 : Int32) ≤ x3 then (bS (pI S 56 16 (-1 : Int32)) fun S1 => bS (pI S1 56 17 (0 : Int32)) fun S2 => bS (pI S2 56 18 (0 : Int32)) fun S3 => fX12_terrace_213 300 S3 (0 : Int32)) else (if inb x3 16 = true then if inb x3 16 = true then bS (pI S 60 (x3.toNatClampNeg) (S.1 78 (x3.toNatClampNeg))) fun S4 => if inb x3 16 = true then if inb x3 16 = true then bS (pI S4 61 (x3.toNatClampNeg) (S4.1 79 (x3.toNatClampNeg))) fun S5 => if inb x3 16 = true then if inb x3 16 = true then bS (pI S5 62 (x3.toNatClampNeg) (S5.1 80 (x3.toNatClampNeg))) fun S6 => if inb x3 16 = true then if inb x3 16 = true then bS (pI S6 63 (x3.toNatClampNeg) (S6.1 81 (x3.toNatClampNeg))) fun S7 => if inb ((0 : Int32) + x3) 21 = true then bS (pI S7 56 (((0 : Int32) + x3).toNatClampNeg) (0 : Int32)) fun S8 => bV (x3 + (1 : Int32)) fun v10 => rc118 S8 v10 else none else none else none else none else none else none else none else none else none)
theorem wbX12_terrace_118 {X : CX} (hX : Ok RX12 cX12_terrace (some .int) 55 40 4 X) {rr : Int32 × St} (hq : rs X = (some (.int rr.1), rr.2)) {rc118 : St → Int32 → Option (Int32 × St)} (hrc118 : ∀ (S : St) (x3 : Int32), rc118 S x3 = some rr → Wat 55 40 5 4 X 118 [(0, .ref (ad X 55)), (3, .int x3)] [] S) {S : St} {x3 : Int32} (hres : bX12_terrace_118 rc118 S x3 = some rr) : Wat 55 40 5 4 X 118 [(0, .ref (ad X 55)), (3, .int x3)] [] S := by
  unfold bX12_terrace_118 at hres
  refine q_iload_n 119 hX 1 dX12_terrace_118 rfl rfl rfl ?_
  refine q_bipush 121 hX dX12_terrace_119 rfl kB_16 ?_
  refine q_icmp_ge 124 hX 187 dX12_terrace_121 rfl (by decide) (fun hc => ?_) (fun hc => ?_)
  · have hres := it_t hc hres
    refine q_aload_n 188 hX 0 dX12_terrace_187 rfl rfl rfl ?_
    refine q_getR 191 hX ci12 lf_RX12_7 fR_55_0 dX12_terrace_188 rfl ?_
    refine q_bipush 193 hX dX12_terrace_191 rfl kB_16 ?_
    refine q_iconst 194 hX dX12_terrace_193 rfl kI_m1 ?_
    refine q_iast 195 hX kU_16 aF_56 kN_16_21 dX12_terrace_194 rfl ?_
    refine q_bS hres (fun S1 _ hres => ?_)
    refine q_aload_n 196 hX 0 dX12_terrace_195 rfl rfl rfl ?_
    refine q_getR 199 hX ci12 lf_RX12_7 fR_55_0 dX12_terrace_196 rfl ?_
    refine q_bipush 201 hX dX12_terrace_199 rfl kB_17 ?_
    refine q_iconst 202 hX dX12_terrace_201 rfl kI_0 ?_
    refine q_iast 203 hX kU_17 aF_56 kN_17_21 dX12_terrace_202 rfl ?_
    refine q_bS hres (fun S2 _ hres => ?_)
    refine q_aload_n 204 hX 0 dX12_terrace_203 rfl rfl rfl ?_
    refine q_getR 207 hX ci12 lf_RX12_7 fR_55_0 dX12_terrace_204 rfl ?_
    refine q_bipush 209 hX dX12_terrace_207 rfl kB_18 ?_
    refine q_iconst 210 hX dX12_terrace_209 rfl kI_0 ?_
    refine q_iast 211 hX kU_18 aF_56 kN_18_21 dX12_terrace_210 rfl ?_
    refine q_bS hres (fun S3 _ hres => ?_)
    refine q_iconst 212 hX dX12_terrace_211 rfl kI_0 ?_
    refine q_istore_n 213 (lv' := [(3, .int (0 : Int32)), (0, .ref (ad X 55))]) hX dX12_terrace_212 rfl rfl (by decide) rfl ?_
    exact q_sub [1, 0] rfl (wfX12_terrace_213 hX hq _ _ _ hres)
  · have hres := it_f hc hres
    refine q_aload_n 125 hX 0 dX12_terrace_124 rfl rfl rfl ?_
    refine q_getR 128 hX ci12 lf_RX12_22 fR_55_4 dX12_terrace_125 rfl ?_
    refine q_iload_n 129 hX 1 dX12_terrace_128 rfl rfl rfl ?_
    refine q_aload_n 130 hX 0 dX12_terrace_129 rfl rfl rfl ?_
    refine q_getR 133 hX ci12 lf_RX12_77 fR_55_34 dX12_terrace_130 rfl ?_
    refine q_iload_n 134 hX 1 dX12_terrace_133 rfl rfl rfl ?_
    obtain ⟨hb1, hres⟩ := gd hres
    refine q_iald 135 hX rfl aF_78 hb1 dX12_terrace_134 rfl ?_
    obtain ⟨hb2, hres⟩ := gd hres
    refine q_iast 136 hX rfl aF_60 hb2 dX12_terrace_135 rfl ?_
    refine q_bS hres (fun S4 _ hres => ?_)
    refine q_aload_n 137 hX 0 dX12_terrace_136 rfl rfl rfl ?_
    refine q_getR 140 hX ci12 lf_RX12_25 fR_55_5 dX12_terrace_137 rfl ?_
    refine q_iload_n 141 hX 1 dX12_terrace_140 rfl rfl rfl ?_
    refine q_aload_n 142 hX 0 dX12_terrace_141 rfl rfl rfl ?_
    refine q_getR 145 hX ci12 lf_RX12_80 fR_55_35 dX12_terrace_142 rfl ?_
    refine q_iload_n 146 hX 1 dX12_terrace_145 rfl rfl rfl ?_
    obtain ⟨hb3, hres⟩ := gd hres
    refine q_iald 147 hX rfl aF_79 hb3 dX12_terrace_146 rfl ?_
    obtain ⟨hb4, hres⟩ := gd hres
    refine q_iast 148 hX rfl aF_61 hb4 dX12_terrace_147 rfl ?_
    refine q_bS hres (fun S5 _ hres => ?_)
    refine q_aload_n 149 hX 0 dX12_terrace_148 rfl rfl rfl ?_
    refine q_getR 152 hX ci12 lf_RX12_28 fR_55_6 dX12_terrace_149 rfl ?_
    refine q_iload_n 153 hX 1 dX12_terrace_152 rfl rfl rfl ?_
    refine q_aload_n 154 hX 0 dX12_terrace_153 rfl rfl rfl ?_
    refine q_getR 157 hX ci12 lf_RX12_83 fR_55_36 dX12_terrace_154 rfl ?_
    refine q_iload_n 158 hX 1 dX12_terrace_157 rfl rfl rfl ?_
    obtain ⟨hb5, hres⟩ := gd hres
    refine q_iald 159 hX rfl aF_80 hb5 dX12_terrace_158 rfl ?_
    obtain ⟨hb6, hres⟩ := gd hres
    refine q_iast 160 hX rfl aF_62 hb6 dX12_terrace_159 rfl ?_
    refine q_bS hres (fun S6 _ hres => ?_)
    refine q_aload_n 161 hX 0 dX12_terrace_160 rfl rfl rfl ?_
    refine q_getR 164 hX ci12 lf_RX12_31 fR_55_7 dX12_terrace_161 rfl ?_
    refine q_iload_n 165 hX 1 dX12_terrace_164 rfl rfl rfl ?_
    refine q_aload_n 166 hX 0 dX12_terrace_165 rfl rfl rfl ?_
    refine q_getR 169 hX ci12 lf_RX12_86 fR_55_37 dX12_terrace_166 rfl ?_
    refine q_iload_n 170 hX 1 dX12_terrace_169 rfl rfl rfl ?_
    obtain ⟨hb7, hres⟩ := gd hres
    refine q_iald 171 hX rfl aF_81 hb7 dX12_terrace_170 rfl ?_
    obtain ⟨hb8, hres⟩ := gd hres
    refine q_iast 172 hX rfl aF_63 hb8 dX12_terrace_171 rfl ?_
    refine q_bS hres (fun S7 _ hres => ?_)
    refine q_aload_n 173 hX 0 dX12_terrace_172 rfl rfl rfl ?_
    refine q_getR 176 hX ci12 lf_RX12_7 fR_55_0 dX12_terrace_173 rfl ?_
    refine q_iconst 177 hX dX12_terrace_176 rfl kI_0 ?_
    refine q_iload_n 178 hX 1 dX12_terrace_177 rfl rfl rfl ?_
    refine q_iadd 179 hX dX12_terrace_178 rfl ?_
    refine q_iconst 180 hX dX12_terrace_179 rfl kI_0 ?_
    obtain ⟨hb9, hres⟩ := gd hres
    refine q_iast 181 hX rfl aF_56 hb9 dX12_terrace_180 rfl ?_
    refine q_bS hres (fun S8 _ hres => ?_)
    refine q_iincB 184 1 (lv0 := [(0, .ref (ad X 55))]) hX dX12_terrace_181 rfl rfl kI_1 (by decide) rfl hres (fun v10 hres => ?_)
    refine q_goto 118 hX dX12_terrace_184 (by decide) ?_
    exact q_sub [1, 0] rfl (hrc118 _ _ hres)
def fX12_terrace_118 : Nat → St → Int32 → Option (Int32 × St)
  | 0 => fun _ _ => none
  | k + 1 => fun S x3 => bX12_terrace_118 (fX12_terrace_118 k) S x3
theorem wfX12_terrace_118 {X : CX} (hX : Ok RX12 cX12_terrace (some .int) 55 40 4 X) {rr : Int32 × St} (hq : rs X = (some (.int rr.1), rr.2)) (k : Nat) : ∀ (S : St) (x3 : Int32), fX12_terrace_118 k S x3 = some rr → Wat 55 40 5 4 X 118 [(0, .ref (ad X 55)), (3, .int x3)] [] S := by
  induction k with
  | zero => intro S x3 hres; exact absurd hres (by simp [fX12_terrace_118])
  | succ k ih => intro S x3 hres; exact wbX12_terrace_118 hX hq ih hres
def fX12_terrace_86 (S : St) (x2 : Int32) : Option (Int32 × St) :=
  bS (pI S 55 11 (0 : Int32)) fun S1 => if x2 = 0 then (some ((S1.1 55 14), S1)) else (bS (pI S1 55 8 (S1.1 55 38)) fun S2 => bS (pI S2 55 9 (S2.1 55 39)) fun S3 => fX12_terrace_118 300 S3 (0 : Int32))
theorem wfX12_terrace_86 {X : CX} (hX : Ok RX12 cX12_terrace (some .int) 55 40 4 X) {rr : Int32 × St} (hq : rs X = (some (.int rr.1), rr.2)) {S : St} {x2 : Int32} (hres : fX12_terrace_86 S x2 = some rr) : Wat 55 40 5 4 X 86 [(0, .ref (ad X 55)), (2, .int x2)] [] S := by
  unfold fX12_terrace_86 at hres
  refine q_aload_n 87 hX 0 dX12_terrace_86 rfl rfl rfl ?_
  refine q_iconst 88 hX dX12_terrace_87 rfl kI_0 ?_
  refine q_putI 91 hX ci12 lf_RX12_162 fI_55_11 (nar_i rfl) dX12_terrace_88 rfl ?_
  refine q_bS hres (fun S1 _ hres => ?_)
  refine q_iload_n 92 hX 1 dX12_terrace_91 rfl rfl rfl ?_
  refine q_if_ne 95 hX 100 dX12_terrace_92 rfl (by decide) (fun hc => ?_) (fun hc => ?_)
  · have hres := it_f hc hres
    refine q_aload_n 101 hX 0 dX12_terrace_100 rfl rfl rfl ?_
    refine q_aload_n 102 hX 0 dX12_terrace_101 rfl rfl rfl ?_
    refine q_getI 105 hX ci12 lf_RX12_272 fI_55_38 dX12_terrace_102 rfl ?_
    refine q_putI 108 hX ci12 lf_RX12_138 fI_55_8 (nar_i rfl) dX12_terrace_105 rfl ?_
    refine q_bS hres (fun S2 _ hres => ?_)
    refine q_aload_n 109 hX 0 dX12_terrace_108 rfl rfl rfl ?_
    refine q_aload_n 110 hX 0 dX12_terrace_109 rfl rfl rfl ?_
    refine q_getI 113 hX ci12 lf_RX12_278 fI_55_39 dX12_terrace_110 rfl ?_
    refine q_putI 116 hX ci12 lf_RX12_142 fI_55_9 (nar_i rfl) dX12_terrace_113 rfl ?_
    refine q_bS hres (fun S3 _ hres => ?_)
    refine q_iconst 117 hX dX12_terrace_116 rfl kI_0 ?_
    refine q_istore_n 118 (lv' := [(3, .int (0 : Int32)), (0, .ref (ad X 55)), (2, .int x2)]) hX dX12_terrace_117 rfl rfl (by decide) rfl ?_
    exact q_sub [1, 0] rfl (wfX12_terrace_118 hX hq _ _ _ hres)
  · have hres := it_t hc hres
    refine q_aload_n 96 hX 0 dX12_terrace_95 rfl rfl rfl ?_
    refine q_getI 99 hX ci12 lf_RX12_179 fI_55_14 dX12_terrace_96 rfl ?_
    exact q_iret hX (eqi hq hres) dX12_terrace_99
def bX12_terrace_46 (rc46 : St → Int32 → Option (Int32 × St)) (S : St) (x2 : Int32) : Option (Int32 × St) :=
  if x2 = 0 then (fX12_terrace_86 S x2) else (if (S.1 55 13) ≤ (S.1 55 12) then (fX12_terrace_86 S x2) else (bi (fX12_takes S (59 : Int32)) fun r2 S1 => if r2 = 0 then (fX12_terrace_81 rc46 S1) else (bi (fX12_readsLine S1) fun r4 S2 => if r4 = 0 then (fX12_terrace_81 rc46 S2) else (rc46 S2 (1 : Int32)))))
theorem wbX12_terrace_46 {X : CX} (hX : Ok RX12 cX12_terrace (some .int) 55 40 4 X) {rr : Int32 × St} (hq : rs X = (some (.int rr.1), rr.2)) {rc46 : St → Int32 → Option (Int32 × St)} (hrc46 : ∀ (S : St) (x2 : Int32), rc46 S x2 = some rr → Wat 55 40 5 4 X 46 [(0, .ref (ad X 55)), (2, .int x2)] [] S) {S : St} {x2 : Int32} (hres : bX12_terrace_46 rc46 S x2 = some rr) : Wat 55 40 5 4 X 46 [(0, .ref (ad X 55)), (2, .int x2)] [] S := by
  unfold bX12_terrace_46 at hres
  refine q_iload_n 47 hX 1 dX12_terrace_46 rfl rfl rfl ?_
  refine q_if_eq 50 hX 86 dX12_terrace_47 rfl (by decide) (fun hc => ?_) (fun hc => ?_)
  · have hres := it_t hc hres
    exact q_sub [0, 1] rfl (wfX12_terrace_86 hX hq hres)
  · have hres := it_f hc hres
    refine q_aload_n 51 hX 0 dX12_terrace_50 rfl rfl rfl ?_
    refine q_getI 54 hX ci12 lf_RX12_169 fI_55_12 dX12_terrace_51 rfl ?_
    refine q_aload_n 55 hX 0 dX12_terrace_54 rfl rfl rfl ?_
    refine q_getI 58 hX ci12 lf_RX12_172 fI_55_13 dX12_terrace_55 rfl ?_
    refine q_icmp_ge 61 hX 86 dX12_terrace_58 rfl (by decide) (fun hc => ?_) (fun hc => ?_)
    · have hres := it_t hc hres
      exact q_sub [0, 1] rfl (wfX12_terrace_86 hX hq hres)
    · have hres := it_f hc hres
      refine q_aload_n 62 hX 0 dX12_terrace_61 rfl rfl rfl ?_
      refine q_bipush 64 hX dX12_terrace_62 rfl kB_59 ?_
      obtain ⟨r2, S1, hk1, hres⟩ := ob hres
      refine q_callVi 67 (st := []) (As := [.int (59 : Int32)]) hX (cX12_takes9 hX.dj hk1) cv_RX12_259 ci12 oB_55 rfl (by decide) rfl (Nat.le_of_ble_eq_true rfl) dX12_terrace_64 rfl ?_
      refine q_if_eq 70 hX 81 dX12_terrace_67 rfl (by decide) (fun hc => ?_) (fun hc => ?_)
      · have hres := it_t hc hres
        exact q_sub [0] rfl (wfX12_terrace_81 hX hq hrc46 hres)
      · have hres := it_f hc hres
        refine q_aload_n 71 hX 0 dX12_terrace_70 rfl rfl rfl ?_
        obtain ⟨r4, S2, hk3, hres⟩ := ob hres
        refine q_callVi 74 (st := []) (As := []) hX (cX12_readsLine9 hX.dj hk3) cv_RX12_290 ci12 oB_55 rfl (by decide) rfl (Nat.le_of_ble_eq_true rfl) dX12_terrace_71 rfl ?_
        refine q_if_eq 77 hX 81 dX12_terrace_74 rfl (by decide) (fun hc => ?_) (fun hc => ?_)
        · have hres := it_t hc hres
          exact q_sub [0] rfl (wfX12_terrace_81 hX hq hrc46 hres)
        · have hres := it_f hc hres
          refine q_iconst 78 hX dX12_terrace_77 rfl kI_1 ?_
          refine q_goto 82 hX dX12_terrace_78 (by decide) ?_
          refine q_istore_n 83 (lv' := [(2, .int (1 : Int32)), (0, .ref (ad X 55))]) hX dX12_terrace_82 rfl rfl (by decide) rfl ?_
          refine q_goto 46 hX dX12_terrace_83 (by decide) ?_
          exact q_sub [1, 0] rfl (hrc46 _ _ hres)
def fX12_terrace_46 : Nat → St → Int32 → Option (Int32 × St)
  | 0 => fun _ _ => none
  | k + 1 => fun S x2 => bX12_terrace_46 (fX12_terrace_46 k) S x2
theorem wfX12_terrace_46 {X : CX} (hX : Ok RX12 cX12_terrace (some .int) 55 40 4 X) {rr : Int32 × St} (hq : rs X = (some (.int rr.1), rr.2)) (k : Nat) : ∀ (S : St) (x2 : Int32), fX12_terrace_46 k S x2 = some rr → Wat 55 40 5 4 X 46 [(0, .ref (ad X 55)), (2, .int x2)] [] S := by
  induction k with
  | zero => intro S x2 hres; exact absurd hres (by simp [fX12_terrace_46])
  | succ k ih => intro S x2 hres; exact wbX12_terrace_46 hX hq ih hres
def fX12_terrace (S : St) (x1 : Int32) : Option (Int32 × St) :=
  bi (fX12_in S x1 (1 : Int32) (200 : Int32)) fun r2 S1 => if r2 = 0 then (some ((-1 : Int32), S1)) else (if x1 ≤ (S1.1 55 11) then (bv (fX12_beginsText S1 x1) fun S2 => bS (pI S2 55 38 (0 : Int32)) fun S3 => bS (pI S3 55 39 (0 : Int32)) fun S4 => bS (pI S4 55 40 (0 : Int32)) fun S5 => bi (fX12_readsLine S5) fun r5 S6 => fX12_terrace_46 300 S6 r5) else (some ((-1 : Int32), S1)))
theorem wfX12_terrace {X : CX} (hX : Ok RX12 cX12_terrace (some .int) 55 40 4 X) {rr : Int32 × St} (hq : rs X = (some (.int rr.1), rr.2)) {S : St} {x1 : Int32} (hres : fX12_terrace S x1 = some rr) : Wat 55 40 5 4 X 0 [(0, .ref (ad X 55)), (1, .int x1)] [] S := by
  unfold fX12_terrace at hres
  refine q_iload_n 1 hX 1 dX12_terrace_0 rfl rfl rfl ?_
  refine q_iconst 2 hX dX12_terrace_1 rfl kI_1 ?_
  refine q_sipush 5 hX dX12_terrace_2 rfl kS_200 ?_
  obtain ⟨r2, S1, hk1, hres⟩ := ob hres
  refine q_callSi 8 (st := []) (As := [.int x1, .int (1 : Int32), .int (200 : Int32)]) hX (cX12_in9 hX.dj hk1) cs_RX12_134 rfl (by decide) rfl (Nat.le_of_ble_eq_true rfl) dX12_terrace_5 rfl ?_
  refine q_if_eq 11 hX 19 dX12_terrace_8 rfl (by decide) (fun hc => ?_) (fun hc => ?_)
  · have hres := it_t hc hres
    refine q_iconst 20 hX dX12_terrace_19 rfl kI_m1 ?_
    exact q_iret hX (eqi hq hres) dX12_terrace_20
  · have hres := it_f hc hres
    refine q_iload_n 12 hX 1 dX12_terrace_11 rfl rfl rfl ?_
    refine q_aload_n 13 hX 0 dX12_terrace_12 rfl rfl rfl ?_
    refine q_getI 16 hX ci12 lf_RX12_162 fI_55_11 dX12_terrace_13 rfl ?_
    refine q_icmp_le 19 hX 21 dX12_terrace_16 rfl (by decide) (fun hc => ?_) (fun hc => ?_)
    · have hres := it_t hc hres
      refine q_aload_n 22 hX 0 dX12_terrace_21 rfl rfl rfl ?_
      refine q_iload_n 23 hX 1 dX12_terrace_22 rfl rfl rfl ?_
      obtain ⟨S2, hk3, hres⟩ := obv hres
      refine q_callVv 26 (st := []) (As := [.int x1]) hX (cX12_beginsText9 hX.dj hk3) cv_RX12_253 ci12 oB_55 rfl (by decide) rfl (Nat.le_of_ble_eq_true rfl) dX12_terrace_23 rfl ?_
      refine q_aload_n 27 hX 0 dX12_terrace_26 rfl rfl rfl ?_
      refine q_iconst 28 hX dX12_terrace_27 rfl kI_0 ?_
      refine q_putI 31 hX ci12 lf_RX12_272 fI_55_38 (nar_i rfl) dX12_terrace_28 rfl ?_
      refine q_bS hres (fun S3 _ hres => ?_)
      refine q_aload_n 32 hX 0 dX12_terrace_31 rfl rfl rfl ?_
      refine q_iconst 33 hX dX12_terrace_32 rfl kI_0 ?_
      refine q_putI 36 hX ci12 lf_RX12_278 fI_55_39 (nar_i rfl) dX12_terrace_33 rfl ?_
      refine q_bS hres (fun S4 _ hres => ?_)
      refine q_aload_n 37 hX 0 dX12_terrace_36 rfl rfl rfl ?_
      refine q_iconst 38 hX dX12_terrace_37 rfl kI_0 ?_
      refine q_putI 41 hX ci12 lf_RX12_281 fI_55_40 (nar_i rfl) dX12_terrace_38 rfl ?_
      refine q_bS hres (fun S5 _ hres => ?_)
      refine q_aload_n 42 hX 0 dX12_terrace_41 rfl rfl rfl ?_
      obtain ⟨r5, S6, hk4, hres⟩ := ob hres
      refine q_callVi 45 (st := []) (As := []) hX (cX12_readsLine9 hX.dj hk4) cv_RX12_290 ci12 oB_55 rfl (by decide) rfl (Nat.le_of_ble_eq_true rfl) dX12_terrace_42 rfl ?_
      refine q_istore_n 46 (lv' := [(2, .int r5), (0, .ref (ad X 55)), (1, .int x1)]) hX dX12_terrace_45 rfl rfl (by decide) rfl ?_
      exact q_sub [1, 0] rfl (wfX12_terrace_46 hX hq _ _ _ hres)
    · have hres := it_f hc hres
      refine q_iconst 20 hX dX12_terrace_19 rfl kI_m1 ?_
      exact q_iret hX (eqi hq hres) dX12_terrace_20
theorem cX12_terrace9 {l : Launch} {w : WD} (hj : Dj w 55 40) {rr : Int32 × St} {S : St} {x1 : Int32} (hres : fX12_terrace S x1 = some rr) : Ct l yX12_terrace cX12_terrace 4 (some .int) 5 w 55 40 [.ref (w.1 55), .int x1] S (some (.int rr.1), rr.2) := by
  refine Ct.of (lv := [(0, .ref (w.1 55)), (1, .int x1)]) hj (by decide +kernel) (Nat.le_of_ble_eq_true rfl) rfl ?_
  rintro X rfl rfl hq hX
  exact wfX12_terrace hX hq hres
def fX12_readsTimes (S : St) : Option (St) :=
  bS (pI S 55 48 (S.1 55 12)) fun S1 => bS (pI S1 55 49 (1 : Int32)) fun S2 => bi (fX12_here S2) fun r2 S3 => bi (fX12_in S3 r2 (50 : Int32) (57 : Int32)) fun r4 S4 => if r4 = 0 then (some S4) else (bi (fX12_here S4) fun r6 S5 => bS (pI S5 55 49 (r6 - (48 : Int32))) fun S6 => bS (pI S6 55 12 ((S6.1 55 12) + (1 : Int32))) fun S7 => some S7)
theorem wfX12_readsTimes {X : CX} (hX : Ok RX12 cX12_readsTimes none 55 40 1 X) {rr : St} (hq : rs X = (none, rr)) {S : St} (hres : fX12_readsTimes S = some rr) : Wat 55 40 1 1 X 0 [(0, .ref (ad X 55))] [] S := by
  unfold fX12_readsTimes at hres
  refine q_aload_n 1 hX 0 dX12_readsTimes_0 rfl rfl rfl ?_
  refine q_aload_n 2 hX 0 dX12_readsTimes_1 rfl rfl rfl ?_
  refine q_getI 5 hX ci12 lf_RX12_169 fI_55_12 dX12_readsTimes_2 rfl ?_
  refine q_putI 8 hX ci12 lf_RX12_293 fI_55_48 (nar_i rfl) dX12_readsTimes_5 rfl ?_
  refine q_bS hres (fun S1 _ hres => ?_)
  refine q_aload_n 9 hX 0 dX12_readsTimes_8 rfl rfl rfl ?_
  refine q_iconst 10 hX dX12_readsTimes_9 rfl kI_1 ?_
  refine q_putI 13 hX ci12 lf_RX12_296 fI_55_49 (nar_i rfl) dX12_readsTimes_10 rfl ?_
  refine q_bS hres (fun S2 _ hres => ?_)
  refine q_aload_n 14 hX 0 dX12_readsTimes_13 rfl rfl rfl ?_
  obtain ⟨r2, S3, hk1, hres⟩ := ob hres
  refine q_callVi 17 (st := []) (As := []) hX (cX12_here9 hX.dj hk1) cv_RX12_175 ci12 oB_55 rfl (by decide) rfl (Nat.le_of_ble_eq_true rfl) dX12_readsTimes_14 rfl ?_
  refine q_bipush 19 hX dX12_readsTimes_17 rfl kB_50 ?_
  refine q_bipush 21 hX dX12_readsTimes_19 rfl kB_57 ?_
  obtain ⟨r4, S4, hk3, hres⟩ := ob hres
  refine q_callSi 24 (st := []) (As := [.int r2, .int (50 : Int32), .int (57 : Int32)]) hX (cX12_in9 hX.dj hk3) cs_RX12_134 rfl (by decide) rfl (Nat.le_of_ble_eq_true rfl) dX12_readsTimes_21 rfl ?_
  refine q_if_ne 27 hX 28 dX12_readsTimes_24 rfl (by decide) (fun hc => ?_) (fun hc => ?_)
  · have hres := it_f hc hres
    refine q_aload_n 29 hX 0 dX12_readsTimes_28 rfl rfl rfl ?_
    refine q_aload_n 30 hX 0 dX12_readsTimes_29 rfl rfl rfl ?_
    obtain ⟨r6, S5, hk5, hres⟩ := ob hres
    refine q_callVi 33 (st := [.ref (ad X 55)]) (As := []) hX (cX12_here9 hX.dj hk5) cv_RX12_175 ci12 oB_55 rfl (by decide) rfl (Nat.le_of_ble_eq_true rfl) dX12_readsTimes_30 rfl ?_
    refine q_bipush 35 hX dX12_readsTimes_33 rfl kB_48 ?_
    refine q_isub 36 hX dX12_readsTimes_35 rfl ?_
    refine q_putI 39 hX ci12 lf_RX12_296 fI_55_49 (nar_i rfl) dX12_readsTimes_36 rfl ?_
    refine q_bS hres (fun S6 _ hres => ?_)
    refine q_aload_n 40 hX 0 dX12_readsTimes_39 rfl rfl rfl ?_
    refine q_aload_n 41 hX 0 dX12_readsTimes_40 rfl rfl rfl ?_
    refine q_getI 44 hX ci12 lf_RX12_169 fI_55_12 dX12_readsTimes_41 rfl ?_
    refine q_iconst 45 hX dX12_readsTimes_44 rfl kI_1 ?_
    refine q_iadd 46 hX dX12_readsTimes_45 rfl ?_
    refine q_putI 49 hX ci12 lf_RX12_169 fI_55_12 (nar_i rfl) dX12_readsTimes_46 rfl ?_
    refine q_bS hres (fun S7 _ hres => ?_)
    exact q_vret hX (eqv hq hres) dX12_readsTimes_49
  · have hres := it_t hc hres
    exact q_vret hX (eqv hq hres) dX12_readsTimes_27
theorem cX12_readsTimes9 {l : Launch} {w : WD} (hj : Dj w 55 40) {rr : St} {S : St} (hres : fX12_readsTimes S = some rr) : Ct l yX12_readsTimes cX12_readsTimes 1 none 1 w 55 40 [.ref (w.1 55)] S (none, rr) := by
  refine Ct.of (lv := [(0, .ref (w.1 55))]) hj (by decide +kernel) (Nat.le_of_ble_eq_true rfl) rfl ?_
  rintro X rfl rfl hq hX
  exact wfX12_readsTimes hX hq hres
def bX12_repeats_33 (rc33 : St → Int32 → Int32 → Int32 → Int32 → Option (Int32 × St)) (S : St) (x1 : Int32) (x2 : Int32) (x4 : Int32) (x5 : Int32) : Option (Int32 × St) :=
  if (x1 + (x4 * x2)) ≤ x5 then (bS (pI S 55 46 (x1 + (x4 * x2))) fun S1 => some ((1 : Int32), S1)) else (if inb (x5 - x4) 12 = true then if inb x5 12 = true then bS (pI S 82 (x5.toNatClampNeg) (S.1 82 ((x5 - x4).toNatClampNeg))) fun S2 => if inb (x5 - x4) 12 = true then if inb x5 12 = true then bS (pI S2 83 (x5.toNatClampNeg) (S2.1 83 ((x5 - x4).toNatClampNeg))) fun S3 => bV (x5 + (1 : Int32)) fun v5 => rc33 S3 x1 x2 x4 v5 else none else none else none else none)
theorem wbX12_repeats_33 {X : CX} (hX : Ok RX12 cX12_repeats (some .boolean) 55 40 6 X) {rr : Int32 × St} (hq : rs X = (some (.int rr.1), rr.2)) {rc33 : St → Int32 → Int32 → Int32 → Int32 → Option (Int32 × St)} (hrc33 : ∀ (S : St) (x1 : Int32) (x2 : Int32) (x4 : Int32) (x5 : Int32), rc33 S x1 x2 x4 x5 = some rr → Wat 55 40 1 6 X 33 [(0, .ref (ad X 55)), (1, .int x1), (2, .int x2), (4, .int x4), (5, .int x5)] [] S) {S : St} {x1 : Int32} {x2 : Int32} {x4 : Int32} {x5 : Int32} (hres : bX12_repeats_33 rc33 S x1 x2 x4 x5 = some rr) : Wat 55 40 1 6 X 33 [(0, .ref (ad X 55)), (1, .int x1), (2, .int x2), (4, .int x4), (5, .int x5)] [] S := by
  unfold bX12_repeats_33 at hres
  refine q_iload 35 hX 4 dX12_repeats_33 rfl rfl ?_
  refine q_iload_n 36 hX 1 dX12_repeats_35 rfl rfl rfl ?_
  refine q_iload 38 hX 3 dX12_repeats_36 rfl rfl ?_
  refine q_iload_n 39 hX 2 dX12_repeats_38 rfl rfl rfl ?_
  refine q_imul 40 hX dX12_repeats_39 rfl ?_
  refine q_iadd 41 hX dX12_repeats_40 rfl ?_
  refine q_icmp_ge 44 hX 84 dX12_repeats_41 rfl (by decide) (fun hc => ?_) (fun hc => ?_)
  · have hres := it_t hc hres
    refine q_aload_n 85 hX 0 dX12_repeats_84 rfl rfl rfl ?_
    refine q_iload_n 86 hX 1 dX12_repeats_85 rfl rfl rfl ?_
    refine q_iload 88 hX 3 dX12_repeats_86 rfl rfl ?_
    refine q_iload_n 89 hX 2 dX12_repeats_88 rfl rfl rfl ?_
    refine q_imul 90 hX dX12_repeats_89 rfl ?_
    refine q_iadd 91 hX dX12_repeats_90 rfl ?_
    refine q_putI 94 hX ci12 lf_RX12_299 fI_55_46 (nar_i rfl) dX12_repeats_91 rfl ?_
    refine q_bS hres (fun S1 _ hres => ?_)
    refine q_iconst 95 hX dX12_repeats_94 rfl kI_1 ?_
    exact q_zret hX (by decide) (eqi hq hres) dX12_repeats_95
  · have hres := it_f hc hres
    refine q_aload_n 45 hX 0 dX12_repeats_44 rfl rfl rfl ?_
    refine q_getR 48 hX ci12 lf_RX12_89 fR_55_41 dX12_repeats_45 rfl ?_
    refine q_iload 50 hX 4 dX12_repeats_48 rfl rfl ?_
    refine q_aload_n 51 hX 0 dX12_repeats_50 rfl rfl rfl ?_
    refine q_getR 54 hX ci12 lf_RX12_89 fR_55_41 dX12_repeats_51 rfl ?_
    refine q_iload 56 hX 4 dX12_repeats_54 rfl rfl ?_
    refine q_iload 58 hX 3 dX12_repeats_56 rfl rfl ?_
    refine q_isub 59 hX dX12_repeats_58 rfl ?_
    obtain ⟨hb1, hres⟩ := gd hres
    refine q_iald 60 hX rfl aF_82 hb1 dX12_repeats_59 rfl ?_
    obtain ⟨hb2, hres⟩ := gd hres
    refine q_iast 61 hX rfl aF_82 hb2 dX12_repeats_60 rfl ?_
    refine q_bS hres (fun S2 _ hres => ?_)
    refine q_aload_n 62 hX 0 dX12_repeats_61 rfl rfl rfl ?_
    refine q_getR 65 hX ci12 lf_RX12_92 fR_55_42 dX12_repeats_62 rfl ?_
    refine q_iload 67 hX 4 dX12_repeats_65 rfl rfl ?_
    refine q_aload_n 68 hX 0 dX12_repeats_67 rfl rfl rfl ?_
    refine q_getR 71 hX ci12 lf_RX12_92 fR_55_42 dX12_repeats_68 rfl ?_
    refine q_iload 73 hX 4 dX12_repeats_71 rfl rfl ?_
    refine q_iload 75 hX 3 dX12_repeats_73 rfl rfl ?_
    refine q_isub 76 hX dX12_repeats_75 rfl ?_
    obtain ⟨hb3, hres⟩ := gd hres
    refine q_iald 77 hX rfl aF_83 hb3 dX12_repeats_76 rfl ?_
    obtain ⟨hb4, hres⟩ := gd hres
    refine q_iast 78 hX rfl aF_83 hb4 dX12_repeats_77 rfl ?_
    refine q_bS hres (fun S3 _ hres => ?_)
    refine q_iincB 81 4 (lv0 := [(0, .ref (ad X 55)), (1, .int x1), (2, .int x2), (4, .int x4)]) hX dX12_repeats_78 rfl rfl kI_1 (by decide) rfl hres (fun v5 hres => ?_)
    refine q_goto 33 hX dX12_repeats_81 (by decide) ?_
    exact q_sub [1, 2, 3, 4, 0] rfl (hrc33 _ _ _ _ _ hres)
def fX12_repeats_33 : Nat → St → Int32 → Int32 → Int32 → Int32 → Option (Int32 × St)
  | 0 => fun _ _ _ _ _ => none
  | k + 1 => fun S x1 x2 x4 x5 => bX12_repeats_33 (fX12_repeats_33 k) S x1 x2 x4 x5
theorem wfX12_repeats_33 {X : CX} (hX : Ok RX12 cX12_repeats (some .boolean) 55 40 6 X) {rr : Int32 × St} (hq : rs X = (some (.int rr.1), rr.2)) (k : Nat) : ∀ (S : St) (x1 : Int32) (x2 : Int32) (x4 : Int32) (x5 : Int32), fX12_repeats_33 k S x1 x2 x4 x5 = some rr → Wat 55 40 1 6 X 33 [(0, .ref (ad X 55)), (1, .int x1), (2, .int x2), (4, .int x4), (5, .int x5)] [] S := by
  induction k with
  | zero => intro S x1 x2 x4 x5 hres; exact absurd hres (by simp [fX12_repeats_33])
  | succ k ih => intro S x1 x2 x4 x5 hres; exact wbX12_repeats_33 hX hq ih hres
def fX12_repeats (S : St) (x1 : Int32) (x2 : Int32) (x3 : Int32) : Option (Int32 × St) :=
  bV (((S.1 55 46) - x1)) fun v1 => if (x1 + (v1 * x2)) ≤ (12 : Int32) then (bV ((x1 + v1)) fun v2 => fX12_repeats_33 100 S x1 x2 v1 v2) else (bi (fX12_wrongAt S (6 : Int32) x3) fun r4 S1 => if r4 = 0 ∨ r4 = 1 then some (r4, S1) else none)
theorem wfX12_repeats {X : CX} (hX : Ok RX12 cX12_repeats (some .boolean) 55 40 6 X) {rr : Int32 × St} (hq : rs X = (some (.int rr.1), rr.2)) {S : St} {x1 : Int32} {x2 : Int32} {x3 : Int32} (hres : fX12_repeats S x1 x2 x3 = some rr) : Wat 55 40 1 6 X 0 [(0, .ref (ad X 55)), (1, .int x1), (2, .int x2), (3, .int x3)] [] S := by
  unfold fX12_repeats at hres
  refine q_aload_n 1 hX 0 dX12_repeats_0 rfl rfl rfl ?_
  refine q_getI 4 hX ci12 lf_RX12_299 fI_55_46 dX12_repeats_1 rfl ?_
  refine q_iload_n 5 hX 1 dX12_repeats_4 rfl rfl rfl ?_
  refine q_isub 6 hX dX12_repeats_5 rfl ?_
  refine q_istoreB 8 (lv0 := [(0, .ref (ad X 55)), (1, .int x1), (2, .int x2), (3, .int x3)]) hX dX12_repeats_6 rfl (by decide) rfl hres (fun v1 hres => ?_)
  refine q_iload_n 9 hX 2 dX12_repeats_8 rfl rfl rfl ?_
  refine q_iload 11 hX 0 dX12_repeats_9 rfl rfl ?_
  refine q_iload_n 12 hX 3 dX12_repeats_11 rfl rfl rfl ?_
  refine q_imul 13 hX dX12_repeats_12 rfl ?_
  refine q_iadd 14 hX dX12_repeats_13 rfl ?_
  refine q_bipush 16 hX dX12_repeats_14 rfl kB_12 ?_
  refine q_icmp_le 19 hX 27 dX12_repeats_16 rfl (by decide) (fun hc => ?_) (fun hc => ?_)
  · have hres := it_t hc hres
    refine q_iload_n 28 hX 2 dX12_repeats_27 rfl rfl rfl ?_
    refine q_iload 30 hX 0 dX12_repeats_28 rfl rfl ?_
    refine q_iadd 31 hX dX12_repeats_30 rfl ?_
    refine q_istoreB 33 (lv0 := [(4, .int v1), (0, .ref (ad X 55)), (1, .int x1), (2, .int x2), (3, .int x3)]) hX dX12_repeats_31 rfl (by decide) rfl hres (fun v2 hres => ?_)
    exact q_sub [2, 3, 4, 1, 0] rfl (wfX12_repeats_33 hX hq _ _ _ _ _ _ hres)
  · have hres := it_f hc hres
    refine q_aload_n 20 hX 1 dX12_repeats_19 rfl rfl rfl ?_
    refine q_bipush 22 hX dX12_repeats_20 rfl kB_6 ?_
    refine q_iload_n 23 hX 4 dX12_repeats_22 rfl rfl rfl ?_
    obtain ⟨r4, S1, hk3, hres⟩ := ob hres
    refine q_callVi 26 (st := []) (As := [.int (6 : Int32), .int x3]) hX (cX12_wrongAt9 hX.dj hk3) cv_RX12_182 ci12 oB_55 rfl (by decide) rfl (Nat.le_of_ble_eq_true rfl) dX12_repeats_23 rfl ?_
    obtain ⟨hz5, hres⟩ := gd hres
    exact q_zret hX hz5 (eqi hq hres) dX12_repeats_26
theorem cX12_repeats9 {l : Launch} {w : WD} (hj : Dj w 55 40) {rr : Int32 × St} {S : St} {x1 : Int32} {x2 : Int32} {x3 : Int32} (hres : fX12_repeats S x1 x2 x3 = some rr) : Ct l yX12_repeats cX12_repeats 6 (some .boolean) 1 w 55 40 [.ref (w.1 55), .int x1, .int x2, .int x3] S (some (.int rr.1), rr.2) := by
  refine Ct.of (lv := [(0, .ref (w.1 55)), (1, .int x1), (2, .int x2), (3, .int x3)]) hj (by decide +kernel) (Nat.le_of_ble_eq_true rfl) rfl ?_
  rintro X rfl rfl hq hX
  exact wfX12_repeats hX hq hres
def fX12_readsTurn_152 (S : St) : Option (Int32 × St) :=
  bi (fX12_wrongAt S (1 : Int32) (S.1 55 12)) fun r2 S1 => if r2 = 0 ∨ r2 = 1 then some (r2, S1) else none
theorem wfX12_readsTurn_152 {X : CX} (hX : Ok RX12 cX12_readsTurn (some .boolean) 55 40 4 X) {rr : Int32 × St} (hq : rs X = (some (.int rr.1), rr.2)) {S : St} (hres : fX12_readsTurn_152 S = some rr) : Wat 55 40 2 4 X 152 [(0, .ref (ad X 55))] [] S := by
  unfold fX12_readsTurn_152 at hres
  refine q_aload_n 153 hX 0 dX12_readsTurn_152 rfl rfl rfl ?_
  refine q_iconst 154 hX dX12_readsTurn_153 rfl kI_1 ?_
  refine q_aload_n 155 hX 0 dX12_readsTurn_154 rfl rfl rfl ?_
  refine q_getI 158 hX ci12 lf_RX12_169 fI_55_12 dX12_readsTurn_155 rfl ?_
  obtain ⟨r2, S1, hk1, hres⟩ := ob hres
  refine q_callVi 161 (st := []) (As := [.int (1 : Int32), .int (S.1 55 12)]) hX (cX12_wrongAt9 hX.dj hk1) cv_RX12_182 ci12 oB_55 rfl (by decide) rfl (Nat.le_of_ble_eq_true rfl) dX12_readsTurn_158 rfl ?_
  obtain ⟨hz3, hres⟩ := gd hres
  exact q_zret hX hz3 (eqi hq hres) dX12_readsTurn_161
def bX12_readsTurn_241 (rc241 : St → Option (Int32 × St)) (S : St) : Option (Int32 × St) :=
  bi (fX12_here S) fun r2 S1 => if r2 = (41 : Int32) then (if (S1.1 55 47) ≤ 0 then (some ((1 : Int32), S1)) else (bS (pI S1 55 12 ((S1.1 55 12) + (1 : Int32))) fun S2 => bS (pI S2 55 47 ((S2.1 55 47) - (1 : Int32))) fun S3 => if inb (S3.1 55 47) 2 = true then if inb (S3.1 55 47) 2 = true then if inb (S3.1 55 47) 2 = true then bi (fX12_repeats S3 (S3.1 85 ((S3.1 55 47).toNatClampNeg)) (S3.1 86 ((S3.1 55 47).toNatClampNeg)) (S3.1 84 ((S3.1 55 47).toNatClampNeg))) fun r7 S4 => if r7 = 0 then (some ((0 : Int32), S4)) else (rc241 S4) else none else none else none)) else (some ((1 : Int32), S1))
theorem wbX12_readsTurn_241 {X : CX} (hX : Ok RX12 cX12_readsTurn (some .boolean) 55 40 4 X) {rr : Int32 × St} (hq : rs X = (some (.int rr.1), rr.2)) {rc241 : St → Option (Int32 × St)} (hrc241 : ∀ (S : St), rc241 S = some rr → Wat 55 40 2 4 X 241 [(0, .ref (ad X 55))] [] S) {S : St} (hres : bX12_readsTurn_241 rc241 S = some rr) : Wat 55 40 2 4 X 241 [(0, .ref (ad X 55))] [] S := by
  unfold bX12_readsTurn_241 at hres
  refine q_aload_n 242 hX 0 dX12_readsTurn_241 rfl rfl rfl ?_
  obtain ⟨r2, S1, hk1, hres⟩ := ob hres
  refine q_callVi 245 (st := []) (As := []) hX (cX12_here9 hX.dj hk1) cv_RX12_175 ci12 oB_55 rfl (by decide) rfl (Nat.le_of_ble_eq_true rfl) dX12_readsTurn_242 rfl ?_
  refine q_bipush 247 hX dX12_readsTurn_245 rfl kB_41 ?_
  refine q_icmp_ne 250 hX 313 dX12_readsTurn_247 rfl (by decide) (fun hc => ?_) (fun hc => ?_)
  · have hres := it_f hc hres
    refine q_iconst 314 hX dX12_readsTurn_313 rfl kI_1 ?_
    exact q_zret hX (by decide) (eqi hq hres) dX12_readsTurn_314
  · have hres := it_t hc hres
    refine q_aload_n 251 hX 0 dX12_readsTurn_250 rfl rfl rfl ?_
    refine q_getI 254 hX ci12 lf_RX12_305 fI_55_47 dX12_readsTurn_251 rfl ?_
    refine q_if_le 257 hX 313 dX12_readsTurn_254 rfl (by decide) (fun hc => ?_) (fun hc => ?_)
    · have hres := it_t hc hres
      refine q_iconst 314 hX dX12_readsTurn_313 rfl kI_1 ?_
      exact q_zret hX (by decide) (eqi hq hres) dX12_readsTurn_314
    · have hres := it_f hc hres
      refine q_aload_n 258 hX 0 dX12_readsTurn_257 rfl rfl rfl ?_
      refine q_aload_n 259 hX 0 dX12_readsTurn_258 rfl rfl rfl ?_
      refine q_getI 262 hX ci12 lf_RX12_169 fI_55_12 dX12_readsTurn_259 rfl ?_
      refine q_iconst 263 hX dX12_readsTurn_262 rfl kI_1 ?_
      refine q_iadd 264 hX dX12_readsTurn_263 rfl ?_
      refine q_putI 267 hX ci12 lf_RX12_169 fI_55_12 (nar_i rfl) dX12_readsTurn_264 rfl ?_
      refine q_bS hres (fun S2 _ hres => ?_)
      refine q_aload_n 268 hX 0 dX12_readsTurn_267 rfl rfl rfl ?_
      refine q_aload_n 269 hX 0 dX12_readsTurn_268 rfl rfl rfl ?_
      refine q_getI 272 hX ci12 lf_RX12_305 fI_55_47 dX12_readsTurn_269 rfl ?_
      refine q_iconst 273 hX dX12_readsTurn_272 rfl kI_1 ?_
      refine q_isub 274 hX dX12_readsTurn_273 rfl ?_
      refine q_putI 277 hX ci12 lf_RX12_305 fI_55_47 (nar_i rfl) dX12_readsTurn_274 rfl ?_
      refine q_bS hres (fun S3 _ hres => ?_)
      refine q_aload_n 278 hX 0 dX12_readsTurn_277 rfl rfl rfl ?_
      refine q_aload_n 279 hX 0 dX12_readsTurn_278 rfl rfl rfl ?_
      refine q_getR 282 hX ci12 lf_RX12_98 fR_55_44 dX12_readsTurn_279 rfl ?_
      refine q_aload_n 283 hX 0 dX12_readsTurn_282 rfl rfl rfl ?_
      refine q_getI 286 hX ci12 lf_RX12_305 fI_55_47 dX12_readsTurn_283 rfl ?_
      obtain ⟨hb3, hres⟩ := gd hres
      refine q_iald 287 hX rfl aF_85 hb3 dX12_readsTurn_286 rfl ?_
      refine q_aload_n 288 hX 0 dX12_readsTurn_287 rfl rfl rfl ?_
      refine q_getR 291 hX ci12 lf_RX12_101 fR_55_45 dX12_readsTurn_288 rfl ?_
      refine q_aload_n 292 hX 0 dX12_readsTurn_291 rfl rfl rfl ?_
      refine q_getI 295 hX ci12 lf_RX12_305 fI_55_47 dX12_readsTurn_292 rfl ?_
      obtain ⟨hb4, hres⟩ := gd hres
      refine q_iald 296 hX rfl aF_86 hb4 dX12_readsTurn_295 rfl ?_
      refine q_aload_n 297 hX 0 dX12_readsTurn_296 rfl rfl rfl ?_
      refine q_getR 300 hX ci12 lf_RX12_95 fR_55_43 dX12_readsTurn_297 rfl ?_
      refine q_aload_n 301 hX 0 dX12_readsTurn_300 rfl rfl rfl ?_
      refine q_getI 304 hX ci12 lf_RX12_305 fI_55_47 dX12_readsTurn_301 rfl ?_
      obtain ⟨hb5, hres⟩ := gd hres
      refine q_iald 305 hX rfl aF_84 hb5 dX12_readsTurn_304 rfl ?_
      obtain ⟨r7, S4, hk6, hres⟩ := ob hres
      refine q_callVi 308 (st := []) (As := [.int (S3.1 85 ((S3.1 55 47).toNatClampNeg)), .int (S3.1 86 ((S3.1 55 47).toNatClampNeg)), .int (S3.1 84 ((S3.1 55 47).toNatClampNeg))]) hX (cX12_repeats9 hX.dj hk6) cv_RX12_308 ci12 oB_55 rfl (by decide) rfl (Nat.le_of_ble_eq_true rfl) dX12_readsTurn_305 rfl ?_
      refine q_if_ne 311 hX 241 dX12_readsTurn_308 rfl (by decide) (fun hc => ?_) (fun hc => ?_)
      · have hres := it_f hc hres
        exact q_sub [0] rfl (hrc241 _ hres)
      · have hres := it_t hc hres
        refine q_iconst 312 hX dX12_readsTurn_311 rfl kI_0 ?_
        exact q_zret hX (by decide) (eqi hq hres) dX12_readsTurn_312
def fX12_readsTurn_241 : Nat → St → Option (Int32 × St)
  | 0 => fun _ => none
  | k + 1 => fun S => bX12_readsTurn_241 (fX12_readsTurn_241 k) S
theorem wfX12_readsTurn_241 {X : CX} (hX : Ok RX12 cX12_readsTurn (some .boolean) 55 40 4 X) {rr : Int32 × St} (hq : rs X = (some (.int rr.1), rr.2)) (k : Nat) : ∀ (S : St), fX12_readsTurn_241 k S = some rr → Wat 55 40 2 4 X 241 [(0, .ref (ad X 55))] [] S := by
  induction k with
  | zero => intro S hres; exact absurd hres (by simp [fX12_readsTurn_241])
  | succ k ih => intro S hres; exact wbX12_readsTurn_241 hX hq ih hres
def fX12_readsTurn_162 (S : St) (x1 : Int32) (x2 : Int32) (x3 : Int32) : Option (Int32 × St) :=
  if ((S.1 55 46) + x2) ≤ (12 : Int32) then (if inb (S.1 55 46) 12 = true then bS (pI S 82 ((S.1 55 46).toNatClampNeg) x3) fun S1 => if inb (S1.1 55 46) 12 = true then bS (pI S1 83 ((S1.1 55 46).toNatClampNeg) (S1.1 55 12)) fun S2 => bS (pI S2 55 12 ((S2.1 55 12) + (1 : Int32))) fun S3 => bS (pI S3 55 46 ((S3.1 55 46) + (1 : Int32))) fun S4 => bi (fX12_repeats S4 ((S4.1 55 46) - (1 : Int32)) x2 x1) fun r4 S5 => if r4 = 0 then (some ((0 : Int32), S5)) else (fX12_readsTurn_241 100 S5) else none else none) else (bi (fX12_wrongAt S (6 : Int32) x1) fun r6 S6 => if r6 = 0 ∨ r6 = 1 then some (r6, S6) else none)
theorem wfX12_readsTurn_162 {X : CX} (hX : Ok RX12 cX12_readsTurn (some .boolean) 55 40 4 X) {rr : Int32 × St} (hq : rs X = (some (.int rr.1), rr.2)) {S : St} {x1 : Int32} {x2 : Int32} {x3 : Int32} (hres : fX12_readsTurn_162 S x1 x2 x3 = some rr) : Wat 55 40 2 4 X 162 [(0, .ref (ad X 55)), (1, .int x1), (2, .int x2), (3, .int x3)] [] S := by
  unfold fX12_readsTurn_162 at hres
  refine q_aload_n 163 hX 0 dX12_readsTurn_162 rfl rfl rfl ?_
  refine q_getI 166 hX ci12 lf_RX12_299 fI_55_46 dX12_readsTurn_163 rfl ?_
  refine q_iload_n 167 hX 2 dX12_readsTurn_166 rfl rfl rfl ?_
  refine q_iadd 168 hX dX12_readsTurn_167 rfl ?_
  refine q_bipush 170 hX dX12_readsTurn_168 rfl kB_12 ?_
  refine q_icmp_le 173 hX 181 dX12_readsTurn_170 rfl (by decide) (fun hc => ?_) (fun hc => ?_)
  · have hres := it_t hc hres
    refine q_aload_n 182 hX 0 dX12_readsTurn_181 rfl rfl rfl ?_
    refine q_getR 185 hX ci12 lf_RX12_89 fR_55_41 dX12_readsTurn_182 rfl ?_
    refine q_aload_n 186 hX 0 dX12_readsTurn_185 rfl rfl rfl ?_
    refine q_getI 189 hX ci12 lf_RX12_299 fI_55_46 dX12_readsTurn_186 rfl ?_
    refine q_iload_n 190 hX 3 dX12_readsTurn_189 rfl rfl rfl ?_
    obtain ⟨hb1, hres⟩ := gd hres
    refine q_iast 191 hX rfl aF_82 hb1 dX12_readsTurn_190 rfl ?_
    refine q_bS hres (fun S1 _ hres => ?_)
    refine q_aload_n 192 hX 0 dX12_readsTurn_191 rfl rfl rfl ?_
    refine q_getR 195 hX ci12 lf_RX12_92 fR_55_42 dX12_readsTurn_192 rfl ?_
    refine q_aload_n 196 hX 0 dX12_readsTurn_195 rfl rfl rfl ?_
    refine q_getI 199 hX ci12 lf_RX12_299 fI_55_46 dX12_readsTurn_196 rfl ?_
    refine q_aload_n 200 hX 0 dX12_readsTurn_199 rfl rfl rfl ?_
    refine q_getI 203 hX ci12 lf_RX12_169 fI_55_12 dX12_readsTurn_200 rfl ?_
    obtain ⟨hb2, hres⟩ := gd hres
    refine q_iast 204 hX rfl aF_83 hb2 dX12_readsTurn_203 rfl ?_
    refine q_bS hres (fun S2 _ hres => ?_)
    refine q_aload_n 205 hX 0 dX12_readsTurn_204 rfl rfl rfl ?_
    refine q_aload_n 206 hX 0 dX12_readsTurn_205 rfl rfl rfl ?_
    refine q_getI 209 hX ci12 lf_RX12_169 fI_55_12 dX12_readsTurn_206 rfl ?_
    refine q_iconst 210 hX dX12_readsTurn_209 rfl kI_1 ?_
    refine q_iadd 211 hX dX12_readsTurn_210 rfl ?_
    refine q_putI 214 hX ci12 lf_RX12_169 fI_55_12 (nar_i rfl) dX12_readsTurn_211 rfl ?_
    refine q_bS hres (fun S3 _ hres => ?_)
    refine q_aload_n 215 hX 0 dX12_readsTurn_214 rfl rfl rfl ?_
    refine q_aload_n 216 hX 0 dX12_readsTurn_215 rfl rfl rfl ?_
    refine q_getI 219 hX ci12 lf_RX12_299 fI_55_46 dX12_readsTurn_216 rfl ?_
    refine q_iconst 220 hX dX12_readsTurn_219 rfl kI_1 ?_
    refine q_iadd 221 hX dX12_readsTurn_220 rfl ?_
    refine q_putI 224 hX ci12 lf_RX12_299 fI_55_46 (nar_i rfl) dX12_readsTurn_221 rfl ?_
    refine q_bS hres (fun S4 _ hres => ?_)
    refine q_aload_n 225 hX 0 dX12_readsTurn_224 rfl rfl rfl ?_
    refine q_aload_n 226 hX 0 dX12_readsTurn_225 rfl rfl rfl ?_
    refine q_getI 229 hX ci12 lf_RX12_299 fI_55_46 dX12_readsTurn_226 rfl ?_
    refine q_iconst 230 hX dX12_readsTurn_229 rfl kI_1 ?_
    refine q_isub 231 hX dX12_readsTurn_230 rfl ?_
    refine q_iload_n 232 hX 2 dX12_readsTurn_231 rfl rfl rfl ?_
    refine q_iload_n 233 hX 1 dX12_readsTurn_232 rfl rfl rfl ?_
    obtain ⟨r4, S5, hk3, hres⟩ := ob hres
    refine q_callVi 236 (st := []) (As := [.int ((S4.1 55 46) - (1 : Int32)), .int x2, .int x1]) hX (cX12_repeats9 hX.dj hk3) cv_RX12_308 ci12 oB_55 rfl (by decide) rfl (Nat.le_of_ble_eq_true rfl) dX12_readsTurn_233 rfl ?_
    refine q_if_ne 239 hX 241 dX12_readsTurn_236 rfl (by decide) (fun hc => ?_) (fun hc => ?_)
    · have hres := it_f hc hres
      exact q_sub [0] rfl (wfX12_readsTurn_241 hX hq _ _ hres)
    · have hres := it_t hc hres
      refine q_iconst 240 hX dX12_readsTurn_239 rfl kI_0 ?_
      exact q_zret hX (by decide) (eqi hq hres) dX12_readsTurn_240
  · have hres := it_f hc hres
    refine q_aload_n 174 hX 0 dX12_readsTurn_173 rfl rfl rfl ?_
    refine q_bipush 176 hX dX12_readsTurn_174 rfl kB_6 ?_
    refine q_iload_n 177 hX 1 dX12_readsTurn_176 rfl rfl rfl ?_
    obtain ⟨r6, S6, hk5, hres⟩ := ob hres
    refine q_callVi 180 (st := []) (As := [.int (6 : Int32), .int x1]) hX (cX12_wrongAt9 hX.dj hk5) cv_RX12_182 ci12 oB_55 rfl (by decide) rfl (Nat.le_of_ble_eq_true rfl) dX12_readsTurn_177 rfl ?_
    obtain ⟨hz7, hres⟩ := gd hres
    exact q_zret hX hz7 (eqi hq hres) dX12_readsTurn_180
def fX12_readsTurn_127 (S : St) (x1 : Int32) (x2 : Int32) (s0 : Int32) : Option (Int32 × St) :=
  bi (fX12_in S s0 (-1 : Int32) (15 : Int32)) fun r2 S1 => if r2 = 0 then (fX12_readsTurn_152 S1) else (if s0 = (-1 : Int32) then (bi (fX12_here S1) fun r4 S2 => if r4 = (45 : Int32) then (fX12_readsTurn_162 S2 x1 x2 s0) else (fX12_readsTurn_152 S2)) else (fX12_readsTurn_162 S1 x1 x2 s0))
theorem wfX12_readsTurn_127 {X : CX} (hX : Ok RX12 cX12_readsTurn (some .boolean) 55 40 4 X) {rr : Int32 × St} (hq : rs X = (some (.int rr.1), rr.2)) {S : St} {x1 : Int32} {x2 : Int32} {s0 : Int32} (hres : fX12_readsTurn_127 S x1 x2 s0 = some rr) : Wat 55 40 2 4 X 127 [(0, .ref (ad X 55)), (1, .int x1), (2, .int x2)] [.int s0] S := by
  unfold fX12_readsTurn_127 at hres
  refine q_istore_n 128 (lv' := [(3, .int s0), (0, .ref (ad X 55)), (1, .int x1), (2, .int x2)]) hX dX12_readsTurn_127 rfl rfl (by decide) rfl ?_
  refine q_iload_n 129 hX 0 dX12_readsTurn_128 rfl rfl rfl ?_
  refine q_iconst 130 hX dX12_readsTurn_129 rfl kI_m1 ?_
  refine q_bipush 132 hX dX12_readsTurn_130 rfl kB_15 ?_
  obtain ⟨r2, S1, hk1, hres⟩ := ob hres
  refine q_callSi 135 (st := []) (As := [.int s0, .int (-1 : Int32), .int (15 : Int32)]) hX (cX12_in9 hX.dj hk1) cs_RX12_134 rfl (by decide) rfl (Nat.le_of_ble_eq_true rfl) dX12_readsTurn_132 rfl ?_
  refine q_if_eq 138 hX 152 dX12_readsTurn_135 rfl (by decide) (fun hc => ?_) (fun hc => ?_)
  · have hres := it_t hc hres
    exact q_sub [1] rfl (wfX12_readsTurn_152 hX hq hres)
  · have hres := it_f hc hres
    refine q_iload_n 139 hX 0 dX12_readsTurn_138 rfl rfl rfl ?_
    refine q_iconst 140 hX dX12_readsTurn_139 rfl kI_m1 ?_
    refine q_icmp_ne 143 hX 162 dX12_readsTurn_140 rfl (by decide) (fun hc => ?_) (fun hc => ?_)
    · have hres := it_f hc hres
      exact q_sub [1, 2, 3, 0] rfl (wfX12_readsTurn_162 hX hq hres)
    · have hres := it_t hc hres
      refine q_aload_n 144 hX 1 dX12_readsTurn_143 rfl rfl rfl ?_
      obtain ⟨r4, S2, hk3, hres⟩ := ob hres
      refine q_callVi 147 (st := []) (As := []) hX (cX12_here9 hX.dj hk3) cv_RX12_175 ci12 oB_55 rfl (by decide) rfl (Nat.le_of_ble_eq_true rfl) dX12_readsTurn_144 rfl ?_
      refine q_bipush 149 hX dX12_readsTurn_147 rfl kB_45 ?_
      refine q_icmp_eq 152 hX 162 dX12_readsTurn_149 rfl (by decide) (fun hc => ?_) (fun hc => ?_)
      · have hres := it_t hc hres
        exact q_sub [1, 2, 3, 0] rfl (wfX12_readsTurn_162 hX hq hres)
      · have hres := it_f hc hres
        exact q_sub [1] rfl (wfX12_readsTurn_152 hX hq hres)
def bX12_readsTurn_4 (rc4 : St → Option (Int32 × St)) (S : St) : Option (Int32 × St) :=
  bi (fX12_here S) fun r2 S1 => if r2 = (40 : Int32) then (if (S1.1 55 47) = (2 : Int32) then (bi (fX12_wrongAt S1 (5 : Int32) (S1.1 55 12)) fun r14 S10 => if r14 = 0 ∨ r14 = 1 then some (r14, S10) else none) else (if inb (S1.1 55 47) 2 = true then bS (pI S1 84 ((S1.1 55 47).toNatClampNeg) (S1.1 55 48)) fun S4 => if inb (S4.1 55 47) 2 = true then bS (pI S4 85 ((S4.1 55 47).toNatClampNeg) (S4.1 55 46)) fun S5 => if inb (S5.1 55 47) 2 = true then bS (pI S5 86 ((S5.1 55 47).toNatClampNeg) (S5.1 55 49)) fun S6 => bS (pI S6 55 47 ((S6.1 55 47) + (1 : Int32))) fun S7 => bS (pI S7 55 12 ((S7.1 55 12) + (1 : Int32))) fun S8 => bv (fX12_readsTimes S8) fun S9 => rc4 S9 else none else none else none)) else (bV ((S1.1 55 48)) fun v3 => bV ((S1.1 55 49)) fun v4 => bi (fX12_here S1) fun r6 S2 => if r6 = (45 : Int32) then (fX12_readsTurn_127 S2 v3 v4 (-1 : Int32)) else (bi (fX12_here S2) fun r8 S3 => fX12_readsTurn_127 S3 v3 v4 (r8 - (97 : Int32))))
theorem wbX12_readsTurn_4 {X : CX} (hX : Ok RX12 cX12_readsTurn (some .boolean) 55 40 4 X) {rr : Int32 × St} (hq : rs X = (some (.int rr.1), rr.2)) {rc4 : St → Option (Int32 × St)} (hrc4 : ∀ (S : St), rc4 S = some rr → Wat 55 40 2 4 X 4 [(0, .ref (ad X 55))] [] S) {S : St} (hres : bX12_readsTurn_4 rc4 S = some rr) : Wat 55 40 2 4 X 4 [(0, .ref (ad X 55))] [] S := by
  unfold bX12_readsTurn_4 at hres
  refine q_aload_n 5 hX 0 dX12_readsTurn_4 rfl rfl rfl ?_
  obtain ⟨r2, S1, hk1, hres⟩ := ob hres
  refine q_callVi 8 (st := []) (As := []) hX (cX12_here9 hX.dj hk1) cv_RX12_175 ci12 oB_55 rfl (by decide) rfl (Nat.le_of_ble_eq_true rfl) dX12_readsTurn_5 rfl ?_
  refine q_bipush 10 hX dX12_readsTurn_8 rfl kB_40 ?_
  refine q_icmp_ne 13 hX 97 dX12_readsTurn_10 rfl (by decide) (fun hc => ?_) (fun hc => ?_)
  · have hres := it_f hc hres
    refine q_aload_n 98 hX 0 dX12_readsTurn_97 rfl rfl rfl ?_
    refine q_getI 101 hX ci12 lf_RX12_293 fI_55_48 dX12_readsTurn_98 rfl ?_
    refine q_istoreB_n 102 (lv0 := [(0, .ref (ad X 55))]) hX dX12_readsTurn_101 rfl rfl (by decide) rfl hres (fun v3 hres => ?_)
    refine q_aload_n 103 hX 1 dX12_readsTurn_102 rfl rfl rfl ?_
    refine q_getI 106 hX ci12 lf_RX12_296 fI_55_49 dX12_readsTurn_103 rfl ?_
    refine q_istoreB_n 107 (lv0 := [(1, .int v3), (0, .ref (ad X 55))]) hX dX12_readsTurn_106 rfl rfl (by decide) rfl hres (fun v4 hres => ?_)
    refine q_aload_n 108 hX 2 dX12_readsTurn_107 rfl rfl rfl ?_
    obtain ⟨r6, S2, hk5, hres⟩ := ob hres
    refine q_callVi 111 (st := []) (As := []) hX (cX12_here9 hX.dj hk5) cv_RX12_175 ci12 oB_55 rfl (by decide) rfl (Nat.le_of_ble_eq_true rfl) dX12_readsTurn_108 rfl ?_
    refine q_bipush 113 hX dX12_readsTurn_111 rfl kB_45 ?_
    refine q_icmp_ne 116 hX 120 dX12_readsTurn_113 rfl (by decide) (fun hc => ?_) (fun hc => ?_)
    · have hres := it_f hc hres
      refine q_aload_n 121 hX 2 dX12_readsTurn_120 rfl rfl rfl ?_
      obtain ⟨r8, S3, hk7, hres⟩ := ob hres
      refine q_callVi 124 (st := []) (As := []) hX (cX12_here9 hX.dj hk7) cv_RX12_175 ci12 oB_55 rfl (by decide) rfl (Nat.le_of_ble_eq_true rfl) dX12_readsTurn_121 rfl ?_
      refine q_bipush 126 hX dX12_readsTurn_124 rfl kB_97 ?_
      refine q_isub 127 hX dX12_readsTurn_126 rfl ?_
      exact q_sub [2, 1, 0] rfl (wfX12_readsTurn_127 hX hq hres)
    · have hres := it_t hc hres
      refine q_iconst 117 hX dX12_readsTurn_116 rfl kI_m1 ?_
      refine q_goto 127 hX dX12_readsTurn_117 (by decide) ?_
      exact q_sub [2, 1, 0] rfl (wfX12_readsTurn_127 hX hq hres)
  · have hres := it_t hc hres
    refine q_aload_n 14 hX 0 dX12_readsTurn_13 rfl rfl rfl ?_
    refine q_getI 17 hX ci12 lf_RX12_305 fI_55_47 dX12_readsTurn_14 rfl ?_
    refine q_iconst 18 hX dX12_readsTurn_17 rfl kI_2 ?_
    refine q_icmp_ne 21 hX 31 dX12_readsTurn_18 rfl (by decide) (fun hc => ?_) (fun hc => ?_)
    · have hres := it_f hc hres
      refine q_aload_n 32 hX 0 dX12_readsTurn_31 rfl rfl rfl ?_
      refine q_getR 35 hX ci12 lf_RX12_95 fR_55_43 dX12_readsTurn_32 rfl ?_
      refine q_aload_n 36 hX 0 dX12_readsTurn_35 rfl rfl rfl ?_
      refine q_getI 39 hX ci12 lf_RX12_305 fI_55_47 dX12_readsTurn_36 rfl ?_
      refine q_aload_n 40 hX 0 dX12_readsTurn_39 rfl rfl rfl ?_
      refine q_getI 43 hX ci12 lf_RX12_293 fI_55_48 dX12_readsTurn_40 rfl ?_
      obtain ⟨hb9, hres⟩ := gd hres
      refine q_iast 44 hX rfl aF_84 hb9 dX12_readsTurn_43 rfl ?_
      refine q_bS hres (fun S4 _ hres => ?_)
      refine q_aload_n 45 hX 0 dX12_readsTurn_44 rfl rfl rfl ?_
      refine q_getR 48 hX ci12 lf_RX12_98 fR_55_44 dX12_readsTurn_45 rfl ?_
      refine q_aload_n 49 hX 0 dX12_readsTurn_48 rfl rfl rfl ?_
      refine q_getI 52 hX ci12 lf_RX12_305 fI_55_47 dX12_readsTurn_49 rfl ?_
      refine q_aload_n 53 hX 0 dX12_readsTurn_52 rfl rfl rfl ?_
      refine q_getI 56 hX ci12 lf_RX12_299 fI_55_46 dX12_readsTurn_53 rfl ?_
      obtain ⟨hb10, hres⟩ := gd hres
      refine q_iast 57 hX rfl aF_85 hb10 dX12_readsTurn_56 rfl ?_
      refine q_bS hres (fun S5 _ hres => ?_)
      refine q_aload_n 58 hX 0 dX12_readsTurn_57 rfl rfl rfl ?_
      refine q_getR 61 hX ci12 lf_RX12_101 fR_55_45 dX12_readsTurn_58 rfl ?_
      refine q_aload_n 62 hX 0 dX12_readsTurn_61 rfl rfl rfl ?_
      refine q_getI 65 hX ci12 lf_RX12_305 fI_55_47 dX12_readsTurn_62 rfl ?_
      refine q_aload_n 66 hX 0 dX12_readsTurn_65 rfl rfl rfl ?_
      refine q_getI 69 hX ci12 lf_RX12_296 fI_55_49 dX12_readsTurn_66 rfl ?_
      obtain ⟨hb11, hres⟩ := gd hres
      refine q_iast 70 hX rfl aF_86 hb11 dX12_readsTurn_69 rfl ?_
      refine q_bS hres (fun S6 _ hres => ?_)
      refine q_aload_n 71 hX 0 dX12_readsTurn_70 rfl rfl rfl ?_
      refine q_aload_n 72 hX 0 dX12_readsTurn_71 rfl rfl rfl ?_
      refine q_getI 75 hX ci12 lf_RX12_305 fI_55_47 dX12_readsTurn_72 rfl ?_
      refine q_iconst 76 hX dX12_readsTurn_75 rfl kI_1 ?_
      refine q_iadd 77 hX dX12_readsTurn_76 rfl ?_
      refine q_putI 80 hX ci12 lf_RX12_305 fI_55_47 (nar_i rfl) dX12_readsTurn_77 rfl ?_
      refine q_bS hres (fun S7 _ hres => ?_)
      refine q_aload_n 81 hX 0 dX12_readsTurn_80 rfl rfl rfl ?_
      refine q_aload_n 82 hX 0 dX12_readsTurn_81 rfl rfl rfl ?_
      refine q_getI 85 hX ci12 lf_RX12_169 fI_55_12 dX12_readsTurn_82 rfl ?_
      refine q_iconst 86 hX dX12_readsTurn_85 rfl kI_1 ?_
      refine q_iadd 87 hX dX12_readsTurn_86 rfl ?_
      refine q_putI 90 hX ci12 lf_RX12_169 fI_55_12 (nar_i rfl) dX12_readsTurn_87 rfl ?_
      refine q_bS hres (fun S8 _ hres => ?_)
      refine q_aload_n 91 hX 0 dX12_readsTurn_90 rfl rfl rfl ?_
      obtain ⟨S9, hk12, hres⟩ := obv hres
      refine q_callVv 94 (st := []) (As := []) hX (cX12_readsTimes9 hX.dj hk12) cv_RX12_302 ci12 oB_55 rfl (by decide) rfl (Nat.le_of_ble_eq_true rfl) dX12_readsTurn_91 rfl ?_
      refine q_goto 4 hX dX12_readsTurn_94 (by decide) ?_
      exact q_sub [0] rfl (hrc4 _ hres)
    · have hres := it_t hc hres
      refine q_aload_n 22 hX 0 dX12_readsTurn_21 rfl rfl rfl ?_
      refine q_iconst 23 hX dX12_readsTurn_22 rfl kI_5 ?_
      refine q_aload_n 24 hX 0 dX12_readsTurn_23 rfl rfl rfl ?_
      refine q_getI 27 hX ci12 lf_RX12_169 fI_55_12 dX12_readsTurn_24 rfl ?_
      obtain ⟨r14, S10, hk13, hres⟩ := ob hres
      refine q_callVi 30 (st := []) (As := [.int (5 : Int32), .int (S1.1 55 12)]) hX (cX12_wrongAt9 hX.dj hk13) cv_RX12_182 ci12 oB_55 rfl (by decide) rfl (Nat.le_of_ble_eq_true rfl) dX12_readsTurn_27 rfl ?_
      obtain ⟨hz15, hres⟩ := gd hres
      exact q_zret hX hz15 (eqi hq hres) dX12_readsTurn_30
def fX12_readsTurn_4 : Nat → St → Option (Int32 × St)
  | 0 => fun _ => none
  | k + 1 => fun S => bX12_readsTurn_4 (fX12_readsTurn_4 k) S
theorem wfX12_readsTurn_4 {X : CX} (hX : Ok RX12 cX12_readsTurn (some .boolean) 55 40 4 X) {rr : Int32 × St} (hq : rs X = (some (.int rr.1), rr.2)) (k : Nat) : ∀ (S : St), fX12_readsTurn_4 k S = some rr → Wat 55 40 2 4 X 4 [(0, .ref (ad X 55))] [] S := by
  induction k with
  | zero => intro S hres; exact absurd hres (by simp [fX12_readsTurn_4])
  | succ k ih => intro S hres; exact wbX12_readsTurn_4 hX hq ih hres
def fX12_readsTurn (S : St) : Option (Int32 × St) :=
  bv (fX12_readsTimes S) fun S1 => fX12_readsTurn_4 100 S1
theorem wfX12_readsTurn {X : CX} (hX : Ok RX12 cX12_readsTurn (some .boolean) 55 40 4 X) {rr : Int32 × St} (hq : rs X = (some (.int rr.1), rr.2)) {S : St} (hres : fX12_readsTurn S = some rr) : Wat 55 40 2 4 X 0 [(0, .ref (ad X 55))] [] S := by
  unfold fX12_readsTurn at hres
  refine q_aload_n 1 hX 0 dX12_readsTurn_0 rfl rfl rfl ?_
  obtain ⟨S1, hk1, hres⟩ := obv hres
  refine q_callVv 4 (st := []) (As := []) hX (cX12_readsTimes9 hX.dj hk1) cv_RX12_302 ci12 oB_55 rfl (by decide) rfl (Nat.le_of_ble_eq_true rfl) dX12_readsTurn_1 rfl ?_
  exact q_sub [0] rfl (wfX12_readsTurn_4 hX hq _ _ hres)
theorem cX12_readsTurn9 {l : Launch} {w : WD} (hj : Dj w 55 40) {rr : Int32 × St} {S : St} (hres : fX12_readsTurn S = some rr) : Ct l yX12_readsTurn cX12_readsTurn 4 (some .boolean) 2 w 55 40 [.ref (w.1 55)] S (some (.int rr.1), rr.2) := by
  refine Ct.of (lv := [(0, .ref (w.1 55))]) hj (by decide +kernel) (Nat.le_of_ble_eq_true rfl) rfl ?_
  rintro X rfl rfl hq hX
  exact wfX12_readsTurn hX hq hres
def bX12_areTold_2 (rc2 : St → Int32 → Option (Int32 × St)) (S : St) (x1 : Int32) : Option (Int32 × St) :=
  if (S.1 55 46) ≤ x1 then (some ((1 : Int32), S)) else (if inb x1 12 = true then if (S.1 82 (x1.toNatClampNeg)) = (-1 : Int32) then (bV (x1 + (1 : Int32)) fun v2 => rc2 S v2) else (if inb x1 12 = true then bi (fX12_isHouse S (S.1 82 (x1.toNatClampNeg))) fun r5 S1 => if r5 = 0 then (if inb x1 12 = true then bi (fX12_wrongAt S1 (7 : Int32) (S1.1 83 (x1.toNatClampNeg))) fun r9 S2 => if r9 = 0 ∨ r9 = 1 then some (r9, S2) else none else none) else (bV (x1 + (1 : Int32)) fun v6 => rc2 S1 v6) else none) else none)
theorem wbX12_areTold_2 {X : CX} (hX : Ok RX12 cX12_areTold (some .boolean) 55 40 2 X) {rr : Int32 × St} (hq : rs X = (some (.int rr.1), rr.2)) {rc2 : St → Int32 → Option (Int32 × St)} (hrc2 : ∀ (S : St) (x1 : Int32), rc2 S x1 = some rr → Wat 55 40 2 2 X 2 [(0, .ref (ad X 55)), (1, .int x1)] [] S) {S : St} {x1 : Int32} (hres : bX12_areTold_2 rc2 S x1 = some rr) : Wat 55 40 2 2 X 2 [(0, .ref (ad X 55)), (1, .int x1)] [] S := by
  unfold bX12_areTold_2 at hres
  refine q_iload_n 3 hX 1 dX12_areTold_2 rfl rfl rfl ?_
  refine q_aload_n 4 hX 0 dX12_areTold_3 rfl rfl rfl ?_
  refine q_getI 7 hX ci12 lf_RX12_299 fI_55_46 dX12_areTold_4 rfl ?_
  refine q_icmp_ge 10 hX 52 dX12_areTold_7 rfl (by decide) (fun hc => ?_) (fun hc => ?_)
  · have hres := it_t hc hres
    refine q_iconst 53 hX dX12_areTold_52 rfl kI_1 ?_
    exact q_zret hX (by decide) (eqi hq hres) dX12_areTold_53
  · have hres := it_f hc hres
    refine q_aload_n 11 hX 0 dX12_areTold_10 rfl rfl rfl ?_
    refine q_getR 14 hX ci12 lf_RX12_89 fR_55_41 dX12_areTold_11 rfl ?_
    refine q_iload_n 15 hX 1 dX12_areTold_14 rfl rfl rfl ?_
    obtain ⟨hb1, hres⟩ := gd hres
    refine q_iald 16 hX rfl aF_82 hb1 dX12_areTold_15 rfl ?_
    refine q_iconst 17 hX dX12_areTold_16 rfl kI_m1 ?_
    refine q_icmp_eq 20 hX 46 dX12_areTold_17 rfl (by decide) (fun hc => ?_) (fun hc => ?_)
    · have hres := it_t hc hres
      refine q_iincB 49 1 (lv0 := [(0, .ref (ad X 55))]) hX dX12_areTold_46 rfl rfl kI_1 (by decide) rfl hres (fun v2 hres => ?_)
      refine q_goto 2 hX dX12_areTold_49 (by decide) ?_
      exact q_sub [1, 0] rfl (hrc2 _ _ hres)
    · have hres := it_f hc hres
      refine q_aload_n 21 hX 0 dX12_areTold_20 rfl rfl rfl ?_
      refine q_aload_n 22 hX 0 dX12_areTold_21 rfl rfl rfl ?_
      refine q_getR 25 hX ci12 lf_RX12_89 fR_55_41 dX12_areTold_22 rfl ?_
      refine q_iload_n 26 hX 1 dX12_areTold_25 rfl rfl rfl ?_
      obtain ⟨hb3, hres⟩ := gd hres
      refine q_iald 27 hX rfl aF_82 hb3 dX12_areTold_26 rfl ?_
      obtain ⟨r5, S1, hk4, hres⟩ := ob hres
      refine q_callVi 30 (st := []) (As := [.int (S.1 82 (x1.toNatClampNeg))]) hX (cX12_isHouse9 hX.dj hk4) cv_RX12_159 ci12 oB_55 rfl (by decide) rfl (Nat.le_of_ble_eq_true rfl) dX12_areTold_27 rfl ?_
      refine q_if_ne 33 hX 46 dX12_areTold_30 rfl (by decide) (fun hc => ?_) (fun hc => ?_)
      · have hres := it_f hc hres
        refine q_iincB 49 1 (lv0 := [(0, .ref (ad X 55))]) hX dX12_areTold_46 rfl rfl kI_1 (by decide) rfl hres (fun v6 hres => ?_)
        refine q_goto 2 hX dX12_areTold_49 (by decide) ?_
        exact q_sub [1, 0] rfl (hrc2 _ _ hres)
      · have hres := it_t hc hres
        refine q_aload_n 34 hX 0 dX12_areTold_33 rfl rfl rfl ?_
        refine q_bipush 36 hX dX12_areTold_34 rfl kB_7 ?_
        refine q_aload_n 37 hX 0 dX12_areTold_36 rfl rfl rfl ?_
        refine q_getR 40 hX ci12 lf_RX12_92 fR_55_42 dX12_areTold_37 rfl ?_
        refine q_iload_n 41 hX 1 dX12_areTold_40 rfl rfl rfl ?_
        obtain ⟨hb7, hres⟩ := gd hres
        refine q_iald 42 hX rfl aF_83 hb7 dX12_areTold_41 rfl ?_
        obtain ⟨r9, S2, hk8, hres⟩ := ob hres
        refine q_callVi 45 (st := []) (As := [.int (7 : Int32), .int (S1.1 83 (x1.toNatClampNeg))]) hX (cX12_wrongAt9 hX.dj hk8) cv_RX12_182 ci12 oB_55 rfl (by decide) rfl (Nat.le_of_ble_eq_true rfl) dX12_areTold_42 rfl ?_
        obtain ⟨hz10, hres⟩ := gd hres
        exact q_zret hX hz10 (eqi hq hres) dX12_areTold_45
def fX12_areTold_2 : Nat → St → Int32 → Option (Int32 × St)
  | 0 => fun _ _ => none
  | k + 1 => fun S x1 => bX12_areTold_2 (fX12_areTold_2 k) S x1
theorem wfX12_areTold_2 {X : CX} (hX : Ok RX12 cX12_areTold (some .boolean) 55 40 2 X) {rr : Int32 × St} (hq : rs X = (some (.int rr.1), rr.2)) (k : Nat) : ∀ (S : St) (x1 : Int32), fX12_areTold_2 k S x1 = some rr → Wat 55 40 2 2 X 2 [(0, .ref (ad X 55)), (1, .int x1)] [] S := by
  induction k with
  | zero => intro S x1 hres; exact absurd hres (by simp [fX12_areTold_2])
  | succ k ih => intro S x1 hres; exact wbX12_areTold_2 hX hq ih hres
def fX12_areTold (S : St) : Option (Int32 × St) :=
  fX12_areTold_2 100 S (0 : Int32)
theorem wfX12_areTold {X : CX} (hX : Ok RX12 cX12_areTold (some .boolean) 55 40 2 X) {rr : Int32 × St} (hq : rs X = (some (.int rr.1), rr.2)) {S : St} (hres : fX12_areTold S = some rr) : Wat 55 40 2 2 X 0 [(0, .ref (ad X 55))] [] S := by
  unfold fX12_areTold at hres
  refine q_iconst 1 hX dX12_areTold_0 rfl kI_0 ?_
  refine q_istore_n 2 (lv' := [(1, .int (0 : Int32)), (0, .ref (ad X 55))]) hX dX12_areTold_1 rfl rfl (by decide) rfl ?_
  exact q_sub [1, 0] rfl (wfX12_areTold_2 hX hq _ _ _ hres)
theorem cX12_areTold9 {l : Launch} {w : WD} (hj : Dj w 55 40) {rr : Int32 × St} {S : St} (hres : fX12_areTold S = some rr) : Ct l yX12_areTold cX12_areTold 2 (some .boolean) 2 w 55 40 [.ref (w.1 55)] S (some (.int rr.1), rr.2) := by
  refine Ct.of (lv := [(0, .ref (w.1 55))]) hj (by decide +kernel) (Nat.le_of_ble_eq_true rfl) rfl ?_
  rintro X rfl rfl hq hX
  exact wfX12_areTold hX hq hres
def fX12_rota_62 (rc40 : St → Int32 → Option (Int32 × St)) (S : St) : Option (Int32 × St) :=
  bi (fX12_readsTurn S) fun r2 S1 => rc40 S1 r2
theorem wfX12_rota_62 {X : CX} (hX : Ok RX12 cX12_rota (some .int) 55 40 4 X) {rr : Int32 × St} (hq : rs X = (some (.int rr.1), rr.2)) {rc40 : St → Int32 → Option (Int32 × St)} (hrc40 : ∀ (S : St) (x2 : Int32), rc40 S x2 = some rr → Wat 55 40 3 4 X 40 [(0, .ref (ad X 55)), (2, .int x2)] [] S) {S : St} (hres : fX12_rota_62 rc40 S = some rr) : Wat 55 40 3 4 X 62 [(0, .ref (ad X 55))] [] S := by
  unfold fX12_rota_62 at hres
  refine q_aload_n 63 hX 0 dX12_rota_62 rfl rfl rfl ?_
  obtain ⟨r2, S1, hk1, hres⟩ := ob hres
  refine q_callVi 66 (st := []) (As := []) hX (cX12_readsTurn9 hX.dj hk1) cv_RX12_311 ci12 oB_55 rfl (by decide) rfl (Nat.le_of_ble_eq_true rfl) dX12_rota_63 rfl ?_
  refine q_istore_n 67 (lv' := [(2, .int r2), (0, .ref (ad X 55))]) hX dX12_rota_66 rfl rfl (by decide) rfl ?_
  refine q_goto 40 hX dX12_rota_67 (by decide) ?_
  exact q_sub [1, 0] rfl (hrc40 _ _ hres)
def bX12_rota_103 (rc103 : St → Int32 → Option (Int32 × St)) (S : St) (x3 : Int32) : Option (Int32 × St) :=
  if (12 : Int32) ≤ x3 then (some ((S.1 55 46), S)) else (if (S.1 55 46) ≤ x3 then (if inb x3 12 = true then bS (pI S 59 (x3.toNatClampNeg) (-1 : Int32)) fun S1 => bV (x3 + (1 : Int32)) fun v2 => rc103 S1 v2 else none) else (if inb x3 12 = true then if inb x3 12 = true then bS (pI S 59 (x3.toNatClampNeg) (S.1 82 (x3.toNatClampNeg))) fun S2 => bV (x3 + (1 : Int32)) fun v5 => rc103 S2 v5 else none else none))
theorem wbX12_rota_103 {X : CX} (hX : Ok RX12 cX12_rota (some .int) 55 40 4 X) {rr : Int32 × St} (hq : rs X = (some (.int rr.1), rr.2)) {rc103 : St → Int32 → Option (Int32 × St)} (hrc103 : ∀ (S : St) (x3 : Int32), rc103 S x3 = some rr → Wat 55 40 3 4 X 103 [(0, .ref (ad X 55)), (3, .int x3)] [] S) {S : St} {x3 : Int32} (hres : bX12_rota_103 rc103 S x3 = some rr) : Wat 55 40 3 4 X 103 [(0, .ref (ad X 55)), (3, .int x3)] [] S := by
  unfold bX12_rota_103 at hres
  refine q_iload_n 104 hX 1 dX12_rota_103 rfl rfl rfl ?_
  refine q_bipush 106 hX dX12_rota_104 rfl kB_12 ?_
  refine q_icmp_ge 109 hX 139 dX12_rota_106 rfl (by decide) (fun hc => ?_) (fun hc => ?_)
  · have hres := it_t hc hres
    refine q_aload_n 140 hX 0 dX12_rota_139 rfl rfl rfl ?_
    refine q_getI 143 hX ci12 lf_RX12_299 fI_55_46 dX12_rota_140 rfl ?_
    exact q_iret hX (eqi hq hres) dX12_rota_143
  · have hres := it_f hc hres
    refine q_aload_n 110 hX 0 dX12_rota_109 rfl rfl rfl ?_
    refine q_getR 113 hX ci12 lf_RX12_19 fR_55_3 dX12_rota_110 rfl ?_
    refine q_iload_n 114 hX 1 dX12_rota_113 rfl rfl rfl ?_
    refine q_iload_n 115 hX 1 dX12_rota_114 rfl rfl rfl ?_
    refine q_aload_n 116 hX 0 dX12_rota_115 rfl rfl rfl ?_
    refine q_getI 119 hX ci12 lf_RX12_299 fI_55_46 dX12_rota_116 rfl ?_
    refine q_icmp_ge 122 hX 131 dX12_rota_119 rfl (by decide) (fun hc => ?_) (fun hc => ?_)
    · have hres := it_t hc hres
      refine q_iconst 132 hX dX12_rota_131 rfl kI_m1 ?_
      obtain ⟨hb1, hres⟩ := gd hres
      refine q_iast 133 hX rfl aF_59 hb1 dX12_rota_132 rfl ?_
      refine q_bS hres (fun S1 _ hres => ?_)
      refine q_iincB 136 1 (lv0 := [(0, .ref (ad X 55))]) hX dX12_rota_133 rfl rfl kI_1 (by decide) rfl hres (fun v2 hres => ?_)
      refine q_goto 103 hX dX12_rota_136 (by decide) ?_
      exact q_sub [1, 0] rfl (hrc103 _ _ hres)
    · have hres := it_f hc hres
      refine q_aload_n 123 hX 0 dX12_rota_122 rfl rfl rfl ?_
      refine q_getR 126 hX ci12 lf_RX12_89 fR_55_41 dX12_rota_123 rfl ?_
      refine q_iload_n 127 hX 1 dX12_rota_126 rfl rfl rfl ?_
      obtain ⟨hb3, hres⟩ := gd hres
      refine q_iald 128 hX rfl aF_82 hb3 dX12_rota_127 rfl ?_
      refine q_goto 132 hX dX12_rota_128 (by decide) ?_
      obtain ⟨hb4, hres⟩ := gd hres
      refine q_iast 133 hX rfl aF_59 hb4 dX12_rota_132 rfl ?_
      refine q_bS hres (fun S2 _ hres => ?_)
      refine q_iincB 136 1 (lv0 := [(0, .ref (ad X 55))]) hX dX12_rota_133 rfl rfl kI_1 (by decide) rfl hres (fun v5 hres => ?_)
      refine q_goto 103 hX dX12_rota_136 (by decide) ?_
      exact q_sub [1, 0] rfl (hrc103 _ _ hres)
def fX12_rota_103 : Nat → St → Int32 → Option (Int32 × St)
  | 0 => fun _ _ => none
  | k + 1 => fun S x3 => bX12_rota_103 (fX12_rota_103 k) S x3
theorem wfX12_rota_103 {X : CX} (hX : Ok RX12 cX12_rota (some .int) 55 40 4 X) {rr : Int32 × St} (hq : rs X = (some (.int rr.1), rr.2)) (k : Nat) : ∀ (S : St) (x3 : Int32), fX12_rota_103 k S x3 = some rr → Wat 55 40 3 4 X 103 [(0, .ref (ad X 55)), (3, .int x3)] [] S := by
  induction k with
  | zero => intro S x3 hres; exact absurd hres (by simp [fX12_rota_103])
  | succ k ih => intro S x3 hres; exact wbX12_rota_103 hX hq ih hres
def fX12_rota_86 (S : St) (s0 : Int32) : Option (Int32 × St) :=
  bS (pI S 55 11 (0 : Int32)) fun S1 => if s0 = 0 then (some ((S1.1 55 14), S1)) else (fX12_rota_103 100 S1 (0 : Int32))
theorem wfX12_rota_86 {X : CX} (hX : Ok RX12 cX12_rota (some .int) 55 40 4 X) {rr : Int32 × St} (hq : rs X = (some (.int rr.1), rr.2)) {S : St} {s0 : Int32} (hres : fX12_rota_86 S s0 = some rr) : Wat 55 40 3 4 X 86 [(0, .ref (ad X 55))] [.int s0] S := by
  unfold fX12_rota_86 at hres
  refine q_istore_n 87 (lv' := [(2, .int s0), (0, .ref (ad X 55))]) hX dX12_rota_86 rfl rfl (by decide) rfl ?_
  refine q_aload_n 88 hX 1 dX12_rota_87 rfl rfl rfl ?_
  refine q_iconst 89 hX dX12_rota_88 rfl kI_0 ?_
  refine q_putI 92 hX ci12 lf_RX12_162 fI_55_11 (nar_i rfl) dX12_rota_89 rfl ?_
  refine q_bS hres (fun S1 _ hres => ?_)
  refine q_iload_n 93 hX 0 dX12_rota_92 rfl rfl rfl ?_
  refine q_if_ne 96 hX 101 dX12_rota_93 rfl (by decide) (fun hc => ?_) (fun hc => ?_)
  · have hres := it_f hc hres
    refine q_iconst 102 hX dX12_rota_101 rfl kI_0 ?_
    refine q_istore_n 103 (lv' := [(3, .int (0 : Int32)), (2, .int s0), (0, .ref (ad X 55))]) hX dX12_rota_102 rfl rfl (by decide) rfl ?_
    exact q_sub [2, 0] rfl (wfX12_rota_103 hX hq _ _ _ hres)
  · have hres := it_t hc hres
    refine q_aload_n 97 hX 1 dX12_rota_96 rfl rfl rfl ?_
    refine q_getI 100 hX ci12 lf_RX12_179 fI_55_14 dX12_rota_97 rfl ?_
    exact q_iret hX (eqi hq hres) dX12_rota_100
def fX12_rota_85 (S : St) : Option (Int32 × St) :=
  fX12_rota_86 S (0 : Int32)
theorem wfX12_rota_85 {X : CX} (hX : Ok RX12 cX12_rota (some .int) 55 40 4 X) {rr : Int32 × St} (hq : rs X = (some (.int rr.1), rr.2)) {S : St} (hres : fX12_rota_85 S = some rr) : Wat 55 40 3 4 X 85 [(0, .ref (ad X 55))] [] S := by
  unfold fX12_rota_85 at hres
  refine q_iconst 86 hX dX12_rota_85 rfl kI_0 ?_
  exact q_sub [0] rfl (wfX12_rota_86 hX hq hres)
def fX12_rota_70 (S : St) (x2 : Int32) : Option (Int32 × St) :=
  if x2 = 0 then (fX12_rota_85 S) else (bi (fX12_areTold S) fun r2 S1 => if r2 = 0 then (fX12_rota_85 S1) else (fX12_rota_86 S1 (1 : Int32)))
theorem wfX12_rota_70 {X : CX} (hX : Ok RX12 cX12_rota (some .int) 55 40 4 X) {rr : Int32 × St} (hq : rs X = (some (.int rr.1), rr.2)) {S : St} {x2 : Int32} (hres : fX12_rota_70 S x2 = some rr) : Wat 55 40 3 4 X 70 [(0, .ref (ad X 55)), (2, .int x2)] [] S := by
  unfold fX12_rota_70 at hres
  refine q_iload_n 71 hX 1 dX12_rota_70 rfl rfl rfl ?_
  refine q_if_eq 74 hX 85 dX12_rota_71 rfl (by decide) (fun hc => ?_) (fun hc => ?_)
  · have hres := it_t hc hres
    exact q_sub [0] rfl (wfX12_rota_85 hX hq hres)
  · have hres := it_f hc hres
    refine q_aload_n 75 hX 0 dX12_rota_74 rfl rfl rfl ?_
    obtain ⟨r2, S1, hk1, hres⟩ := ob hres
    refine q_callVi 78 (st := []) (As := []) hX (cX12_areTold9 hX.dj hk1) cv_RX12_314 ci12 oB_55 rfl (by decide) rfl (Nat.le_of_ble_eq_true rfl) dX12_rota_75 rfl ?_
    refine q_if_eq 81 hX 85 dX12_rota_78 rfl (by decide) (fun hc => ?_) (fun hc => ?_)
    · have hres := it_t hc hres
      exact q_sub [0] rfl (wfX12_rota_85 hX hq hres)
    · have hres := it_f hc hres
      refine q_iconst 82 hX dX12_rota_81 rfl kI_1 ?_
      refine q_goto 86 hX dX12_rota_82 (by decide) ?_
      exact q_sub [0] rfl (wfX12_rota_86 hX hq hres)
def bX12_rota_40 (rc40 : St → Int32 → Option (Int32 × St)) (S : St) (x2 : Int32) : Option (Int32 × St) :=
  if x2 = 0 then (fX12_rota_70 S x2) else (if (S.1 55 12) < (S.1 55 13) then (fX12_rota_62 rc40 S) else (if (S.1 55 47) ≤ 0 then (fX12_rota_70 S x2) else (fX12_rota_62 rc40 S)))
theorem wbX12_rota_40 {X : CX} (hX : Ok RX12 cX12_rota (some .int) 55 40 4 X) {rr : Int32 × St} (hq : rs X = (some (.int rr.1), rr.2)) {rc40 : St → Int32 → Option (Int32 × St)} (hrc40 : ∀ (S : St) (x2 : Int32), rc40 S x2 = some rr → Wat 55 40 3 4 X 40 [(0, .ref (ad X 55)), (2, .int x2)] [] S) {S : St} {x2 : Int32} (hres : bX12_rota_40 rc40 S x2 = some rr) : Wat 55 40 3 4 X 40 [(0, .ref (ad X 55)), (2, .int x2)] [] S := by
  unfold bX12_rota_40 at hres
  refine q_iload_n 41 hX 1 dX12_rota_40 rfl rfl rfl ?_
  refine q_if_eq 44 hX 70 dX12_rota_41 rfl (by decide) (fun hc => ?_) (fun hc => ?_)
  · have hres := it_t hc hres
    exact q_sub [0, 1] rfl (wfX12_rota_70 hX hq hres)
  · have hres := it_f hc hres
    refine q_aload_n 45 hX 0 dX12_rota_44 rfl rfl rfl ?_
    refine q_getI 48 hX ci12 lf_RX12_169 fI_55_12 dX12_rota_45 rfl ?_
    refine q_aload_n 49 hX 0 dX12_rota_48 rfl rfl rfl ?_
    refine q_getI 52 hX ci12 lf_RX12_172 fI_55_13 dX12_rota_49 rfl ?_
    refine q_icmp_lt 55 hX 62 dX12_rota_52 rfl (by decide) (fun hc => ?_) (fun hc => ?_)
    · have hres := it_t hc hres
      exact q_sub [0] rfl (wfX12_rota_62 hX hq hrc40 hres)
    · have hres := it_f hc hres
      refine q_aload_n 56 hX 0 dX12_rota_55 rfl rfl rfl ?_
      refine q_getI 59 hX ci12 lf_RX12_305 fI_55_47 dX12_rota_56 rfl ?_
      refine q_if_le 62 hX 70 dX12_rota_59 rfl (by decide) (fun hc => ?_) (fun hc => ?_)
      · have hres := it_t hc hres
        exact q_sub [0, 1] rfl (wfX12_rota_70 hX hq hres)
      · have hres := it_f hc hres
        exact q_sub [0] rfl (wfX12_rota_62 hX hq hrc40 hres)
def fX12_rota_40 : Nat → St → Int32 → Option (Int32 × St)
  | 0 => fun _ _ => none
  | k + 1 => fun S x2 => bX12_rota_40 (fX12_rota_40 k) S x2
theorem wfX12_rota_40 {X : CX} (hX : Ok RX12 cX12_rota (some .int) 55 40 4 X) {rr : Int32 × St} (hq : rs X = (some (.int rr.1), rr.2)) (k : Nat) : ∀ (S : St) (x2 : Int32), fX12_rota_40 k S x2 = some rr → Wat 55 40 3 4 X 40 [(0, .ref (ad X 55)), (2, .int x2)] [] S := by
  induction k with
  | zero => intro S x2 hres; exact absurd hres (by simp [fX12_rota_40])
  | succ k ih => intro S x2 hres; exact wbX12_rota_40 hX hq ih hres
def fX12_rota (S : St) (x1 : Int32) : Option (Int32 × St) :=
  bi (fX12_in S x1 (1 : Int32) (60 : Int32)) fun r2 S1 => if r2 = 0 then (some ((-1 : Int32), S1)) else (if x1 ≤ (S1.1 55 11) then (bv (fX12_beginsText S1 x1) fun S2 => bS (pI S2 55 46 (0 : Int32)) fun S3 => bS (pI S3 55 47 (0 : Int32)) fun S4 => bi (fX12_readsTurn S4) fun r5 S5 => fX12_rota_40 100 S5 r5) else (some ((-1 : Int32), S1)))
theorem wfX12_rota {X : CX} (hX : Ok RX12 cX12_rota (some .int) 55 40 4 X) {rr : Int32 × St} (hq : rs X = (some (.int rr.1), rr.2)) {S : St} {x1 : Int32} (hres : fX12_rota S x1 = some rr) : Wat 55 40 3 4 X 0 [(0, .ref (ad X 55)), (1, .int x1)] [] S := by
  unfold fX12_rota at hres
  refine q_iload_n 1 hX 1 dX12_rota_0 rfl rfl rfl ?_
  refine q_iconst 2 hX dX12_rota_1 rfl kI_1 ?_
  refine q_bipush 4 hX dX12_rota_2 rfl kB_60 ?_
  obtain ⟨r2, S1, hk1, hres⟩ := ob hres
  refine q_callSi 7 (st := []) (As := [.int x1, .int (1 : Int32), .int (60 : Int32)]) hX (cX12_in9 hX.dj hk1) cs_RX12_134 rfl (by decide) rfl (Nat.le_of_ble_eq_true rfl) dX12_rota_4 rfl ?_
  refine q_if_eq 10 hX 18 dX12_rota_7 rfl (by decide) (fun hc => ?_) (fun hc => ?_)
  · have hres := it_t hc hres
    refine q_iconst 19 hX dX12_rota_18 rfl kI_m1 ?_
    exact q_iret hX (eqi hq hres) dX12_rota_19
  · have hres := it_f hc hres
    refine q_iload_n 11 hX 1 dX12_rota_10 rfl rfl rfl ?_
    refine q_aload_n 12 hX 0 dX12_rota_11 rfl rfl rfl ?_
    refine q_getI 15 hX ci12 lf_RX12_162 fI_55_11 dX12_rota_12 rfl ?_
    refine q_icmp_le 18 hX 20 dX12_rota_15 rfl (by decide) (fun hc => ?_) (fun hc => ?_)
    · have hres := it_t hc hres
      refine q_aload_n 21 hX 0 dX12_rota_20 rfl rfl rfl ?_
      refine q_iload_n 22 hX 1 dX12_rota_21 rfl rfl rfl ?_
      obtain ⟨S2, hk3, hres⟩ := obv hres
      refine q_callVv 25 (st := []) (As := [.int x1]) hX (cX12_beginsText9 hX.dj hk3) cv_RX12_253 ci12 oB_55 rfl (by decide) rfl (Nat.le_of_ble_eq_true rfl) dX12_rota_22 rfl ?_
      refine q_aload_n 26 hX 0 dX12_rota_25 rfl rfl rfl ?_
      refine q_iconst 27 hX dX12_rota_26 rfl kI_0 ?_
      refine q_putI 30 hX ci12 lf_RX12_299 fI_55_46 (nar_i rfl) dX12_rota_27 rfl ?_
      refine q_bS hres (fun S3 _ hres => ?_)
      refine q_aload_n 31 hX 0 dX12_rota_30 rfl rfl rfl ?_
      refine q_iconst 32 hX dX12_rota_31 rfl kI_0 ?_
      refine q_putI 35 hX ci12 lf_RX12_305 fI_55_47 (nar_i rfl) dX12_rota_32 rfl ?_
      refine q_bS hres (fun S4 _ hres => ?_)
      refine q_aload_n 36 hX 0 dX12_rota_35 rfl rfl rfl ?_
      obtain ⟨r5, S5, hk4, hres⟩ := ob hres
      refine q_callVi 39 (st := []) (As := []) hX (cX12_readsTurn9 hX.dj hk4) cv_RX12_311 ci12 oB_55 rfl (by decide) rfl (Nat.le_of_ble_eq_true rfl) dX12_rota_36 rfl ?_
      refine q_istore_n 40 (lv' := [(2, .int r5), (0, .ref (ad X 55)), (1, .int x1)]) hX dX12_rota_39 rfl rfl (by decide) rfl ?_
      exact q_sub [1, 0] rfl (wfX12_rota_40 hX hq _ _ _ hres)
    · have hres := it_f hc hres
      refine q_iconst 19 hX dX12_rota_18 rfl kI_m1 ?_
      exact q_iret hX (eqi hq hres) dX12_rota_19
theorem cX12_rota9 {l : Launch} {w : WD} (hj : Dj w 55 40) {rr : Int32 × St} {S : St} {x1 : Int32} (hres : fX12_rota S x1 = some rr) : Ct l yX12_rota cX12_rota 4 (some .int) 3 w 55 40 [.ref (w.1 55), .int x1] S (some (.int rr.1), rr.2) := by
  refine Ct.of (lv := [(0, .ref (w.1 55)), (1, .int x1)]) hj (by decide +kernel) (Nat.le_of_ble_eq_true rfl) rfl ?_
  rintro X rfl rfl hq hX
  exact wfX12_rota hX hq hres
def fX12_feels_75 (S : St) (x1 : Int32) (x2 : Int32) (x3 : Int32) (s1 : Int32) (s2 : Int32) : Option (St) :=
  if inb s1 9 = true then bS (pI S 77 (s1.toNatClampNeg) s2) fun S1 => bi (fX12_seenBy S1 x1 x2) fun r3 S2 => bi (fX12_bits S2 r3) fun r5 S3 => bS (pI S3 77 4 r5) fun S4 => bi (fX12_bits S4 (S4.1 56 17)) fun r7 S5 => bS (pI S5 77 5 r7) fun S6 => bS (pI S6 77 6 ((S6.1 56 18) - (S6.1 56 18) / (100 : Int32) * (100 : Int32))) fun S7 => bS (pI S7 77 7 ((S7.1 56 19) - (S7.1 56 19) / (100 : Int32) * (100 : Int32))) fun S8 => bS (pI S8 77 8 x3) fun S9 => some S9 else none
theorem wfX12_feels_75 {X : CX} (hX : Ok RX12 cX12_feels none 55 40 4 X) {rr : St} (hq : rs X = (none, rr)) {S : St} {x1 : Int32} {x2 : Int32} {x3 : Int32} {s1 : Int32} {s2 : Int32} (hres : fX12_feels_75 S x1 x2 x3 s1 s2 = some rr) : Wat 55 40 3 4 X 75 [(0, .ref (ad X 55)), (1, .int x1), (2, .int x2), (3, .int x3)] [.int s2, .int s1, .ref (ad X 77)] S := by
  unfold fX12_feels_75 at hres
  obtain ⟨hb1, hres⟩ := gd hres
  refine q_iast 76 hX rfl aF_77 hb1 dX12_feels_75 rfl ?_
  refine q_bS hres (fun S1 _ hres => ?_)
  refine q_aload_n 77 hX 0 dX12_feels_76 rfl rfl rfl ?_
  refine q_getR 80 hX ci12 lf_RX12_74 fR_55_33 dX12_feels_77 rfl ?_
  refine q_iconst 81 hX dX12_feels_80 rfl kI_4 ?_
  refine q_aload_n 82 hX 0 dX12_feels_81 rfl rfl rfl ?_
  refine q_iload_n 83 hX 1 dX12_feels_82 rfl rfl rfl ?_
  refine q_iload_n 84 hX 2 dX12_feels_83 rfl rfl rfl ?_
  obtain ⟨r3, S2, hk2, hres⟩ := ob hres
  refine q_callVi 87 (st := [.int (4 : Int32), .ref (ad X 77)]) (As := [.int x1, .int x2]) hX (cX12_seenBy9 hX.dj hk2) cv_RX12_152 ci12 oB_55 rfl (by decide) rfl (Nat.le_of_ble_eq_true rfl) dX12_feels_84 rfl ?_
  obtain ⟨r5, S3, hk4, hres⟩ := ob hres
  refine q_callSi 90 (st := [.int (4 : Int32), .ref (ad X 77)]) (As := [.int r3]) hX (cX12_bits9 hX.dj hk4) cs_RX12_320 rfl (by decide) rfl (Nat.le_of_ble_eq_true rfl) dX12_feels_87 rfl ?_
  refine q_iast 91 hX kU_4 aF_77 kN_4_9 dX12_feels_90 rfl ?_
  refine q_bS hres (fun S4 _ hres => ?_)
  refine q_aload_n 92 hX 0 dX12_feels_91 rfl rfl rfl ?_
  refine q_getR 95 hX ci12 lf_RX12_74 fR_55_33 dX12_feels_92 rfl ?_
  refine q_iconst 96 hX dX12_feels_95 rfl kI_5 ?_
  refine q_aload_n 97 hX 0 dX12_feels_96 rfl rfl rfl ?_
  refine q_getR 100 hX ci12 lf_RX12_7 fR_55_0 dX12_feels_97 rfl ?_
  refine q_bipush 102 hX dX12_feels_100 rfl kB_17 ?_
  refine q_iald 103 hX kU_17 aF_56 kN_17_21 dX12_feels_102 rfl ?_
  obtain ⟨r7, S5, hk6, hres⟩ := ob hres
  refine q_callSi 106 (st := [.int (5 : Int32), .ref (ad X 77)]) (As := [.int (S4.1 56 17)]) hX (cX12_bits9 hX.dj hk6) cs_RX12_320 rfl (by decide) rfl (Nat.le_of_ble_eq_true rfl) dX12_feels_103 rfl ?_
  refine q_iast 107 hX kU_5 aF_77 kN_5_9 dX12_feels_106 rfl ?_
  refine q_bS hres (fun S6 _ hres => ?_)
  refine q_aload_n 108 hX 0 dX12_feels_107 rfl rfl rfl ?_
  refine q_getR 111 hX ci12 lf_RX12_74 fR_55_33 dX12_feels_108 rfl ?_
  refine q_bipush 113 hX dX12_feels_111 rfl kB_6 ?_
  refine q_aload_n 114 hX 0 dX12_feels_113 rfl rfl rfl ?_
  refine q_getR 117 hX ci12 lf_RX12_7 fR_55_0 dX12_feels_114 rfl ?_
  refine q_bipush 119 hX dX12_feels_117 rfl kB_18 ?_
  refine q_iald 120 hX kU_18 aF_56 kN_18_21 dX12_feels_119 rfl ?_
  refine q_bipush 122 hX dX12_feels_120 rfl kB_100 ?_
  refine q_irem 123 hX dX12_feels_122 rfl (by decide) ?_
  refine q_iast 124 hX kU_6 aF_77 kN_6_9 dX12_feels_123 rfl ?_
  refine q_bS hres (fun S7 _ hres => ?_)
  refine q_aload_n 125 hX 0 dX12_feels_124 rfl rfl rfl ?_
  refine q_getR 128 hX ci12 lf_RX12_74 fR_55_33 dX12_feels_125 rfl ?_
  refine q_bipush 130 hX dX12_feels_128 rfl kB_7 ?_
  refine q_aload_n 131 hX 0 dX12_feels_130 rfl rfl rfl ?_
  refine q_getR 134 hX ci12 lf_RX12_7 fR_55_0 dX12_feels_131 rfl ?_
  refine q_bipush 136 hX dX12_feels_134 rfl kB_19 ?_
  refine q_iald 137 hX kU_19 aF_56 kN_19_21 dX12_feels_136 rfl ?_
  refine q_bipush 139 hX dX12_feels_137 rfl kB_100 ?_
  refine q_irem 140 hX dX12_feels_139 rfl (by decide) ?_
  refine q_iast 141 hX kU_7 aF_77 kN_7_9 dX12_feels_140 rfl ?_
  refine q_bS hres (fun S8 _ hres => ?_)
  refine q_aload_n 142 hX 0 dX12_feels_141 rfl rfl rfl ?_
  refine q_getR 145 hX ci12 lf_RX12_74 fR_55_33 dX12_feels_142 rfl ?_
  refine q_bipush 147 hX dX12_feels_145 rfl kB_8 ?_
  refine q_iload_n 148 hX 3 dX12_feels_147 rfl rfl rfl ?_
  refine q_iast 149 hX kU_8 aF_77 kN_8_9 dX12_feels_148 rfl ?_
  refine q_bS hres (fun S9 _ hres => ?_)
  exact q_vret hX (eqv hq hres) dX12_feels_149
def fX12_feels_35 (S : St) (x1 : Int32) (x2 : Int32) (x3 : Int32) (s1 : Int32) (s2 : Int32) : Option (St) :=
  if inb s1 9 = true then bS (pI S 77 (s1.toNatClampNeg) s2) fun S1 => bS (pI S1 77 2 x2) fun S2 => if (S2.1 56 16) = (-1 : Int32) then (fX12_feels_75 S2 x1 x2 x3 (3 : Int32) (0 : Int32)) else (bi (fX12_size S2 (x1 - (S2.1 56 16))) fun r3 S3 => fX12_feels_75 S3 x1 x2 x3 (3 : Int32) r3) else none
theorem wfX12_feels_35 {X : CX} (hX : Ok RX12 cX12_feels none 55 40 4 X) {rr : St} (hq : rs X = (none, rr)) {S : St} {x1 : Int32} {x2 : Int32} {x3 : Int32} {s1 : Int32} {s2 : Int32} (hres : fX12_feels_35 S x1 x2 x3 s1 s2 = some rr) : Wat 55 40 3 4 X 35 [(0, .ref (ad X 55)), (1, .int x1), (2, .int x2), (3, .int x3)] [.int s2, .int s1, .ref (ad X 77)] S := by
  unfold fX12_feels_35 at hres
  obtain ⟨hb1, hres⟩ := gd hres
  refine q_iast 36 hX rfl aF_77 hb1 dX12_feels_35 rfl ?_
  refine q_bS hres (fun S1 _ hres => ?_)
  refine q_aload_n 37 hX 0 dX12_feels_36 rfl rfl rfl ?_
  refine q_getR 40 hX ci12 lf_RX12_74 fR_55_33 dX12_feels_37 rfl ?_
  refine q_iconst 41 hX dX12_feels_40 rfl kI_2 ?_
  refine q_iload_n 42 hX 2 dX12_feels_41 rfl rfl rfl ?_
  refine q_iast 43 hX kU_2 aF_77 kN_2_9 dX12_feels_42 rfl ?_
  refine q_bS hres (fun S2 _ hres => ?_)
  refine q_aload_n 44 hX 0 dX12_feels_43 rfl rfl rfl ?_
  refine q_getR 47 hX ci12 lf_RX12_74 fR_55_33 dX12_feels_44 rfl ?_
  refine q_iconst 48 hX dX12_feels_47 rfl kI_3 ?_
  refine q_aload_n 49 hX 0 dX12_feels_48 rfl rfl rfl ?_
  refine q_getR 52 hX ci12 lf_RX12_7 fR_55_0 dX12_feels_49 rfl ?_
  refine q_bipush 54 hX dX12_feels_52 rfl kB_16 ?_
  refine q_iald 55 hX kU_16 aF_56 kN_16_21 dX12_feels_54 rfl ?_
  refine q_iconst 56 hX dX12_feels_55 rfl kI_m1 ?_
  refine q_icmp_ne 59 hX 63 dX12_feels_56 rfl (by decide) (fun hc => ?_) (fun hc => ?_)
  · have hres := it_f hc hres
    refine q_iload_n 64 hX 1 dX12_feels_63 rfl rfl rfl ?_
    refine q_aload_n 65 hX 0 dX12_feels_64 rfl rfl rfl ?_
    refine q_getR 68 hX ci12 lf_RX12_7 fR_55_0 dX12_feels_65 rfl ?_
    refine q_bipush 70 hX dX12_feels_68 rfl kB_16 ?_
    refine q_iald 71 hX kU_16 aF_56 kN_16_21 dX12_feels_70 rfl ?_
    refine q_isub 72 hX dX12_feels_71 rfl ?_
    obtain ⟨r3, S3, hk2, hres⟩ := ob hres
    refine q_callSi 75 (st := [.int (3 : Int32), .ref (ad X 77)]) (As := [.int (x1 - (S2.1 56 16))]) hX (cX12_size9 hX.dj hk2) cs_RX12_317 rfl (by decide) rfl (Nat.le_of_ble_eq_true rfl) dX12_feels_72 rfl ?_
    exact q_sub [0, 1, 2, 3] rfl (wfX12_feels_75 hX hq hres)
  · have hres := it_t hc hres
    refine q_iconst 60 hX dX12_feels_59 rfl kI_0 ?_
    refine q_goto 75 hX dX12_feels_60 (by decide) ?_
    exact q_sub [0, 1, 2, 3] rfl (wfX12_feels_75 hX hq hres)
def fX12_feels (S : St) (x1 : Int32) (x2 : Int32) (x3 : Int32) : Option (St) :=
  bS (pI S 77 0 x1) fun S1 => if (S1.1 56 16) = (-1 : Int32) then (fX12_feels_35 S1 x1 x2 x3 (1 : Int32) (16 : Int32)) else (fX12_feels_35 S1 x1 x2 x3 (1 : Int32) (S1.1 56 16))
theorem wfX12_feels {X : CX} (hX : Ok RX12 cX12_feels none 55 40 4 X) {rr : St} (hq : rs X = (none, rr)) {S : St} {x1 : Int32} {x2 : Int32} {x3 : Int32} (hres : fX12_feels S x1 x2 x3 = some rr) : Wat 55 40 3 4 X 0 [(0, .ref (ad X 55)), (1, .int x1), (2, .int x2), (3, .int x3)] [] S := by
  unfold fX12_feels at hres
  refine q_aload_n 1 hX 0 dX12_feels_0 rfl rfl rfl ?_
  refine q_getR 4 hX ci12 lf_RX12_74 fR_55_33 dX12_feels_1 rfl ?_
  refine q_iconst 5 hX dX12_feels_4 rfl kI_0 ?_
  refine q_iload_n 6 hX 1 dX12_feels_5 rfl rfl rfl ?_
  refine q_iast 7 hX kU_0 aF_77 kN_0_9 dX12_feels_6 rfl ?_
  refine q_bS hres (fun S1 _ hres => ?_)
  refine q_aload_n 8 hX 0 dX12_feels_7 rfl rfl rfl ?_
  refine q_getR 11 hX ci12 lf_RX12_74 fR_55_33 dX12_feels_8 rfl ?_
  refine q_iconst 12 hX dX12_feels_11 rfl kI_1 ?_
  refine q_aload_n 13 hX 0 dX12_feels_12 rfl rfl rfl ?_
  refine q_getR 16 hX ci12 lf_RX12_7 fR_55_0 dX12_feels_13 rfl ?_
  refine q_bipush 18 hX dX12_feels_16 rfl kB_16 ?_
  refine q_iald 19 hX kU_16 aF_56 kN_16_21 dX12_feels_18 rfl ?_
  refine q_iconst 20 hX dX12_feels_19 rfl kI_m1 ?_
  refine q_icmp_ne 23 hX 28 dX12_feels_20 rfl (by decide) (fun hc => ?_) (fun hc => ?_)
  · have hres := it_f hc hres
    refine q_aload_n 29 hX 0 dX12_feels_28 rfl rfl rfl ?_
    refine q_getR 32 hX ci12 lf_RX12_7 fR_55_0 dX12_feels_29 rfl ?_
    refine q_bipush 34 hX dX12_feels_32 rfl kB_16 ?_
    refine q_iald 35 hX kU_16 aF_56 kN_16_21 dX12_feels_34 rfl ?_
    exact q_sub [0, 1, 2, 3] rfl (wfX12_feels_35 hX hq hres)
  · have hres := it_t hc hres
    refine q_bipush 25 hX dX12_feels_23 rfl kB_16 ?_
    refine q_goto 35 hX dX12_feels_25 (by decide) ?_
    exact q_sub [0, 1, 2, 3] rfl (wfX12_feels_35 hX hq hres)
theorem cX12_feels9 {l : Launch} {w : WD} (hj : Dj w 55 40) {rr : St} {S : St} {x1 : Int32} {x2 : Int32} {x3 : Int32} (hres : fX12_feels S x1 x2 x3 = some rr) : Ct l yX12_feels cX12_feels 4 none 3 w 55 40 [.ref (w.1 55), .int x1, .int x2, .int x3] S (none, rr) := by
  refine Ct.of (lv := [(0, .ref (w.1 55)), (1, .int x1), (2, .int x2), (3, .int x3)]) hj (by decide +kernel) (Nat.le_of_ble_eq_true rfl) rfl ?_
  rintro X rfl rfl hq hX
  exact wfX12_feels hX hq hres
def fX12_isCarried (S : St) (x1 : Int32) (x2 : Int32) (x3 : Int32) : Option (St) :=
  bv (fX12_feels S x1 x2 x3) fun S1 => bi (fX12_holdsAny S1 (120 : Int32)) fun r3 S2 => if r3 = 0 then (if (S2.1 56 16) = x1 then (some S2) else (bi (fX12_byLaw S2 (99 : Int32) (9 : Int32) (0 : Int32)) fun r5 S3 => bi (fX12_min S3 r5 ((9999 : Int32) - (S3.1 56 18))) fun r7 S4 => bS (pI S4 56 18 ((S4.1 56 18) + r7)) fun S5 => bS (pI S5 55 50 ((S5.1 55 50) + r7)) fun S6 => bS (pI S6 56 16 x1) fun S7 => some S7)) else (some S2)
theorem wfX12_isCarried {X : CX} (hX : Ok RX12 cX12_isCarried none 55 40 5 X) {rr : St} (hq : rs X = (none, rr)) {S : St} {x1 : Int32} {x2 : Int32} {x3 : Int32} (hres : fX12_isCarried S x1 x2 x3 = some rr) : Wat 55 40 4 5 X 0 [(0, .ref (ad X 55)), (1, .int x1), (2, .int x2), (3, .int x3)] [] S := by
  unfold fX12_isCarried at hres
  refine q_aload_n 1 hX 0 dX12_isCarried_0 rfl rfl rfl ?_
  refine q_iload_n 2 hX 1 dX12_isCarried_1 rfl rfl rfl ?_
  refine q_iload_n 3 hX 2 dX12_isCarried_2 rfl rfl rfl ?_
  refine q_iload_n 4 hX 3 dX12_isCarried_3 rfl rfl rfl ?_
  obtain ⟨S1, hk1, hres⟩ := obv hres
  refine q_callVv 7 (st := []) (As := [.int x1, .int x2, .int x3]) hX (cX12_feels9 hX.dj hk1) cv_RX12_323 ci12 oB_55 rfl (by decide) rfl (Nat.le_of_ble_eq_true rfl) dX12_isCarried_4 rfl ?_
  refine q_aload_n 8 hX 0 dX12_isCarried_7 rfl rfl rfl ?_
  refine q_bipush 10 hX dX12_isCarried_8 rfl kB_120 ?_
  obtain ⟨r3, S2, hk2, hres⟩ := ob hres
  refine q_callVi 13 (st := []) (As := [.int (120 : Int32)]) hX (cX12_holdsAny9 hX.dj hk2) cv_RX12_327 ci12 oB_55 rfl (by decide) rfl (Nat.le_of_ble_eq_true rfl) dX12_isCarried_10 rfl ?_
  refine q_if_ne 16 hX 27 dX12_isCarried_13 rfl (by decide) (fun hc => ?_) (fun hc => ?_)
  · have hres := it_f hc hres
    exact q_vret hX (eqv hq hres) dX12_isCarried_27
  · have hres := it_t hc hres
    refine q_aload_n 17 hX 0 dX12_isCarried_16 rfl rfl rfl ?_
    refine q_getR 20 hX ci12 lf_RX12_7 fR_55_0 dX12_isCarried_17 rfl ?_
    refine q_bipush 22 hX dX12_isCarried_20 rfl kB_16 ?_
    refine q_iald 23 hX kU_16 aF_56 kN_16_21 dX12_isCarried_22 rfl ?_
    refine q_iload_n 24 hX 1 dX12_isCarried_23 rfl rfl rfl ?_
    refine q_icmp_ne 27 hX 28 dX12_isCarried_24 rfl (by decide) (fun hc => ?_) (fun hc => ?_)
    · have hres := it_f hc hres
      refine q_aload_n 29 hX 0 dX12_isCarried_28 rfl rfl rfl ?_
      refine q_bipush 31 hX dX12_isCarried_29 rfl kB_99 ?_
      refine q_bipush 33 hX dX12_isCarried_31 rfl kB_9 ?_
      refine q_iconst 34 hX dX12_isCarried_33 rfl kI_0 ?_
      obtain ⟨r5, S3, hk4, hres⟩ := ob hres
      refine q_callVi 37 (st := []) (As := [.int (99 : Int32), .int (9 : Int32), .int (0 : Int32)]) hX (cX12_byLaw9 hX.dj hk4) cv_RX12_330 ci12 oB_55 rfl (by decide) rfl (Nat.le_of_ble_eq_true rfl) dX12_isCarried_34 rfl ?_
      refine q_sipush 40 hX dX12_isCarried_37 rfl kS_9999 ?_
      refine q_aload_n 41 hX 0 dX12_isCarried_40 rfl rfl rfl ?_
      refine q_getR 44 hX ci12 lf_RX12_7 fR_55_0 dX12_isCarried_41 rfl ?_
      refine q_bipush 46 hX dX12_isCarried_44 rfl kB_18 ?_
      refine q_iald 47 hX kU_18 aF_56 kN_18_21 dX12_isCarried_46 rfl ?_
      refine q_isub 48 hX dX12_isCarried_47 rfl ?_
      obtain ⟨r7, S4, hk6, hres⟩ := ob hres
      refine q_callSi 51 (st := []) (As := [.int r5, .int ((9999 : Int32) - (S3.1 56 18))]) hX (cX12_min9 hX.dj hk6) cs_RX12_333 rfl (by decide) rfl (Nat.le_of_ble_eq_true rfl) dX12_isCarried_48 rfl ?_
      refine q_istore 53 (lv' := [(4, .int r7), (0, .ref (ad X 55)), (1, .int x1), (2, .int x2), (3, .int x3)]) hX dX12_isCarried_51 rfl (by decide) rfl ?_
      refine q_aload_n 54 hX 1 dX12_isCarried_53 rfl rfl rfl ?_
      refine q_getR 57 hX ci12 lf_RX12_7 fR_55_0 dX12_isCarried_54 rfl ?_
      refine q_bipush 59 hX dX12_isCarried_57 rfl kB_18 ?_
      refine q_aload_n 60 hX 1 dX12_isCarried_59 rfl rfl rfl ?_
      refine q_getR 63 hX ci12 lf_RX12_7 fR_55_0 dX12_isCarried_60 rfl ?_
      refine q_bipush 65 hX dX12_isCarried_63 rfl kB_18 ?_
      refine q_iald 66 hX kU_18 aF_56 kN_18_21 dX12_isCarried_65 rfl ?_
      refine q_iload 68 hX 0 dX12_isCarried_66 rfl rfl ?_
      refine q_iadd 69 hX dX12_isCarried_68 rfl ?_
      refine q_iast 70 hX kU_18 aF_56 kN_18_21 dX12_isCarried_69 rfl ?_
      refine q_bS hres (fun S5 _ hres => ?_)
      refine q_aload_n 71 hX 1 dX12_isCarried_70 rfl rfl rfl ?_
      refine q_aload_n 72 hX 1 dX12_isCarried_71 rfl rfl rfl ?_
      refine q_getI 75 hX ci12 lf_RX12_336 fI_55_50 dX12_isCarried_72 rfl ?_
      refine q_iload 77 hX 0 dX12_isCarried_75 rfl rfl ?_
      refine q_iadd 78 hX dX12_isCarried_77 rfl ?_
      refine q_putI 81 hX ci12 lf_RX12_336 fI_55_50 (nar_i rfl) dX12_isCarried_78 rfl ?_
      refine q_bS hres (fun S6 _ hres => ?_)
      refine q_aload_n 82 hX 1 dX12_isCarried_81 rfl rfl rfl ?_
      refine q_getR 85 hX ci12 lf_RX12_7 fR_55_0 dX12_isCarried_82 rfl ?_
      refine q_bipush 87 hX dX12_isCarried_85 rfl kB_16 ?_
      refine q_iload_n 88 hX 2 dX12_isCarried_87 rfl rfl rfl ?_
      refine q_iast 89 hX kU_16 aF_56 kN_16_21 dX12_isCarried_88 rfl ?_
      refine q_bS hres (fun S7 _ hres => ?_)
      exact q_vret hX (eqv hq hres) dX12_isCarried_89
    · have hres := it_t hc hres
      exact q_vret hX (eqv hq hres) dX12_isCarried_27
theorem cX12_isCarried9 {l : Launch} {w : WD} (hj : Dj w 55 40) {rr : St} {S : St} {x1 : Int32} {x2 : Int32} {x3 : Int32} (hres : fX12_isCarried S x1 x2 x3 = some rr) : Ct l yX12_isCarried cX12_isCarried 5 none 4 w 55 40 [.ref (w.1 55), .int x1, .int x2, .int x3] S (none, rr) := by
  refine Ct.of (lv := [(0, .ref (w.1 55)), (1, .int x1), (2, .int x2), (3, .int x3)]) hj (by decide +kernel) (Nat.le_of_ble_eq_true rfl) rfl ?_
  rintro X rfl rfl hq hX
  exact wfX12_isCarried hX hq hres
def fX12_turnGoes (S : St) (x1 : Int32) : Option (St) :=
  bS (pI S 56 20 ((((25173 : Int32) * (S.1 56 20)) + (13849 : Int32)) - (((25173 : Int32) * (S.1 56 20)) + (13849 : Int32)) / (65536 : Int32) * (65536 : Int32))) fun S1 => bV (((S1.1 56 20) - (S1.1 56 20) / (10 : Int32) * (10 : Int32))) fun v1 => if inb x1 12 = true then bv (fX12_isCarried S1 (S1.1 59 (x1.toNatClampNeg)) x1 v1) fun S2 => bV ((S2.1 56 16)) fun v4 => if v4 = (-1 : Int32) then (some S2) else (bv (fX12_feels S2 v4 x1 v1) fun S3 => bi (fX12_seenBy S3 v4 x1) fun r7 S4 => if inb ((0 : Int32) + v4) 21 = true then bi (fX12_bits S4 r7) fun r10 S5 => bi (fX12_bits S5 (S5.1 56 17)) fun r12 S6 => bi (fX12_byLaw S6 (106 : Int32) (99 : Int32) (r10 + r12)) fun r14 S7 => bi (fX12_min S7 (99999 : Int32) ((S4.1 56 (((0 : Int32) + v4).toNatClampNeg)) + r14)) fun r16 S8 => if inb ((0 : Int32) + v4) 21 = true then bS (pI S8 56 (((0 : Int32) + v4).toNatClampNeg) r16) fun S9 => if r7 = 0 then (some S9) else (bS (pI S9 56 17 r7) fun S10 => some S10) else none else none) else none
theorem wfX12_turnGoes {X : CX} (hX : Ok RX12 cX12_turnGoes none 55 40 5 X) {rr : St} (hq : rs X = (none, rr)) {S : St} {x1 : Int32} (hres : fX12_turnGoes S x1 = some rr) : Wat 55 40 5 5 X 0 [(0, .ref (ad X 55)), (1, .int x1)] [] S := by
  unfold fX12_turnGoes at hres
  refine q_aload_n 1 hX 0 dX12_turnGoes_0 rfl rfl rfl ?_
  refine q_getR 4 hX ci12 lf_RX12_7 fR_55_0 dX12_turnGoes_1 rfl ?_
  refine q_bipush 6 hX dX12_turnGoes_4 rfl kB_20 ?_
  refine q_sipush 9 hX dX12_turnGoes_6 rfl kS_25173 ?_
  refine q_aload_n 10 hX 0 dX12_turnGoes_9 rfl rfl rfl ?_
  refine q_getR 13 hX ci12 lf_RX12_7 fR_55_0 dX12_turnGoes_10 rfl ?_
  refine q_bipush 15 hX dX12_turnGoes_13 rfl kB_20 ?_
  refine q_iald 16 hX kU_20 aF_56 kN_20_21 dX12_turnGoes_15 rfl ?_
  refine q_imul 17 hX dX12_turnGoes_16 rfl ?_
  refine q_sipush 20 hX dX12_turnGoes_17 rfl kS_13849 ?_
  refine q_iadd 21 hX dX12_turnGoes_20 rfl ?_
  refine q_ldc 23 hX dX12_turnGoes_21 rfl gw913 ?_
  refine q_irem 24 hX dX12_turnGoes_23 rfl (by decide) ?_
  refine q_iast 25 hX kU_20 aF_56 kN_20_21 dX12_turnGoes_24 rfl ?_
  refine q_bS hres (fun S1 _ hres => ?_)
  refine q_aload_n 26 hX 0 dX12_turnGoes_25 rfl rfl rfl ?_
  refine q_getR 29 hX ci12 lf_RX12_7 fR_55_0 dX12_turnGoes_26 rfl ?_
  refine q_bipush 31 hX dX12_turnGoes_29 rfl kB_20 ?_
  refine q_iald 32 hX kU_20 aF_56 kN_20_21 dX12_turnGoes_31 rfl ?_
  refine q_bipush 34 hX dX12_turnGoes_32 rfl kB_10 ?_
  refine q_irem 35 hX dX12_turnGoes_34 rfl (by decide) ?_
  refine q_istoreB_n 36 (lv0 := [(0, .ref (ad X 55)), (1, .int x1)]) hX dX12_turnGoes_35 rfl rfl (by decide) rfl hres (fun v1 hres => ?_)
  refine q_aload_n 37 hX 1 dX12_turnGoes_36 rfl rfl rfl ?_
  refine q_aload_n 38 hX 1 dX12_turnGoes_37 rfl rfl rfl ?_
  refine q_getR 41 hX ci12 lf_RX12_19 fR_55_3 dX12_turnGoes_38 rfl ?_
  refine q_iload_n 42 hX 2 dX12_turnGoes_41 rfl rfl rfl ?_
  obtain ⟨hb2, hres⟩ := gd hres
  refine q_iald 43 hX rfl aF_59 hb2 dX12_turnGoes_42 rfl ?_
  refine q_iload_n 44 hX 2 dX12_turnGoes_43 rfl rfl rfl ?_
  refine q_iload_n 45 hX 0 dX12_turnGoes_44 rfl rfl rfl ?_
  obtain ⟨S2, hk3, hres⟩ := obv hres
  refine q_callVv 48 (st := []) (As := [.int (S1.1 59 (x1.toNatClampNeg)), .int x1, .int v1]) hX (cX12_isCarried9 hX.dj hk3) cv_RX12_339 ci12 oB_55 rfl (by decide) rfl (Nat.le_of_ble_eq_true rfl) dX12_turnGoes_45 rfl ?_
  refine q_aload_n 49 hX 1 dX12_turnGoes_48 rfl rfl rfl ?_
  refine q_getR 52 hX ci12 lf_RX12_7 fR_55_0 dX12_turnGoes_49 rfl ?_
  refine q_bipush 54 hX dX12_turnGoes_52 rfl kB_16 ?_
  refine q_iald 55 hX kU_16 aF_56 kN_16_21 dX12_turnGoes_54 rfl ?_
  refine q_istoreB_n 56 (lv0 := [(2, .int v1), (0, .ref (ad X 55)), (1, .int x1)]) hX dX12_turnGoes_55 rfl rfl (by decide) rfl hres (fun v4 hres => ?_)
  refine q_iload_n 57 hX 0 dX12_turnGoes_56 rfl rfl rfl ?_
  refine q_iconst 58 hX dX12_turnGoes_57 rfl kI_m1 ?_
  refine q_icmp_ne 61 hX 62 dX12_turnGoes_58 rfl (by decide) (fun hc => ?_) (fun hc => ?_)
  · have hres := it_f hc hres
    refine q_aload_n 63 hX 2 dX12_turnGoes_62 rfl rfl rfl ?_
    refine q_iload_n 64 hX 0 dX12_turnGoes_63 rfl rfl rfl ?_
    refine q_iload_n 65 hX 3 dX12_turnGoes_64 rfl rfl rfl ?_
    refine q_iload_n 66 hX 1 dX12_turnGoes_65 rfl rfl rfl ?_
    obtain ⟨S3, hk5, hres⟩ := obv hres
    refine q_callVv 69 (st := []) (As := [.int v4, .int x1, .int v1]) hX (cX12_feels9 hX.dj hk5) cv_RX12_323 ci12 oB_55 rfl (by decide) rfl (Nat.le_of_ble_eq_true rfl) dX12_turnGoes_66 rfl ?_
    refine q_aload_n 70 hX 2 dX12_turnGoes_69 rfl rfl rfl ?_
    refine q_iload_n 71 hX 0 dX12_turnGoes_70 rfl rfl rfl ?_
    refine q_iload_n 72 hX 3 dX12_turnGoes_71 rfl rfl rfl ?_
    obtain ⟨r7, S4, hk6, hres⟩ := ob hres
    refine q_callVi 75 (st := []) (As := [.int v4, .int x1]) hX (cX12_seenBy9 hX.dj hk6) cv_RX12_152 ci12 oB_55 rfl (by decide) rfl (Nat.le_of_ble_eq_true rfl) dX12_turnGoes_72 rfl ?_
    refine q_istore 77 (lv' := [(4, .int r7), (3, .int v4), (2, .int v1), (0, .ref (ad X 55)), (1, .int x1)]) hX dX12_turnGoes_75 rfl (by decide) rfl ?_
    refine q_aload_n 78 hX 3 dX12_turnGoes_77 rfl rfl rfl ?_
    refine q_getR 81 hX ci12 lf_RX12_7 fR_55_0 dX12_turnGoes_78 rfl ?_
    refine q_iconst 82 hX dX12_turnGoes_81 rfl kI_0 ?_
    refine q_iload_n 83 hX 1 dX12_turnGoes_82 rfl rfl rfl ?_
    refine q_iadd 84 hX dX12_turnGoes_83 rfl ?_
    refine q_ldcw 87 hX dX12_turnGoes_84 rfl gw918 ?_
    refine q_aload_n 88 hX 3 dX12_turnGoes_87 rfl rfl rfl ?_
    refine q_getR 91 hX ci12 lf_RX12_7 fR_55_0 dX12_turnGoes_88 rfl ?_
    refine q_iconst 92 hX dX12_turnGoes_91 rfl kI_0 ?_
    refine q_iload_n 93 hX 1 dX12_turnGoes_92 rfl rfl rfl ?_
    refine q_iadd 94 hX dX12_turnGoes_93 rfl ?_
    obtain ⟨hb8, hres⟩ := gd hres
    refine q_iald 95 hX rfl aF_56 hb8 dX12_turnGoes_94 rfl ?_
    refine q_aload_n 96 hX 3 dX12_turnGoes_95 rfl rfl rfl ?_
    refine q_bipush 98 hX dX12_turnGoes_96 rfl kB_106 ?_
    refine q_bipush 100 hX dX12_turnGoes_98 rfl kB_99 ?_
    refine q_iload 102 hX 0 dX12_turnGoes_100 rfl rfl ?_
    obtain ⟨r10, S5, hk9, hres⟩ := ob hres
    refine q_callSi 105 (st := [.int (99 : Int32), .int (106 : Int32), .ref (ad X 55), .int (S4.1 56 (((0 : Int32) + v4).toNatClampNeg)), .int (99999 : Int32), .int ((0 : Int32) + v4), .ref (ad X 56)]) (As := [.int r7]) hX (cX12_bits9 hX.dj hk9) cs_RX12_320 rfl (by decide) rfl (Nat.le_of_ble_eq_true rfl) dX12_turnGoes_102 rfl ?_
    refine q_aload_n 106 hX 3 dX12_turnGoes_105 rfl rfl rfl ?_
    refine q_getR 109 hX ci12 lf_RX12_7 fR_55_0 dX12_turnGoes_106 rfl ?_
    refine q_bipush 111 hX dX12_turnGoes_109 rfl kB_17 ?_
    refine q_iald 112 hX kU_17 aF_56 kN_17_21 dX12_turnGoes_111 rfl ?_
    obtain ⟨r12, S6, hk11, hres⟩ := ob hres
    refine q_callSi 115 (st := [.int r10, .int (99 : Int32), .int (106 : Int32), .ref (ad X 55), .int (S4.1 56 (((0 : Int32) + v4).toNatClampNeg)), .int (99999 : Int32), .int ((0 : Int32) + v4), .ref (ad X 56)]) (As := [.int (S5.1 56 17)]) hX (cX12_bits9 hX.dj hk11) cs_RX12_320 rfl (by decide) rfl (Nat.le_of_ble_eq_true rfl) dX12_turnGoes_112 rfl ?_
    refine q_iadd 116 hX dX12_turnGoes_115 rfl ?_
    obtain ⟨r14, S7, hk13, hres⟩ := ob hres
    refine q_callVi 119 (st := [.int (S4.1 56 (((0 : Int32) + v4).toNatClampNeg)), .int (99999 : Int32), .int ((0 : Int32) + v4), .ref (ad X 56)]) (As := [.int (106 : Int32), .int (99 : Int32), .int (r10 + r12)]) hX (cX12_byLaw9 hX.dj hk13) cv_RX12_330 ci12 oB_55 rfl (by decide) rfl (Nat.le_of_ble_eq_true rfl) dX12_turnGoes_116 rfl ?_
    refine q_iadd 120 hX dX12_turnGoes_119 rfl ?_
    obtain ⟨r16, S8, hk15, hres⟩ := ob hres
    refine q_callSi 123 (st := [.int ((0 : Int32) + v4), .ref (ad X 56)]) (As := [.int (99999 : Int32), .int ((S4.1 56 (((0 : Int32) + v4).toNatClampNeg)) + r14)]) hX (cX12_min9 hX.dj hk15) cs_RX12_333 rfl (by decide) rfl (Nat.le_of_ble_eq_true rfl) dX12_turnGoes_120 rfl ?_
    obtain ⟨hb17, hres⟩ := gd hres
    refine q_iast 124 hX rfl aF_56 hb17 dX12_turnGoes_123 rfl ?_
    refine q_bS hres (fun S9 _ hres => ?_)
    refine q_iload 126 hX 0 dX12_turnGoes_124 rfl rfl ?_
    refine q_if_eq 129 hX 138 dX12_turnGoes_126 rfl (by decide) (fun hc => ?_) (fun hc => ?_)
    · have hres := it_t hc hres
      exact q_vret hX (eqv hq hres) dX12_turnGoes_138
    · have hres := it_f hc hres
      refine q_aload_n 130 hX 3 dX12_turnGoes_129 rfl rfl rfl ?_
      refine q_getR 133 hX ci12 lf_RX12_7 fR_55_0 dX12_turnGoes_130 rfl ?_
      refine q_bipush 135 hX dX12_turnGoes_133 rfl kB_17 ?_
      refine q_iload 137 hX 0 dX12_turnGoes_135 rfl rfl ?_
      refine q_iast 138 hX kU_17 aF_56 kN_17_21 dX12_turnGoes_137 rfl ?_
      refine q_bS hres (fun S10 _ hres => ?_)
      exact q_vret hX (eqv hq hres) dX12_turnGoes_138
  · have hres := it_t hc hres
    exact q_vret hX (eqv hq hres) dX12_turnGoes_61
theorem cX12_turnGoes9 {l : Launch} {w : WD} (hj : Dj w 55 40) {rr : St} {S : St} {x1 : Int32} (hres : fX12_turnGoes S x1 = some rr) : Ct l yX12_turnGoes cX12_turnGoes 5 none 5 w 55 40 [.ref (w.1 55), .int x1] S (none, rr) := by
  refine Ct.of (lv := [(0, .ref (w.1 55)), (1, .int x1)]) hj (by decide +kernel) (Nat.le_of_ble_eq_true rfl) rfl ?_
  rintro X rfl rfl hq hX
  exact wfX12_turnGoes hX hq hres
def bX12_dayGoes_2 (rc2 : St → Int32 → Option (St)) (S : St) (x1 : Int32) : Option (St) :=
  if (12 : Int32) ≤ x1 then (bS (pI S 56 19 ((S.1 56 19) + (1 : Int32))) fun S1 => some S1) else (if inb x1 12 = true then if (S.1 59 (x1.toNatClampNeg)) = (-1 : Int32) then (bV (x1 + (1 : Int32)) fun v2 => rc2 S v2) else (bv (fX12_turnGoes S x1) fun S2 => bV (x1 + (1 : Int32)) fun v4 => rc2 S2 v4) else none)
theorem wbX12_dayGoes_2 {X : CX} (hX : Ok RX12 cX12_dayGoes none 55 40 2 X) {rr : St} (hq : rs X = (none, rr)) {rc2 : St → Int32 → Option (St)} (hrc2 : ∀ (S : St) (x1 : Int32), rc2 S x1 = some rr → Wat 55 40 6 2 X 2 [(0, .ref (ad X 55)), (1, .int x1)] [] S) {S : St} {x1 : Int32} (hres : bX12_dayGoes_2 rc2 S x1 = some rr) : Wat 55 40 6 2 X 2 [(0, .ref (ad X 55)), (1, .int x1)] [] S := by
  unfold bX12_dayGoes_2 at hres
  refine q_iload_n 3 hX 1 dX12_dayGoes_2 rfl rfl rfl ?_
  refine q_bipush 5 hX dX12_dayGoes_3 rfl kB_12 ?_
  refine q_icmp_ge 8 hX 29 dX12_dayGoes_5 rfl (by decide) (fun hc => ?_) (fun hc => ?_)
  · have hres := it_t hc hres
    refine q_aload_n 30 hX 0 dX12_dayGoes_29 rfl rfl rfl ?_
    refine q_getR 33 hX ci12 lf_RX12_7 fR_55_0 dX12_dayGoes_30 rfl ?_
    refine q_bipush 35 hX dX12_dayGoes_33 rfl kB_19 ?_
    refine q_aload_n 36 hX 0 dX12_dayGoes_35 rfl rfl rfl ?_
    refine q_getR 39 hX ci12 lf_RX12_7 fR_55_0 dX12_dayGoes_36 rfl ?_
    refine q_bipush 41 hX dX12_dayGoes_39 rfl kB_19 ?_
    refine q_iald 42 hX kU_19 aF_56 kN_19_21 dX12_dayGoes_41 rfl ?_
    refine q_iconst 43 hX dX12_dayGoes_42 rfl kI_1 ?_
    refine q_iadd 44 hX dX12_dayGoes_43 rfl ?_
    refine q_iast 45 hX kU_19 aF_56 kN_19_21 dX12_dayGoes_44 rfl ?_
    refine q_bS hres (fun S1 _ hres => ?_)
    exact q_vret hX (eqv hq hres) dX12_dayGoes_45
  · have hres := it_f hc hres
    refine q_aload_n 9 hX 0 dX12_dayGoes_8 rfl rfl rfl ?_
    refine q_getR 12 hX ci12 lf_RX12_19 fR_55_3 dX12_dayGoes_9 rfl ?_
    refine q_iload_n 13 hX 1 dX12_dayGoes_12 rfl rfl rfl ?_
    obtain ⟨hb1, hres⟩ := gd hres
    refine q_iald 14 hX rfl aF_59 hb1 dX12_dayGoes_13 rfl ?_
    refine q_iconst 15 hX dX12_dayGoes_14 rfl kI_m1 ?_
    refine q_icmp_eq 18 hX 23 dX12_dayGoes_15 rfl (by decide) (fun hc => ?_) (fun hc => ?_)
    · have hres := it_t hc hres
      refine q_iincB 26 1 (lv0 := [(0, .ref (ad X 55))]) hX dX12_dayGoes_23 rfl rfl kI_1 (by decide) rfl hres (fun v2 hres => ?_)
      refine q_goto 2 hX dX12_dayGoes_26 (by decide) ?_
      exact q_sub [1, 0] rfl (hrc2 _ _ hres)
    · have hres := it_f hc hres
      refine q_aload_n 19 hX 0 dX12_dayGoes_18 rfl rfl rfl ?_
      refine q_iload_n 20 hX 1 dX12_dayGoes_19 rfl rfl rfl ?_
      obtain ⟨S2, hk3, hres⟩ := obv hres
      refine q_callVv 23 (st := []) (As := [.int x1]) hX (cX12_turnGoes9 hX.dj hk3) cv_RX12_343 ci12 oB_55 rfl (by decide) rfl (Nat.le_of_ble_eq_true rfl) dX12_dayGoes_20 rfl ?_
      refine q_iincB 26 1 (lv0 := [(0, .ref (ad X 55))]) hX dX12_dayGoes_23 rfl rfl kI_1 (by decide) rfl hres (fun v4 hres => ?_)
      refine q_goto 2 hX dX12_dayGoes_26 (by decide) ?_
      exact q_sub [1, 0] rfl (hrc2 _ _ hres)
def fX12_dayGoes_2 : Nat → St → Int32 → Option (St)
  | 0 => fun _ _ => none
  | k + 1 => fun S x1 => bX12_dayGoes_2 (fX12_dayGoes_2 k) S x1
theorem wfX12_dayGoes_2 {X : CX} (hX : Ok RX12 cX12_dayGoes none 55 40 2 X) {rr : St} (hq : rs X = (none, rr)) (k : Nat) : ∀ (S : St) (x1 : Int32), fX12_dayGoes_2 k S x1 = some rr → Wat 55 40 6 2 X 2 [(0, .ref (ad X 55)), (1, .int x1)] [] S := by
  induction k with
  | zero => intro S x1 hres; exact absurd hres (by simp [fX12_dayGoes_2])
  | succ k ih => intro S x1 hres; exact wbX12_dayGoes_2 hX hq ih hres
def fX12_dayGoes (S : St) : Option (St) :=
  fX12_dayGoes_2 100 S (0 : Int32)
theorem wfX12_dayGoes {X : CX} (hX : Ok RX12 cX12_dayGoes none 55 40 2 X) {rr : St} (hq : rs X = (none, rr)) {S : St} (hres : fX12_dayGoes S = some rr) : Wat 55 40 6 2 X 0 [(0, .ref (ad X 55))] [] S := by
  unfold fX12_dayGoes at hres
  refine q_iconst 1 hX dX12_dayGoes_0 rfl kI_0 ?_
  refine q_istore_n 2 (lv' := [(1, .int (0 : Int32)), (0, .ref (ad X 55))]) hX dX12_dayGoes_1 rfl rfl (by decide) rfl ?_
  exact q_sub [1, 0] rfl (wfX12_dayGoes_2 hX hq _ _ _ hres)
theorem cX12_dayGoes9 {l : Launch} {w : WD} (hj : Dj w 55 40) {rr : St} {S : St} (hres : fX12_dayGoes S = some rr) : Ct l yX12_dayGoes cX12_dayGoes 2 none 6 w 55 40 [.ref (w.1 55)] S (none, rr) := by
  refine Ct.of (lv := [(0, .ref (w.1 55))]) hj (by decide +kernel) (Nat.le_of_ble_eq_true rfl) rfl ?_
  rintro X rfl rfl hq hX
  exact wfX12_dayGoes hX hq hres
def bX12_daysGo_7 (rc7 : St → Int32 → Int32 → Option (St)) (S : St) (x1 : Int32) (x2 : Int32) : Option (St) :=
  if x1 ≤ x2 then (some S) else (if (9999 : Int32) ≤ (S.1 56 19) then (some S) else (bv (fX12_dayGoes S) fun S1 => bV (x2 + (1 : Int32)) fun v2 => rc7 S1 x1 v2))
theorem wbX12_daysGo_7 {X : CX} (hX : Ok RX12 cX12_daysGo none 55 40 3 X) {rr : St} (hq : rs X = (none, rr)) {rc7 : St → Int32 → Int32 → Option (St)} (hrc7 : ∀ (S : St) (x1 : Int32) (x2 : Int32), rc7 S x1 x2 = some rr → Wat 55 40 7 3 X 7 [(0, .ref (ad X 55)), (1, .int x1), (2, .int x2)] [] S) {S : St} {x1 : Int32} {x2 : Int32} (hres : bX12_daysGo_7 rc7 S x1 x2 = some rr) : Wat 55 40 7 3 X 7 [(0, .ref (ad X 55)), (1, .int x1), (2, .int x2)] [] S := by
  unfold bX12_daysGo_7 at hres
  refine q_iload_n 8 hX 2 dX12_daysGo_7 rfl rfl rfl ?_
  refine q_iload_n 9 hX 1 dX12_daysGo_8 rfl rfl rfl ?_
  refine q_icmp_ge 12 hX 35 dX12_daysGo_9 rfl (by decide) (fun hc => ?_) (fun hc => ?_)
  · have hres := it_t hc hres
    exact q_vret hX (eqv hq hres) dX12_daysGo_35
  · have hres := it_f hc hres
    refine q_aload_n 13 hX 0 dX12_daysGo_12 rfl rfl rfl ?_
    refine q_getR 16 hX ci12 lf_RX12_7 fR_55_0 dX12_daysGo_13 rfl ?_
    refine q_bipush 18 hX dX12_daysGo_16 rfl kB_19 ?_
    refine q_iald 19 hX kU_19 aF_56 kN_19_21 dX12_daysGo_18 rfl ?_
    refine q_sipush 22 hX dX12_daysGo_19 rfl kS_9999 ?_
    refine q_icmp_ge 25 hX 35 dX12_daysGo_22 rfl (by decide) (fun hc => ?_) (fun hc => ?_)
    · have hres := it_t hc hres
      exact q_vret hX (eqv hq hres) dX12_daysGo_35
    · have hres := it_f hc hres
      refine q_aload_n 26 hX 0 dX12_daysGo_25 rfl rfl rfl ?_
      obtain ⟨S1, hk1, hres⟩ := obv hres
      refine q_callVv 29 (st := []) (As := []) hX (cX12_dayGoes9 hX.dj hk1) cv_RX12_346 ci12 oB_55 rfl (by decide) rfl (Nat.le_of_ble_eq_true rfl) dX12_daysGo_26 rfl ?_
      refine q_iincB 32 2 (lv0 := [(0, .ref (ad X 55)), (1, .int x1)]) hX dX12_daysGo_29 rfl rfl kI_1 (by decide) rfl hres (fun v2 hres => ?_)
      refine q_goto 7 hX dX12_daysGo_32 (by decide) ?_
      exact q_sub [1, 2, 0] rfl (hrc7 _ _ _ hres)
def fX12_daysGo_7 : Nat → St → Int32 → Int32 → Option (St)
  | 0 => fun _ _ _ => none
  | k + 1 => fun S x1 x2 => bX12_daysGo_7 (fX12_daysGo_7 k) S x1 x2
theorem wfX12_daysGo_7 {X : CX} (hX : Ok RX12 cX12_daysGo none 55 40 3 X) {rr : St} (hq : rs X = (none, rr)) (k : Nat) : ∀ (S : St) (x1 : Int32) (x2 : Int32), fX12_daysGo_7 k S x1 x2 = some rr → Wat 55 40 7 3 X 7 [(0, .ref (ad X 55)), (1, .int x1), (2, .int x2)] [] S := by
  induction k with
  | zero => intro S x1 x2 hres; exact absurd hres (by simp [fX12_daysGo_7])
  | succ k ih => intro S x1 x2 hres; exact wbX12_daysGo_7 hX hq ih hres
def fX12_daysGo (S : St) (x1 : Int32) : Option (St) :=
  bS (pI S 55 50 (0 : Int32)) fun S1 => fX12_daysGo_7 200 S1 x1 (0 : Int32)
theorem wfX12_daysGo {X : CX} (hX : Ok RX12 cX12_daysGo none 55 40 3 X) {rr : St} (hq : rs X = (none, rr)) {S : St} {x1 : Int32} (hres : fX12_daysGo S x1 = some rr) : Wat 55 40 7 3 X 0 [(0, .ref (ad X 55)), (1, .int x1)] [] S := by
  unfold fX12_daysGo at hres
  refine q_aload_n 1 hX 0 dX12_daysGo_0 rfl rfl rfl ?_
  refine q_iconst 2 hX dX12_daysGo_1 rfl kI_0 ?_
  refine q_putI 5 hX ci12 lf_RX12_336 fI_55_50 (nar_i rfl) dX12_daysGo_2 rfl ?_
  refine q_bS hres (fun S1 _ hres => ?_)
  refine q_iconst 6 hX dX12_daysGo_5 rfl kI_0 ?_
  refine q_istore_n 7 (lv' := [(2, .int (0 : Int32)), (0, .ref (ad X 55)), (1, .int x1)]) hX dX12_daysGo_6 rfl rfl (by decide) rfl ?_
  exact q_sub [1, 2, 0] rfl (wfX12_daysGo_7 hX hq _ _ _ _ hres)
theorem cX12_daysGo9 {l : Launch} {w : WD} (hj : Dj w 55 40) {rr : St} {S : St} {x1 : Int32} (hres : fX12_daysGo S x1 = some rr) : Ct l yX12_daysGo cX12_daysGo 3 none 7 w 55 40 [.ref (w.1 55), .int x1] S (none, rr) := by
  refine Ct.of (lv := [(0, .ref (w.1 55)), (1, .int x1)]) hj (by decide +kernel) (Nat.le_of_ble_eq_true rfl) rfl ?_
  rintro X rfl rfl hq hX
  exact wfX12_daysGo hX hq hres
def fX12_days (S : St) (x1 : Int32) : Option (Int32 × St) :=
  bi (fX12_in S x1 (1 : Int32) (100 : Int32)) fun r2 S1 => if r2 = 0 then (some ((-1 : Int32), S1)) else (bv (fX12_daysGo S1 x1) fun S2 => some ((S2.1 55 50), S2))
theorem wfX12_days {X : CX} (hX : Ok RX12 cX12_days (some .int) 55 40 2 X) {rr : Int32 × St} (hq : rs X = (some (.int rr.1), rr.2)) {S : St} {x1 : Int32} (hres : fX12_days S x1 = some rr) : Wat 55 40 8 2 X 0 [(0, .ref (ad X 55)), (1, .int x1)] [] S := by
  unfold fX12_days at hres
  refine q_iload_n 1 hX 1 dX12_days_0 rfl rfl rfl ?_
  refine q_iconst 2 hX dX12_days_1 rfl kI_1 ?_
  refine q_bipush 4 hX dX12_days_2 rfl kB_100 ?_
  obtain ⟨r2, S1, hk1, hres⟩ := ob hres
  refine q_callSi 7 (st := []) (As := [.int x1, .int (1 : Int32), .int (100 : Int32)]) hX (cX12_in9 hX.dj hk1) cs_RX12_134 rfl (by decide) rfl (Nat.le_of_ble_eq_true rfl) dX12_days_4 rfl ?_
  refine q_if_ne 10 hX 12 dX12_days_7 rfl (by decide) (fun hc => ?_) (fun hc => ?_)
  · have hres := it_f hc hres
    refine q_aload_n 13 hX 0 dX12_days_12 rfl rfl rfl ?_
    refine q_iload_n 14 hX 1 dX12_days_13 rfl rfl rfl ?_
    obtain ⟨S2, hk3, hres⟩ := obv hres
    refine q_callVv 17 (st := []) (As := [.int x1]) hX (cX12_daysGo9 hX.dj hk3) cv_RX12_349 ci12 oB_55 rfl (by decide) rfl (Nat.le_of_ble_eq_true rfl) dX12_days_14 rfl ?_
    refine q_aload_n 18 hX 0 dX12_days_17 rfl rfl rfl ?_
    refine q_getI 21 hX ci12 lf_RX12_336 fI_55_50 dX12_days_18 rfl ?_
    exact q_iret hX (eqi hq hres) dX12_days_21
  · have hres := it_t hc hres
    refine q_iconst 11 hX dX12_days_10 rfl kI_m1 ?_
    exact q_iret hX (eqi hq hres) dX12_days_11
theorem cX12_days9 {l : Launch} {w : WD} (hj : Dj w 55 40) {rr : Int32 × St} {S : St} {x1 : Int32} (hres : fX12_days S x1 = some rr) : Ct l yX12_days cX12_days 2 (some .int) 8 w 55 40 [.ref (w.1 55), .int x1] S (some (.int rr.1), rr.2) := by
  refine Ct.of (lv := [(0, .ref (w.1 55)), (1, .int x1)]) hj (by decide +kernel) (Nat.le_of_ble_eq_true rfl) rfl ?_
  rintro X rfl rfl hq hX
  exact wfX12_days hX hq hres
def bX12_joyOfAll_4 (rc4 : St → Int32 → Int32 → Option (Int32 × St)) (S : St) (x1 : Int32) (x2 : Int32) : Option (Int32 × St) :=
  if (16 : Int32) ≤ x2 then (some (x1, S)) else (bi (fX12_isHouse S x2) fun r2 S1 => if r2 = 0 then (bV (x2 + (1 : Int32)) fun v3 => rc4 S1 x1 v3) else (if inb ((0 : Int32) + x2) 21 = true then bV ((x1 + (S1.1 56 (((0 : Int32) + x2).toNatClampNeg)))) fun v5 => bV (x2 + (1 : Int32)) fun v6 => rc4 S1 v5 v6 else none))
theorem wbX12_joyOfAll_4 {X : CX} (hX : Ok RX12 cX12_joyOfAll (some .int) 55 40 3 X) {rr : Int32 × St} (hq : rs X = (some (.int rr.1), rr.2)) {rc4 : St → Int32 → Int32 → Option (Int32 × St)} (hrc4 : ∀ (S : St) (x1 : Int32) (x2 : Int32), rc4 S x1 x2 = some rr → Wat 55 40 2 3 X 4 [(0, .ref (ad X 55)), (1, .int x1), (2, .int x2)] [] S) {S : St} {x1 : Int32} {x2 : Int32} (hres : bX12_joyOfAll_4 rc4 S x1 x2 = some rr) : Wat 55 40 2 3 X 4 [(0, .ref (ad X 55)), (1, .int x1), (2, .int x2)] [] S := by
  unfold bX12_joyOfAll_4 at hres
  refine q_iload_n 5 hX 2 dX12_joyOfAll_4 rfl rfl rfl ?_
  refine q_bipush 7 hX dX12_joyOfAll_5 rfl kB_16 ?_
  refine q_icmp_ge 10 hX 35 dX12_joyOfAll_7 rfl (by decide) (fun hc => ?_) (fun hc => ?_)
  · have hres := it_t hc hres
    refine q_iload_n 36 hX 1 dX12_joyOfAll_35 rfl rfl rfl ?_
    exact q_iret hX (eqi hq hres) dX12_joyOfAll_36
  · have hres := it_f hc hres
    refine q_aload_n 11 hX 0 dX12_joyOfAll_10 rfl rfl rfl ?_
    refine q_iload_n 12 hX 2 dX12_joyOfAll_11 rfl rfl rfl ?_
    obtain ⟨r2, S1, hk1, hres⟩ := ob hres
    refine q_callVi 15 (st := []) (As := [.int x2]) hX (cX12_isHouse9 hX.dj hk1) cv_RX12_159 ci12 oB_55 rfl (by decide) rfl (Nat.le_of_ble_eq_true rfl) dX12_joyOfAll_12 rfl ?_
    refine q_if_eq 18 hX 29 dX12_joyOfAll_15 rfl (by decide) (fun hc => ?_) (fun hc => ?_)
    · have hres := it_t hc hres
      refine q_iincB 32 2 (lv0 := [(0, .ref (ad X 55)), (1, .int x1)]) hX dX12_joyOfAll_29 rfl rfl kI_1 (by decide) rfl hres (fun v3 hres => ?_)
      refine q_goto 4 hX dX12_joyOfAll_32 (by decide) ?_
      exact q_sub [1, 2, 0] rfl (hrc4 _ _ _ hres)
    · have hres := it_f hc hres
      refine q_iload_n 19 hX 1 dX12_joyOfAll_18 rfl rfl rfl ?_
      refine q_aload_n 20 hX 0 dX12_joyOfAll_19 rfl rfl rfl ?_
      refine q_getR 23 hX ci12 lf_RX12_7 fR_55_0 dX12_joyOfAll_20 rfl ?_
      refine q_iconst 24 hX dX12_joyOfAll_23 rfl kI_0 ?_
      refine q_iload_n 25 hX 2 dX12_joyOfAll_24 rfl rfl rfl ?_
      refine q_iadd 26 hX dX12_joyOfAll_25 rfl ?_
      obtain ⟨hb4, hres⟩ := gd hres
      refine q_iald 27 hX rfl aF_56 hb4 dX12_joyOfAll_26 rfl ?_
      refine q_iadd 28 hX dX12_joyOfAll_27 rfl ?_
      refine q_istoreB_n 29 (lv0 := [(0, .ref (ad X 55)), (2, .int x2)]) hX dX12_joyOfAll_28 rfl rfl (by decide) rfl hres (fun v5 hres => ?_)
      refine q_iincB 32 2 (lv0 := [(1, .int v5), (0, .ref (ad X 55))]) hX dX12_joyOfAll_29 rfl rfl kI_1 (by decide) rfl hres (fun v6 hres => ?_)
      refine q_goto 4 hX dX12_joyOfAll_32 (by decide) ?_
      exact q_sub [2, 1, 0] rfl (hrc4 _ _ _ hres)
def fX12_joyOfAll_4 : Nat → St → Int32 → Int32 → Option (Int32 × St)
  | 0 => fun _ _ _ => none
  | k + 1 => fun S x1 x2 => bX12_joyOfAll_4 (fX12_joyOfAll_4 k) S x1 x2
theorem wfX12_joyOfAll_4 {X : CX} (hX : Ok RX12 cX12_joyOfAll (some .int) 55 40 3 X) {rr : Int32 × St} (hq : rs X = (some (.int rr.1), rr.2)) (k : Nat) : ∀ (S : St) (x1 : Int32) (x2 : Int32), fX12_joyOfAll_4 k S x1 x2 = some rr → Wat 55 40 2 3 X 4 [(0, .ref (ad X 55)), (1, .int x1), (2, .int x2)] [] S := by
  induction k with
  | zero => intro S x1 x2 hres; exact absurd hres (by simp [fX12_joyOfAll_4])
  | succ k ih => intro S x1 x2 hres; exact wbX12_joyOfAll_4 hX hq ih hres
def fX12_joyOfAll (S : St) : Option (Int32 × St) :=
  fX12_joyOfAll_4 100 S (0 : Int32) (0 : Int32)
theorem wfX12_joyOfAll {X : CX} (hX : Ok RX12 cX12_joyOfAll (some .int) 55 40 3 X) {rr : Int32 × St} (hq : rs X = (some (.int rr.1), rr.2)) {S : St} (hres : fX12_joyOfAll S = some rr) : Wat 55 40 2 3 X 0 [(0, .ref (ad X 55))] [] S := by
  unfold fX12_joyOfAll at hres
  refine q_iconst 1 hX dX12_joyOfAll_0 rfl kI_0 ?_
  refine q_istore_n 2 (lv' := [(1, .int (0 : Int32)), (0, .ref (ad X 55))]) hX dX12_joyOfAll_1 rfl rfl (by decide) rfl ?_
  refine q_iconst 3 hX dX12_joyOfAll_2 rfl kI_0 ?_
  refine q_istore_n 4 (lv' := [(2, .int (0 : Int32)), (1, .int (0 : Int32)), (0, .ref (ad X 55))]) hX dX12_joyOfAll_3 rfl rfl (by decide) rfl ?_
  exact q_sub [2, 1, 0] rfl (wfX12_joyOfAll_4 hX hq _ _ _ _ hres)
theorem cX12_joyOfAll9 {l : Launch} {w : WD} (hj : Dj w 55 40) {rr : Int32 × St} {S : St} (hres : fX12_joyOfAll S = some rr) : Ct l yX12_joyOfAll cX12_joyOfAll 3 (some .int) 2 w 55 40 [.ref (w.1 55)] S (some (.int rr.1), rr.2) := by
  refine Ct.of (lv := [(0, .ref (w.1 55))]) hj (by decide +kernel) (Nat.le_of_ble_eq_true rfl) rfl ?_
  rintro X rfl rfl hq hX
  exact wfX12_joyOfAll hX hq hres
def fX12_orNone (S : St) (x0 : Int32) : Option (Int32 × St) :=
  if x0 = (-1 : Int32) then (some ((-2 : Int32), S)) else (some (x0, S))
theorem wfX12_orNone {X : CX} (hX : Ok RX12 cX12_orNone (some .int) 55 40 1 X) {rr : Int32 × St} (hq : rs X = (some (.int rr.1), rr.2)) {S : St} {x0 : Int32} (hres : fX12_orNone S x0 = some rr) : Wat 55 40 0 1 X 0 [(0, .int x0)] [] S := by
  unfold fX12_orNone at hres
  refine q_iload_n 1 hX 0 dX12_orNone_0 rfl rfl rfl ?_
  refine q_iconst 2 hX dX12_orNone_1 rfl kI_m1 ?_
  refine q_icmp_ne 5 hX 10 dX12_orNone_2 rfl (by decide) (fun hc => ?_) (fun hc => ?_)
  · have hres := it_f hc hres
    refine q_iload_n 11 hX 0 dX12_orNone_10 rfl rfl rfl ?_
    exact q_iret hX (eqi hq hres) dX12_orNone_11
  · have hres := it_t hc hres
    refine q_bipush 7 hX dX12_orNone_5 rfl kB_m2 ?_
    refine q_goto 11 hX dX12_orNone_7 (by decide) ?_
    exact q_iret hX (eqi hq hres) dX12_orNone_11
theorem cX12_orNone9 {l : Launch} {w : WD} (hj : Dj w 55 40) {rr : Int32 × St} {S : St} {x0 : Int32} (hres : fX12_orNone S x0 = some rr) : Ct l yX12_orNone cX12_orNone 1 (some .int) 0 w 55 40 [.int x0] S (some (.int rr.1), rr.2) := by
  refine Ct.of (lv := [(0, .int x0)]) hj (by decide +kernel) (Nat.le_of_ble_eq_true rfl) rfl ?_
  rintro X rfl rfl hq hX
  exact wfX12_orNone hX hq hres
def fX12_tried_133 (S : St) (x3 : Int32) : Option (Int32 × St) :=
  bv (fX12_copies 57 56 S) fun S1 => some (x3, S1)
theorem wfX12_tried_133 {X : CX} (hX : Ok RX12 cX12_tried (some .int) 55 40 4 X) {rr : Int32 × St} (hq : rs X = (some (.int rr.1), rr.2)) {S : St} {x3 : Int32} (hres : fX12_tried_133 S x3 = some rr) : Wat 55 40 8 4 X 133 [(0, .ref (ad X 55)), (3, .int x3)] [] S := by
  unfold fX12_tried_133 at hres
  refine q_aload_n 134 hX 0 dX12_tried_133 rfl rfl rfl ?_
  refine q_getR 137 hX ci12 lf_RX12_13 fR_55_1 dX12_tried_134 rfl ?_
  refine q_aload_n 138 hX 0 dX12_tried_137 rfl rfl rfl ?_
  refine q_getR 141 hX ci12 lf_RX12_7 fR_55_0 dX12_tried_138 rfl ?_
  obtain ⟨S1, hk1, hres⟩ := obv hres
  refine q_callSv 144 (st := []) (As := [.ref (ad X 57), .ref (ad X 56)]) hX (cX12_copies9 hX.dj aF_57 aF_56 hk1) cs_RX12_352 rfl (by decide) rfl (Nat.le_of_ble_eq_true rfl) dX12_tried_141 rfl ?_
  refine q_iload_n 145 hX 1 dX12_tried_144 rfl rfl rfl ?_
  exact q_iret hX (eqi hq hres) dX12_tried_145
def fX12_tried_32 (S : St) (x1 : Int32) (x2 : Int32) : Option (Int32 × St) :=
  bv (fX12_copies 56 57 S) fun S1 => bv (fX12_daysGo S1 x1) fun S2 => if x2 = (0 : Int32) then (bV ((S2.1 55 50)) fun v3 => fX12_tried_133 S2 v3) else (if x2 = (1 : Int32) then (bi (fX12_orNone S2 (S2.1 56 16)) fun r5 S3 => fX12_tried_133 S3 r5) else (if x2 = (2 : Int32) then (bV ((S2.1 56 17)) fun v6 => fX12_tried_133 S2 v6) else (if x2 = (3 : Int32) then (bi (fX12_joyOfAll S2) fun r8 S4 => fX12_tried_133 S4 r8) else (if inb (((0 : Int32) + x2) - (10 : Int32)) 21 = true then bV ((S2.1 56 ((((0 : Int32) + x2) - (10 : Int32)).toNatClampNeg))) fun v10 => fX12_tried_133 S2 v10 else none))))
theorem wfX12_tried_32 {X : CX} (hX : Ok RX12 cX12_tried (some .int) 55 40 4 X) {rr : Int32 × St} (hq : rs X = (some (.int rr.1), rr.2)) {S : St} {x1 : Int32} {x2 : Int32} (hres : fX12_tried_32 S x1 x2 = some rr) : Wat 55 40 8 4 X 32 [(0, .ref (ad X 55)), (1, .int x1), (2, .int x2)] [] S := by
  unfold fX12_tried_32 at hres
  refine q_aload_n 33 hX 0 dX12_tried_32 rfl rfl rfl ?_
  refine q_getR 36 hX ci12 lf_RX12_7 fR_55_0 dX12_tried_33 rfl ?_
  refine q_aload_n 37 hX 0 dX12_tried_36 rfl rfl rfl ?_
  refine q_getR 40 hX ci12 lf_RX12_13 fR_55_1 dX12_tried_37 rfl ?_
  obtain ⟨S1, hk1, hres⟩ := obv hres
  refine q_callSv 43 (st := []) (As := [.ref (ad X 56), .ref (ad X 57)]) hX (cX12_copies9 hX.dj aF_56 aF_57 hk1) cs_RX12_352 rfl (by decide) rfl (Nat.le_of_ble_eq_true rfl) dX12_tried_40 rfl ?_
  refine q_aload_n 44 hX 0 dX12_tried_43 rfl rfl rfl ?_
  refine q_iload_n 45 hX 1 dX12_tried_44 rfl rfl rfl ?_
  obtain ⟨S2, hk2, hres⟩ := obv hres
  refine q_callVv 48 (st := []) (As := [.int x1]) hX (cX12_daysGo9 hX.dj hk2) cv_RX12_349 ci12 oB_55 rfl (by decide) rfl (Nat.le_of_ble_eq_true rfl) dX12_tried_45 rfl ?_
  refine q_iload_n 49 hX 2 dX12_tried_48 rfl rfl rfl ?_
  by_cases hc0 : x2 = (0 : Int32)
  · have hres := it_t hc0 hres
    refine q_tabIn 80 hX dX12_tried_49 (by rw [hc0]; decide) (by rw [hc0]; decide) (by rw [hc0]; rfl) (by decide) ?_
    refine q_aload_n 81 hX 0 dX12_tried_80 rfl rfl rfl ?_
    refine q_getI 84 hX ci12 lf_RX12_336 fI_55_50 dX12_tried_81 rfl ?_
    refine q_istoreB_n 85 (lv0 := [(0, .ref (ad X 55)), (1, .int x1), (2, .int x2)]) hX dX12_tried_84 rfl rfl (by decide) rfl hres (fun v3 hres => ?_)
    refine q_goto 133 hX dX12_tried_85 (by decide) ?_
    exact q_sub [1, 0] rfl (wfX12_tried_133 hX hq hres)
  have hres := it_f hc0 hres
  have hn0 := ne_ti (k := 0) hc0 (by decide)
  by_cases hc1 : x2 = (1 : Int32)
  · have hres := it_t hc1 hres
    refine q_tabIn 88 hX dX12_tried_49 (by rw [hc1]; decide) (by rw [hc1]; decide) (by rw [hc1]; rfl) (by decide) ?_
    refine q_aload_n 89 hX 0 dX12_tried_88 rfl rfl rfl ?_
    refine q_getR 92 hX ci12 lf_RX12_7 fR_55_0 dX12_tried_89 rfl ?_
    refine q_bipush 94 hX dX12_tried_92 rfl kB_16 ?_
    refine q_iald 95 hX kU_16 aF_56 kN_16_21 dX12_tried_94 rfl ?_
    obtain ⟨r5, S3, hk4, hres⟩ := ob hres
    refine q_callSi 98 (st := []) (As := [.int (S2.1 56 16)]) hX (cX12_orNone9 hX.dj hk4) cs_RX12_356 rfl (by decide) rfl (Nat.le_of_ble_eq_true rfl) dX12_tried_95 rfl ?_
    refine q_istore_n 99 (lv' := [(3, .int r5), (0, .ref (ad X 55)), (1, .int x1), (2, .int x2)]) hX dX12_tried_98 rfl rfl (by decide) rfl ?_
    refine q_goto 133 hX dX12_tried_99 (by decide) ?_
    exact q_sub [1, 0] rfl (wfX12_tried_133 hX hq hres)
  have hres := it_f hc1 hres
  have hn1 := ne_ti (k := 1) hc1 (by decide)
  by_cases hc2 : x2 = (2 : Int32)
  · have hres := it_t hc2 hres
    refine q_tabIn 102 hX dX12_tried_49 (by rw [hc2]; decide) (by rw [hc2]; decide) (by rw [hc2]; rfl) (by decide) ?_
    refine q_aload_n 103 hX 0 dX12_tried_102 rfl rfl rfl ?_
    refine q_getR 106 hX ci12 lf_RX12_7 fR_55_0 dX12_tried_103 rfl ?_
    refine q_bipush 108 hX dX12_tried_106 rfl kB_17 ?_
    refine q_iald 109 hX kU_17 aF_56 kN_17_21 dX12_tried_108 rfl ?_
    refine q_istoreB_n 110 (lv0 := [(0, .ref (ad X 55)), (1, .int x1), (2, .int x2)]) hX dX12_tried_109 rfl rfl (by decide) rfl hres (fun v6 hres => ?_)
    refine q_goto 133 hX dX12_tried_110 (by decide) ?_
    exact q_sub [1, 0] rfl (wfX12_tried_133 hX hq hres)
  have hres := it_f hc2 hres
  have hn2 := ne_ti (k := 2) hc2 (by decide)
  by_cases hc3 : x2 = (3 : Int32)
  · have hres := it_t hc3 hres
    refine q_tabIn 113 hX dX12_tried_49 (by rw [hc3]; decide) (by rw [hc3]; decide) (by rw [hc3]; rfl) (by decide) ?_
    refine q_aload_n 114 hX 0 dX12_tried_113 rfl rfl rfl ?_
    obtain ⟨r8, S4, hk7, hres⟩ := ob hres
    refine q_callVi 117 (st := []) (As := []) hX (cX12_joyOfAll9 hX.dj hk7) cv_RX12_359 ci12 oB_55 rfl (by decide) rfl (Nat.le_of_ble_eq_true rfl) dX12_tried_114 rfl ?_
    refine q_istore_n 118 (lv' := [(3, .int r8), (0, .ref (ad X 55)), (1, .int x1), (2, .int x2)]) hX dX12_tried_117 rfl rfl (by decide) rfl ?_
    refine q_goto 133 hX dX12_tried_118 (by decide) ?_
    exact q_sub [1, 0] rfl (wfX12_tried_133 hX hq hres)
  have hres := it_f hc3 hres
  have hn3 := ne_ti (k := 3) hc3 (by decide)
  refine q_tabOut 121 hX dX12_tried_49 (by omega) (by decide) ?_
  refine q_aload_n 122 hX 0 dX12_tried_121 rfl rfl rfl ?_
  refine q_getR 125 hX ci12 lf_RX12_7 fR_55_0 dX12_tried_122 rfl ?_
  refine q_iconst 126 hX dX12_tried_125 rfl kI_0 ?_
  refine q_iload_n 127 hX 2 dX12_tried_126 rfl rfl rfl ?_
  refine q_iadd 128 hX dX12_tried_127 rfl ?_
  refine q_bipush 130 hX dX12_tried_128 rfl kB_10 ?_
  refine q_isub 131 hX dX12_tried_130 rfl ?_
  obtain ⟨hb9, hres⟩ := gd hres
  refine q_iald 132 hX rfl aF_56 hb9 dX12_tried_131 rfl ?_
  refine q_istoreB_n 133 (lv0 := [(0, .ref (ad X 55)), (1, .int x1), (2, .int x2)]) hX dX12_tried_132 rfl rfl (by decide) rfl hres (fun v10 hres => ?_)
  exact q_sub [1, 0] rfl (wfX12_tried_133 hX hq hres)
def fX12_tried (S : St) (x1 : Int32) (x2 : Int32) : Option (Int32 × St) :=
  bi (fX12_in S x1 (1 : Int32) (100 : Int32)) fun r2 S1 => if r2 = 0 then (some ((-1 : Int32), S1)) else (bi (fX12_in S1 x2 (0 : Int32) (3 : Int32)) fun r4 S2 => if r4 = 0 then (bi (fX12_isHouse S2 (x2 - (10 : Int32))) fun r6 S3 => if r6 = 0 then (some ((-1 : Int32), S3)) else (fX12_tried_32 S3 x1 x2)) else (fX12_tried_32 S2 x1 x2))
theorem wfX12_tried {X : CX} (hX : Ok RX12 cX12_tried (some .int) 55 40 4 X) {rr : Int32 × St} (hq : rs X = (some (.int rr.1), rr.2)) {S : St} {x1 : Int32} {x2 : Int32} (hres : fX12_tried S x1 x2 = some rr) : Wat 55 40 8 4 X 0 [(0, .ref (ad X 55)), (1, .int x1), (2, .int x2)] [] S := by
  unfold fX12_tried at hres
  refine q_iload_n 1 hX 1 dX12_tried_0 rfl rfl rfl ?_
  refine q_iconst 2 hX dX12_tried_1 rfl kI_1 ?_
  refine q_bipush 4 hX dX12_tried_2 rfl kB_100 ?_
  obtain ⟨r2, S1, hk1, hres⟩ := ob hres
  refine q_callSi 7 (st := []) (As := [.int x1, .int (1 : Int32), .int (100 : Int32)]) hX (cX12_in9 hX.dj hk1) cs_RX12_134 rfl (by decide) rfl (Nat.le_of_ble_eq_true rfl) dX12_tried_4 rfl ?_
  refine q_if_eq 10 hX 30 dX12_tried_7 rfl (by decide) (fun hc => ?_) (fun hc => ?_)
  · have hres := it_t hc hres
    refine q_iconst 31 hX dX12_tried_30 rfl kI_m1 ?_
    exact q_iret hX (eqi hq hres) dX12_tried_31
  · have hres := it_f hc hres
    refine q_iload_n 11 hX 2 dX12_tried_10 rfl rfl rfl ?_
    refine q_iconst 12 hX dX12_tried_11 rfl kI_0 ?_
    refine q_iconst 13 hX dX12_tried_12 rfl kI_3 ?_
    obtain ⟨r4, S2, hk3, hres⟩ := ob hres
    refine q_callSi 16 (st := []) (As := [.int x2, .int (0 : Int32), .int (3 : Int32)]) hX (cX12_in9 hX.dj hk3) cs_RX12_134 rfl (by decide) rfl (Nat.le_of_ble_eq_true rfl) dX12_tried_13 rfl ?_
    refine q_if_ne 19 hX 32 dX12_tried_16 rfl (by decide) (fun hc => ?_) (fun hc => ?_)
    · have hres := it_f hc hres
      exact q_sub [0, 1, 2] rfl (wfX12_tried_32 hX hq hres)
    · have hres := it_t hc hres
      refine q_aload_n 20 hX 0 dX12_tried_19 rfl rfl rfl ?_
      refine q_iload_n 21 hX 2 dX12_tried_20 rfl rfl rfl ?_
      refine q_bipush 23 hX dX12_tried_21 rfl kB_10 ?_
      refine q_isub 24 hX dX12_tried_23 rfl ?_
      obtain ⟨r6, S3, hk5, hres⟩ := ob hres
      refine q_callVi 27 (st := []) (As := [.int (x2 - (10 : Int32))]) hX (cX12_isHouse9 hX.dj hk5) cv_RX12_159 ci12 oB_55 rfl (by decide) rfl (Nat.le_of_ble_eq_true rfl) dX12_tried_24 rfl ?_
      refine q_if_ne 30 hX 32 dX12_tried_27 rfl (by decide) (fun hc => ?_) (fun hc => ?_)
      · have hres := it_f hc hres
        exact q_sub [0, 1, 2] rfl (wfX12_tried_32 hX hq hres)
      · have hres := it_t hc hres
        refine q_iconst 31 hX dX12_tried_30 rfl kI_m1 ?_
        exact q_iret hX (eqi hq hres) dX12_tried_31
theorem cX12_tried9 {l : Launch} {w : WD} (hj : Dj w 55 40) {rr : Int32 × St} {S : St} {x1 : Int32} {x2 : Int32} (hres : fX12_tried S x1 x2 = some rr) : Ct l yX12_tried cX12_tried 4 (some .int) 8 w 55 40 [.ref (w.1 55), .int x1, .int x2] S (some (.int rr.1), rr.2) := by
  refine Ct.of (lv := [(0, .ref (w.1 55)), (1, .int x1), (2, .int x2)]) hj (by decide +kernel) (Nat.le_of_ble_eq_true rfl) rfl ?_
  rintro X rfl rfl hq hX
  exact wfX12_tried hX hq hres
def fX12_wayOf_66 (rc10 : St → Int32 → Int32 → Int32 → Int32 → Int32 → Option (Int32 × St)) (S : St) (x1 : Int32) (x2 : Int32) (x4 : Int32) (x5 : Int32) : Option (Int32 × St) :=
  if inb x5 12 = true then bV ((S.1 59 (x5.toNatClampNeg))) fun v2 => bV (x5 + (1 : Int32)) fun v3 => rc10 S x1 x2 v2 x4 v3 else none
theorem wfX12_wayOf_66 {X : CX} (hX : Ok RX12 cX12_wayOf (some .int) 55 40 6 X) {rr : Int32 × St} (hq : rs X = (some (.int rr.1), rr.2)) {rc10 : St → Int32 → Int32 → Int32 → Int32 → Int32 → Option (Int32 × St)} (hrc10 : ∀ (S : St) (x1 : Int32) (x2 : Int32) (x3 : Int32) (x4 : Int32) (x5 : Int32), rc10 S x1 x2 x3 x4 x5 = some rr → Wat 55 40 1 6 X 10 [(0, .ref (ad X 55)), (1, .int x1), (2, .int x2), (3, .int x3), (4, .int x4), (5, .int x5)] [] S) {S : St} {x1 : Int32} {x2 : Int32} {x4 : Int32} {x5 : Int32} (hres : fX12_wayOf_66 rc10 S x1 x2 x4 x5 = some rr) : Wat 55 40 1 6 X 66 [(0, .ref (ad X 55)), (1, .int x1), (2, .int x2), (4, .int x4), (5, .int x5)] [] S := by
  unfold fX12_wayOf_66 at hres
  refine q_aload_n 67 hX 0 dX12_wayOf_66 rfl rfl rfl ?_
  refine q_getR 70 hX ci12 lf_RX12_19 fR_55_3 dX12_wayOf_67 rfl ?_
  refine q_iload 72 hX 4 dX12_wayOf_70 rfl rfl ?_
  obtain ⟨hb1, hres⟩ := gd hres
  refine q_iald 73 hX rfl aF_59 hb1 dX12_wayOf_72 rfl ?_
  refine q_istoreB_n 74 (lv0 := [(0, .ref (ad X 55)), (1, .int x1), (2, .int x2), (4, .int x4), (5, .int x5)]) hX dX12_wayOf_73 rfl rfl (by decide) rfl hres (fun v2 hres => ?_)
  refine q_iincB 77 5 (lv0 := [(3, .int v2), (0, .ref (ad X 55)), (1, .int x1), (2, .int x2), (4, .int x4)]) hX dX12_wayOf_74 rfl rfl kI_1 (by decide) rfl hres (fun v3 hres => ?_)
  refine q_goto 10 hX dX12_wayOf_77 (by decide) ?_
  exact q_sub [2, 3, 4, 1, 5, 0] rfl (hrc10 _ _ _ _ _ _ hres)
def fX12_wayOf_51 (rc10 : St → Int32 → Int32 → Int32 → Int32 → Int32 → Option (Int32 × St)) (S : St) (x1 : Int32) (x2 : Int32) (x4 : Int32) (x5 : Int32) : Option (Int32 × St) :=
  if x4 = (-1 : Int32) then (if inb x5 12 = true then bV ((S.1 59 (x5.toNatClampNeg))) fun v2 => fX12_wayOf_66 rc10 S x1 x2 v2 x5 else none) else (fX12_wayOf_66 rc10 S x1 x2 x4 x5)
theorem wfX12_wayOf_51 {X : CX} (hX : Ok RX12 cX12_wayOf (some .int) 55 40 6 X) {rr : Int32 × St} (hq : rs X = (some (.int rr.1), rr.2)) {rc10 : St → Int32 → Int32 → Int32 → Int32 → Int32 → Option (Int32 × St)} (hrc10 : ∀ (S : St) (x1 : Int32) (x2 : Int32) (x3 : Int32) (x4 : Int32) (x5 : Int32), rc10 S x1 x2 x3 x4 x5 = some rr → Wat 55 40 1 6 X 10 [(0, .ref (ad X 55)), (1, .int x1), (2, .int x2), (3, .int x3), (4, .int x4), (5, .int x5)] [] S) {S : St} {x1 : Int32} {x2 : Int32} {x4 : Int32} {x5 : Int32} (hres : fX12_wayOf_51 rc10 S x1 x2 x4 x5 = some rr) : Wat 55 40 1 6 X 51 [(0, .ref (ad X 55)), (1, .int x1), (2, .int x2), (4, .int x4), (5, .int x5)] [] S := by
  unfold fX12_wayOf_51 at hres
  refine q_iload 53 hX 3 dX12_wayOf_51 rfl rfl ?_
  refine q_iconst 54 hX dX12_wayOf_53 rfl kI_m1 ?_
  refine q_icmp_ne 57 hX 66 dX12_wayOf_54 rfl (by decide) (fun hc => ?_) (fun hc => ?_)
  · have hres := it_f hc hres
    exact q_sub [0, 1, 2, 3, 4] rfl (wfX12_wayOf_66 hX hq hrc10 hres)
  · have hres := it_t hc hres
    refine q_aload_n 58 hX 0 dX12_wayOf_57 rfl rfl rfl ?_
    refine q_getR 61 hX ci12 lf_RX12_19 fR_55_3 dX12_wayOf_58 rfl ?_
    refine q_iload 63 hX 4 dX12_wayOf_61 rfl rfl ?_
    obtain ⟨hb1, hres⟩ := gd hres
    refine q_iald 64 hX rfl aF_59 hb1 dX12_wayOf_63 rfl ?_
    refine q_istoreB 66 (lv0 := [(0, .ref (ad X 55)), (1, .int x1), (2, .int x2), (5, .int x5)]) hX dX12_wayOf_64 rfl (by decide) rfl hres (fun v2 hres => ?_)
    exact q_sub [1, 2, 3, 0, 4] rfl (wfX12_wayOf_66 hX hq hrc10 hres)
def fX12_wayOf_102 (S : St) (x2 : Int32) : Option (Int32 × St) :=
  some (x2, S)
theorem wfX12_wayOf_102 {X : CX} (hX : Ok RX12 cX12_wayOf (some .int) 55 40 6 X) {rr : Int32 × St} (hq : rs X = (some (.int rr.1), rr.2)) {S : St} {x2 : Int32} (hres : fX12_wayOf_102 S x2 = some rr) : Wat 55 40 1 6 X 102 [(2, .int x2)] [] S := by
  unfold fX12_wayOf_102 at hres
  refine q_iload_n 103 hX 0 dX12_wayOf_102 rfl rfl rfl ?_
  exact q_iret hX (eqi hq hres) dX12_wayOf_103
def bX12_wayOf_10 (rc10 : St → Int32 → Int32 → Int32 → Int32 → Int32 → Option (Int32 × St)) (S : St) (x1 : Int32) (x2 : Int32) (x3 : Int32) (x4 : Int32) (x5 : Int32) : Option (Int32 × St) :=
  if (12 : Int32) ≤ x5 then (if x1 = 0 then (fX12_wayOf_102 S x2) else (if x4 = (-1 : Int32) then (fX12_wayOf_102 S x2) else (bi (fX12_size S (x3 - x4)) fun r2 S1 => some ((x2 + r2), S1)))) else (if inb x5 12 = true then if (S.1 59 (x5.toNatClampNeg)) = (-1 : Int32) then (bV (x5 + (1 : Int32)) fun v8 => rc10 S x1 x2 x3 x4 v8) else (if x3 = (-1 : Int32) then (fX12_wayOf_51 rc10 S x1 x2 x4 x5) else (if inb x5 12 = true then bi (fX12_size S ((S.1 59 (x5.toNatClampNeg)) - x3)) fun r6 S2 => bV ((x2 + r6)) fun v7 => fX12_wayOf_51 rc10 S2 x1 v7 x4 x5 else none)) else none)
theorem wbX12_wayOf_10 {X : CX} (hX : Ok RX12 cX12_wayOf (some .int) 55 40 6 X) {rr : Int32 × St} (hq : rs X = (some (.int rr.1), rr.2)) {rc10 : St → Int32 → Int32 → Int32 → Int32 → Int32 → Option (Int32 × St)} (hrc10 : ∀ (S : St) (x1 : Int32) (x2 : Int32) (x3 : Int32) (x4 : Int32) (x5 : Int32), rc10 S x1 x2 x3 x4 x5 = some rr → Wat 55 40 1 6 X 10 [(0, .ref (ad X 55)), (1, .int x1), (2, .int x2), (3, .int x3), (4, .int x4), (5, .int x5)] [] S) {S : St} {x1 : Int32} {x2 : Int32} {x3 : Int32} {x4 : Int32} {x5 : Int32} (hres : bX12_wayOf_10 rc10 S x1 x2 x3 x4 x5 = some rr) : Wat 55 40 1 6 X 10 [(0, .ref (ad X 55)), (1, .int x1), (2, .int x2), (3, .int x3), (4, .int x4), (5, .int x5)] [] S := by
  unfold bX12_wayOf_10 at hres
  refine q_iload 12 hX 5 dX12_wayOf_10 rfl rfl ?_
  refine q_bipush 14 hX dX12_wayOf_12 rfl kB_12 ?_
  refine q_icmp_ge 17 hX 80 dX12_wayOf_14 rfl (by decide) (fun hc => ?_) (fun hc => ?_)
  · have hres := it_t hc hres
    refine q_iload_n 81 hX 1 dX12_wayOf_80 rfl rfl rfl ?_
    refine q_if_eq 84 hX 102 dX12_wayOf_81 rfl (by decide) (fun hc => ?_) (fun hc => ?_)
    · have hres := it_t hc hres
      exact q_sub [2] rfl (wfX12_wayOf_102 hX hq hres)
    · have hres := it_f hc hres
      refine q_iload 86 hX 4 dX12_wayOf_84 rfl rfl ?_
      refine q_iconst 87 hX dX12_wayOf_86 rfl kI_m1 ?_
      refine q_icmp_eq 90 hX 102 dX12_wayOf_87 rfl (by decide) (fun hc => ?_) (fun hc => ?_)
      · have hres := it_t hc hres
        exact q_sub [2] rfl (wfX12_wayOf_102 hX hq hres)
      · have hres := it_f hc hres
        refine q_iload_n 91 hX 2 dX12_wayOf_90 rfl rfl rfl ?_
        refine q_iload_n 92 hX 3 dX12_wayOf_91 rfl rfl rfl ?_
        refine q_iload 94 hX 4 dX12_wayOf_92 rfl rfl ?_
        refine q_isub 95 hX dX12_wayOf_94 rfl ?_
        obtain ⟨r2, S1, hk1, hres⟩ := ob hres
        refine q_callSi 98 (st := [.int x2]) (As := [.int (x3 - x4)]) hX (cX12_size9 hX.dj hk1) cs_RX12_317 rfl (by decide) rfl (Nat.le_of_ble_eq_true rfl) dX12_wayOf_95 rfl ?_
        refine q_iadd 99 hX dX12_wayOf_98 rfl ?_
        refine q_goto 103 hX dX12_wayOf_99 (by decide) ?_
        exact q_iret hX (eqi hq hres) dX12_wayOf_103
  · have hres := it_f hc hres
    refine q_aload_n 18 hX 0 dX12_wayOf_17 rfl rfl rfl ?_
    refine q_getR 21 hX ci12 lf_RX12_19 fR_55_3 dX12_wayOf_18 rfl ?_
    refine q_iload 23 hX 5 dX12_wayOf_21 rfl rfl ?_
    obtain ⟨hb3, hres⟩ := gd hres
    refine q_iald 24 hX rfl aF_59 hb3 dX12_wayOf_23 rfl ?_
    refine q_iconst 25 hX dX12_wayOf_24 rfl kI_m1 ?_
    refine q_icmp_ne 28 hX 31 dX12_wayOf_25 rfl (by decide) (fun hc => ?_) (fun hc => ?_)
    · have hres := it_f hc hres
      refine q_iload_n 32 hX 3 dX12_wayOf_31 rfl rfl rfl ?_
      refine q_iconst 33 hX dX12_wayOf_32 rfl kI_m1 ?_
      refine q_icmp_eq 36 hX 51 dX12_wayOf_33 rfl (by decide) (fun hc => ?_) (fun hc => ?_)
      · have hres := it_t hc hres
        exact q_sub [0, 1, 2, 4, 5] rfl (wfX12_wayOf_51 hX hq hrc10 hres)
      · have hres := it_f hc hres
        refine q_iload_n 37 hX 2 dX12_wayOf_36 rfl rfl rfl ?_
        refine q_aload_n 38 hX 0 dX12_wayOf_37 rfl rfl rfl ?_
        refine q_getR 41 hX ci12 lf_RX12_19 fR_55_3 dX12_wayOf_38 rfl ?_
        refine q_iload 43 hX 5 dX12_wayOf_41 rfl rfl ?_
        obtain ⟨hb4, hres⟩ := gd hres
        refine q_iald 44 hX rfl aF_59 hb4 dX12_wayOf_43 rfl ?_
        refine q_iload_n 45 hX 3 dX12_wayOf_44 rfl rfl rfl ?_
        refine q_isub 46 hX dX12_wayOf_45 rfl ?_
        obtain ⟨r6, S2, hk5, hres⟩ := ob hres
        refine q_callSi 49 (st := [.int x2]) (As := [.int ((S.1 59 (x5.toNatClampNeg)) - x3)]) hX (cX12_size9 hX.dj hk5) cs_RX12_317 rfl (by decide) rfl (Nat.le_of_ble_eq_true rfl) dX12_wayOf_46 rfl ?_
        refine q_iadd 50 hX dX12_wayOf_49 rfl ?_
        refine q_istoreB_n 51 (lv0 := [(0, .ref (ad X 55)), (1, .int x1), (3, .int x3), (4, .int x4), (5, .int x5)]) hX dX12_wayOf_50 rfl rfl (by decide) rfl hres (fun v7 hres => ?_)
        exact q_sub [1, 2, 0, 4, 5] rfl (wfX12_wayOf_51 hX hq hrc10 hres)
    · have hres := it_t hc hres
      refine q_goto 74 hX dX12_wayOf_28 (by decide) ?_
      refine q_iincB 77 5 (lv0 := [(0, .ref (ad X 55)), (1, .int x1), (2, .int x2), (3, .int x3), (4, .int x4)]) hX dX12_wayOf_74 rfl rfl kI_1 (by decide) rfl hres (fun v8 hres => ?_)
      refine q_goto 10 hX dX12_wayOf_77 (by decide) ?_
      exact q_sub [1, 2, 3, 4, 5, 0] rfl (hrc10 _ _ _ _ _ _ hres)
def fX12_wayOf_10 : Nat → St → Int32 → Int32 → Int32 → Int32 → Int32 → Option (Int32 × St)
  | 0 => fun _ _ _ _ _ _ => none
  | k + 1 => fun S x1 x2 x3 x4 x5 => bX12_wayOf_10 (fX12_wayOf_10 k) S x1 x2 x3 x4 x5
theorem wfX12_wayOf_10 {X : CX} (hX : Ok RX12 cX12_wayOf (some .int) 55 40 6 X) {rr : Int32 × St} (hq : rs X = (some (.int rr.1), rr.2)) (k : Nat) : ∀ (S : St) (x1 : Int32) (x2 : Int32) (x3 : Int32) (x4 : Int32) (x5 : Int32), fX12_wayOf_10 k S x1 x2 x3 x4 x5 = some rr → Wat 55 40 1 6 X 10 [(0, .ref (ad X 55)), (1, .int x1), (2, .int x2), (3, .int x3), (4, .int x4), (5, .int x5)] [] S := by
  induction k with
  | zero => intro S x1 x2 x3 x4 x5 hres; exact absurd hres (by simp [fX12_wayOf_10])
  | succ k ih => intro S x1 x2 x3 x4 x5 hres; exact wbX12_wayOf_10 hX hq ih hres
def fX12_wayOf (S : St) (x1 : Int32) : Option (Int32 × St) :=
  fX12_wayOf_10 100 S x1 (0 : Int32) (-1 : Int32) (-1 : Int32) (0 : Int32)
theorem wfX12_wayOf {X : CX} (hX : Ok RX12 cX12_wayOf (some .int) 55 40 6 X) {rr : Int32 × St} (hq : rs X = (some (.int rr.1), rr.2)) {S : St} {x1 : Int32} (hres : fX12_wayOf S x1 = some rr) : Wat 55 40 1 6 X 0 [(0, .ref (ad X 55)), (1, .int x1)] [] S := by
  unfold fX12_wayOf at hres
  refine q_iconst 1 hX dX12_wayOf_0 rfl kI_0 ?_
  refine q_istore_n 2 (lv' := [(2, .int (0 : Int32)), (0, .ref (ad X 55)), (1, .int x1)]) hX dX12_wayOf_1 rfl rfl (by decide) rfl ?_
  refine q_iconst 3 hX dX12_wayOf_2 rfl kI_m1 ?_
  refine q_istore_n 4 (lv' := [(3, .int (-1 : Int32)), (2, .int (0 : Int32)), (0, .ref (ad X 55)), (1, .int x1)]) hX dX12_wayOf_3 rfl rfl (by decide) rfl ?_
  refine q_iconst 5 hX dX12_wayOf_4 rfl kI_m1 ?_
  refine q_istore 7 (lv' := [(4, .int (-1 : Int32)), (3, .int (-1 : Int32)), (2, .int (0 : Int32)), (0, .ref (ad X 55)), (1, .int x1)]) hX dX12_wayOf_5 rfl (by decide) rfl ?_
  refine q_iconst 8 hX dX12_wayOf_7 rfl kI_0 ?_
  refine q_istore 10 (lv' := [(5, .int (0 : Int32)), (4, .int (-1 : Int32)), (3, .int (-1 : Int32)), (2, .int (0 : Int32)), (0, .ref (ad X 55)), (1, .int x1)]) hX dX12_wayOf_8 rfl (by decide) rfl ?_
  exact q_sub [4, 5, 3, 2, 1, 0] rfl (wfX12_wayOf_10 hX hq _ _ _ _ _ _ _ hres)
theorem cX12_wayOf9 {l : Launch} {w : WD} (hj : Dj w 55 40) {rr : Int32 × St} {S : St} {x1 : Int32} (hres : fX12_wayOf S x1 = some rr) : Ct l yX12_wayOf cX12_wayOf 6 (some .int) 1 w 55 40 [.ref (w.1 55), .int x1] S (some (.int rr.1), rr.2) := by
  refine Ct.of (lv := [(0, .ref (w.1 55)), (1, .int x1)]) hj (by decide +kernel) (Nat.le_of_ble_eq_true rfl) rfl ?_
  rintro X rfl rfl hq hX
  exact wfX12_wayOf hX hq hres
def bX12_turnsOf_4 (rc4 : St → Int32 → Int32 → Int32 → Option (Int32 × St)) (S : St) (x1 : Int32) (x2 : Int32) (x3 : Int32) : Option (Int32 × St) :=
  if (12 : Int32) ≤ x3 then (some (x2, S)) else (if inb x3 12 = true then if (S.1 59 (x3.toNatClampNeg)) = x1 then (bV ((x2 + (1 : Int32))) fun v3 => bV (x3 + (1 : Int32)) fun v4 => rc4 S x1 v3 v4) else (bV (x3 + (1 : Int32)) fun v2 => rc4 S x1 x2 v2) else none)
theorem wbX12_turnsOf_4 {X : CX} (hX : Ok RX12 cX12_turnsOf (some .int) 55 40 4 X) {rr : Int32 × St} (hq : rs X = (some (.int rr.1), rr.2)) {rc4 : St → Int32 → Int32 → Int32 → Option (Int32 × St)} (hrc4 : ∀ (S : St) (x1 : Int32) (x2 : Int32) (x3 : Int32), rc4 S x1 x2 x3 = some rr → Wat 55 40 0 4 X 4 [(0, .ref (ad X 55)), (1, .int x1), (2, .int x2), (3, .int x3)] [] S) {S : St} {x1 : Int32} {x2 : Int32} {x3 : Int32} (hres : bX12_turnsOf_4 rc4 S x1 x2 x3 = some rr) : Wat 55 40 0 4 X 4 [(0, .ref (ad X 55)), (1, .int x1), (2, .int x2), (3, .int x3)] [] S := by
  unfold bX12_turnsOf_4 at hres
  refine q_iload_n 5 hX 3 dX12_turnsOf_4 rfl rfl rfl ?_
  refine q_bipush 7 hX dX12_turnsOf_5 rfl kB_12 ?_
  refine q_icmp_ge 10 hX 30 dX12_turnsOf_7 rfl (by decide) (fun hc => ?_) (fun hc => ?_)
  · have hres := it_t hc hres
    refine q_iload_n 31 hX 2 dX12_turnsOf_30 rfl rfl rfl ?_
    exact q_iret hX (eqi hq hres) dX12_turnsOf_31
  · have hres := it_f hc hres
    refine q_aload_n 11 hX 0 dX12_turnsOf_10 rfl rfl rfl ?_
    refine q_getR 14 hX ci12 lf_RX12_19 fR_55_3 dX12_turnsOf_11 rfl ?_
    refine q_iload_n 15 hX 3 dX12_turnsOf_14 rfl rfl rfl ?_
    obtain ⟨hb1, hres⟩ := gd hres
    refine q_iald 16 hX rfl aF_59 hb1 dX12_turnsOf_15 rfl ?_
    refine q_iload_n 17 hX 1 dX12_turnsOf_16 rfl rfl rfl ?_
    refine q_icmp_ne 20 hX 24 dX12_turnsOf_17 rfl (by decide) (fun hc => ?_) (fun hc => ?_)
    · have hres := it_f hc hres
      refine q_iincB 27 3 (lv0 := [(0, .ref (ad X 55)), (1, .int x1), (2, .int x2)]) hX dX12_turnsOf_24 rfl rfl kI_1 (by decide) rfl hres (fun v2 hres => ?_)
      refine q_goto 4 hX dX12_turnsOf_27 (by decide) ?_
      exact q_sub [1, 2, 3, 0] rfl (hrc4 _ _ _ _ hres)
    · have hres := it_t hc hres
      refine q_iload_n 21 hX 2 dX12_turnsOf_20 rfl rfl rfl ?_
      refine q_iconst 22 hX dX12_turnsOf_21 rfl kI_1 ?_
      refine q_iadd 23 hX dX12_turnsOf_22 rfl ?_
      refine q_istoreB_n 24 (lv0 := [(0, .ref (ad X 55)), (1, .int x1), (3, .int x3)]) hX dX12_turnsOf_23 rfl rfl (by decide) rfl hres (fun v3 hres => ?_)
      refine q_iincB 27 3 (lv0 := [(2, .int v3), (0, .ref (ad X 55)), (1, .int x1)]) hX dX12_turnsOf_24 rfl rfl kI_1 (by decide) rfl hres (fun v4 hres => ?_)
      refine q_goto 4 hX dX12_turnsOf_27 (by decide) ?_
      exact q_sub [2, 3, 1, 0] rfl (hrc4 _ _ _ _ hres)
def fX12_turnsOf_4 : Nat → St → Int32 → Int32 → Int32 → Option (Int32 × St)
  | 0 => fun _ _ _ _ => none
  | k + 1 => fun S x1 x2 x3 => bX12_turnsOf_4 (fX12_turnsOf_4 k) S x1 x2 x3
theorem wfX12_turnsOf_4 {X : CX} (hX : Ok RX12 cX12_turnsOf (some .int) 55 40 4 X) {rr : Int32 × St} (hq : rs X = (some (.int rr.1), rr.2)) (k : Nat) : ∀ (S : St) (x1 : Int32) (x2 : Int32) (x3 : Int32), fX12_turnsOf_4 k S x1 x2 x3 = some rr → Wat 55 40 0 4 X 4 [(0, .ref (ad X 55)), (1, .int x1), (2, .int x2), (3, .int x3)] [] S := by
  induction k with
  | zero => intro S x1 x2 x3 hres; exact absurd hres (by simp [fX12_turnsOf_4])
  | succ k ih => intro S x1 x2 x3 hres; exact wbX12_turnsOf_4 hX hq ih hres
def fX12_turnsOf (S : St) (x1 : Int32) : Option (Int32 × St) :=
  fX12_turnsOf_4 100 S x1 (0 : Int32) (0 : Int32)
theorem wfX12_turnsOf {X : CX} (hX : Ok RX12 cX12_turnsOf (some .int) 55 40 4 X) {rr : Int32 × St} (hq : rs X = (some (.int rr.1), rr.2)) {S : St} {x1 : Int32} (hres : fX12_turnsOf S x1 = some rr) : Wat 55 40 0 4 X 0 [(0, .ref (ad X 55)), (1, .int x1)] [] S := by
  unfold fX12_turnsOf at hres
  refine q_iconst 1 hX dX12_turnsOf_0 rfl kI_0 ?_
  refine q_istore_n 2 (lv' := [(2, .int (0 : Int32)), (0, .ref (ad X 55)), (1, .int x1)]) hX dX12_turnsOf_1 rfl rfl (by decide) rfl ?_
  refine q_iconst 3 hX dX12_turnsOf_2 rfl kI_0 ?_
  refine q_istore_n 4 (lv' := [(3, .int (0 : Int32)), (2, .int (0 : Int32)), (0, .ref (ad X 55)), (1, .int x1)]) hX dX12_turnsOf_3 rfl rfl (by decide) rfl ?_
  exact q_sub [2, 3, 1, 0] rfl (wfX12_turnsOf_4 hX hq _ _ _ _ _ hres)
theorem cX12_turnsOf9 {l : Launch} {w : WD} (hj : Dj w 55 40) {rr : Int32 × St} {S : St} {x1 : Int32} (hres : fX12_turnsOf S x1 = some rr) : Ct l yX12_turnsOf cX12_turnsOf 4 (some .int) 0 w 55 40 [.ref (w.1 55), .int x1] S (some (.int rr.1), rr.2) := by
  refine Ct.of (lv := [(0, .ref (w.1 55)), (1, .int x1)]) hj (by decide +kernel) (Nat.le_of_ble_eq_true rfl) rfl ?_
  rintro X rfl rfl hq hX
  exact wfX12_turnsOf hX hq hres
def fX12_longestRow_35 (rc6 : St → Int32 → Int32 → Int32 → Int32 → Option (Int32 × St)) (S : St) (x0 : Int32) (x1 : Int32) (x3 : Int32) (s0 : Int32) : Option (Int32 × St) :=
  bi (fX12_max S x1 s0) fun r2 S1 => bV (x3 + (1 : Int32)) fun v3 => rc6 S1 x0 r2 s0 v3
theorem wfX12_longestRow_35 {X : CX} (hX : Ok RX12 cX12_longestRow (some .int) 55 40 4 X) {rr : Int32 × St} (hq : rs X = (some (.int rr.1), rr.2)) {rc6 : St → Int32 → Int32 → Int32 → Int32 → Option (Int32 × St)} (hrc6 : ∀ (S : St) (x0 : Int32) (x1 : Int32) (x2 : Int32) (x3 : Int32), rc6 S x0 x1 x2 x3 = some rr → Wat 55 40 1 4 X 6 [(0, .int x0), (1, .int x1), (2, .int x2), (3, .int x3)] [] S) {S : St} {x0 : Int32} {x1 : Int32} {x3 : Int32} {s0 : Int32} (hres : fX12_longestRow_35 rc6 S x0 x1 x3 s0 = some rr) : Wat 55 40 1 4 X 35 [(0, .int x0), (1, .int x1), (3, .int x3)] [.int s0] S := by
  unfold fX12_longestRow_35 at hres
  refine q_istore_n 36 (lv' := [(2, .int s0), (0, .int x0), (1, .int x1), (3, .int x3)]) hX dX12_longestRow_35 rfl rfl (by decide) rfl ?_
  refine q_iload_n 37 hX 2 dX12_longestRow_36 rfl rfl rfl ?_
  refine q_iload_n 38 hX 0 dX12_longestRow_37 rfl rfl rfl ?_
  obtain ⟨r2, S1, hk1, hres⟩ := ob hres
  refine q_callSi 41 (st := []) (As := [.int x1, .int s0]) hX (cX12_max9 hX.dj hk1) cs_RX12_362 rfl (by decide) rfl (Nat.le_of_ble_eq_true rfl) dX12_longestRow_38 rfl ?_
  refine q_istore_n 42 (lv' := [(1, .int r2), (2, .int s0), (0, .int x0), (3, .int x3)]) hX dX12_longestRow_41 rfl rfl (by decide) rfl ?_
  refine q_iincB 45 3 (lv0 := [(1, .int r2), (2, .int s0), (0, .int x0)]) hX dX12_longestRow_42 rfl rfl kI_1 (by decide) rfl hres (fun v3 hres => ?_)
  refine q_goto 6 hX dX12_longestRow_45 (by decide) ?_
  exact q_sub [3, 1, 2, 0] rfl (hrc6 _ _ _ _ _ hres)
def bX12_longestRow_6 (rc6 : St → Int32 → Int32 → Int32 → Int32 → Option (Int32 × St)) (S : St) (x0 : Int32) (x1 : Int32) (x2 : Int32) (x3 : Int32) : Option (Int32 × St) :=
  if (24 : Int32) ≤ x3 then (some (x1, S)) else (bi (fX12_has S x0 (x3 - x3 / (12 : Int32) * (12 : Int32))) fun r2 S1 => if r2 = 0 then (fX12_longestRow_35 rc6 S1 x0 x1 x3 (0 : Int32)) else (bi (fX12_min S1 (12 : Int32) (x2 + (1 : Int32))) fun r4 S2 => fX12_longestRow_35 rc6 S2 x0 x1 x3 r4))
theorem wbX12_longestRow_6 {X : CX} (hX : Ok RX12 cX12_longestRow (some .int) 55 40 4 X) {rr : Int32 × St} (hq : rs X = (some (.int rr.1), rr.2)) {rc6 : St → Int32 → Int32 → Int32 → Int32 → Option (Int32 × St)} (hrc6 : ∀ (S : St) (x0 : Int32) (x1 : Int32) (x2 : Int32) (x3 : Int32), rc6 S x0 x1 x2 x3 = some rr → Wat 55 40 1 4 X 6 [(0, .int x0), (1, .int x1), (2, .int x2), (3, .int x3)] [] S) {S : St} {x0 : Int32} {x1 : Int32} {x2 : Int32} {x3 : Int32} (hres : bX12_longestRow_6 rc6 S x0 x1 x2 x3 = some rr) : Wat 55 40 1 4 X 6 [(0, .int x0), (1, .int x1), (2, .int x2), (3, .int x3)] [] S := by
  unfold bX12_longestRow_6 at hres
  refine q_iload_n 7 hX 3 dX12_longestRow_6 rfl rfl rfl ?_
  refine q_bipush 9 hX dX12_longestRow_7 rfl kB_24 ?_
  refine q_icmp_ge 12 hX 48 dX12_longestRow_9 rfl (by decide) (fun hc => ?_) (fun hc => ?_)
  · have hres := it_t hc hres
    refine q_iload_n 49 hX 1 dX12_longestRow_48 rfl rfl rfl ?_
    exact q_iret hX (eqi hq hres) dX12_longestRow_49
  · have hres := it_f hc hres
    refine q_iload_n 13 hX 0 dX12_longestRow_12 rfl rfl rfl ?_
    refine q_iload_n 14 hX 3 dX12_longestRow_13 rfl rfl rfl ?_
    refine q_bipush 16 hX dX12_longestRow_14 rfl kB_12 ?_
    refine q_irem 17 hX dX12_longestRow_16 rfl (by decide) ?_
    obtain ⟨r2, S1, hk1, hres⟩ := ob hres
    refine q_callSi 20 (st := []) (As := [.int x0, .int (x3 - x3 / (12 : Int32) * (12 : Int32))]) hX (cX12_has9 hX.dj hk1) cs_RX12_130 rfl (by decide) rfl (Nat.le_of_ble_eq_true rfl) dX12_longestRow_17 rfl ?_
    refine q_if_eq 23 hX 34 dX12_longestRow_20 rfl (by decide) (fun hc => ?_) (fun hc => ?_)
    · have hres := it_t hc hres
      refine q_iconst 35 hX dX12_longestRow_34 rfl kI_0 ?_
      exact q_sub [0, 1, 3] rfl (wfX12_longestRow_35 hX hq hrc6 hres)
    · have hres := it_f hc hres
      refine q_bipush 25 hX dX12_longestRow_23 rfl kB_12 ?_
      refine q_iload_n 26 hX 2 dX12_longestRow_25 rfl rfl rfl ?_
      refine q_iconst 27 hX dX12_longestRow_26 rfl kI_1 ?_
      refine q_iadd 28 hX dX12_longestRow_27 rfl ?_
      obtain ⟨r4, S2, hk3, hres⟩ := ob hres
      refine q_callSi 31 (st := []) (As := [.int (12 : Int32), .int (x2 + (1 : Int32))]) hX (cX12_min9 hX.dj hk3) cs_RX12_333 rfl (by decide) rfl (Nat.le_of_ble_eq_true rfl) dX12_longestRow_28 rfl ?_
      refine q_goto 35 hX dX12_longestRow_31 (by decide) ?_
      exact q_sub [0, 1, 3] rfl (wfX12_longestRow_35 hX hq hrc6 hres)
def fX12_longestRow_6 : Nat → St → Int32 → Int32 → Int32 → Int32 → Option (Int32 × St)
  | 0 => fun _ _ _ _ _ => none
  | k + 1 => fun S x0 x1 x2 x3 => bX12_longestRow_6 (fX12_longestRow_6 k) S x0 x1 x2 x3
theorem wfX12_longestRow_6 {X : CX} (hX : Ok RX12 cX12_longestRow (some .int) 55 40 4 X) {rr : Int32 × St} (hq : rs X = (some (.int rr.1), rr.2)) (k : Nat) : ∀ (S : St) (x0 : Int32) (x1 : Int32) (x2 : Int32) (x3 : Int32), fX12_longestRow_6 k S x0 x1 x2 x3 = some rr → Wat 55 40 1 4 X 6 [(0, .int x0), (1, .int x1), (2, .int x2), (3, .int x3)] [] S := by
  induction k with
  | zero => intro S x0 x1 x2 x3 hres; exact absurd hres (by simp [fX12_longestRow_6])
  | succ k ih => intro S x0 x1 x2 x3 hres; exact wbX12_longestRow_6 hX hq ih hres
def fX12_longestRow (S : St) (x0 : Int32) : Option (Int32 × St) :=
  fX12_longestRow_6 100 S x0 (0 : Int32) (0 : Int32) (0 : Int32)
theorem wfX12_longestRow {X : CX} (hX : Ok RX12 cX12_longestRow (some .int) 55 40 4 X) {rr : Int32 × St} (hq : rs X = (some (.int rr.1), rr.2)) {S : St} {x0 : Int32} (hres : fX12_longestRow S x0 = some rr) : Wat 55 40 1 4 X 0 [(0, .int x0)] [] S := by
  unfold fX12_longestRow at hres
  refine q_iconst 1 hX dX12_longestRow_0 rfl kI_0 ?_
  refine q_istore_n 2 (lv' := [(1, .int (0 : Int32)), (0, .int x0)]) hX dX12_longestRow_1 rfl rfl (by decide) rfl ?_
  refine q_iconst 3 hX dX12_longestRow_2 rfl kI_0 ?_
  refine q_istore_n 4 (lv' := [(2, .int (0 : Int32)), (1, .int (0 : Int32)), (0, .int x0)]) hX dX12_longestRow_3 rfl rfl (by decide) rfl ?_
  refine q_iconst 5 hX dX12_longestRow_4 rfl kI_0 ?_
  refine q_istore_n 6 (lv' := [(3, .int (0 : Int32)), (2, .int (0 : Int32)), (1, .int (0 : Int32)), (0, .int x0)]) hX dX12_longestRow_5 rfl rfl (by decide) rfl ?_
  exact q_sub [3, 2, 1, 0] rfl (wfX12_longestRow_6 hX hq _ _ _ _ _ _ hres)
theorem cX12_longestRow9 {l : Launch} {w : WD} (hj : Dj w 55 40) {rr : Int32 × St} {S : St} {x0 : Int32} (hres : fX12_longestRow S x0 = some rr) : Ct l yX12_longestRow cX12_longestRow 4 (some .int) 1 w 55 40 [.int x0] S (some (.int rr.1), rr.2) := by
  refine Ct.of (lv := [(0, .int x0)]) hj (by decide +kernel) (Nat.le_of_ble_eq_true rfl) rfl ?_
  rintro X rfl rfl hq hX
  exact wfX12_longestRow hX hq hres
def bX12_darkOf_4 (rc4 : St → Int32 → Int32 → Int32 → Option (Int32 × St)) (S : St) (x1 : Int32) (x2 : Int32) (x3 : Int32) : Option (Int32 × St) :=
  if (12 : Int32) ≤ x3 then (bi (fX12_longestRow S x2) fun r2 S1 => some (r2, S1)) else (if inb x3 12 = true then if (S.1 59 (x3.toNatClampNeg)) = x1 then (bV (x3 + (1 : Int32)) fun v4 => rc4 S x1 x2 v4) else (bV ((x2 ||| ((1 : Int32) <<< (x3 &&& 31)))) fun v5 => bV (x3 + (1 : Int32)) fun v6 => rc4 S x1 v5 v6) else none)
theorem wbX12_darkOf_4 {X : CX} (hX : Ok RX12 cX12_darkOf (some .int) 55 40 4 X) {rr : Int32 × St} (hq : rs X = (some (.int rr.1), rr.2)) {rc4 : St → Int32 → Int32 → Int32 → Option (Int32 × St)} (hrc4 : ∀ (S : St) (x1 : Int32) (x2 : Int32) (x3 : Int32), rc4 S x1 x2 x3 = some rr → Wat 55 40 2 4 X 4 [(0, .ref (ad X 55)), (1, .int x1), (2, .int x2), (3, .int x3)] [] S) {S : St} {x1 : Int32} {x2 : Int32} {x3 : Int32} (hres : bX12_darkOf_4 rc4 S x1 x2 x3 = some rr) : Wat 55 40 2 4 X 4 [(0, .ref (ad X 55)), (1, .int x1), (2, .int x2), (3, .int x3)] [] S := by
  unfold bX12_darkOf_4 at hres
  refine q_iload_n 5 hX 3 dX12_darkOf_4 rfl rfl rfl ?_
  refine q_bipush 7 hX dX12_darkOf_5 rfl kB_12 ?_
  refine q_icmp_ge 10 hX 32 dX12_darkOf_7 rfl (by decide) (fun hc => ?_) (fun hc => ?_)
  · have hres := it_t hc hres
    refine q_iload_n 33 hX 2 dX12_darkOf_32 rfl rfl rfl ?_
    obtain ⟨r2, S1, hk1, hres⟩ := ob hres
    refine q_callSi 36 (st := []) (As := [.int x2]) hX (cX12_longestRow9 hX.dj hk1) cs_RX12_365 rfl (by decide) rfl (Nat.le_of_ble_eq_true rfl) dX12_darkOf_33 rfl ?_
    exact q_iret hX (eqi hq hres) dX12_darkOf_36
  · have hres := it_f hc hres
    refine q_aload_n 11 hX 0 dX12_darkOf_10 rfl rfl rfl ?_
    refine q_getR 14 hX ci12 lf_RX12_19 fR_55_3 dX12_darkOf_11 rfl ?_
    refine q_iload_n 15 hX 3 dX12_darkOf_14 rfl rfl rfl ?_
    obtain ⟨hb3, hres⟩ := gd hres
    refine q_iald 16 hX rfl aF_59 hb3 dX12_darkOf_15 rfl ?_
    refine q_iload_n 17 hX 1 dX12_darkOf_16 rfl rfl rfl ?_
    refine q_icmp_eq 20 hX 26 dX12_darkOf_17 rfl (by decide) (fun hc => ?_) (fun hc => ?_)
    · have hres := it_t hc hres
      refine q_iincB 29 3 (lv0 := [(0, .ref (ad X 55)), (1, .int x1), (2, .int x2)]) hX dX12_darkOf_26 rfl rfl kI_1 (by decide) rfl hres (fun v4 hres => ?_)
      refine q_goto 4 hX dX12_darkOf_29 (by decide) ?_
      exact q_sub [1, 2, 3, 0] rfl (hrc4 _ _ _ _ hres)
    · have hres := it_f hc hres
      refine q_iload_n 21 hX 2 dX12_darkOf_20 rfl rfl rfl ?_
      refine q_iconst 22 hX dX12_darkOf_21 rfl kI_1 ?_
      refine q_iload_n 23 hX 3 dX12_darkOf_22 rfl rfl rfl ?_
      refine q_ishl 24 hX dX12_darkOf_23 rfl ?_
      refine q_ior 25 hX dX12_darkOf_24 rfl ?_
      refine q_istoreB_n 26 (lv0 := [(0, .ref (ad X 55)), (1, .int x1), (3, .int x3)]) hX dX12_darkOf_25 rfl rfl (by decide) rfl hres (fun v5 hres => ?_)
      refine q_iincB 29 3 (lv0 := [(2, .int v5), (0, .ref (ad X 55)), (1, .int x1)]) hX dX12_darkOf_26 rfl rfl kI_1 (by decide) rfl hres (fun v6 hres => ?_)
      refine q_goto 4 hX dX12_darkOf_29 (by decide) ?_
      exact q_sub [2, 3, 1, 0] rfl (hrc4 _ _ _ _ hres)
def fX12_darkOf_4 : Nat → St → Int32 → Int32 → Int32 → Option (Int32 × St)
  | 0 => fun _ _ _ _ => none
  | k + 1 => fun S x1 x2 x3 => bX12_darkOf_4 (fX12_darkOf_4 k) S x1 x2 x3
theorem wfX12_darkOf_4 {X : CX} (hX : Ok RX12 cX12_darkOf (some .int) 55 40 4 X) {rr : Int32 × St} (hq : rs X = (some (.int rr.1), rr.2)) (k : Nat) : ∀ (S : St) (x1 : Int32) (x2 : Int32) (x3 : Int32), fX12_darkOf_4 k S x1 x2 x3 = some rr → Wat 55 40 2 4 X 4 [(0, .ref (ad X 55)), (1, .int x1), (2, .int x2), (3, .int x3)] [] S := by
  induction k with
  | zero => intro S x1 x2 x3 hres; exact absurd hres (by simp [fX12_darkOf_4])
  | succ k ih => intro S x1 x2 x3 hres; exact wbX12_darkOf_4 hX hq ih hres
def fX12_darkOf (S : St) (x1 : Int32) : Option (Int32 × St) :=
  fX12_darkOf_4 100 S x1 (0 : Int32) (0 : Int32)
theorem wfX12_darkOf {X : CX} (hX : Ok RX12 cX12_darkOf (some .int) 55 40 4 X) {rr : Int32 × St} (hq : rs X = (some (.int rr.1), rr.2)) {S : St} {x1 : Int32} (hres : fX12_darkOf S x1 = some rr) : Wat 55 40 2 4 X 0 [(0, .ref (ad X 55)), (1, .int x1)] [] S := by
  unfold fX12_darkOf at hres
  refine q_iconst 1 hX dX12_darkOf_0 rfl kI_0 ?_
  refine q_istore_n 2 (lv' := [(2, .int (0 : Int32)), (0, .ref (ad X 55)), (1, .int x1)]) hX dX12_darkOf_1 rfl rfl (by decide) rfl ?_
  refine q_iconst 3 hX dX12_darkOf_2 rfl kI_0 ?_
  refine q_istore_n 4 (lv' := [(3, .int (0 : Int32)), (2, .int (0 : Int32)), (0, .ref (ad X 55)), (1, .int x1)]) hX dX12_darkOf_3 rfl rfl (by decide) rfl ?_
  exact q_sub [2, 3, 1, 0] rfl (wfX12_darkOf_4 hX hq _ _ _ _ _ hres)
theorem cX12_darkOf9 {l : Launch} {w : WD} (hj : Dj w 55 40) {rr : Int32 × St} {S : St} {x1 : Int32} (hres : fX12_darkOf S x1 = some rr) : Ct l yX12_darkOf cX12_darkOf 4 (some .int) 2 w 55 40 [.ref (w.1 55), .int x1] S (some (.int rr.1), rr.2) := by
  refine Ct.of (lv := [(0, .ref (w.1 55)), (1, .int x1)]) hj (by decide +kernel) (Nat.le_of_ble_eq_true rfl) rfl ?_
  rintro X rfl rfl hq hX
  exact wfX12_darkOf hX hq hres
def bX12_lightOf_4 (rc4 : St → Int32 → Int32 → Int32 → Option (Int32 × St)) (S : St) (x1 : Int32) (x2 : Int32) (x3 : Int32) : Option (Int32 × St) :=
  if (12 : Int32) ≤ x3 then (some (x2, S)) else (bi (fX12_seenBy S x1 x3) fun r2 S1 => if r2 = 0 then (bV (x3 + (1 : Int32)) fun v3 => rc4 S1 x1 x2 v3) else (bV ((x2 ||| ((1 : Int32) <<< (x3 &&& 31)))) fun v4 => bV (x3 + (1 : Int32)) fun v5 => rc4 S1 x1 v4 v5))
theorem wbX12_lightOf_4 {X : CX} (hX : Ok RX12 cX12_lightOf (some .int) 55 40 4 X) {rr : Int32 × St} (hq : rs X = (some (.int rr.1), rr.2)) {rc4 : St → Int32 → Int32 → Int32 → Option (Int32 × St)} (hrc4 : ∀ (S : St) (x1 : Int32) (x2 : Int32) (x3 : Int32), rc4 S x1 x2 x3 = some rr → Wat 55 40 3 4 X 4 [(0, .ref (ad X 55)), (1, .int x1), (2, .int x2), (3, .int x3)] [] S) {S : St} {x1 : Int32} {x2 : Int32} {x3 : Int32} (hres : bX12_lightOf_4 rc4 S x1 x2 x3 = some rr) : Wat 55 40 3 4 X 4 [(0, .ref (ad X 55)), (1, .int x1), (2, .int x2), (3, .int x3)] [] S := by
  unfold bX12_lightOf_4 at hres
  refine q_iload_n 5 hX 3 dX12_lightOf_4 rfl rfl rfl ?_
  refine q_bipush 7 hX dX12_lightOf_5 rfl kB_12 ?_
  refine q_icmp_ge 10 hX 31 dX12_lightOf_7 rfl (by decide) (fun hc => ?_) (fun hc => ?_)
  · have hres := it_t hc hres
    refine q_iload_n 32 hX 2 dX12_lightOf_31 rfl rfl rfl ?_
    exact q_iret hX (eqi hq hres) dX12_lightOf_32
  · have hres := it_f hc hres
    refine q_aload_n 11 hX 0 dX12_lightOf_10 rfl rfl rfl ?_
    refine q_iload_n 12 hX 1 dX12_lightOf_11 rfl rfl rfl ?_
    refine q_iload_n 13 hX 3 dX12_lightOf_12 rfl rfl rfl ?_
    obtain ⟨r2, S1, hk1, hres⟩ := ob hres
    refine q_callVi 16 (st := []) (As := [.int x1, .int x3]) hX (cX12_seenBy9 hX.dj hk1) cv_RX12_152 ci12 oB_55 rfl (by decide) rfl (Nat.le_of_ble_eq_true rfl) dX12_lightOf_13 rfl ?_
    refine q_if_eq 19 hX 25 dX12_lightOf_16 rfl (by decide) (fun hc => ?_) (fun hc => ?_)
    · have hres := it_t hc hres
      refine q_iincB 28 3 (lv0 := [(0, .ref (ad X 55)), (1, .int x1), (2, .int x2)]) hX dX12_lightOf_25 rfl rfl kI_1 (by decide) rfl hres (fun v3 hres => ?_)
      refine q_goto 4 hX dX12_lightOf_28 (by decide) ?_
      exact q_sub [1, 2, 3, 0] rfl (hrc4 _ _ _ _ hres)
    · have hres := it_f hc hres
      refine q_iload_n 20 hX 2 dX12_lightOf_19 rfl rfl rfl ?_
      refine q_iconst 21 hX dX12_lightOf_20 rfl kI_1 ?_
      refine q_iload_n 22 hX 3 dX12_lightOf_21 rfl rfl rfl ?_
      refine q_ishl 23 hX dX12_lightOf_22 rfl ?_
      refine q_ior 24 hX dX12_lightOf_23 rfl ?_
      refine q_istoreB_n 25 (lv0 := [(0, .ref (ad X 55)), (1, .int x1), (3, .int x3)]) hX dX12_lightOf_24 rfl rfl (by decide) rfl hres (fun v4 hres => ?_)
      refine q_iincB 28 3 (lv0 := [(2, .int v4), (0, .ref (ad X 55)), (1, .int x1)]) hX dX12_lightOf_25 rfl rfl kI_1 (by decide) rfl hres (fun v5 hres => ?_)
      refine q_goto 4 hX dX12_lightOf_28 (by decide) ?_
      exact q_sub [2, 3, 1, 0] rfl (hrc4 _ _ _ _ hres)
def fX12_lightOf_4 : Nat → St → Int32 → Int32 → Int32 → Option (Int32 × St)
  | 0 => fun _ _ _ _ => none
  | k + 1 => fun S x1 x2 x3 => bX12_lightOf_4 (fX12_lightOf_4 k) S x1 x2 x3
theorem wfX12_lightOf_4 {X : CX} (hX : Ok RX12 cX12_lightOf (some .int) 55 40 4 X) {rr : Int32 × St} (hq : rs X = (some (.int rr.1), rr.2)) (k : Nat) : ∀ (S : St) (x1 : Int32) (x2 : Int32) (x3 : Int32), fX12_lightOf_4 k S x1 x2 x3 = some rr → Wat 55 40 3 4 X 4 [(0, .ref (ad X 55)), (1, .int x1), (2, .int x2), (3, .int x3)] [] S := by
  induction k with
  | zero => intro S x1 x2 x3 hres; exact absurd hres (by simp [fX12_lightOf_4])
  | succ k ih => intro S x1 x2 x3 hres; exact wbX12_lightOf_4 hX hq ih hres
def fX12_lightOf (S : St) (x1 : Int32) : Option (Int32 × St) :=
  fX12_lightOf_4 100 S x1 (0 : Int32) (0 : Int32)
theorem wfX12_lightOf {X : CX} (hX : Ok RX12 cX12_lightOf (some .int) 55 40 4 X) {rr : Int32 × St} (hq : rs X = (some (.int rr.1), rr.2)) {S : St} {x1 : Int32} (hres : fX12_lightOf S x1 = some rr) : Wat 55 40 3 4 X 0 [(0, .ref (ad X 55)), (1, .int x1)] [] S := by
  unfold fX12_lightOf at hres
  refine q_iconst 1 hX dX12_lightOf_0 rfl kI_0 ?_
  refine q_istore_n 2 (lv' := [(2, .int (0 : Int32)), (0, .ref (ad X 55)), (1, .int x1)]) hX dX12_lightOf_1 rfl rfl (by decide) rfl ?_
  refine q_iconst 3 hX dX12_lightOf_2 rfl kI_0 ?_
  refine q_istore_n 4 (lv' := [(3, .int (0 : Int32)), (2, .int (0 : Int32)), (0, .ref (ad X 55)), (1, .int x1)]) hX dX12_lightOf_3 rfl rfl (by decide) rfl ?_
  exact q_sub [2, 3, 1, 0] rfl (wfX12_lightOf_4 hX hq _ _ _ _ _ hres)
theorem cX12_lightOf9 {l : Launch} {w : WD} (hj : Dj w 55 40) {rr : Int32 × St} {S : St} {x1 : Int32} (hres : fX12_lightOf S x1 = some rr) : Ct l yX12_lightOf cX12_lightOf 4 (some .int) 3 w 55 40 [.ref (w.1 55), .int x1] S (some (.int rr.1), rr.2) := by
  refine Ct.of (lv := [(0, .ref (w.1 55)), (1, .int x1)]) hj (by decide +kernel) (Nat.le_of_ble_eq_true rfl) rfl ?_
  rintro X rfl rfl hq hX
  exact wfX12_lightOf hX hq hres
def fX12_houseIs (S : St) (x1 : Int32) (x2 : Int32) : Option (Int32 × St) :=
  bi (fX12_isHouse S x1) fun r2 S1 => if r2 = 0 then (some ((-1 : Int32), S1)) else (if x2 = (0 : Int32) then (if inb x1 16 = true then some ((S1.1 60 (x1.toNatClampNeg)), S1) else none) else (if x2 = (1 : Int32) then (if inb ((0 : Int32) + x1) 21 = true then some ((S1.1 56 (((0 : Int32) + x1).toNatClampNeg)), S1) else none) else (if x2 = (2 : Int32) then (bi (fX12_turnsOf S1 x1) fun r6 S2 => some (r6, S2)) else (if x2 = (3 : Int32) then (bi (fX12_darkOf S1 x1) fun r8 S3 => some (r8, S3)) else (if x2 = (4 : Int32) then (bi (fX12_everSeenBy S1 x1) fun r10 S4 => some (r10, S4)) else (some ((-1 : Int32), S1)))))))
theorem wfX12_houseIs {X : CX} (hX : Ok RX12 cX12_houseIs (some .int) 55 40 3 X) {rr : Int32 × St} (hq : rs X = (some (.int rr.1), rr.2)) {S : St} {x1 : Int32} {x2 : Int32} (hres : fX12_houseIs S x1 x2 = some rr) : Wat 55 40 4 3 X 0 [(0, .ref (ad X 55)), (1, .int x1), (2, .int x2)] [] S := by
  unfold fX12_houseIs at hres
  refine q_aload_n 1 hX 0 dX12_houseIs_0 rfl rfl rfl ?_
  refine q_iload_n 2 hX 1 dX12_houseIs_1 rfl rfl rfl ?_
  obtain ⟨r2, S1, hk1, hres⟩ := ob hres
  refine q_callVi 5 (st := []) (As := [.int x1]) hX (cX12_isHouse9 hX.dj hk1) cv_RX12_159 ci12 oB_55 rfl (by decide) rfl (Nat.le_of_ble_eq_true rfl) dX12_houseIs_2 rfl ?_
  refine q_if_ne 8 hX 10 dX12_houseIs_5 rfl (by decide) (fun hc => ?_) (fun hc => ?_)
  · have hres := it_f hc hres
    refine q_iload_n 11 hX 2 dX12_houseIs_10 rfl rfl rfl ?_
    by_cases hc0 : x2 = (0 : Int32)
    · have hres := it_t hc0 hres
      refine q_tabIn 44 hX dX12_houseIs_11 (by rw [hc0]; decide) (by rw [hc0]; decide) (by rw [hc0]; rfl) (by decide) ?_
      refine q_aload_n 45 hX 0 dX12_houseIs_44 rfl rfl rfl ?_
      refine q_getR 48 hX ci12 lf_RX12_22 fR_55_4 dX12_houseIs_45 rfl ?_
      refine q_iload_n 49 hX 1 dX12_houseIs_48 rfl rfl rfl ?_
      obtain ⟨hb3, hres⟩ := gd hres
      refine q_iald 50 hX rfl aF_60 hb3 dX12_houseIs_49 rfl ?_
      exact q_iret hX (eqi hq hres) dX12_houseIs_50
    have hres := it_f hc0 hres
    have hn0 := ne_ti (k := 0) hc0 (by decide)
    by_cases hc1 : x2 = (1 : Int32)
    · have hres := it_t hc1 hres
      refine q_tabIn 51 hX dX12_houseIs_11 (by rw [hc1]; decide) (by rw [hc1]; decide) (by rw [hc1]; rfl) (by decide) ?_
      refine q_aload_n 52 hX 0 dX12_houseIs_51 rfl rfl rfl ?_
      refine q_getR 55 hX ci12 lf_RX12_7 fR_55_0 dX12_houseIs_52 rfl ?_
      refine q_iconst 56 hX dX12_houseIs_55 rfl kI_0 ?_
      refine q_iload_n 57 hX 1 dX12_houseIs_56 rfl rfl rfl ?_
      refine q_iadd 58 hX dX12_houseIs_57 rfl ?_
      obtain ⟨hb4, hres⟩ := gd hres
      refine q_iald 59 hX rfl aF_56 hb4 dX12_houseIs_58 rfl ?_
      exact q_iret hX (eqi hq hres) dX12_houseIs_59
    have hres := it_f hc1 hres
    have hn1 := ne_ti (k := 1) hc1 (by decide)
    by_cases hc2 : x2 = (2 : Int32)
    · have hres := it_t hc2 hres
      refine q_tabIn 60 hX dX12_houseIs_11 (by rw [hc2]; decide) (by rw [hc2]; decide) (by rw [hc2]; rfl) (by decide) ?_
      refine q_aload_n 61 hX 0 dX12_houseIs_60 rfl rfl rfl ?_
      refine q_iload_n 62 hX 1 dX12_houseIs_61 rfl rfl rfl ?_
      obtain ⟨r6, S2, hk5, hres⟩ := ob hres
      refine q_callVi 65 (st := []) (As := [.int x1]) hX (cX12_turnsOf9 hX.dj hk5) cv_RX12_368 ci12 oB_55 rfl (by decide) rfl (Nat.le_of_ble_eq_true rfl) dX12_houseIs_62 rfl ?_
      exact q_iret hX (eqi hq hres) dX12_houseIs_65
    have hres := it_f hc2 hres
    have hn2 := ne_ti (k := 2) hc2 (by decide)
    by_cases hc3 : x2 = (3 : Int32)
    · have hres := it_t hc3 hres
      refine q_tabIn 66 hX dX12_houseIs_11 (by rw [hc3]; decide) (by rw [hc3]; decide) (by rw [hc3]; rfl) (by decide) ?_
      refine q_aload_n 67 hX 0 dX12_houseIs_66 rfl rfl rfl ?_
      refine q_iload_n 68 hX 1 dX12_houseIs_67 rfl rfl rfl ?_
      obtain ⟨r8, S3, hk7, hres⟩ := ob hres
      refine q_callVi 71 (st := []) (As := [.int x1]) hX (cX12_darkOf9 hX.dj hk7) cv_RX12_371 ci12 oB_55 rfl (by decide) rfl (Nat.le_of_ble_eq_true rfl) dX12_houseIs_68 rfl ?_
      exact q_iret hX (eqi hq hres) dX12_houseIs_71
    have hres := it_f hc3 hres
    have hn3 := ne_ti (k := 3) hc3 (by decide)
    by_cases hc4 : x2 = (4 : Int32)
    · have hres := it_t hc4 hres
      refine q_tabIn 72 hX dX12_houseIs_11 (by rw [hc4]; decide) (by rw [hc4]; decide) (by rw [hc4]; rfl) (by decide) ?_
      refine q_aload_n 73 hX 0 dX12_houseIs_72 rfl rfl rfl ?_
      refine q_iload_n 74 hX 1 dX12_houseIs_73 rfl rfl rfl ?_
      obtain ⟨r10, S4, hk9, hres⟩ := ob hres
      refine q_callVi 77 (st := []) (As := [.int x1]) hX (cX12_everSeenBy9 hX.dj hk9) cv_RX12_374 ci12 oB_55 rfl (by decide) rfl (Nat.le_of_ble_eq_true rfl) dX12_houseIs_74 rfl ?_
      exact q_iret hX (eqi hq hres) dX12_houseIs_77
    have hres := it_f hc4 hres
    have hn4 := ne_ti (k := 4) hc4 (by decide)
    refine q_tabOut 78 hX dX12_houseIs_11 (by omega) (by decide) ?_
    refine q_iconst 79 hX dX12_houseIs_78 rfl kI_m1 ?_
    exact q_iret hX (eqi hq hres) dX12_houseIs_79
  · have hres := it_t hc hres
    refine q_iconst 9 hX dX12_houseIs_8 rfl kI_m1 ?_
    exact q_iret hX (eqi hq hres) dX12_houseIs_9
theorem cX12_houseIs9 {l : Launch} {w : WD} (hj : Dj w 55 40) {rr : Int32 × St} {S : St} {x1 : Int32} {x2 : Int32} (hres : fX12_houseIs S x1 x2 = some rr) : Ct l yX12_houseIs cX12_houseIs 3 (some .int) 4 w 55 40 [.ref (w.1 55), .int x1, .int x2] S (some (.int rr.1), rr.2) := by
  refine Ct.of (lv := [(0, .ref (w.1 55)), (1, .int x1), (2, .int x2)]) hj (by decide +kernel) (Nat.le_of_ble_eq_true rfl) rfl ?_
  rintro X rfl rfl hq hX
  exact wfX12_houseIs hX hq hres
def bX12_seenByRota_4 (rc4 : St → Int32 → Int32 → Option (Int32 × St)) (S : St) (x1 : Int32) (x2 : Int32) : Option (Int32 × St) :=
  if (12 : Int32) ≤ x2 then (some (x1, S)) else (if inb x2 12 = true then if (S.1 59 (x2.toNatClampNeg)) = (-1 : Int32) then (bV (x2 + (1 : Int32)) fun v2 => rc4 S x1 v2) else (if inb x2 12 = true then bi (fX12_seenBy S (S.1 59 (x2.toNatClampNeg)) x2) fun r5 S1 => bV ((x1 ||| r5)) fun v6 => bV (x2 + (1 : Int32)) fun v7 => rc4 S1 v6 v7 else none) else none)
theorem wbX12_seenByRota_4 {X : CX} (hX : Ok RX12 cX12_seenByRota (some .int) 55 40 3 X) {rr : Int32 × St} (hq : rs X = (some (.int rr.1), rr.2)) {rc4 : St → Int32 → Int32 → Option (Int32 × St)} (hrc4 : ∀ (S : St) (x1 : Int32) (x2 : Int32), rc4 S x1 x2 = some rr → Wat 55 40 3 3 X 4 [(0, .ref (ad X 55)), (1, .int x1), (2, .int x2)] [] S) {S : St} {x1 : Int32} {x2 : Int32} (hres : bX12_seenByRota_4 rc4 S x1 x2 = some rr) : Wat 55 40 3 3 X 4 [(0, .ref (ad X 55)), (1, .int x1), (2, .int x2)] [] S := by
  unfold bX12_seenByRota_4 at hres
  refine q_iload_n 5 hX 2 dX12_seenByRota_4 rfl rfl rfl ?_
  refine q_bipush 7 hX dX12_seenByRota_5 rfl kB_12 ?_
  refine q_icmp_ge 10 hX 40 dX12_seenByRota_7 rfl (by decide) (fun hc => ?_) (fun hc => ?_)
  · have hres := it_t hc hres
    refine q_iload_n 41 hX 1 dX12_seenByRota_40 rfl rfl rfl ?_
    exact q_iret hX (eqi hq hres) dX12_seenByRota_41
  · have hres := it_f hc hres
    refine q_aload_n 11 hX 0 dX12_seenByRota_10 rfl rfl rfl ?_
    refine q_getR 14 hX ci12 lf_RX12_19 fR_55_3 dX12_seenByRota_11 rfl ?_
    refine q_iload_n 15 hX 2 dX12_seenByRota_14 rfl rfl rfl ?_
    obtain ⟨hb1, hres⟩ := gd hres
    refine q_iald 16 hX rfl aF_59 hb1 dX12_seenByRota_15 rfl ?_
    refine q_iconst 17 hX dX12_seenByRota_16 rfl kI_m1 ?_
    refine q_icmp_eq 20 hX 34 dX12_seenByRota_17 rfl (by decide) (fun hc => ?_) (fun hc => ?_)
    · have hres := it_t hc hres
      refine q_iincB 37 2 (lv0 := [(0, .ref (ad X 55)), (1, .int x1)]) hX dX12_seenByRota_34 rfl rfl kI_1 (by decide) rfl hres (fun v2 hres => ?_)
      refine q_goto 4 hX dX12_seenByRota_37 (by decide) ?_
      exact q_sub [1, 2, 0] rfl (hrc4 _ _ _ hres)
    · have hres := it_f hc hres
      refine q_iload_n 21 hX 1 dX12_seenByRota_20 rfl rfl rfl ?_
      refine q_aload_n 22 hX 0 dX12_seenByRota_21 rfl rfl rfl ?_
      refine q_aload_n 23 hX 0 dX12_seenByRota_22 rfl rfl rfl ?_
      refine q_getR 26 hX ci12 lf_RX12_19 fR_55_3 dX12_seenByRota_23 rfl ?_
      refine q_iload_n 27 hX 2 dX12_seenByRota_26 rfl rfl rfl ?_
      obtain ⟨hb3, hres⟩ := gd hres
      refine q_iald 28 hX rfl aF_59 hb3 dX12_seenByRota_27 rfl ?_
      refine q_iload_n 29 hX 2 dX12_seenByRota_28 rfl rfl rfl ?_
      obtain ⟨r5, S1, hk4, hres⟩ := ob hres
      refine q_callVi 32 (st := [.int x1]) (As := [.int (S.1 59 (x2.toNatClampNeg)), .int x2]) hX (cX12_seenBy9 hX.dj hk4) cv_RX12_152 ci12 oB_55 rfl (by decide) rfl (Nat.le_of_ble_eq_true rfl) dX12_seenByRota_29 rfl ?_
      refine q_ior 33 hX dX12_seenByRota_32 rfl ?_
      refine q_istoreB_n 34 (lv0 := [(0, .ref (ad X 55)), (2, .int x2)]) hX dX12_seenByRota_33 rfl rfl (by decide) rfl hres (fun v6 hres => ?_)
      refine q_iincB 37 2 (lv0 := [(1, .int v6), (0, .ref (ad X 55))]) hX dX12_seenByRota_34 rfl rfl kI_1 (by decide) rfl hres (fun v7 hres => ?_)
      refine q_goto 4 hX dX12_seenByRota_37 (by decide) ?_
      exact q_sub [2, 1, 0] rfl (hrc4 _ _ _ hres)
def fX12_seenByRota_4 : Nat → St → Int32 → Int32 → Option (Int32 × St)
  | 0 => fun _ _ _ => none
  | k + 1 => fun S x1 x2 => bX12_seenByRota_4 (fX12_seenByRota_4 k) S x1 x2
theorem wfX12_seenByRota_4 {X : CX} (hX : Ok RX12 cX12_seenByRota (some .int) 55 40 3 X) {rr : Int32 × St} (hq : rs X = (some (.int rr.1), rr.2)) (k : Nat) : ∀ (S : St) (x1 : Int32) (x2 : Int32), fX12_seenByRota_4 k S x1 x2 = some rr → Wat 55 40 3 3 X 4 [(0, .ref (ad X 55)), (1, .int x1), (2, .int x2)] [] S := by
  induction k with
  | zero => intro S x1 x2 hres; exact absurd hres (by simp [fX12_seenByRota_4])
  | succ k ih => intro S x1 x2 hres; exact wbX12_seenByRota_4 hX hq ih hres
def fX12_seenByRota (S : St) : Option (Int32 × St) :=
  fX12_seenByRota_4 100 S (0 : Int32) (0 : Int32)
theorem wfX12_seenByRota {X : CX} (hX : Ok RX12 cX12_seenByRota (some .int) 55 40 3 X) {rr : Int32 × St} (hq : rs X = (some (.int rr.1), rr.2)) {S : St} (hres : fX12_seenByRota S = some rr) : Wat 55 40 3 3 X 0 [(0, .ref (ad X 55))] [] S := by
  unfold fX12_seenByRota at hres
  refine q_iconst 1 hX dX12_seenByRota_0 rfl kI_0 ?_
  refine q_istore_n 2 (lv' := [(1, .int (0 : Int32)), (0, .ref (ad X 55))]) hX dX12_seenByRota_1 rfl rfl (by decide) rfl ?_
  refine q_iconst 3 hX dX12_seenByRota_2 rfl kI_0 ?_
  refine q_istore_n 4 (lv' := [(2, .int (0 : Int32)), (1, .int (0 : Int32)), (0, .ref (ad X 55))]) hX dX12_seenByRota_3 rfl rfl (by decide) rfl ?_
  exact q_sub [2, 1, 0] rfl (wfX12_seenByRota_4 hX hq _ _ _ _ hres)
theorem cX12_seenByRota9 {l : Launch} {w : WD} (hj : Dj w 55 40) {rr : Int32 × St} {S : St} (hres : fX12_seenByRota S = some rr) : Ct l yX12_seenByRota cX12_seenByRota 3 (some .int) 3 w 55 40 [.ref (w.1 55)] S (some (.int rr.1), rr.2) := by
  refine Ct.of (lv := [(0, .ref (w.1 55))]) hj (by decide +kernel) (Nat.le_of_ble_eq_true rfl) rfl ?_
  rintro X rfl rfl hq hX
  exact wfX12_seenByRota hX hq hres
def fX12_rotaIs (S : St) (x1 : Int32) : Option (Int32 × St) :=
  bi (fX12_isTurn S x1) fun r2 S1 => if r2 = 0 then (if x1 = (100 : Int32) then (bi (fX12_wayOf S1 (0 : Int32)) fun r4 S2 => some (r4, S2)) else (if x1 = (101 : Int32) then (bi (fX12_wayOf S1 (1 : Int32)) fun r6 S3 => some (r6, S3)) else (if x1 = (102 : Int32) then (bi (fX12_seenByRota S1) fun r8 S4 => some (r8, S4)) else (some ((-1 : Int32), S1))))) else (if inb x1 12 = true then bi (fX12_orNone S1 (S1.1 59 (x1.toNatClampNeg))) fun r11 S5 => some (r11, S5) else none)
theorem wfX12_rotaIs {X : CX} (hX : Ok RX12 cX12_rotaIs (some .int) 55 40 2 X) {rr : Int32 × St} (hq : rs X = (some (.int rr.1), rr.2)) {S : St} {x1 : Int32} (hres : fX12_rotaIs S x1 = some rr) : Wat 55 40 4 2 X 0 [(0, .ref (ad X 55)), (1, .int x1)] [] S := by
  unfold fX12_rotaIs at hres
  refine q_iload_n 1 hX 1 dX12_rotaIs_0 rfl rfl rfl ?_
  obtain ⟨r2, S1, hk1, hres⟩ := ob hres
  refine q_callSi 4 (st := []) (As := [.int x1]) hX (cX12_isTurn9 hX.dj hk1) cs_RX12_156 rfl (by decide) rfl (Nat.le_of_ble_eq_true rfl) dX12_rotaIs_1 rfl ?_
  refine q_if_eq 7 hX 17 dX12_rotaIs_4 rfl (by decide) (fun hc => ?_) (fun hc => ?_)
  · have hres := it_t hc hres
    refine q_iload_n 18 hX 1 dX12_rotaIs_17 rfl rfl rfl ?_
    by_cases hc100 : x1 = (100 : Int32)
    · have hres := it_t hc100 hres
      refine q_tabIn 44 hX dX12_rotaIs_18 (by rw [hc100]; decide) (by rw [hc100]; decide) (by rw [hc100]; rfl) (by decide) ?_
      refine q_aload_n 45 hX 0 dX12_rotaIs_44 rfl rfl rfl ?_
      refine q_iconst 46 hX dX12_rotaIs_45 rfl kI_0 ?_
      obtain ⟨r4, S2, hk3, hres⟩ := ob hres
      refine q_callVi 49 (st := []) (As := [.int (0 : Int32)]) hX (cX12_wayOf9 hX.dj hk3) cv_RX12_377 ci12 oB_55 rfl (by decide) rfl (Nat.le_of_ble_eq_true rfl) dX12_rotaIs_46 rfl ?_
      exact q_iret hX (eqi hq hres) dX12_rotaIs_49
    have hres := it_f hc100 hres
    have hn100 := ne_ti (k := 100) hc100 (by decide)
    by_cases hc101 : x1 = (101 : Int32)
    · have hres := it_t hc101 hres
      refine q_tabIn 50 hX dX12_rotaIs_18 (by rw [hc101]; decide) (by rw [hc101]; decide) (by rw [hc101]; rfl) (by decide) ?_
      refine q_aload_n 51 hX 0 dX12_rotaIs_50 rfl rfl rfl ?_
      refine q_iconst 52 hX dX12_rotaIs_51 rfl kI_1 ?_
      obtain ⟨r6, S3, hk5, hres⟩ := ob hres
      refine q_callVi 55 (st := []) (As := [.int (1 : Int32)]) hX (cX12_wayOf9 hX.dj hk5) cv_RX12_377 ci12 oB_55 rfl (by decide) rfl (Nat.le_of_ble_eq_true rfl) dX12_rotaIs_52 rfl ?_
      exact q_iret hX (eqi hq hres) dX12_rotaIs_55
    have hres := it_f hc101 hres
    have hn101 := ne_ti (k := 101) hc101 (by decide)
    by_cases hc102 : x1 = (102 : Int32)
    · have hres := it_t hc102 hres
      refine q_tabIn 56 hX dX12_rotaIs_18 (by rw [hc102]; decide) (by rw [hc102]; decide) (by rw [hc102]; rfl) (by decide) ?_
      refine q_aload_n 57 hX 0 dX12_rotaIs_56 rfl rfl rfl ?_
      obtain ⟨r8, S4, hk7, hres⟩ := ob hres
      refine q_callVi 60 (st := []) (As := []) hX (cX12_seenByRota9 hX.dj hk7) cv_RX12_381 ci12 oB_55 rfl (by decide) rfl (Nat.le_of_ble_eq_true rfl) dX12_rotaIs_57 rfl ?_
      exact q_iret hX (eqi hq hres) dX12_rotaIs_60
    have hres := it_f hc102 hres
    have hn102 := ne_ti (k := 102) hc102 (by decide)
    refine q_tabOut 61 hX dX12_rotaIs_18 (by omega) (by decide) ?_
    refine q_iconst 62 hX dX12_rotaIs_61 rfl kI_m1 ?_
    exact q_iret hX (eqi hq hres) dX12_rotaIs_62
  · have hres := it_f hc hres
    refine q_aload_n 8 hX 0 dX12_rotaIs_7 rfl rfl rfl ?_
    refine q_getR 11 hX ci12 lf_RX12_19 fR_55_3 dX12_rotaIs_8 rfl ?_
    refine q_iload_n 12 hX 1 dX12_rotaIs_11 rfl rfl rfl ?_
    obtain ⟨hb9, hres⟩ := gd hres
    refine q_iald 13 hX rfl aF_59 hb9 dX12_rotaIs_12 rfl ?_
    obtain ⟨r11, S5, hk10, hres⟩ := ob hres
    refine q_callSi 16 (st := []) (As := [.int (S1.1 59 (x1.toNatClampNeg))]) hX (cX12_orNone9 hX.dj hk10) cs_RX12_356 rfl (by decide) rfl (Nat.le_of_ble_eq_true rfl) dX12_rotaIs_13 rfl ?_
    exact q_iret hX (eqi hq hres) dX12_rotaIs_16
theorem cX12_rotaIs9 {l : Launch} {w : WD} (hj : Dj w 55 40) {rr : Int32 × St} {S : St} {x1 : Int32} (hres : fX12_rotaIs S x1 = some rr) : Ct l yX12_rotaIs cX12_rotaIs 2 (some .int) 4 w 55 40 [.ref (w.1 55), .int x1] S (some (.int rr.1), rr.2) := by
  refine Ct.of (lv := [(0, .ref (w.1 55)), (1, .int x1)]) hj (by decide +kernel) (Nat.le_of_ble_eq_true rfl) rfl ?_
  rintro X rfl rfl hq hX
  exact wfX12_rotaIs hX hq hres
def bX12_next_28 (rc28 : St → Int32 → Int32 → Int32 → Int32 → Option (Int32 × St)) (S : St) (x1 : Int32) (x2 : Int32) (x3 : Int32) (x4 : Int32) : Option (Int32 × St) :=
  if (12 : Int32) ≤ x4 then (some ((-2 : Int32), S)) else (bV (((x3 + x4) - (x3 + x4) / (12 : Int32) * (12 : Int32))) fun v1 => if inb v1 12 = true then if (S.1 59 (v1.toNatClampNeg)) = x1 then (bi (fX12_isSeen S x1 x2 v1) fun r5 S1 => if r5 = 0 then (bV (x4 + (1 : Int32)) fun v6 => rc28 S1 x1 x2 x3 v6) else (some (x4, S1))) else (bV (x4 + (1 : Int32)) fun v3 => rc28 S x1 x2 x3 v3) else none)
theorem wbX12_next_28 {X : CX} (hX : Ok RX12 cX12_next (some .int) 55 40 6 X) {rr : Int32 × St} (hq : rs X = (some (.int rr.1), rr.2)) {rc28 : St → Int32 → Int32 → Int32 → Int32 → Option (Int32 × St)} (hrc28 : ∀ (S : St) (x1 : Int32) (x2 : Int32) (x3 : Int32) (x4 : Int32), rc28 S x1 x2 x3 x4 = some rr → Wat 55 40 2 6 X 28 [(0, .ref (ad X 55)), (1, .int x1), (2, .int x2), (3, .int x3), (4, .int x4)] [] S) {S : St} {x1 : Int32} {x2 : Int32} {x3 : Int32} {x4 : Int32} (hres : bX12_next_28 rc28 S x1 x2 x3 x4 = some rr) : Wat 55 40 2 6 X 28 [(0, .ref (ad X 55)), (1, .int x1), (2, .int x2), (3, .int x3), (4, .int x4)] [] S := by
  unfold bX12_next_28 at hres
  refine q_iload 30 hX 4 dX12_next_28 rfl rfl ?_
  refine q_bipush 32 hX dX12_next_30 rfl kB_12 ?_
  refine q_icmp_ge 35 hX 75 dX12_next_32 rfl (by decide) (fun hc => ?_) (fun hc => ?_)
  · have hres := it_t hc hres
    refine q_bipush 77 hX dX12_next_75 rfl kB_m2 ?_
    exact q_iret hX (eqi hq hres) dX12_next_77
  · have hres := it_f hc hres
    refine q_iload_n 36 hX 3 dX12_next_35 rfl rfl rfl ?_
    refine q_iload 38 hX 4 dX12_next_36 rfl rfl ?_
    refine q_iadd 39 hX dX12_next_38 rfl ?_
    refine q_bipush 41 hX dX12_next_39 rfl kB_12 ?_
    refine q_irem 42 hX dX12_next_41 rfl (by decide) ?_
    refine q_istoreB 44 (lv0 := [(0, .ref (ad X 55)), (1, .int x1), (2, .int x2), (3, .int x3), (4, .int x4)]) hX dX12_next_42 rfl (by decide) rfl hres (fun v1 hres => ?_)
    refine q_aload_n 45 hX 1 dX12_next_44 rfl rfl rfl ?_
    refine q_getR 48 hX ci12 lf_RX12_19 fR_55_3 dX12_next_45 rfl ?_
    refine q_iload 50 hX 0 dX12_next_48 rfl rfl ?_
    obtain ⟨hb2, hres⟩ := gd hres
    refine q_iald 51 hX rfl aF_59 hb2 dX12_next_50 rfl ?_
    refine q_iload_n 52 hX 2 dX12_next_51 rfl rfl rfl ?_
    refine q_icmp_ne 55 hX 69 dX12_next_52 rfl (by decide) (fun hc => ?_) (fun hc => ?_)
    · have hres := it_f hc hres
      refine q_iincB 72 5 (lv0 := [(5, .int v1), (0, .ref (ad X 55)), (1, .int x1), (2, .int x2), (3, .int x3)]) hX dX12_next_69 rfl rfl kI_1 (by decide) rfl hres (fun v3 hres => ?_)
      refine q_goto 28 hX dX12_next_72 (by decide) ?_
      exact q_sub [2, 3, 4, 5, 0] rfl (hrc28 _ _ _ _ _ hres)
    · have hres := it_t hc hres
      refine q_aload_n 56 hX 1 dX12_next_55 rfl rfl rfl ?_
      refine q_iload_n 57 hX 2 dX12_next_56 rfl rfl rfl ?_
      refine q_iload_n 58 hX 3 dX12_next_57 rfl rfl rfl ?_
      refine q_iload 60 hX 0 dX12_next_58 rfl rfl ?_
      obtain ⟨r5, S1, hk4, hres⟩ := ob hres
      refine q_callVi 63 (st := []) (As := [.int x1, .int x2, .int v1]) hX (cX12_isSeen9 hX.dj hk4) cv_RX12_149 ci12 oB_55 rfl (by decide) rfl (Nat.le_of_ble_eq_true rfl) dX12_next_60 rfl ?_
      refine q_if_eq 66 hX 69 dX12_next_63 rfl (by decide) (fun hc => ?_) (fun hc => ?_)
      · have hres := it_t hc hres
        refine q_iincB 72 5 (lv0 := [(5, .int v1), (0, .ref (ad X 55)), (1, .int x1), (2, .int x2), (3, .int x3)]) hX dX12_next_69 rfl rfl kI_1 (by decide) rfl hres (fun v6 hres => ?_)
        refine q_goto 28 hX dX12_next_72 (by decide) ?_
        exact q_sub [2, 3, 4, 5, 0] rfl (hrc28 _ _ _ _ _ hres)
      · have hres := it_f hc hres
        refine q_iload 68 hX 5 dX12_next_66 rfl rfl ?_
        exact q_iret hX (eqi hq hres) dX12_next_68
def fX12_next_28 : Nat → St → Int32 → Int32 → Int32 → Int32 → Option (Int32 × St)
  | 0 => fun _ _ _ _ _ => none
  | k + 1 => fun S x1 x2 x3 x4 => bX12_next_28 (fX12_next_28 k) S x1 x2 x3 x4
theorem wfX12_next_28 {X : CX} (hX : Ok RX12 cX12_next (some .int) 55 40 6 X) {rr : Int32 × St} (hq : rs X = (some (.int rr.1), rr.2)) (k : Nat) : ∀ (S : St) (x1 : Int32) (x2 : Int32) (x3 : Int32) (x4 : Int32), fX12_next_28 k S x1 x2 x3 x4 = some rr → Wat 55 40 2 6 X 28 [(0, .ref (ad X 55)), (1, .int x1), (2, .int x2), (3, .int x3), (4, .int x4)] [] S := by
  induction k with
  | zero => intro S x1 x2 x3 x4 hres; exact absurd hres (by simp [fX12_next_28])
  | succ k ih => intro S x1 x2 x3 x4 hres; exact wbX12_next_28 hX hq ih hres
def fX12_next (S : St) (x1 : Int32) (x2 : Int32) (x3 : Int32) : Option (Int32 × St) :=
  bi (fX12_isHouse S x1) fun r2 S1 => if r2 = 0 then (some ((-1 : Int32), S1)) else (bi (fX12_isThing S1 x2) fun r4 S2 => if r4 = 0 then (some ((-1 : Int32), S2)) else (bi (fX12_isTurn S2 x3) fun r6 S3 => if r6 = 0 then (some ((-1 : Int32), S3)) else (fX12_next_28 100 S3 x1 x2 x3 (0 : Int32))))
theorem wfX12_next {X : CX} (hX : Ok RX12 cX12_next (some .int) 55 40 6 X) {rr : Int32 × St} (hq : rs X = (some (.int rr.1), rr.2)) {S : St} {x1 : Int32} {x2 : Int32} {x3 : Int32} (hres : fX12_next S x1 x2 x3 = some rr) : Wat 55 40 2 6 X 0 [(0, .ref (ad X 55)), (1, .int x1), (2, .int x2), (3, .int x3)] [] S := by
  unfold fX12_next at hres
  refine q_aload_n 1 hX 0 dX12_next_0 rfl rfl rfl ?_
  refine q_iload_n 2 hX 1 dX12_next_1 rfl rfl rfl ?_
  obtain ⟨r2, S1, hk1, hres⟩ := ob hres
  refine q_callVi 5 (st := []) (As := [.int x1]) hX (cX12_isHouse9 hX.dj hk1) cv_RX12_159 ci12 oB_55 rfl (by decide) rfl (Nat.le_of_ble_eq_true rfl) dX12_next_2 rfl ?_
  refine q_if_eq 8 hX 23 dX12_next_5 rfl (by decide) (fun hc => ?_) (fun hc => ?_)
  · have hres := it_t hc hres
    refine q_iconst 24 hX dX12_next_23 rfl kI_m1 ?_
    exact q_iret hX (eqi hq hres) dX12_next_24
  · have hres := it_f hc hres
    refine q_aload_n 9 hX 0 dX12_next_8 rfl rfl rfl ?_
    refine q_iload_n 10 hX 2 dX12_next_9 rfl rfl rfl ?_
    obtain ⟨r4, S2, hk3, hres⟩ := ob hres
    refine q_callVi 13 (st := []) (As := [.int x2]) hX (cX12_isThing9 hX.dj hk3) cv_RX12_145 ci12 oB_55 rfl (by decide) rfl (Nat.le_of_ble_eq_true rfl) dX12_next_10 rfl ?_
    refine q_if_eq 16 hX 23 dX12_next_13 rfl (by decide) (fun hc => ?_) (fun hc => ?_)
    · have hres := it_t hc hres
      refine q_iconst 24 hX dX12_next_23 rfl kI_m1 ?_
      exact q_iret hX (eqi hq hres) dX12_next_24
    · have hres := it_f hc hres
      refine q_iload_n 17 hX 3 dX12_next_16 rfl rfl rfl ?_
      obtain ⟨r6, S3, hk5, hres⟩ := ob hres
      refine q_callSi 20 (st := []) (As := [.int x3]) hX (cX12_isTurn9 hX.dj hk5) cs_RX12_156 rfl (by decide) rfl (Nat.le_of_ble_eq_true rfl) dX12_next_17 rfl ?_
      refine q_if_ne 23 hX 25 dX12_next_20 rfl (by decide) (fun hc => ?_) (fun hc => ?_)
      · have hres := it_f hc hres
        refine q_iconst 26 hX dX12_next_25 rfl kI_0 ?_
        refine q_istore 28 (lv' := [(4, .int (0 : Int32)), (0, .ref (ad X 55)), (1, .int x1), (2, .int x2), (3, .int x3)]) hX dX12_next_26 rfl (by decide) rfl ?_
        exact q_sub [1, 2, 3, 4, 0] rfl (wfX12_next_28 hX hq _ _ _ _ _ _ hres)
      · have hres := it_t hc hres
        refine q_iconst 24 hX dX12_next_23 rfl kI_m1 ?_
        exact q_iret hX (eqi hq hres) dX12_next_24
theorem cX12_next9 {l : Launch} {w : WD} (hj : Dj w 55 40) {rr : Int32 × St} {S : St} {x1 : Int32} {x2 : Int32} {x3 : Int32} (hres : fX12_next S x1 x2 x3 = some rr) : Ct l yX12_next cX12_next 6 (some .int) 2 w 55 40 [.ref (w.1 55), .int x1, .int x2, .int x3] S (some (.int rr.1), rr.2) := by
  refine Ct.of (lv := [(0, .ref (w.1 55)), (1, .int x1), (2, .int x2), (3, .int x3)]) hj (by decide +kernel) (Nat.le_of_ble_eq_true rfl) rfl ?_
  rintro X rfl rfl hq hX
  exact wfX12_next hX hq hres
def fX12_light (S : St) (x1 : Int32) (x2 : Int32) : Option (Int32 × St) :=
  bi (fX12_isHouse S x1) fun r2 S1 => if r2 = 0 then (some ((-1 : Int32), S1)) else (bi (fX12_in S1 x2 (0 : Int32) (1 : Int32)) fun r4 S2 => if r4 = 0 then (some ((-1 : Int32), S2)) else (if x2 = 0 then (bi (fX12_lightOf S2 x1) fun r10 S5 => bi (fX12_bits S5 r10) fun r12 S6 => some (r12, S6)) else (bi (fX12_lightOf S2 x1) fun r6 S3 => bi (fX12_longestRow S3 r6) fun r8 S4 => some (r8, S4))))
theorem wfX12_light {X : CX} (hX : Ok RX12 cX12_light (some .int) 55 40 3 X) {rr : Int32 × St} (hq : rs X = (some (.int rr.1), rr.2)) {S : St} {x1 : Int32} {x2 : Int32} (hres : fX12_light S x1 x2 = some rr) : Wat 55 40 4 3 X 0 [(0, .ref (ad X 55)), (1, .int x1), (2, .int x2)] [] S := by
  unfold fX12_light at hres
  refine q_aload_n 1 hX 0 dX12_light_0 rfl rfl rfl ?_
  refine q_iload_n 2 hX 1 dX12_light_1 rfl rfl rfl ?_
  obtain ⟨r2, S1, hk1, hres⟩ := ob hres
  refine q_callVi 5 (st := []) (As := [.int x1]) hX (cX12_isHouse9 hX.dj hk1) cv_RX12_159 ci12 oB_55 rfl (by decide) rfl (Nat.le_of_ble_eq_true rfl) dX12_light_2 rfl ?_
  refine q_if_eq 8 hX 17 dX12_light_5 rfl (by decide) (fun hc => ?_) (fun hc => ?_)
  · have hres := it_t hc hres
    refine q_iconst 18 hX dX12_light_17 rfl kI_m1 ?_
    exact q_iret hX (eqi hq hres) dX12_light_18
  · have hres := it_f hc hres
    refine q_iload_n 9 hX 2 dX12_light_8 rfl rfl rfl ?_
    refine q_iconst 10 hX dX12_light_9 rfl kI_0 ?_
    refine q_iconst 11 hX dX12_light_10 rfl kI_1 ?_
    obtain ⟨r4, S2, hk3, hres⟩ := ob hres
    refine q_callSi 14 (st := []) (As := [.int x2, .int (0 : Int32), .int (1 : Int32)]) hX (cX12_in9 hX.dj hk3) cs_RX12_134 rfl (by decide) rfl (Nat.le_of_ble_eq_true rfl) dX12_light_11 rfl ?_
    refine q_if_ne 17 hX 19 dX12_light_14 rfl (by decide) (fun hc => ?_) (fun hc => ?_)
    · have hres := it_f hc hres
      refine q_iload_n 20 hX 2 dX12_light_19 rfl rfl rfl ?_
      refine q_if_ne 23 hX 34 dX12_light_20 rfl (by decide) (fun hc => ?_) (fun hc => ?_)
      · have hres := it_f hc hres
        refine q_aload_n 35 hX 0 dX12_light_34 rfl rfl rfl ?_
        refine q_iload_n 36 hX 1 dX12_light_35 rfl rfl rfl ?_
        obtain ⟨r6, S3, hk5, hres⟩ := ob hres
        refine q_callVi 39 (st := []) (As := [.int x1]) hX (cX12_lightOf9 hX.dj hk5) cv_RX12_384 ci12 oB_55 rfl (by decide) rfl (Nat.le_of_ble_eq_true rfl) dX12_light_36 rfl ?_
        obtain ⟨r8, S4, hk7, hres⟩ := ob hres
        refine q_callSi 42 (st := []) (As := [.int r6]) hX (cX12_longestRow9 hX.dj hk7) cs_RX12_365 rfl (by decide) rfl (Nat.le_of_ble_eq_true rfl) dX12_light_39 rfl ?_
        exact q_iret hX (eqi hq hres) dX12_light_42
      · have hres := it_t hc hres
        refine q_aload_n 24 hX 0 dX12_light_23 rfl rfl rfl ?_
        refine q_iload_n 25 hX 1 dX12_light_24 rfl rfl rfl ?_
        obtain ⟨r10, S5, hk9, hres⟩ := ob hres
        refine q_callVi 28 (st := []) (As := [.int x1]) hX (cX12_lightOf9 hX.dj hk9) cv_RX12_384 ci12 oB_55 rfl (by decide) rfl (Nat.le_of_ble_eq_true rfl) dX12_light_25 rfl ?_
        obtain ⟨r12, S6, hk11, hres⟩ := ob hres
        refine q_callSi 31 (st := []) (As := [.int r10]) hX (cX12_bits9 hX.dj hk11) cs_RX12_320 rfl (by decide) rfl (Nat.le_of_ble_eq_true rfl) dX12_light_28 rfl ?_
        refine q_goto 42 hX dX12_light_31 (by decide) ?_
        exact q_iret hX (eqi hq hres) dX12_light_42
    · have hres := it_t hc hres
      refine q_iconst 18 hX dX12_light_17 rfl kI_m1 ?_
      exact q_iret hX (eqi hq hres) dX12_light_18
theorem cX12_light9 {l : Launch} {w : WD} (hj : Dj w 55 40) {rr : Int32 × St} {S : St} {x1 : Int32} {x2 : Int32} (hres : fX12_light S x1 x2 = some rr) : Ct l yX12_light cX12_light 3 (some .int) 4 w 55 40 [.ref (w.1 55), .int x1, .int x2] S (some (.int rr.1), rr.2) := by
  refine Ct.of (lv := [(0, .ref (w.1 55)), (1, .int x1), (2, .int x2)]) hj (by decide +kernel) (Nat.le_of_ble_eq_true rfl) rfl ?_
  rintro X rfl rfl hq hX
  exact wfX12_light hX hq hres
