def bX12_seers_14 (rc14 : St → Int32 → Int32 → Int32 → Option (Int32 × St)) (S : St) (x1 : Int32) (x2 : Int32) (x3 : Int32) : Option (Int32 × St) :=
  if (16 : Int32) ≤ x3 then (some (x2, S)) else (bi (fX12_isHouse S x3) fun r2 S1 => if r2 = 0 then (bV (x3 + (1 : Int32)) fun v3 => rc14 S1 x1 x2 v3) else (bi (fX12_everSeenBy S1 x3) fun r5 S2 => bi (fX12_has S2 r5 x1) fun r7 S3 => if r7 = 0 then (bV (x3 + (1 : Int32)) fun v8 => rc14 S3 x1 x2 v8) else (bV ((x2 ||| ((1 : Int32) <<< (x3 &&& 31)))) fun v9 => bV (x3 + (1 : Int32)) fun v10 => rc14 S3 x1 v9 v10)))
theorem wbX12_seers_14 {X : CX} (hX : Ok RX12 cX12_seers (some .int) 55 40 4 X) {rr : Int32 × St} (hq : rs X = (some (.int rr.1), rr.2)) {rc14 : St → Int32 → Int32 → Int32 → Option (Int32 × St)} (hrc14 : ∀ (S : St) (x1 : Int32) (x2 : Int32) (x3 : Int32), rc14 S x1 x2 x3 = some rr → Wat 55 40 4 4 X 14 [(0, .ref (ad X 55)), (1, .int x1), (2, .int x2), (3, .int x3)] [] S) {S : St} {x1 : Int32} {x2 : Int32} {x3 : Int32} (hres : bX12_seers_14 rc14 S x1 x2 x3 = some rr) : Wat 55 40 4 4 X 14 [(0, .ref (ad X 55)), (1, .int x1), (2, .int x2), (3, .int x3)] [] S := by
  unfold bX12_seers_14 at hres
  refine q_iload_n 15 hX 3 dX12_seers_14 rfl rfl rfl ?_
  refine q_bipush 17 hX dX12_seers_15 rfl kB_16 ?_
  refine q_icmp_ge 20 hX 52 dX12_seers_17 rfl (by decide) (fun hc => ?_) (fun hc => ?_)
  · have hres := it_t hc hres
    refine q_iload_n 53 hX 2 dX12_seers_52 rfl rfl rfl ?_
    exact q_iret hX (eqi hq hres) dX12_seers_53
  · have hres := it_f hc hres
    refine q_aload_n 21 hX 0 dX12_seers_20 rfl rfl rfl ?_
    refine q_iload_n 22 hX 3 dX12_seers_21 rfl rfl rfl ?_
    obtain ⟨r2, S1, hk1, hres⟩ := ob hres
    refine q_callVi 25 (st := []) (As := [.int x3]) hX (cX12_isHouse9 hX.dj hk1) cv_RX12_159 ci12 oB_55 rfl (by decide) rfl (Nat.le_of_ble_eq_true rfl) dX12_seers_22 rfl ?_
    refine q_if_eq 28 hX 46 dX12_seers_25 rfl (by decide) (fun hc => ?_) (fun hc => ?_)
    · have hres := it_t hc hres
      refine q_iincB 49 3 (lv0 := [(0, .ref (ad X 55)), (1, .int x1), (2, .int x2)]) hX dX12_seers_46 rfl rfl kI_1 (by decide) rfl hres (fun v3 hres => ?_)
      refine q_goto 14 hX dX12_seers_49 (by decide) ?_
      exact q_sub [1, 2, 3, 0] rfl (hrc14 _ _ _ _ hres)
    · have hres := it_f hc hres
      refine q_aload_n 29 hX 0 dX12_seers_28 rfl rfl rfl ?_
      refine q_iload_n 30 hX 3 dX12_seers_29 rfl rfl rfl ?_
      obtain ⟨r5, S2, hk4, hres⟩ := ob hres
      refine q_callVi 33 (st := []) (As := [.int x3]) hX (cX12_everSeenBy9 hX.dj hk4) cv_RX12_374 ci12 oB_55 rfl (by decide) rfl (Nat.le_of_ble_eq_true rfl) dX12_seers_30 rfl ?_
      refine q_iload_n 34 hX 1 dX12_seers_33 rfl rfl rfl ?_
      obtain ⟨r7, S3, hk6, hres⟩ := ob hres
      refine q_callSi 37 (st := []) (As := [.int r5, .int x1]) hX (cX12_has9 hX.dj hk6) cs_RX12_130 rfl (by decide) rfl (Nat.le_of_ble_eq_true rfl) dX12_seers_34 rfl ?_
      refine q_if_eq 40 hX 46 dX12_seers_37 rfl (by decide) (fun hc => ?_) (fun hc => ?_)
      · have hres := it_t hc hres
        refine q_iincB 49 3 (lv0 := [(0, .ref (ad X 55)), (1, .int x1), (2, .int x2)]) hX dX12_seers_46 rfl rfl kI_1 (by decide) rfl hres (fun v8 hres => ?_)
        refine q_goto 14 hX dX12_seers_49 (by decide) ?_
        exact q_sub [1, 2, 3, 0] rfl (hrc14 _ _ _ _ hres)
      · have hres := it_f hc hres
        refine q_iload_n 41 hX 2 dX12_seers_40 rfl rfl rfl ?_
        refine q_iconst 42 hX dX12_seers_41 rfl kI_1 ?_
        refine q_iload_n 43 hX 3 dX12_seers_42 rfl rfl rfl ?_
        refine q_ishl 44 hX dX12_seers_43 rfl ?_
        refine q_ior 45 hX dX12_seers_44 rfl ?_
        refine q_istoreB_n 46 (lv0 := [(0, .ref (ad X 55)), (1, .int x1), (3, .int x3)]) hX dX12_seers_45 rfl rfl (by decide) rfl hres (fun v9 hres => ?_)
        refine q_iincB 49 3 (lv0 := [(2, .int v9), (0, .ref (ad X 55)), (1, .int x1)]) hX dX12_seers_46 rfl rfl kI_1 (by decide) rfl hres (fun v10 hres => ?_)
        refine q_goto 14 hX dX12_seers_49 (by decide) ?_
        exact q_sub [2, 3, 1, 0] rfl (hrc14 _ _ _ _ hres)
def fX12_seers_14 : Nat → St → Int32 → Int32 → Int32 → Option (Int32 × St)
  | 0 => fun _ _ _ _ => none
  | k + 1 => fun S x1 x2 x3 => bX12_seers_14 (fX12_seers_14 k) S x1 x2 x3
theorem wfX12_seers_14 {X : CX} (hX : Ok RX12 cX12_seers (some .int) 55 40 4 X) {rr : Int32 × St} (hq : rs X = (some (.int rr.1), rr.2)) (k : Nat) : ∀ (S : St) (x1 : Int32) (x2 : Int32) (x3 : Int32), fX12_seers_14 k S x1 x2 x3 = some rr → Wat 55 40 4 4 X 14 [(0, .ref (ad X 55)), (1, .int x1), (2, .int x2), (3, .int x3)] [] S := by
  induction k with
  | zero => intro S x1 x2 x3 hres; exact absurd hres (by simp [fX12_seers_14])
  | succ k ih => intro S x1 x2 x3 hres; exact wbX12_seers_14 hX hq ih hres
def fX12_seers (S : St) (x1 : Int32) : Option (Int32 × St) :=
  bi (fX12_isThing S x1) fun r2 S1 => if r2 = 0 then (some ((-1 : Int32), S1)) else (fX12_seers_14 100 S1 x1 (0 : Int32) (0 : Int32))
theorem wfX12_seers {X : CX} (hX : Ok RX12 cX12_seers (some .int) 55 40 4 X) {rr : Int32 × St} (hq : rs X = (some (.int rr.1), rr.2)) {S : St} {x1 : Int32} (hres : fX12_seers S x1 = some rr) : Wat 55 40 4 4 X 0 [(0, .ref (ad X 55)), (1, .int x1)] [] S := by
  unfold fX12_seers at hres
  refine q_aload_n 1 hX 0 dX12_seers_0 rfl rfl rfl ?_
  refine q_iload_n 2 hX 1 dX12_seers_1 rfl rfl rfl ?_
  obtain ⟨r2, S1, hk1, hres⟩ := ob hres
  refine q_callVi 5 (st := []) (As := [.int x1]) hX (cX12_isThing9 hX.dj hk1) cv_RX12_145 ci12 oB_55 rfl (by decide) rfl (Nat.le_of_ble_eq_true rfl) dX12_seers_2 rfl ?_
  refine q_if_ne 8 hX 10 dX12_seers_5 rfl (by decide) (fun hc => ?_) (fun hc => ?_)
  · have hres := it_f hc hres
    refine q_iconst 11 hX dX12_seers_10 rfl kI_0 ?_
    refine q_istore_n 12 (lv' := [(2, .int (0 : Int32)), (0, .ref (ad X 55)), (1, .int x1)]) hX dX12_seers_11 rfl rfl (by decide) rfl ?_
    refine q_iconst 13 hX dX12_seers_12 rfl kI_0 ?_
    refine q_istore_n 14 (lv' := [(3, .int (0 : Int32)), (2, .int (0 : Int32)), (0, .ref (ad X 55)), (1, .int x1)]) hX dX12_seers_13 rfl rfl (by decide) rfl ?_
    exact q_sub [2, 3, 1, 0] rfl (wfX12_seers_14 hX hq _ _ _ _ _ hres)
  · have hres := it_t hc hres
    refine q_iconst 9 hX dX12_seers_8 rfl kI_m1 ?_
    exact q_iret hX (eqi hq hres) dX12_seers_9
theorem cX12_seers9 {l : Launch} {w : WD} (hj : Dj w 55 40) {rr : Int32 × St} {S : St} {x1 : Int32} (hres : fX12_seers S x1 = some rr) : Ct l yX12_seers cX12_seers 4 (some .int) 4 w 55 40 [.ref (w.1 55), .int x1] S (some (.int rr.1), rr.2) := by
  refine Ct.of (lv := [(0, .ref (w.1 55)), (1, .int x1)]) hj (by decide +kernel) (Nat.le_of_ble_eq_true rfl) rfl ?_
  rintro X rfl rfl hq hX
  exact wfX12_seers hX hq hres
def fX12_changesTurns (S : St) (x1 : Int32) (x2 : Int32) : Option (St) :=
  if inb x1 12 = true then bV ((S.1 59 (x1.toNatClampNeg))) fun v2 => if inb x2 12 = true then if inb x1 12 = true then bS (pI S 59 (x1.toNatClampNeg) (S.1 59 (x2.toNatClampNeg))) fun S1 => if inb x2 12 = true then bS (pI S1 59 (x2.toNatClampNeg) v2) fun S2 => some S2 else none else none else none else none
theorem wfX12_changesTurns {X : CX} (hX : Ok RX12 cX12_changesTurns none 55 40 4 X) {rr : St} (hq : rs X = (none, rr)) {S : St} {x1 : Int32} {x2 : Int32} (hres : fX12_changesTurns S x1 x2 = some rr) : Wat 55 40 0 4 X 0 [(0, .ref (ad X 55)), (1, .int x1), (2, .int x2)] [] S := by
  unfold fX12_changesTurns at hres
  refine q_aload_n 1 hX 0 dX12_changesTurns_0 rfl rfl rfl ?_
  refine q_getR 4 hX ci12 lf_RX12_19 fR_55_3 dX12_changesTurns_1 rfl ?_
  refine q_iload_n 5 hX 1 dX12_changesTurns_4 rfl rfl rfl ?_
  obtain ⟨hb1, hres⟩ := gd hres
  refine q_iald 6 hX rfl aF_59 hb1 dX12_changesTurns_5 rfl ?_
  refine q_istoreB_n 7 (lv0 := [(0, .ref (ad X 55)), (1, .int x1), (2, .int x2)]) hX dX12_changesTurns_6 rfl rfl (by decide) rfl hres (fun v2 hres => ?_)
  refine q_aload_n 8 hX 1 dX12_changesTurns_7 rfl rfl rfl ?_
  refine q_getR 11 hX ci12 lf_RX12_19 fR_55_3 dX12_changesTurns_8 rfl ?_
  refine q_iload_n 12 hX 2 dX12_changesTurns_11 rfl rfl rfl ?_
  refine q_aload_n 13 hX 1 dX12_changesTurns_12 rfl rfl rfl ?_
  refine q_getR 16 hX ci12 lf_RX12_19 fR_55_3 dX12_changesTurns_13 rfl ?_
  refine q_iload_n 17 hX 3 dX12_changesTurns_16 rfl rfl rfl ?_
  obtain ⟨hb3, hres⟩ := gd hres
  refine q_iald 18 hX rfl aF_59 hb3 dX12_changesTurns_17 rfl ?_
  obtain ⟨hb4, hres⟩ := gd hres
  refine q_iast 19 hX rfl aF_59 hb4 dX12_changesTurns_18 rfl ?_
  refine q_bS hres (fun S1 _ hres => ?_)
  refine q_aload_n 20 hX 1 dX12_changesTurns_19 rfl rfl rfl ?_
  refine q_getR 23 hX ci12 lf_RX12_19 fR_55_3 dX12_changesTurns_20 rfl ?_
  refine q_iload_n 24 hX 3 dX12_changesTurns_23 rfl rfl rfl ?_
  refine q_iload_n 25 hX 0 dX12_changesTurns_24 rfl rfl rfl ?_
  obtain ⟨hb5, hres⟩ := gd hres
  refine q_iast 26 hX rfl aF_59 hb5 dX12_changesTurns_25 rfl ?_
  refine q_bS hres (fun S2 _ hres => ?_)
  exact q_vret hX (eqv hq hres) dX12_changesTurns_26
theorem cX12_changesTurns9 {l : Launch} {w : WD} (hj : Dj w 55 40) {rr : St} {S : St} {x1 : Int32} {x2 : Int32} (hres : fX12_changesTurns S x1 x2 = some rr) : Ct l yX12_changesTurns cX12_changesTurns 4 none 0 w 55 40 [.ref (w.1 55), .int x1, .int x2] S (none, rr) := by
  refine Ct.of (lv := [(0, .ref (w.1 55)), (1, .int x1), (2, .int x2)]) hj (by decide +kernel) (Nat.le_of_ble_eq_true rfl) rfl ?_
  rintro X rfl rfl hq hX
  exact wfX12_changesTurns hX hq hres
def fX12_ifSwapped (S : St) (x1 : Int32) (x2 : Int32) : Option (Int32 × St) :=
  bi (fX12_isTurn S x1) fun r2 S1 => if r2 = 0 then (some ((-1 : Int32), S1)) else (bi (fX12_isTurn S1 x2) fun r4 S2 => if r4 = 0 then (some ((-1 : Int32), S2)) else (bv (fX12_changesTurns S2 x1 x2) fun S3 => bi (fX12_wayOf S3 (0 : Int32)) fun r7 S4 => bv (fX12_changesTurns S4 x1 x2) fun S5 => some (r7, S5)))
theorem wfX12_ifSwapped {X : CX} (hX : Ok RX12 cX12_ifSwapped (some .int) 55 40 4 X) {rr : Int32 × St} (hq : rs X = (some (.int rr.1), rr.2)) {S : St} {x1 : Int32} {x2 : Int32} (hres : fX12_ifSwapped S x1 x2 = some rr) : Wat 55 40 2 4 X 0 [(0, .ref (ad X 55)), (1, .int x1), (2, .int x2)] [] S := by
  unfold fX12_ifSwapped at hres
  refine q_iload_n 1 hX 1 dX12_ifSwapped_0 rfl rfl rfl ?_
  obtain ⟨r2, S1, hk1, hres⟩ := ob hres
  refine q_callSi 4 (st := []) (As := [.int x1]) hX (cX12_isTurn9 hX.dj hk1) cs_RX12_156 rfl (by decide) rfl (Nat.le_of_ble_eq_true rfl) dX12_ifSwapped_1 rfl ?_
  refine q_if_eq 7 hX 14 dX12_ifSwapped_4 rfl (by decide) (fun hc => ?_) (fun hc => ?_)
  · have hres := it_t hc hres
    refine q_iconst 15 hX dX12_ifSwapped_14 rfl kI_m1 ?_
    exact q_iret hX (eqi hq hres) dX12_ifSwapped_15
  · have hres := it_f hc hres
    refine q_iload_n 8 hX 2 dX12_ifSwapped_7 rfl rfl rfl ?_
    obtain ⟨r4, S2, hk3, hres⟩ := ob hres
    refine q_callSi 11 (st := []) (As := [.int x2]) hX (cX12_isTurn9 hX.dj hk3) cs_RX12_156 rfl (by decide) rfl (Nat.le_of_ble_eq_true rfl) dX12_ifSwapped_8 rfl ?_
    refine q_if_ne 14 hX 16 dX12_ifSwapped_11 rfl (by decide) (fun hc => ?_) (fun hc => ?_)
    · have hres := it_f hc hres
      refine q_aload_n 17 hX 0 dX12_ifSwapped_16 rfl rfl rfl ?_
      refine q_iload_n 18 hX 1 dX12_ifSwapped_17 rfl rfl rfl ?_
      refine q_iload_n 19 hX 2 dX12_ifSwapped_18 rfl rfl rfl ?_
      obtain ⟨S3, hk5, hres⟩ := obv hres
      refine q_callVv 22 (st := []) (As := [.int x1, .int x2]) hX (cX12_changesTurns9 hX.dj hk5) cv_RX12_387 ci12 oB_55 rfl (by decide) rfl (Nat.le_of_ble_eq_true rfl) dX12_ifSwapped_19 rfl ?_
      refine q_aload_n 23 hX 0 dX12_ifSwapped_22 rfl rfl rfl ?_
      refine q_iconst 24 hX dX12_ifSwapped_23 rfl kI_0 ?_
      obtain ⟨r7, S4, hk6, hres⟩ := ob hres
      refine q_callVi 27 (st := []) (As := [.int (0 : Int32)]) hX (cX12_wayOf9 hX.dj hk6) cv_RX12_377 ci12 oB_55 rfl (by decide) rfl (Nat.le_of_ble_eq_true rfl) dX12_ifSwapped_24 rfl ?_
      refine q_istore_n 28 (lv' := [(3, .int r7), (0, .ref (ad X 55)), (1, .int x1), (2, .int x2)]) hX dX12_ifSwapped_27 rfl rfl (by decide) rfl ?_
      refine q_aload_n 29 hX 1 dX12_ifSwapped_28 rfl rfl rfl ?_
      refine q_iload_n 30 hX 2 dX12_ifSwapped_29 rfl rfl rfl ?_
      refine q_iload_n 31 hX 3 dX12_ifSwapped_30 rfl rfl rfl ?_
      obtain ⟨S5, hk8, hres⟩ := obv hres
      refine q_callVv 34 (st := []) (As := [.int x1, .int x2]) hX (cX12_changesTurns9 hX.dj hk8) cv_RX12_387 ci12 oB_55 rfl (by decide) rfl (Nat.le_of_ble_eq_true rfl) dX12_ifSwapped_31 rfl ?_
      refine q_iload_n 35 hX 0 dX12_ifSwapped_34 rfl rfl rfl ?_
      exact q_iret hX (eqi hq hres) dX12_ifSwapped_35
    · have hres := it_t hc hres
      refine q_iconst 15 hX dX12_ifSwapped_14 rfl kI_m1 ?_
      exact q_iret hX (eqi hq hres) dX12_ifSwapped_15
theorem cX12_ifSwapped9 {l : Launch} {w : WD} (hj : Dj w 55 40) {rr : Int32 × St} {S : St} {x1 : Int32} {x2 : Int32} (hres : fX12_ifSwapped S x1 x2 = some rr) : Ct l yX12_ifSwapped cX12_ifSwapped 4 (some .int) 2 w 55 40 [.ref (w.1 55), .int x1, .int x2] S (some (.int rr.1), rr.2) := by
  refine Ct.of (lv := [(0, .ref (w.1 55)), (1, .int x1), (2, .int x2)]) hj (by decide +kernel) (Nat.le_of_ble_eq_true rfl) rfl ?_
  rintro X rfl rfl hq hX
  exact wfX12_ifSwapped hX hq hres
def bX12_spread_7 (rc7 : St → Int32 → Int32 → Int32 → Option (Int32 × St)) (S : St) (x1 : Int32) (x2 : Int32) (x3 : Int32) : Option (Int32 × St) :=
  if (16 : Int32) ≤ x3 then (if (S.1 55 8) = 0 then (some ((0 : Int32), S)) else (some ((x1 - x2), S))) else (bi (fX12_isHouse S x3) fun r2 S1 => if r2 = 0 then (bV (x3 + (1 : Int32)) fun v12 => rc7 S1 x1 x2 v12) else (bi (fX12_turnsOf S1 x3) fun r4 S2 => bi (fX12_max S2 x1 r4) fun r6 S3 => bi (fX12_turnsOf S3 x3) fun r8 S4 => bi (fX12_min S4 x2 r8) fun r10 S5 => bV (x3 + (1 : Int32)) fun v11 => rc7 S5 r6 r10 v11))
theorem wbX12_spread_7 {X : CX} (hX : Ok RX12 cX12_spread (some .int) 55 40 4 X) {rr : Int32 × St} (hq : rs X = (some (.int rr.1), rr.2)) {rc7 : St → Int32 → Int32 → Int32 → Option (Int32 × St)} (hrc7 : ∀ (S : St) (x1 : Int32) (x2 : Int32) (x3 : Int32), rc7 S x1 x2 x3 = some rr → Wat 55 40 2 4 X 7 [(0, .ref (ad X 55)), (1, .int x1), (2, .int x2), (3, .int x3)] [] S) {S : St} {x1 : Int32} {x2 : Int32} {x3 : Int32} (hres : bX12_spread_7 rc7 S x1 x2 x3 = some rr) : Wat 55 40 2 4 X 7 [(0, .ref (ad X 55)), (1, .int x1), (2, .int x2), (3, .int x3)] [] S := by
  unfold bX12_spread_7 at hres
  refine q_iload_n 8 hX 3 dX12_spread_7 rfl rfl rfl ?_
  refine q_bipush 10 hX dX12_spread_8 rfl kB_16 ?_
  refine q_icmp_ge 13 hX 50 dX12_spread_10 rfl (by decide) (fun hc => ?_) (fun hc => ?_)
  · have hres := it_t hc hres
    refine q_aload_n 51 hX 0 dX12_spread_50 rfl rfl rfl ?_
    refine q_getI 54 hX ci12 lf_RX12_138 fI_55_8 dX12_spread_51 rfl ?_
    refine q_if_ne 57 hX 61 dX12_spread_54 rfl (by decide) (fun hc => ?_) (fun hc => ?_)
    · have hres := it_f hc hres
      refine q_iload_n 62 hX 1 dX12_spread_61 rfl rfl rfl ?_
      refine q_iload_n 63 hX 2 dX12_spread_62 rfl rfl rfl ?_
      refine q_isub 64 hX dX12_spread_63 rfl ?_
      exact q_iret hX (eqi hq hres) dX12_spread_64
    · have hres := it_t hc hres
      refine q_iconst 58 hX dX12_spread_57 rfl kI_0 ?_
      refine q_goto 64 hX dX12_spread_58 (by decide) ?_
      exact q_iret hX (eqi hq hres) dX12_spread_64
  · have hres := it_f hc hres
    refine q_aload_n 14 hX 0 dX12_spread_13 rfl rfl rfl ?_
    refine q_iload_n 15 hX 3 dX12_spread_14 rfl rfl rfl ?_
    obtain ⟨r2, S1, hk1, hres⟩ := ob hres
    refine q_callVi 18 (st := []) (As := [.int x3]) hX (cX12_isHouse9 hX.dj hk1) cv_RX12_159 ci12 oB_55 rfl (by decide) rfl (Nat.le_of_ble_eq_true rfl) dX12_spread_15 rfl ?_
    refine q_if_ne 21 hX 24 dX12_spread_18 rfl (by decide) (fun hc => ?_) (fun hc => ?_)
    · have hres := it_f hc hres
      refine q_iload_n 25 hX 1 dX12_spread_24 rfl rfl rfl ?_
      refine q_aload_n 26 hX 0 dX12_spread_25 rfl rfl rfl ?_
      refine q_iload_n 27 hX 3 dX12_spread_26 rfl rfl rfl ?_
      obtain ⟨r4, S2, hk3, hres⟩ := ob hres
      refine q_callVi 30 (st := [.int x1]) (As := [.int x3]) hX (cX12_turnsOf9 hX.dj hk3) cv_RX12_368 ci12 oB_55 rfl (by decide) rfl (Nat.le_of_ble_eq_true rfl) dX12_spread_27 rfl ?_
      obtain ⟨r6, S3, hk5, hres⟩ := ob hres
      refine q_callSi 33 (st := []) (As := [.int x1, .int r4]) hX (cX12_max9 hX.dj hk5) cs_RX12_362 rfl (by decide) rfl (Nat.le_of_ble_eq_true rfl) dX12_spread_30 rfl ?_
      refine q_istore_n 34 (lv' := [(1, .int r6), (0, .ref (ad X 55)), (2, .int x2), (3, .int x3)]) hX dX12_spread_33 rfl rfl (by decide) rfl ?_
      refine q_iload_n 35 hX 2 dX12_spread_34 rfl rfl rfl ?_
      refine q_aload_n 36 hX 1 dX12_spread_35 rfl rfl rfl ?_
      refine q_iload_n 37 hX 3 dX12_spread_36 rfl rfl rfl ?_
      obtain ⟨r8, S4, hk7, hres⟩ := ob hres
      refine q_callVi 40 (st := [.int x2]) (As := [.int x3]) hX (cX12_turnsOf9 hX.dj hk7) cv_RX12_368 ci12 oB_55 rfl (by decide) rfl (Nat.le_of_ble_eq_true rfl) dX12_spread_37 rfl ?_
      obtain ⟨r10, S5, hk9, hres⟩ := ob hres
      refine q_callSi 43 (st := []) (As := [.int x2, .int r8]) hX (cX12_min9 hX.dj hk9) cs_RX12_333 rfl (by decide) rfl (Nat.le_of_ble_eq_true rfl) dX12_spread_40 rfl ?_
      refine q_istore_n 44 (lv' := [(2, .int r10), (1, .int r6), (0, .ref (ad X 55)), (3, .int x3)]) hX dX12_spread_43 rfl rfl (by decide) rfl ?_
      refine q_iincB 47 3 (lv0 := [(2, .int r10), (1, .int r6), (0, .ref (ad X 55))]) hX dX12_spread_44 rfl rfl kI_1 (by decide) rfl hres (fun v11 hres => ?_)
      refine q_goto 7 hX dX12_spread_47 (by decide) ?_
      exact q_sub [3, 2, 1, 0] rfl (hrc7 _ _ _ _ hres)
    · have hres := it_t hc hres
      refine q_goto 44 hX dX12_spread_21 (by decide) ?_
      refine q_iincB 47 3 (lv0 := [(0, .ref (ad X 55)), (1, .int x1), (2, .int x2)]) hX dX12_spread_44 rfl rfl kI_1 (by decide) rfl hres (fun v12 hres => ?_)
      refine q_goto 7 hX dX12_spread_47 (by decide) ?_
      exact q_sub [1, 2, 3, 0] rfl (hrc7 _ _ _ _ hres)
def fX12_spread_7 : Nat → St → Int32 → Int32 → Int32 → Option (Int32 × St)
  | 0 => fun _ _ _ _ => none
  | k + 1 => fun S x1 x2 x3 => bX12_spread_7 (fX12_spread_7 k) S x1 x2 x3
theorem wfX12_spread_7 {X : CX} (hX : Ok RX12 cX12_spread (some .int) 55 40 4 X) {rr : Int32 × St} (hq : rs X = (some (.int rr.1), rr.2)) (k : Nat) : ∀ (S : St) (x1 : Int32) (x2 : Int32) (x3 : Int32), fX12_spread_7 k S x1 x2 x3 = some rr → Wat 55 40 2 4 X 7 [(0, .ref (ad X 55)), (1, .int x1), (2, .int x2), (3, .int x3)] [] S := by
  induction k with
  | zero => intro S x1 x2 x3 hres; exact absurd hres (by simp [fX12_spread_7])
  | succ k ih => intro S x1 x2 x3 hres; exact wbX12_spread_7 hX hq ih hres
def fX12_spread (S : St) : Option (Int32 × St) :=
  fX12_spread_7 100 S (0 : Int32) (12 : Int32) (0 : Int32)
theorem wfX12_spread {X : CX} (hX : Ok RX12 cX12_spread (some .int) 55 40 4 X) {rr : Int32 × St} (hq : rs X = (some (.int rr.1), rr.2)) {S : St} (hres : fX12_spread S = some rr) : Wat 55 40 2 4 X 0 [(0, .ref (ad X 55))] [] S := by
  unfold fX12_spread at hres
  refine q_iconst 1 hX dX12_spread_0 rfl kI_0 ?_
  refine q_istore_n 2 (lv' := [(1, .int (0 : Int32)), (0, .ref (ad X 55))]) hX dX12_spread_1 rfl rfl (by decide) rfl ?_
  refine q_bipush 4 hX dX12_spread_2 rfl kB_12 ?_
  refine q_istore_n 5 (lv' := [(2, .int (12 : Int32)), (1, .int (0 : Int32)), (0, .ref (ad X 55))]) hX dX12_spread_4 rfl rfl (by decide) rfl ?_
  refine q_iconst 6 hX dX12_spread_5 rfl kI_0 ?_
  refine q_istore_n 7 (lv' := [(3, .int (0 : Int32)), (2, .int (12 : Int32)), (1, .int (0 : Int32)), (0, .ref (ad X 55))]) hX dX12_spread_6 rfl rfl (by decide) rfl ?_
  exact q_sub [3, 2, 1, 0] rfl (wfX12_spread_7 hX hq _ _ _ _ _ hres)
theorem cX12_spread9 {l : Launch} {w : WD} (hj : Dj w 55 40) {rr : Int32 × St} {S : St} (hres : fX12_spread S = some rr) : Ct l yX12_spread cX12_spread 4 (some .int) 2 w 55 40 [.ref (w.1 55)] S (some (.int rr.1), rr.2) := by
  refine Ct.of (lv := [(0, .ref (w.1 55))]) hj (by decide +kernel) (Nat.le_of_ble_eq_true rfl) rfl ?_
  rintro X rfl rfl hq hX
  exact wfX12_spread hX hq hres
def bX12_readersOf_5 (rc5 : St → Int32 → Int32 → Int32 → Int32 → Option (Int32 × St)) (S : St) (x1 : Int32) (x2 : Int32) (x3 : Int32) (x4 : Int32) : Option (Int32 × St) :=
  if x2 < x4 then (some (x3, S)) else (bV (((x1 + x4) - (x1 + x4) / (12 : Int32) * (12 : Int32))) fun v1 => if inb v1 12 = true then if (S.1 59 (v1.toNatClampNeg)) = (-1 : Int32) then (bV (x4 + (1 : Int32)) fun v9 => rc5 S x1 x2 x3 v9) else (if inb v1 12 = true then bV ((x3 ||| ((1 : Int32) <<< ((S.1 59 (v1.toNatClampNeg)) &&& 31)))) fun v4 => if inb v1 12 = true then bi (fX12_seenBy S (S.1 59 (v1.toNatClampNeg)) v1) fun r7 S1 => if r7 = 0 then (some (v4, S1)) else (bV (x4 + (1 : Int32)) fun v8 => rc5 S1 x1 x2 v4 v8) else none else none) else none)
theorem wbX12_readersOf_5 {X : CX} (hX : Ok RX12 cX12_readersOf (some .int) 55 40 6 X) {rr : Int32 × St} (hq : rs X = (some (.int rr.1), rr.2)) {rc5 : St → Int32 → Int32 → Int32 → Int32 → Option (Int32 × St)} (hrc5 : ∀ (S : St) (x1 : Int32) (x2 : Int32) (x3 : Int32) (x4 : Int32), rc5 S x1 x2 x3 x4 = some rr → Wat 55 40 3 6 X 5 [(0, .ref (ad X 55)), (1, .int x1), (2, .int x2), (3, .int x3), (4, .int x4)] [] S) {S : St} {x1 : Int32} {x2 : Int32} {x3 : Int32} {x4 : Int32} (hres : bX12_readersOf_5 rc5 S x1 x2 x3 x4 = some rr) : Wat 55 40 3 6 X 5 [(0, .ref (ad X 55)), (1, .int x1), (2, .int x2), (3, .int x3), (4, .int x4)] [] S := by
  unfold bX12_readersOf_5 at hres
  refine q_iload 7 hX 4 dX12_readersOf_5 rfl rfl ?_
  refine q_iload_n 8 hX 2 dX12_readersOf_7 rfl rfl rfl ?_
  refine q_icmp_gt 11 hX 70 dX12_readersOf_8 rfl (by decide) (fun hc => ?_) (fun hc => ?_)
  · have hres := it_t hc hres
    refine q_iload_n 71 hX 3 dX12_readersOf_70 rfl rfl rfl ?_
    exact q_iret hX (eqi hq hres) dX12_readersOf_71
  · have hres := it_f hc hres
    refine q_iload_n 12 hX 1 dX12_readersOf_11 rfl rfl rfl ?_
    refine q_iload 14 hX 4 dX12_readersOf_12 rfl rfl ?_
    refine q_iadd 15 hX dX12_readersOf_14 rfl ?_
    refine q_bipush 17 hX dX12_readersOf_15 rfl kB_12 ?_
    refine q_irem 18 hX dX12_readersOf_17 rfl (by decide) ?_
    refine q_istoreB 20 (lv0 := [(0, .ref (ad X 55)), (1, .int x1), (2, .int x2), (3, .int x3), (4, .int x4)]) hX dX12_readersOf_18 rfl (by decide) rfl hres (fun v1 hres => ?_)
    refine q_aload_n 21 hX 1 dX12_readersOf_20 rfl rfl rfl ?_
    refine q_getR 24 hX ci12 lf_RX12_19 fR_55_3 dX12_readersOf_21 rfl ?_
    refine q_iload 26 hX 0 dX12_readersOf_24 rfl rfl ?_
    obtain ⟨hb2, hres⟩ := gd hres
    refine q_iald 27 hX rfl aF_59 hb2 dX12_readersOf_26 rfl ?_
    refine q_iconst 28 hX dX12_readersOf_27 rfl kI_m1 ?_
    refine q_icmp_ne 31 hX 34 dX12_readersOf_28 rfl (by decide) (fun hc => ?_) (fun hc => ?_)
    · have hres := it_f hc hres
      refine q_iload_n 35 hX 4 dX12_readersOf_34 rfl rfl rfl ?_
      refine q_iconst 36 hX dX12_readersOf_35 rfl kI_1 ?_
      refine q_aload_n 37 hX 1 dX12_readersOf_36 rfl rfl rfl ?_
      refine q_getR 40 hX ci12 lf_RX12_19 fR_55_3 dX12_readersOf_37 rfl ?_
      refine q_iload 42 hX 0 dX12_readersOf_40 rfl rfl ?_
      obtain ⟨hb3, hres⟩ := gd hres
      refine q_iald 43 hX rfl aF_59 hb3 dX12_readersOf_42 rfl ?_
      refine q_ishl 44 hX dX12_readersOf_43 rfl ?_
      refine q_ior 45 hX dX12_readersOf_44 rfl ?_
      refine q_istoreB_n 46 (lv0 := [(5, .int v1), (0, .ref (ad X 55)), (1, .int x1), (2, .int x2), (4, .int x4)]) hX dX12_readersOf_45 rfl rfl (by decide) rfl hres (fun v4 hres => ?_)
      refine q_aload_n 47 hX 2 dX12_readersOf_46 rfl rfl rfl ?_
      refine q_aload_n 48 hX 2 dX12_readersOf_47 rfl rfl rfl ?_
      refine q_getR 51 hX ci12 lf_RX12_19 fR_55_3 dX12_readersOf_48 rfl ?_
      refine q_iload 53 hX 1 dX12_readersOf_51 rfl rfl ?_
      obtain ⟨hb5, hres⟩ := gd hres
      refine q_iald 54 hX rfl aF_59 hb5 dX12_readersOf_53 rfl ?_
      refine q_iload 56 hX 1 dX12_readersOf_54 rfl rfl ?_
      obtain ⟨r7, S1, hk6, hres⟩ := ob hres
      refine q_callVi 59 (st := []) (As := [.int (S.1 59 (v1.toNatClampNeg)), .int v1]) hX (cX12_seenBy9 hX.dj hk6) cv_RX12_152 ci12 oB_55 rfl (by decide) rfl (Nat.le_of_ble_eq_true rfl) dX12_readersOf_56 rfl ?_
      refine q_if_ne 62 hX 64 dX12_readersOf_59 rfl (by decide) (fun hc => ?_) (fun hc => ?_)
      · have hres := it_f hc hres
        refine q_iincB 67 5 (lv0 := [(3, .int v4), (5, .int v1), (0, .ref (ad X 55)), (1, .int x1), (2, .int x2)]) hX dX12_readersOf_64 rfl rfl kI_1 (by decide) rfl hres (fun v8 hres => ?_)
        refine q_goto 5 hX dX12_readersOf_67 (by decide) ?_
        exact q_sub [3, 4, 5, 1, 0] rfl (hrc5 _ _ _ _ _ hres)
      · have hres := it_t hc hres
        refine q_iload_n 63 hX 0 dX12_readersOf_62 rfl rfl rfl ?_
        exact q_iret hX (eqi hq hres) dX12_readersOf_63
    · have hres := it_t hc hres
      refine q_goto 64 hX dX12_readersOf_31 (by decide) ?_
      refine q_iincB 67 5 (lv0 := [(5, .int v1), (0, .ref (ad X 55)), (1, .int x1), (2, .int x2), (3, .int x3)]) hX dX12_readersOf_64 rfl rfl kI_1 (by decide) rfl hres (fun v9 hres => ?_)
      refine q_goto 5 hX dX12_readersOf_67 (by decide) ?_
      exact q_sub [2, 3, 4, 5, 0] rfl (hrc5 _ _ _ _ _ hres)
def fX12_readersOf_5 : Nat → St → Int32 → Int32 → Int32 → Int32 → Option (Int32 × St)
  | 0 => fun _ _ _ _ _ => none
  | k + 1 => fun S x1 x2 x3 x4 => bX12_readersOf_5 (fX12_readersOf_5 k) S x1 x2 x3 x4
theorem wfX12_readersOf_5 {X : CX} (hX : Ok RX12 cX12_readersOf (some .int) 55 40 6 X) {rr : Int32 × St} (hq : rs X = (some (.int rr.1), rr.2)) (k : Nat) : ∀ (S : St) (x1 : Int32) (x2 : Int32) (x3 : Int32) (x4 : Int32), fX12_readersOf_5 k S x1 x2 x3 x4 = some rr → Wat 55 40 3 6 X 5 [(0, .ref (ad X 55)), (1, .int x1), (2, .int x2), (3, .int x3), (4, .int x4)] [] S := by
  induction k with
  | zero => intro S x1 x2 x3 x4 hres; exact absurd hres (by simp [fX12_readersOf_5])
  | succ k ih => intro S x1 x2 x3 x4 hres; exact wbX12_readersOf_5 hX hq ih hres
def fX12_readersOf (S : St) (x1 : Int32) (x2 : Int32) : Option (Int32 × St) :=
  fX12_readersOf_5 100 S x1 x2 (0 : Int32) (1 : Int32)
theorem wfX12_readersOf {X : CX} (hX : Ok RX12 cX12_readersOf (some .int) 55 40 6 X) {rr : Int32 × St} (hq : rs X = (some (.int rr.1), rr.2)) {S : St} {x1 : Int32} {x2 : Int32} (hres : fX12_readersOf S x1 x2 = some rr) : Wat 55 40 3 6 X 0 [(0, .ref (ad X 55)), (1, .int x1), (2, .int x2)] [] S := by
  unfold fX12_readersOf at hres
  refine q_iconst 1 hX dX12_readersOf_0 rfl kI_0 ?_
  refine q_istore_n 2 (lv' := [(3, .int (0 : Int32)), (0, .ref (ad X 55)), (1, .int x1), (2, .int x2)]) hX dX12_readersOf_1 rfl rfl (by decide) rfl ?_
  refine q_iconst 3 hX dX12_readersOf_2 rfl kI_1 ?_
  refine q_istore 5 (lv' := [(4, .int (1 : Int32)), (3, .int (0 : Int32)), (0, .ref (ad X 55)), (1, .int x1), (2, .int x2)]) hX dX12_readersOf_3 rfl (by decide) rfl ?_
  exact q_sub [2, 3, 4, 1, 0] rfl (wfX12_readersOf_5 hX hq _ _ _ _ _ _ hres)
theorem cX12_readersOf9 {l : Launch} {w : WD} (hj : Dj w 55 40) {rr : Int32 × St} {S : St} {x1 : Int32} {x2 : Int32} (hres : fX12_readersOf S x1 x2 = some rr) : Ct l yX12_readersOf cX12_readersOf 6 (some .int) 3 w 55 40 [.ref (w.1 55), .int x1, .int x2] S (some (.int rr.1), rr.2) := by
  refine Ct.of (lv := [(0, .ref (w.1 55)), (1, .int x1), (2, .int x2)]) hj (by decide +kernel) (Nat.le_of_ble_eq_true rfl) rfl ?_
  rintro X rfl rfl hq hX
  exact wfX12_readersOf hX hq hres
def fX12_readers_26 (S : St) : Option (Int32 × St) :=
  some ((-1 : Int32), S)
theorem wfX12_readers_26 {X : CX} (hX : Ok RX12 cX12_readers (some .int) 55 40 3 X) {rr : Int32 × St} (hq : rs X = (some (.int rr.1), rr.2)) {S : St} (hres : fX12_readers_26 S = some rr) : Wat 55 40 4 3 X 26 [] [] S := by
  unfold fX12_readers_26 at hres
  refine q_iconst 27 hX dX12_readers_26 rfl kI_m1 ?_
  exact q_iret hX (eqi hq hres) dX12_readers_27
def fX12_readers (S : St) (x1 : Int32) (x2 : Int32) : Option (Int32 × St) :=
  bi (fX12_isTurn S x1) fun r2 S1 => if r2 = 0 then (fX12_readers_26 S1) else (bi (fX12_in S1 x2 (0 : Int32) (12 : Int32)) fun r4 S2 => if r4 = 0 then (fX12_readers_26 S2) else (bi (fX12_readersOf S2 x1 x2) fun r6 S3 => some (r6, S3)))
theorem wfX12_readers {X : CX} (hX : Ok RX12 cX12_readers (some .int) 55 40 3 X) {rr : Int32 × St} (hq : rs X = (some (.int rr.1), rr.2)) {S : St} {x1 : Int32} {x2 : Int32} (hres : fX12_readers S x1 x2 = some rr) : Wat 55 40 4 3 X 0 [(0, .ref (ad X 55)), (1, .int x1), (2, .int x2)] [] S := by
  unfold fX12_readers at hres
  refine q_iload_n 1 hX 1 dX12_readers_0 rfl rfl rfl ?_
  obtain ⟨r2, S1, hk1, hres⟩ := ob hres
  refine q_callSi 4 (st := []) (As := [.int x1]) hX (cX12_isTurn9 hX.dj hk1) cs_RX12_156 rfl (by decide) rfl (Nat.le_of_ble_eq_true rfl) dX12_readers_1 rfl ?_
  refine q_if_eq 7 hX 26 dX12_readers_4 rfl (by decide) (fun hc => ?_) (fun hc => ?_)
  · have hres := it_t hc hres
    exact q_sub [] rfl (wfX12_readers_26 hX hq hres)
  · have hres := it_f hc hres
    refine q_iload_n 8 hX 2 dX12_readers_7 rfl rfl rfl ?_
    refine q_iconst 9 hX dX12_readers_8 rfl kI_0 ?_
    refine q_bipush 11 hX dX12_readers_9 rfl kB_12 ?_
    obtain ⟨r4, S2, hk3, hres⟩ := ob hres
    refine q_callSi 14 (st := []) (As := [.int x2, .int (0 : Int32), .int (12 : Int32)]) hX (cX12_in9 hX.dj hk3) cs_RX12_134 rfl (by decide) rfl (Nat.le_of_ble_eq_true rfl) dX12_readers_11 rfl ?_
    refine q_if_eq 17 hX 26 dX12_readers_14 rfl (by decide) (fun hc => ?_) (fun hc => ?_)
    · have hres := it_t hc hres
      exact q_sub [] rfl (wfX12_readers_26 hX hq hres)
    · have hres := it_f hc hres
      refine q_aload_n 18 hX 0 dX12_readers_17 rfl rfl rfl ?_
      refine q_iload_n 19 hX 1 dX12_readers_18 rfl rfl rfl ?_
      refine q_iload_n 20 hX 2 dX12_readers_19 rfl rfl rfl ?_
      obtain ⟨r6, S3, hk5, hres⟩ := ob hres
      refine q_callVi 23 (st := []) (As := [.int x1, .int x2]) hX (cX12_readersOf9 hX.dj hk5) cv_RX12_390 ci12 oB_55 rfl (by decide) rfl (Nat.le_of_ble_eq_true rfl) dX12_readers_20 rfl ?_
      refine q_goto 27 hX dX12_readers_23 (by decide) ?_
      exact q_iret hX (eqi hq hres) dX12_readers_27
theorem cX12_readers9 {l : Launch} {w : WD} (hj : Dj w 55 40) {rr : Int32 × St} {S : St} {x1 : Int32} {x2 : Int32} (hres : fX12_readers S x1 x2 = some rr) : Ct l yX12_readers cX12_readers 3 (some .int) 4 w 55 40 [.ref (w.1 55), .int x1, .int x2] S (some (.int rr.1), rr.2) := by
  refine Ct.of (lv := [(0, .ref (w.1 55)), (1, .int x1), (2, .int x2)]) hj (by decide +kernel) (Nat.le_of_ble_eq_true rfl) rfl ?_
  rintro X rfl rfl hq hX
  exact wfX12_readers hX hq hres
def fX12_othersWhoRead (S : St) (x1 : Int32) (x2 : Int32) : Option (Int32 × St) :=
  bi (fX12_readersOf S x2 (12 : Int32)) fun r2 S1 => bi (fX12_bits S1 (r2 &&& (((1 : Int32) <<< (x1 &&& 31)) ^^^ (-1 : Int32)))) fun r4 S2 => some (r4, S2)
theorem wfX12_othersWhoRead {X : CX} (hX : Ok RX12 cX12_othersWhoRead (some .int) 55 40 3 X) {rr : Int32 × St} (hq : rs X = (some (.int rr.1), rr.2)) {S : St} {x1 : Int32} {x2 : Int32} (hres : fX12_othersWhoRead S x1 x2 = some rr) : Wat 55 40 4 3 X 0 [(0, .ref (ad X 55)), (1, .int x1), (2, .int x2)] [] S := by
  unfold fX12_othersWhoRead at hres
  refine q_aload_n 1 hX 0 dX12_othersWhoRead_0 rfl rfl rfl ?_
  refine q_iload_n 2 hX 2 dX12_othersWhoRead_1 rfl rfl rfl ?_
  refine q_bipush 4 hX dX12_othersWhoRead_2 rfl kB_12 ?_
  obtain ⟨r2, S1, hk1, hres⟩ := ob hres
  refine q_callVi 7 (st := []) (As := [.int x2, .int (12 : Int32)]) hX (cX12_readersOf9 hX.dj hk1) cv_RX12_390 ci12 oB_55 rfl (by decide) rfl (Nat.le_of_ble_eq_true rfl) dX12_othersWhoRead_4 rfl ?_
  refine q_iconst 8 hX dX12_othersWhoRead_7 rfl kI_1 ?_
  refine q_iload_n 9 hX 1 dX12_othersWhoRead_8 rfl rfl rfl ?_
  refine q_ishl 10 hX dX12_othersWhoRead_9 rfl ?_
  refine q_iconst 11 hX dX12_othersWhoRead_10 rfl kI_m1 ?_
  refine q_ixor 12 hX dX12_othersWhoRead_11 rfl ?_
  refine q_iand 13 hX dX12_othersWhoRead_12 rfl ?_
  obtain ⟨r4, S2, hk3, hres⟩ := ob hres
  refine q_callSi 16 (st := []) (As := [.int (r2 &&& (((1 : Int32) <<< (x1 &&& 31)) ^^^ (-1 : Int32)))]) hX (cX12_bits9 hX.dj hk3) cs_RX12_320 rfl (by decide) rfl (Nat.le_of_ble_eq_true rfl) dX12_othersWhoRead_13 rfl ?_
  exact q_iret hX (eqi hq hres) dX12_othersWhoRead_16
theorem cX12_othersWhoRead9 {l : Launch} {w : WD} (hj : Dj w 55 40) {rr : Int32 × St} {S : St} {x1 : Int32} {x2 : Int32} (hres : fX12_othersWhoRead S x1 x2 = some rr) : Ct l yX12_othersWhoRead cX12_othersWhoRead 3 (some .int) 4 w 55 40 [.ref (w.1 55), .int x1, .int x2] S (some (.int rr.1), rr.2) := by
  refine Ct.of (lv := [(0, .ref (w.1 55)), (1, .int x1), (2, .int x2)]) hj (by decide +kernel) (Nat.le_of_ble_eq_true rfl) rfl ?_
  rintro X rfl rfl hq hX
  exact wfX12_othersWhoRead hX hq hres
def fX12_bestBreath_65 (rc25 : St → Int32 → Int32 → Int32 → Int32 → Option (Int32 × St)) (S : St) (x1 : Int32) (x2 : Int32) (x4 : Int32) : Option (Int32 × St) :=
  bV (x4 + (1 : Int32)) fun v1 => rc25 S x1 x2 x4 v1
theorem wfX12_bestBreath_65 {X : CX} (hX : Ok RX12 cX12_bestBreath (some .int) 55 40 5 X) {rr : Int32 × St} (hq : rs X = (some (.int rr.1), rr.2)) {rc25 : St → Int32 → Int32 → Int32 → Int32 → Option (Int32 × St)} (hrc25 : ∀ (S : St) (x1 : Int32) (x2 : Int32) (x3 : Int32) (x4 : Int32), rc25 S x1 x2 x3 x4 = some rr → Wat 55 40 5 5 X 25 [(0, .ref (ad X 55)), (1, .int x1), (2, .int x2), (3, .int x3), (4, .int x4)] [] S) {S : St} {x1 : Int32} {x2 : Int32} {x4 : Int32} (hres : fX12_bestBreath_65 rc25 S x1 x2 x4 = some rr) : Wat 55 40 5 5 X 65 [(0, .ref (ad X 55)), (1, .int x1), (2, .int x2), (4, .int x4)] [] S := by
  unfold fX12_bestBreath_65 at hres
  refine q_iload 67 hX 3 dX12_bestBreath_65 rfl rfl ?_
  refine q_istore_n 68 (lv' := [(3, .int x4), (0, .ref (ad X 55)), (1, .int x1), (2, .int x2), (4, .int x4)]) hX dX12_bestBreath_67 rfl rfl (by decide) rfl ?_
  refine q_iincB 71 4 (lv0 := [(3, .int x4), (0, .ref (ad X 55)), (1, .int x1), (2, .int x2)]) hX dX12_bestBreath_68 rfl rfl kI_1 (by decide) rfl hres (fun v1 hres => ?_)
  refine q_goto 25 hX dX12_bestBreath_71 (by decide) ?_
  exact q_sub [2, 3, 4, 1, 0] rfl (hrc25 _ _ _ _ _ hres)
def bX12_bestBreath_25 (rc25 : St → Int32 → Int32 → Int32 → Int32 → Option (Int32 × St)) (S : St) (x1 : Int32) (x2 : Int32) (x3 : Int32) (x4 : Int32) : Option (Int32 × St) :=
  if (12 : Int32) ≤ x4 then (if x2 = 0 then (some (x3, S)) else (if x3 = (-2 : Int32) then (some ((0 : Int32), S)) else (bi (fX12_othersWhoRead S x1 x3) fun r2 S1 => some (r2, S1)))) else (if inb x4 12 = true then if (S.1 59 (x4.toNatClampNeg)) = x1 then (if x3 = (-2 : Int32) then (fX12_bestBreath_65 rc25 S x1 x2 x4) else (bi (fX12_othersWhoRead S x1 x4) fun r6 S2 => bi (fX12_othersWhoRead S2 x1 x3) fun r8 S3 => if r6 ≤ r8 then (bV (x4 + (1 : Int32)) fun v9 => rc25 S3 x1 x2 x3 v9) else (fX12_bestBreath_65 rc25 S3 x1 x2 x4))) else (bV (x4 + (1 : Int32)) fun v4 => rc25 S x1 x2 x3 v4) else none)
theorem wbX12_bestBreath_25 {X : CX} (hX : Ok RX12 cX12_bestBreath (some .int) 55 40 5 X) {rr : Int32 × St} (hq : rs X = (some (.int rr.1), rr.2)) {rc25 : St → Int32 → Int32 → Int32 → Int32 → Option (Int32 × St)} (hrc25 : ∀ (S : St) (x1 : Int32) (x2 : Int32) (x3 : Int32) (x4 : Int32), rc25 S x1 x2 x3 x4 = some rr → Wat 55 40 5 5 X 25 [(0, .ref (ad X 55)), (1, .int x1), (2, .int x2), (3, .int x3), (4, .int x4)] [] S) {S : St} {x1 : Int32} {x2 : Int32} {x3 : Int32} {x4 : Int32} (hres : bX12_bestBreath_25 rc25 S x1 x2 x3 x4 = some rr) : Wat 55 40 5 5 X 25 [(0, .ref (ad X 55)), (1, .int x1), (2, .int x2), (3, .int x3), (4, .int x4)] [] S := by
  unfold bX12_bestBreath_25 at hres
  refine q_iload 27 hX 4 dX12_bestBreath_25 rfl rfl ?_
  refine q_bipush 29 hX dX12_bestBreath_27 rfl kB_12 ?_
  refine q_icmp_ge 32 hX 74 dX12_bestBreath_29 rfl (by decide) (fun hc => ?_) (fun hc => ?_)
  · have hres := it_t hc hres
    refine q_iload_n 75 hX 2 dX12_bestBreath_74 rfl rfl rfl ?_
    refine q_if_ne 78 hX 82 dX12_bestBreath_75 rfl (by decide) (fun hc => ?_) (fun hc => ?_)
    · have hres := it_f hc hres
      refine q_iload_n 83 hX 3 dX12_bestBreath_82 rfl rfl rfl ?_
      refine q_bipush 85 hX dX12_bestBreath_83 rfl kB_m2 ?_
      refine q_icmp_ne 88 hX 92 dX12_bestBreath_85 rfl (by decide) (fun hc => ?_) (fun hc => ?_)
      · have hres := it_f hc hres
        refine q_aload_n 93 hX 0 dX12_bestBreath_92 rfl rfl rfl ?_
        refine q_iload_n 94 hX 1 dX12_bestBreath_93 rfl rfl rfl ?_
        refine q_iload_n 95 hX 3 dX12_bestBreath_94 rfl rfl rfl ?_
        obtain ⟨r2, S1, hk1, hres⟩ := ob hres
        refine q_callVi 98 (st := []) (As := [.int x1, .int x3]) hX (cX12_othersWhoRead9 hX.dj hk1) cv_RX12_393 ci12 oB_55 rfl (by decide) rfl (Nat.le_of_ble_eq_true rfl) dX12_bestBreath_95 rfl ?_
        exact q_iret hX (eqi hq hres) dX12_bestBreath_98
      · have hres := it_t hc hres
        refine q_iconst 89 hX dX12_bestBreath_88 rfl kI_0 ?_
        refine q_goto 98 hX dX12_bestBreath_89 (by decide) ?_
        exact q_iret hX (eqi hq hres) dX12_bestBreath_98
    · have hres := it_t hc hres
      refine q_iload_n 79 hX 3 dX12_bestBreath_78 rfl rfl rfl ?_
      refine q_goto 98 hX dX12_bestBreath_79 (by decide) ?_
      exact q_iret hX (eqi hq hres) dX12_bestBreath_98
  · have hres := it_f hc hres
    refine q_aload_n 33 hX 0 dX12_bestBreath_32 rfl rfl rfl ?_
    refine q_getR 36 hX ci12 lf_RX12_19 fR_55_3 dX12_bestBreath_33 rfl ?_
    refine q_iload 38 hX 4 dX12_bestBreath_36 rfl rfl ?_
    obtain ⟨hb3, hres⟩ := gd hres
    refine q_iald 39 hX rfl aF_59 hb3 dX12_bestBreath_38 rfl ?_
    refine q_iload_n 40 hX 1 dX12_bestBreath_39 rfl rfl rfl ?_
    refine q_icmp_ne 43 hX 68 dX12_bestBreath_40 rfl (by decide) (fun hc => ?_) (fun hc => ?_)
    · have hres := it_f hc hres
      refine q_iincB 71 4 (lv0 := [(0, .ref (ad X 55)), (1, .int x1), (2, .int x2), (3, .int x3)]) hX dX12_bestBreath_68 rfl rfl kI_1 (by decide) rfl hres (fun v4 hres => ?_)
      refine q_goto 25 hX dX12_bestBreath_71 (by decide) ?_
      exact q_sub [1, 2, 3, 4, 0] rfl (hrc25 _ _ _ _ _ hres)
    · have hres := it_t hc hres
      refine q_iload_n 44 hX 3 dX12_bestBreath_43 rfl rfl rfl ?_
      refine q_bipush 46 hX dX12_bestBreath_44 rfl kB_m2 ?_
      refine q_icmp_eq 49 hX 65 dX12_bestBreath_46 rfl (by decide) (fun hc => ?_) (fun hc => ?_)
      · have hres := it_t hc hres
        exact q_sub [0, 1, 2, 4] rfl (wfX12_bestBreath_65 hX hq hrc25 hres)
      · have hres := it_f hc hres
        refine q_aload_n 50 hX 0 dX12_bestBreath_49 rfl rfl rfl ?_
        refine q_iload_n 51 hX 1 dX12_bestBreath_50 rfl rfl rfl ?_
        refine q_iload 53 hX 4 dX12_bestBreath_51 rfl rfl ?_
        obtain ⟨r6, S2, hk5, hres⟩ := ob hres
        refine q_callVi 56 (st := []) (As := [.int x1, .int x4]) hX (cX12_othersWhoRead9 hX.dj hk5) cv_RX12_393 ci12 oB_55 rfl (by decide) rfl (Nat.le_of_ble_eq_true rfl) dX12_bestBreath_53 rfl ?_
        refine q_aload_n 57 hX 0 dX12_bestBreath_56 rfl rfl rfl ?_
        refine q_iload_n 58 hX 1 dX12_bestBreath_57 rfl rfl rfl ?_
        refine q_iload_n 59 hX 3 dX12_bestBreath_58 rfl rfl rfl ?_
        obtain ⟨r8, S3, hk7, hres⟩ := ob hres
        refine q_callVi 62 (st := [.int r6]) (As := [.int x1, .int x3]) hX (cX12_othersWhoRead9 hX.dj hk7) cv_RX12_393 ci12 oB_55 rfl (by decide) rfl (Nat.le_of_ble_eq_true rfl) dX12_bestBreath_59 rfl ?_
        refine q_icmp_le 65 hX 68 dX12_bestBreath_62 rfl (by decide) (fun hc => ?_) (fun hc => ?_)
        · have hres := it_t hc hres
          refine q_iincB 71 4 (lv0 := [(0, .ref (ad X 55)), (1, .int x1), (2, .int x2), (3, .int x3)]) hX dX12_bestBreath_68 rfl rfl kI_1 (by decide) rfl hres (fun v9 hres => ?_)
          refine q_goto 25 hX dX12_bestBreath_71 (by decide) ?_
          exact q_sub [1, 2, 3, 4, 0] rfl (hrc25 _ _ _ _ _ hres)
        · have hres := it_f hc hres
          exact q_sub [0, 1, 2, 4] rfl (wfX12_bestBreath_65 hX hq hrc25 hres)
def fX12_bestBreath_25 : Nat → St → Int32 → Int32 → Int32 → Int32 → Option (Int32 × St)
  | 0 => fun _ _ _ _ _ => none
  | k + 1 => fun S x1 x2 x3 x4 => bX12_bestBreath_25 (fX12_bestBreath_25 k) S x1 x2 x3 x4
theorem wfX12_bestBreath_25 {X : CX} (hX : Ok RX12 cX12_bestBreath (some .int) 55 40 5 X) {rr : Int32 × St} (hq : rs X = (some (.int rr.1), rr.2)) (k : Nat) : ∀ (S : St) (x1 : Int32) (x2 : Int32) (x3 : Int32) (x4 : Int32), fX12_bestBreath_25 k S x1 x2 x3 x4 = some rr → Wat 55 40 5 5 X 25 [(0, .ref (ad X 55)), (1, .int x1), (2, .int x2), (3, .int x3), (4, .int x4)] [] S := by
  induction k with
  | zero => intro S x1 x2 x3 x4 hres; exact absurd hres (by simp [fX12_bestBreath_25])
  | succ k ih => intro S x1 x2 x3 x4 hres; exact wbX12_bestBreath_25 hX hq ih hres
def fX12_bestBreath (S : St) (x1 : Int32) (x2 : Int32) : Option (Int32 × St) :=
  bi (fX12_isHouse S x1) fun r2 S1 => if r2 = 0 then (some ((-1 : Int32), S1)) else (bi (fX12_in S1 x2 (0 : Int32) (1 : Int32)) fun r4 S2 => if r4 = 0 then (some ((-1 : Int32), S2)) else (fX12_bestBreath_25 100 S2 x1 x2 (-2 : Int32) (0 : Int32)))
theorem wfX12_bestBreath {X : CX} (hX : Ok RX12 cX12_bestBreath (some .int) 55 40 5 X) {rr : Int32 × St} (hq : rs X = (some (.int rr.1), rr.2)) {S : St} {x1 : Int32} {x2 : Int32} (hres : fX12_bestBreath S x1 x2 = some rr) : Wat 55 40 5 5 X 0 [(0, .ref (ad X 55)), (1, .int x1), (2, .int x2)] [] S := by
  unfold fX12_bestBreath at hres
  refine q_aload_n 1 hX 0 dX12_bestBreath_0 rfl rfl rfl ?_
  refine q_iload_n 2 hX 1 dX12_bestBreath_1 rfl rfl rfl ?_
  obtain ⟨r2, S1, hk1, hres⟩ := ob hres
  refine q_callVi 5 (st := []) (As := [.int x1]) hX (cX12_isHouse9 hX.dj hk1) cv_RX12_159 ci12 oB_55 rfl (by decide) rfl (Nat.le_of_ble_eq_true rfl) dX12_bestBreath_2 rfl ?_
  refine q_if_eq 8 hX 17 dX12_bestBreath_5 rfl (by decide) (fun hc => ?_) (fun hc => ?_)
  · have hres := it_t hc hres
    refine q_iconst 18 hX dX12_bestBreath_17 rfl kI_m1 ?_
    exact q_iret hX (eqi hq hres) dX12_bestBreath_18
  · have hres := it_f hc hres
    refine q_iload_n 9 hX 2 dX12_bestBreath_8 rfl rfl rfl ?_
    refine q_iconst 10 hX dX12_bestBreath_9 rfl kI_0 ?_
    refine q_iconst 11 hX dX12_bestBreath_10 rfl kI_1 ?_
    obtain ⟨r4, S2, hk3, hres⟩ := ob hres
    refine q_callSi 14 (st := []) (As := [.int x2, .int (0 : Int32), .int (1 : Int32)]) hX (cX12_in9 hX.dj hk3) cs_RX12_134 rfl (by decide) rfl (Nat.le_of_ble_eq_true rfl) dX12_bestBreath_11 rfl ?_
    refine q_if_ne 17 hX 19 dX12_bestBreath_14 rfl (by decide) (fun hc => ?_) (fun hc => ?_)
    · have hres := it_f hc hres
      refine q_bipush 21 hX dX12_bestBreath_19 rfl kB_m2 ?_
      refine q_istore_n 22 (lv' := [(3, .int (-2 : Int32)), (0, .ref (ad X 55)), (1, .int x1), (2, .int x2)]) hX dX12_bestBreath_21 rfl rfl (by decide) rfl ?_
      refine q_iconst 23 hX dX12_bestBreath_22 rfl kI_0 ?_
      refine q_istore 25 (lv' := [(4, .int (0 : Int32)), (3, .int (-2 : Int32)), (0, .ref (ad X 55)), (1, .int x1), (2, .int x2)]) hX dX12_bestBreath_23 rfl (by decide) rfl ?_
      exact q_sub [2, 3, 4, 1, 0] rfl (wfX12_bestBreath_25 hX hq _ _ _ _ _ _ hres)
    · have hres := it_t hc hres
      refine q_iconst 18 hX dX12_bestBreath_17 rfl kI_m1 ?_
      exact q_iret hX (eqi hq hres) dX12_bestBreath_18
theorem cX12_bestBreath9 {l : Launch} {w : WD} (hj : Dj w 55 40) {rr : Int32 × St} {S : St} {x1 : Int32} {x2 : Int32} (hres : fX12_bestBreath S x1 x2 = some rr) : Ct l yX12_bestBreath cX12_bestBreath 5 (some .int) 5 w 55 40 [.ref (w.1 55), .int x1, .int x2] S (some (.int rr.1), rr.2) := by
  refine Ct.of (lv := [(0, .ref (w.1 55)), (1, .int x1), (2, .int x2)]) hj (by decide +kernel) (Nat.le_of_ble_eq_true rfl) rfl ?_
  rintro X rfl rfl hq hX
  exact wfX12_bestBreath hX hq hres
def bX12_twosAt_4 (rc4 : St → Int32 → Int32 → Int32 → Option (Int32 × St)) (S : St) (x1 : Int32) (x2 : Int32) (x3 : Int32) : Option (Int32 × St) :=
  if (16 : Int32) ≤ x3 then (some (x2, S)) else (bi (fX12_isHouse S x3) fun r2 S1 => if r2 = 0 then (bV (x3 + (1 : Int32)) fun v3 => rc4 S1 x1 x2 v3) else (bi (fX12_seenBy S1 x3 x1) fun r5 S2 => bi (fX12_bits S2 r5) fun r7 S3 => bV ((x2 + r7)) fun v8 => bV (x3 + (1 : Int32)) fun v9 => rc4 S3 x1 v8 v9))
theorem wbX12_twosAt_4 {X : CX} (hX : Ok RX12 cX12_twosAt (some .int) 55 40 4 X) {rr : Int32 × St} (hq : rs X = (some (.int rr.1), rr.2)) {rc4 : St → Int32 → Int32 → Int32 → Option (Int32 × St)} (hrc4 : ∀ (S : St) (x1 : Int32) (x2 : Int32) (x3 : Int32), rc4 S x1 x2 x3 = some rr → Wat 55 40 3 4 X 4 [(0, .ref (ad X 55)), (1, .int x1), (2, .int x2), (3, .int x3)] [] S) {S : St} {x1 : Int32} {x2 : Int32} {x3 : Int32} (hres : bX12_twosAt_4 rc4 S x1 x2 x3 = some rr) : Wat 55 40 3 4 X 4 [(0, .ref (ad X 55)), (1, .int x1), (2, .int x2), (3, .int x3)] [] S := by
  unfold bX12_twosAt_4 at hres
  refine q_iload_n 5 hX 3 dX12_twosAt_4 rfl rfl rfl ?_
  refine q_bipush 7 hX dX12_twosAt_5 rfl kB_16 ?_
  refine q_icmp_ge 10 hX 36 dX12_twosAt_7 rfl (by decide) (fun hc => ?_) (fun hc => ?_)
  · have hres := it_t hc hres
    refine q_iload_n 37 hX 2 dX12_twosAt_36 rfl rfl rfl ?_
    exact q_iret hX (eqi hq hres) dX12_twosAt_37
  · have hres := it_f hc hres
    refine q_aload_n 11 hX 0 dX12_twosAt_10 rfl rfl rfl ?_
    refine q_iload_n 12 hX 3 dX12_twosAt_11 rfl rfl rfl ?_
    obtain ⟨r2, S1, hk1, hres⟩ := ob hres
    refine q_callVi 15 (st := []) (As := [.int x3]) hX (cX12_isHouse9 hX.dj hk1) cv_RX12_159 ci12 oB_55 rfl (by decide) rfl (Nat.le_of_ble_eq_true rfl) dX12_twosAt_12 rfl ?_
    refine q_if_eq 18 hX 30 dX12_twosAt_15 rfl (by decide) (fun hc => ?_) (fun hc => ?_)
    · have hres := it_t hc hres
      refine q_iincB 33 3 (lv0 := [(0, .ref (ad X 55)), (1, .int x1), (2, .int x2)]) hX dX12_twosAt_30 rfl rfl kI_1 (by decide) rfl hres (fun v3 hres => ?_)
      refine q_goto 4 hX dX12_twosAt_33 (by decide) ?_
      exact q_sub [1, 2, 3, 0] rfl (hrc4 _ _ _ _ hres)
    · have hres := it_f hc hres
      refine q_iload_n 19 hX 2 dX12_twosAt_18 rfl rfl rfl ?_
      refine q_aload_n 20 hX 0 dX12_twosAt_19 rfl rfl rfl ?_
      refine q_iload_n 21 hX 3 dX12_twosAt_20 rfl rfl rfl ?_
      refine q_iload_n 22 hX 1 dX12_twosAt_21 rfl rfl rfl ?_
      obtain ⟨r5, S2, hk4, hres⟩ := ob hres
      refine q_callVi 25 (st := [.int x2]) (As := [.int x3, .int x1]) hX (cX12_seenBy9 hX.dj hk4) cv_RX12_152 ci12 oB_55 rfl (by decide) rfl (Nat.le_of_ble_eq_true rfl) dX12_twosAt_22 rfl ?_
      obtain ⟨r7, S3, hk6, hres⟩ := ob hres
      refine q_callSi 28 (st := [.int x2]) (As := [.int r5]) hX (cX12_bits9 hX.dj hk6) cs_RX12_320 rfl (by decide) rfl (Nat.le_of_ble_eq_true rfl) dX12_twosAt_25 rfl ?_
      refine q_iadd 29 hX dX12_twosAt_28 rfl ?_
      refine q_istoreB_n 30 (lv0 := [(0, .ref (ad X 55)), (1, .int x1), (3, .int x3)]) hX dX12_twosAt_29 rfl rfl (by decide) rfl hres (fun v8 hres => ?_)
      refine q_iincB 33 3 (lv0 := [(2, .int v8), (0, .ref (ad X 55)), (1, .int x1)]) hX dX12_twosAt_30 rfl rfl kI_1 (by decide) rfl hres (fun v9 hres => ?_)
      refine q_goto 4 hX dX12_twosAt_33 (by decide) ?_
      exact q_sub [2, 3, 1, 0] rfl (hrc4 _ _ _ _ hres)
def fX12_twosAt_4 : Nat → St → Int32 → Int32 → Int32 → Option (Int32 × St)
  | 0 => fun _ _ _ _ => none
  | k + 1 => fun S x1 x2 x3 => bX12_twosAt_4 (fX12_twosAt_4 k) S x1 x2 x3
theorem wfX12_twosAt_4 {X : CX} (hX : Ok RX12 cX12_twosAt (some .int) 55 40 4 X) {rr : Int32 × St} (hq : rs X = (some (.int rr.1), rr.2)) (k : Nat) : ∀ (S : St) (x1 : Int32) (x2 : Int32) (x3 : Int32), fX12_twosAt_4 k S x1 x2 x3 = some rr → Wat 55 40 3 4 X 4 [(0, .ref (ad X 55)), (1, .int x1), (2, .int x2), (3, .int x3)] [] S := by
  induction k with
  | zero => intro S x1 x2 x3 hres; exact absurd hres (by simp [fX12_twosAt_4])
  | succ k ih => intro S x1 x2 x3 hres; exact wbX12_twosAt_4 hX hq ih hres
def fX12_twosAt (S : St) (x1 : Int32) : Option (Int32 × St) :=
  fX12_twosAt_4 100 S x1 (0 : Int32) (0 : Int32)
theorem wfX12_twosAt {X : CX} (hX : Ok RX12 cX12_twosAt (some .int) 55 40 4 X) {rr : Int32 × St} (hq : rs X = (some (.int rr.1), rr.2)) {S : St} {x1 : Int32} (hres : fX12_twosAt S x1 = some rr) : Wat 55 40 3 4 X 0 [(0, .ref (ad X 55)), (1, .int x1)] [] S := by
  unfold fX12_twosAt at hres
  refine q_iconst 1 hX dX12_twosAt_0 rfl kI_0 ?_
  refine q_istore_n 2 (lv' := [(2, .int (0 : Int32)), (0, .ref (ad X 55)), (1, .int x1)]) hX dX12_twosAt_1 rfl rfl (by decide) rfl ?_
  refine q_iconst 3 hX dX12_twosAt_2 rfl kI_0 ?_
  refine q_istore_n 4 (lv' := [(3, .int (0 : Int32)), (2, .int (0 : Int32)), (0, .ref (ad X 55)), (1, .int x1)]) hX dX12_twosAt_3 rfl rfl (by decide) rfl ?_
  exact q_sub [2, 3, 1, 0] rfl (wfX12_twosAt_4 hX hq _ _ _ _ _ hres)
theorem cX12_twosAt9 {l : Launch} {w : WD} (hj : Dj w 55 40) {rr : Int32 × St} {S : St} {x1 : Int32} (hres : fX12_twosAt S x1 = some rr) : Ct l yX12_twosAt cX12_twosAt 4 (some .int) 3 w 55 40 [.ref (w.1 55), .int x1] S (some (.int rr.1), rr.2) := by
  refine Ct.of (lv := [(0, .ref (w.1 55)), (1, .int x1)]) hj (by decide +kernel) (Nat.le_of_ble_eq_true rfl) rfl ?_
  rintro X rfl rfl hq hX
  exact wfX12_twosAt hX hq hres
def bX12_clearest_15 (rc15 : St → Int32 → Int32 → Int32 → Option (Int32 × St)) (S : St) (x1 : Int32) (x2 : Int32) (x3 : Int32) : Option (Int32 × St) :=
  if (12 : Int32) ≤ x3 then (if x1 = 0 then (some (x2, S)) else (bi (fX12_twosAt S x2) fun r2 S1 => some (r2, S1))) else (bi (fX12_twosAt S x3) fun r4 S2 => bi (fX12_twosAt S2 x2) fun r6 S3 => if r4 ≤ r6 then (bV (x3 + (1 : Int32)) fun v7 => rc15 S3 x1 x2 v7) else (bV (x3 + (1 : Int32)) fun v8 => rc15 S3 x1 x3 v8))
theorem wbX12_clearest_15 {X : CX} (hX : Ok RX12 cX12_clearest (some .int) 55 40 4 X) {rr : Int32 × St} (hq : rs X = (some (.int rr.1), rr.2)) {rc15 : St → Int32 → Int32 → Int32 → Option (Int32 × St)} (hrc15 : ∀ (S : St) (x1 : Int32) (x2 : Int32) (x3 : Int32), rc15 S x1 x2 x3 = some rr → Wat 55 40 4 4 X 15 [(0, .ref (ad X 55)), (1, .int x1), (2, .int x2), (3, .int x3)] [] S) {S : St} {x1 : Int32} {x2 : Int32} {x3 : Int32} (hres : bX12_clearest_15 rc15 S x1 x2 x3 = some rr) : Wat 55 40 4 4 X 15 [(0, .ref (ad X 55)), (1, .int x1), (2, .int x2), (3, .int x3)] [] S := by
  unfold bX12_clearest_15 at hres
  refine q_iload_n 16 hX 3 dX12_clearest_15 rfl rfl rfl ?_
  refine q_bipush 18 hX dX12_clearest_16 rfl kB_12 ?_
  refine q_icmp_ge 21 hX 42 dX12_clearest_18 rfl (by decide) (fun hc => ?_) (fun hc => ?_)
  · have hres := it_t hc hres
    refine q_iload_n 43 hX 1 dX12_clearest_42 rfl rfl rfl ?_
    refine q_if_ne 46 hX 50 dX12_clearest_43 rfl (by decide) (fun hc => ?_) (fun hc => ?_)
    · have hres := it_f hc hres
      refine q_aload_n 51 hX 0 dX12_clearest_50 rfl rfl rfl ?_
      refine q_iload_n 52 hX 2 dX12_clearest_51 rfl rfl rfl ?_
      obtain ⟨r2, S1, hk1, hres⟩ := ob hres
      refine q_callVi 55 (st := []) (As := [.int x2]) hX (cX12_twosAt9 hX.dj hk1) cv_RX12_396 ci12 oB_55 rfl (by decide) rfl (Nat.le_of_ble_eq_true rfl) dX12_clearest_52 rfl ?_
      exact q_iret hX (eqi hq hres) dX12_clearest_55
    · have hres := it_t hc hres
      refine q_iload_n 47 hX 2 dX12_clearest_46 rfl rfl rfl ?_
      refine q_goto 55 hX dX12_clearest_47 (by decide) ?_
      exact q_iret hX (eqi hq hres) dX12_clearest_55
  · have hres := it_f hc hres
    refine q_aload_n 22 hX 0 dX12_clearest_21 rfl rfl rfl ?_
    refine q_iload_n 23 hX 3 dX12_clearest_22 rfl rfl rfl ?_
    obtain ⟨r4, S2, hk3, hres⟩ := ob hres
    refine q_callVi 26 (st := []) (As := [.int x3]) hX (cX12_twosAt9 hX.dj hk3) cv_RX12_396 ci12 oB_55 rfl (by decide) rfl (Nat.le_of_ble_eq_true rfl) dX12_clearest_23 rfl ?_
    refine q_aload_n 27 hX 0 dX12_clearest_26 rfl rfl rfl ?_
    refine q_iload_n 28 hX 2 dX12_clearest_27 rfl rfl rfl ?_
    obtain ⟨r6, S3, hk5, hres⟩ := ob hres
    refine q_callVi 31 (st := [.int r4]) (As := [.int x2]) hX (cX12_twosAt9 hX.dj hk5) cv_RX12_396 ci12 oB_55 rfl (by decide) rfl (Nat.le_of_ble_eq_true rfl) dX12_clearest_28 rfl ?_
    refine q_icmp_le 34 hX 36 dX12_clearest_31 rfl (by decide) (fun hc => ?_) (fun hc => ?_)
    · have hres := it_t hc hres
      refine q_iincB 39 3 (lv0 := [(0, .ref (ad X 55)), (1, .int x1), (2, .int x2)]) hX dX12_clearest_36 rfl rfl kI_1 (by decide) rfl hres (fun v7 hres => ?_)
      refine q_goto 15 hX dX12_clearest_39 (by decide) ?_
      exact q_sub [1, 2, 3, 0] rfl (hrc15 _ _ _ _ hres)
    · have hres := it_f hc hres
      refine q_iload_n 35 hX 3 dX12_clearest_34 rfl rfl rfl ?_
      refine q_istore_n 36 (lv' := [(2, .int x3), (0, .ref (ad X 55)), (1, .int x1), (3, .int x3)]) hX dX12_clearest_35 rfl rfl (by decide) rfl ?_
      refine q_iincB 39 3 (lv0 := [(2, .int x3), (0, .ref (ad X 55)), (1, .int x1)]) hX dX12_clearest_36 rfl rfl kI_1 (by decide) rfl hres (fun v8 hres => ?_)
      refine q_goto 15 hX dX12_clearest_39 (by decide) ?_
      exact q_sub [2, 3, 1, 0] rfl (hrc15 _ _ _ _ hres)
def fX12_clearest_15 : Nat → St → Int32 → Int32 → Int32 → Option (Int32 × St)
  | 0 => fun _ _ _ _ => none
  | k + 1 => fun S x1 x2 x3 => bX12_clearest_15 (fX12_clearest_15 k) S x1 x2 x3
theorem wfX12_clearest_15 {X : CX} (hX : Ok RX12 cX12_clearest (some .int) 55 40 4 X) {rr : Int32 × St} (hq : rs X = (some (.int rr.1), rr.2)) (k : Nat) : ∀ (S : St) (x1 : Int32) (x2 : Int32) (x3 : Int32), fX12_clearest_15 k S x1 x2 x3 = some rr → Wat 55 40 4 4 X 15 [(0, .ref (ad X 55)), (1, .int x1), (2, .int x2), (3, .int x3)] [] S := by
  induction k with
  | zero => intro S x1 x2 x3 hres; exact absurd hres (by simp [fX12_clearest_15])
  | succ k ih => intro S x1 x2 x3 hres; exact wbX12_clearest_15 hX hq ih hres
def fX12_clearest (S : St) (x1 : Int32) : Option (Int32 × St) :=
  bi (fX12_in S x1 (0 : Int32) (1 : Int32)) fun r2 S1 => if r2 = 0 then (some ((-1 : Int32), S1)) else (fX12_clearest_15 100 S1 x1 (0 : Int32) (1 : Int32))
theorem wfX12_clearest {X : CX} (hX : Ok RX12 cX12_clearest (some .int) 55 40 4 X) {rr : Int32 × St} (hq : rs X = (some (.int rr.1), rr.2)) {S : St} {x1 : Int32} (hres : fX12_clearest S x1 = some rr) : Wat 55 40 4 4 X 0 [(0, .ref (ad X 55)), (1, .int x1)] [] S := by
  unfold fX12_clearest at hres
  refine q_iload_n 1 hX 1 dX12_clearest_0 rfl rfl rfl ?_
  refine q_iconst 2 hX dX12_clearest_1 rfl kI_0 ?_
  refine q_iconst 3 hX dX12_clearest_2 rfl kI_1 ?_
  obtain ⟨r2, S1, hk1, hres⟩ := ob hres
  refine q_callSi 6 (st := []) (As := [.int x1, .int (0 : Int32), .int (1 : Int32)]) hX (cX12_in9 hX.dj hk1) cs_RX12_134 rfl (by decide) rfl (Nat.le_of_ble_eq_true rfl) dX12_clearest_3 rfl ?_
  refine q_if_ne 9 hX 11 dX12_clearest_6 rfl (by decide) (fun hc => ?_) (fun hc => ?_)
  · have hres := it_f hc hres
    refine q_iconst 12 hX dX12_clearest_11 rfl kI_0 ?_
    refine q_istore_n 13 (lv' := [(2, .int (0 : Int32)), (0, .ref (ad X 55)), (1, .int x1)]) hX dX12_clearest_12 rfl rfl (by decide) rfl ?_
    refine q_iconst 14 hX dX12_clearest_13 rfl kI_1 ?_
    refine q_istore_n 15 (lv' := [(3, .int (1 : Int32)), (2, .int (0 : Int32)), (0, .ref (ad X 55)), (1, .int x1)]) hX dX12_clearest_14 rfl rfl (by decide) rfl ?_
    exact q_sub [2, 3, 1, 0] rfl (wfX12_clearest_15 hX hq _ _ _ _ _ hres)
  · have hres := it_t hc hres
    refine q_iconst 10 hX dX12_clearest_9 rfl kI_m1 ?_
    exact q_iret hX (eqi hq hres) dX12_clearest_10
theorem cX12_clearest9 {l : Launch} {w : WD} (hj : Dj w 55 40) {rr : Int32 × St} {S : St} {x1 : Int32} (hres : fX12_clearest S x1 = some rr) : Ct l yX12_clearest cX12_clearest 4 (some .int) 4 w 55 40 [.ref (w.1 55), .int x1] S (some (.int rr.1), rr.2) := by
  refine Ct.of (lv := [(0, .ref (w.1 55)), (1, .int x1)]) hj (by decide +kernel) (Nat.le_of_ble_eq_true rfl) rfl ?_
  rintro X rfl rfl hq hX
  exact wfX12_clearest hX hq hres
def bX12_whoHad_25 (rc25 : St → Int32 → Int32 → Int32 → Int32 → Option (Int32 × St)) (S : St) (x1 : Int32) (x2 : Int32) (x3 : Int32) (x4 : Int32) : Option (Int32 × St) :=
  if (16 : Int32) ≤ x4 then (some (x3, S)) else (bi (fX12_isHouse S x4) fun r2 S1 => if r2 = 0 then (bV (x4 + (1 : Int32)) fun v3 => rc25 S1 x1 x2 x3 v3) else (bi (fX12_seenBy S1 x4 x1) fun r5 S2 => if r5 = x2 then (bV ((x3 ||| ((1 : Int32) <<< (x4 &&& 31)))) fun v7 => bV (x4 + (1 : Int32)) fun v8 => rc25 S2 x1 x2 v7 v8) else (bV (x4 + (1 : Int32)) fun v6 => rc25 S2 x1 x2 x3 v6)))
theorem wbX12_whoHad_25 {X : CX} (hX : Ok RX12 cX12_whoHad (some .int) 55 40 5 X) {rr : Int32 × St} (hq : rs X = (some (.int rr.1), rr.2)) {rc25 : St → Int32 → Int32 → Int32 → Int32 → Option (Int32 × St)} (hrc25 : ∀ (S : St) (x1 : Int32) (x2 : Int32) (x3 : Int32) (x4 : Int32), rc25 S x1 x2 x3 x4 = some rr → Wat 55 40 3 5 X 25 [(0, .ref (ad X 55)), (1, .int x1), (2, .int x2), (3, .int x3), (4, .int x4)] [] S) {S : St} {x1 : Int32} {x2 : Int32} {x3 : Int32} {x4 : Int32} (hres : bX12_whoHad_25 rc25 S x1 x2 x3 x4 = some rr) : Wat 55 40 3 5 X 25 [(0, .ref (ad X 55)), (1, .int x1), (2, .int x2), (3, .int x3), (4, .int x4)] [] S := by
  unfold bX12_whoHad_25 at hres
  refine q_iload 27 hX 4 dX12_whoHad_25 rfl rfl ?_
  refine q_bipush 29 hX dX12_whoHad_27 rfl kB_16 ?_
  refine q_icmp_ge 32 hX 65 dX12_whoHad_29 rfl (by decide) (fun hc => ?_) (fun hc => ?_)
  · have hres := it_t hc hres
    refine q_iload_n 66 hX 3 dX12_whoHad_65 rfl rfl rfl ?_
    exact q_iret hX (eqi hq hres) dX12_whoHad_66
  · have hres := it_f hc hres
    refine q_aload_n 33 hX 0 dX12_whoHad_32 rfl rfl rfl ?_
    refine q_iload 35 hX 4 dX12_whoHad_33 rfl rfl ?_
    obtain ⟨r2, S1, hk1, hres⟩ := ob hres
    refine q_callVi 38 (st := []) (As := [.int x4]) hX (cX12_isHouse9 hX.dj hk1) cv_RX12_159 ci12 oB_55 rfl (by decide) rfl (Nat.le_of_ble_eq_true rfl) dX12_whoHad_35 rfl ?_
    refine q_if_eq 41 hX 59 dX12_whoHad_38 rfl (by decide) (fun hc => ?_) (fun hc => ?_)
    · have hres := it_t hc hres
      refine q_iincB 62 4 (lv0 := [(0, .ref (ad X 55)), (1, .int x1), (2, .int x2), (3, .int x3)]) hX dX12_whoHad_59 rfl rfl kI_1 (by decide) rfl hres (fun v3 hres => ?_)
      refine q_goto 25 hX dX12_whoHad_62 (by decide) ?_
      exact q_sub [1, 2, 3, 4, 0] rfl (hrc25 _ _ _ _ _ hres)
    · have hres := it_f hc hres
      refine q_aload_n 42 hX 0 dX12_whoHad_41 rfl rfl rfl ?_
      refine q_iload 44 hX 4 dX12_whoHad_42 rfl rfl ?_
      refine q_iload_n 45 hX 1 dX12_whoHad_44 rfl rfl rfl ?_
      obtain ⟨r5, S2, hk4, hres⟩ := ob hres
      refine q_callVi 48 (st := []) (As := [.int x4, .int x1]) hX (cX12_seenBy9 hX.dj hk4) cv_RX12_152 ci12 oB_55 rfl (by decide) rfl (Nat.le_of_ble_eq_true rfl) dX12_whoHad_45 rfl ?_
      refine q_iload_n 49 hX 2 dX12_whoHad_48 rfl rfl rfl ?_
      refine q_icmp_ne 52 hX 59 dX12_whoHad_49 rfl (by decide) (fun hc => ?_) (fun hc => ?_)
      · have hres := it_f hc hres
        refine q_iincB 62 4 (lv0 := [(0, .ref (ad X 55)), (1, .int x1), (2, .int x2), (3, .int x3)]) hX dX12_whoHad_59 rfl rfl kI_1 (by decide) rfl hres (fun v6 hres => ?_)
        refine q_goto 25 hX dX12_whoHad_62 (by decide) ?_
        exact q_sub [1, 2, 3, 4, 0] rfl (hrc25 _ _ _ _ _ hres)
      · have hres := it_t hc hres
        refine q_iload_n 53 hX 3 dX12_whoHad_52 rfl rfl rfl ?_
        refine q_iconst 54 hX dX12_whoHad_53 rfl kI_1 ?_
        refine q_iload 56 hX 4 dX12_whoHad_54 rfl rfl ?_
        refine q_ishl 57 hX dX12_whoHad_56 rfl ?_
        refine q_ior 58 hX dX12_whoHad_57 rfl ?_
        refine q_istoreB_n 59 (lv0 := [(0, .ref (ad X 55)), (1, .int x1), (2, .int x2), (4, .int x4)]) hX dX12_whoHad_58 rfl rfl (by decide) rfl hres (fun v7 hres => ?_)
        refine q_iincB 62 4 (lv0 := [(3, .int v7), (0, .ref (ad X 55)), (1, .int x1), (2, .int x2)]) hX dX12_whoHad_59 rfl rfl kI_1 (by decide) rfl hres (fun v8 hres => ?_)
        refine q_goto 25 hX dX12_whoHad_62 (by decide) ?_
        exact q_sub [2, 3, 4, 1, 0] rfl (hrc25 _ _ _ _ _ hres)
def fX12_whoHad_25 : Nat → St → Int32 → Int32 → Int32 → Int32 → Option (Int32 × St)
  | 0 => fun _ _ _ _ _ => none
  | k + 1 => fun S x1 x2 x3 x4 => bX12_whoHad_25 (fX12_whoHad_25 k) S x1 x2 x3 x4
theorem wfX12_whoHad_25 {X : CX} (hX : Ok RX12 cX12_whoHad (some .int) 55 40 5 X) {rr : Int32 × St} (hq : rs X = (some (.int rr.1), rr.2)) (k : Nat) : ∀ (S : St) (x1 : Int32) (x2 : Int32) (x3 : Int32) (x4 : Int32), fX12_whoHad_25 k S x1 x2 x3 x4 = some rr → Wat 55 40 3 5 X 25 [(0, .ref (ad X 55)), (1, .int x1), (2, .int x2), (3, .int x3), (4, .int x4)] [] S := by
  induction k with
  | zero => intro S x1 x2 x3 x4 hres; exact absurd hres (by simp [fX12_whoHad_25])
  | succ k ih => intro S x1 x2 x3 x4 hres; exact wbX12_whoHad_25 hX hq ih hres
def fX12_whoHad (S : St) (x1 : Int32) (x2 : Int32) : Option (Int32 × St) :=
  bi (fX12_isTurn S x1) fun r2 S1 => if r2 = 0 then (some ((-1 : Int32), S1)) else (bi (fX12_in S1 x2 (0 : Int32) (65535 : Int32)) fun r4 S2 => if r4 = 0 then (some ((-1 : Int32), S2)) else (fX12_whoHad_25 100 S2 x1 x2 (0 : Int32) (0 : Int32)))
theorem wfX12_whoHad {X : CX} (hX : Ok RX12 cX12_whoHad (some .int) 55 40 5 X) {rr : Int32 × St} (hq : rs X = (some (.int rr.1), rr.2)) {S : St} {x1 : Int32} {x2 : Int32} (hres : fX12_whoHad S x1 x2 = some rr) : Wat 55 40 3 5 X 0 [(0, .ref (ad X 55)), (1, .int x1), (2, .int x2)] [] S := by
  unfold fX12_whoHad at hres
  refine q_iload_n 1 hX 1 dX12_whoHad_0 rfl rfl rfl ?_
  obtain ⟨r2, S1, hk1, hres⟩ := ob hres
  refine q_callSi 4 (st := []) (As := [.int x1]) hX (cX12_isTurn9 hX.dj hk1) cs_RX12_156 rfl (by decide) rfl (Nat.le_of_ble_eq_true rfl) dX12_whoHad_1 rfl ?_
  refine q_if_eq 7 hX 18 dX12_whoHad_4 rfl (by decide) (fun hc => ?_) (fun hc => ?_)
  · have hres := it_t hc hres
    refine q_iconst 19 hX dX12_whoHad_18 rfl kI_m1 ?_
    exact q_iret hX (eqi hq hres) dX12_whoHad_19
  · have hres := it_f hc hres
    refine q_iload_n 8 hX 2 dX12_whoHad_7 rfl rfl rfl ?_
    refine q_iconst 9 hX dX12_whoHad_8 rfl kI_0 ?_
    refine q_ldcw 12 hX dX12_whoHad_9 rfl gw988 ?_
    obtain ⟨r4, S2, hk3, hres⟩ := ob hres
    refine q_callSi 15 (st := []) (As := [.int x2, .int (0 : Int32), .int (65535 : Int32)]) hX (cX12_in9 hX.dj hk3) cs_RX12_134 rfl (by decide) rfl (Nat.le_of_ble_eq_true rfl) dX12_whoHad_12 rfl ?_
    refine q_if_ne 18 hX 20 dX12_whoHad_15 rfl (by decide) (fun hc => ?_) (fun hc => ?_)
    · have hres := it_f hc hres
      refine q_iconst 21 hX dX12_whoHad_20 rfl kI_0 ?_
      refine q_istore_n 22 (lv' := [(3, .int (0 : Int32)), (0, .ref (ad X 55)), (1, .int x1), (2, .int x2)]) hX dX12_whoHad_21 rfl rfl (by decide) rfl ?_
      refine q_iconst 23 hX dX12_whoHad_22 rfl kI_0 ?_
      refine q_istore 25 (lv' := [(4, .int (0 : Int32)), (3, .int (0 : Int32)), (0, .ref (ad X 55)), (1, .int x1), (2, .int x2)]) hX dX12_whoHad_23 rfl (by decide) rfl ?_
      exact q_sub [2, 3, 4, 1, 0] rfl (wfX12_whoHad_25 hX hq _ _ _ _ _ _ hres)
    · have hres := it_t hc hres
      refine q_iconst 19 hX dX12_whoHad_18 rfl kI_m1 ?_
      exact q_iret hX (eqi hq hres) dX12_whoHad_19
theorem cX12_whoHad9 {l : Launch} {w : WD} (hj : Dj w 55 40) {rr : Int32 × St} {S : St} {x1 : Int32} {x2 : Int32} (hres : fX12_whoHad S x1 x2 = some rr) : Ct l yX12_whoHad cX12_whoHad 5 (some .int) 3 w 55 40 [.ref (w.1 55), .int x1, .int x2] S (some (.int rr.1), rr.2) := by
  refine Ct.of (lv := [(0, .ref (w.1 55)), (1, .int x1), (2, .int x2)]) hj (by decide +kernel) (Nat.le_of_ble_eq_true rfl) rfl ?_
  rintro X rfl rfl hq hX
  exact wfX12_whoHad hX hq hres
def fX12_stateOf (S : St) (x0 : Int32) (x1 : Int32) : Option (Int32 × St) :=
  some ((((17 : Int32) * x0) + x1), S)
theorem wfX12_stateOf {X : CX} (hX : Ok RX12 cX12_stateOf (some .int) 55 40 2 X) {rr : Int32 × St} (hq : rs X = (some (.int rr.1), rr.2)) {S : St} {x0 : Int32} {x1 : Int32} (hres : fX12_stateOf S x0 x1 = some rr) : Wat 55 40 0 2 X 0 [(0, .int x0), (1, .int x1)] [] S := by
  unfold fX12_stateOf at hres
  refine q_bipush 2 hX dX12_stateOf_0 rfl kB_17 ?_
  refine q_iload_n 3 hX 0 dX12_stateOf_2 rfl rfl rfl ?_
  refine q_imul 4 hX dX12_stateOf_3 rfl ?_
  refine q_iload_n 5 hX 1 dX12_stateOf_4 rfl rfl rfl ?_
  refine q_iadd 6 hX dX12_stateOf_5 rfl ?_
  exact q_iret hX (eqi hq hres) dX12_stateOf_6
theorem cX12_stateOf9 {l : Launch} {w : WD} (hj : Dj w 55 40) {rr : Int32 × St} {S : St} {x0 : Int32} {x1 : Int32} (hres : fX12_stateOf S x0 x1 = some rr) : Ct l yX12_stateOf cX12_stateOf 2 (some .int) 0 w 55 40 [.int x0, .int x1] S (some (.int rr.1), rr.2) := by
  refine Ct.of (lv := [(0, .int x0), (1, .int x1)]) hj (by decide +kernel) (Nat.le_of_ble_eq_true rfl) rfl ?_
  rintro X rfl rfl hq hX
  exact wfX12_stateOf hX hq hres
def bX12_metBy_6 (rc6 : St → Int32 → Int32 → Int32 → Int32 → Int32 → Option (Int32 × St)) (S : St) (x1 : Int32) (x2 : Int32) (x3 : Int32) (x4 : Int32) (x5 : Int32) : Option (Int32 × St) :=
  if x3 ≤ x5 then (some (x4, S)) else (bi (fX12_octet S ((2 : Int32) * x5)) fun r2 S1 => if r2 = x1 then (bi (fX12_octet S1 (((2 : Int32) * x5) + (1 : Int32))) fun r5 S2 => bi (fX12_isSeen S2 x1 r5 x2) fun r7 S3 => if r7 = 0 then (bV (x5 + (1 : Int32)) fun v8 => rc6 S3 x1 x2 x3 x4 v8) else (bV ((x4 ||| ((1 : Int32) <<< (x5 &&& 31)))) fun v9 => bV (x5 + (1 : Int32)) fun v10 => rc6 S3 x1 x2 x3 v9 v10)) else (bV (x5 + (1 : Int32)) fun v3 => rc6 S1 x1 x2 x3 x4 v3))
theorem wbX12_metBy_6 {X : CX} (hX : Ok RX12 cX12_metBy (some .int) 55 40 6 X) {rr : Int32 × St} (hq : rs X = (some (.int rr.1), rr.2)) {rc6 : St → Int32 → Int32 → Int32 → Int32 → Int32 → Option (Int32 × St)} (hrc6 : ∀ (S : St) (x1 : Int32) (x2 : Int32) (x3 : Int32) (x4 : Int32) (x5 : Int32), rc6 S x1 x2 x3 x4 x5 = some rr → Wat 55 40 2 6 X 6 [(0, .ref (ad X 55)), (1, .int x1), (2, .int x2), (3, .int x3), (4, .int x4), (5, .int x5)] [] S) {S : St} {x1 : Int32} {x2 : Int32} {x3 : Int32} {x4 : Int32} {x5 : Int32} (hres : bX12_metBy_6 rc6 S x1 x2 x3 x4 x5 = some rr) : Wat 55 40 2 6 X 6 [(0, .ref (ad X 55)), (1, .int x1), (2, .int x2), (3, .int x3), (4, .int x4), (5, .int x5)] [] S := by
  unfold bX12_metBy_6 at hres
  refine q_iload 8 hX 5 dX12_metBy_6 rfl rfl ?_
  refine q_iload_n 9 hX 3 dX12_metBy_8 rfl rfl rfl ?_
  refine q_icmp_ge 12 hX 58 dX12_metBy_9 rfl (by decide) (fun hc => ?_) (fun hc => ?_)
  · have hres := it_t hc hres
    refine q_iload 60 hX 4 dX12_metBy_58 rfl rfl ?_
    exact q_iret hX (eqi hq hres) dX12_metBy_60
  · have hres := it_f hc hres
    refine q_aload_n 13 hX 0 dX12_metBy_12 rfl rfl rfl ?_
    refine q_iconst 14 hX dX12_metBy_13 rfl kI_2 ?_
    refine q_iload 16 hX 5 dX12_metBy_14 rfl rfl ?_
    refine q_imul 17 hX dX12_metBy_16 rfl ?_
    obtain ⟨r2, S1, hk1, hres⟩ := ob hres
    refine q_callVi 20 (st := []) (As := [.int ((2 : Int32) * x5)]) hX (cX12_octet9 hX.dj hk1) cv_RX12_400 ci12 oB_55 rfl (by decide) rfl (Nat.le_of_ble_eq_true rfl) dX12_metBy_17 rfl ?_
    refine q_iload_n 21 hX 1 dX12_metBy_20 rfl rfl rfl ?_
    refine q_icmp_ne 24 hX 52 dX12_metBy_21 rfl (by decide) (fun hc => ?_) (fun hc => ?_)
    · have hres := it_f hc hres
      refine q_iincB 55 5 (lv0 := [(0, .ref (ad X 55)), (1, .int x1), (2, .int x2), (3, .int x3), (4, .int x4)]) hX dX12_metBy_52 rfl rfl kI_1 (by decide) rfl hres (fun v3 hres => ?_)
      refine q_goto 6 hX dX12_metBy_55 (by decide) ?_
      exact q_sub [1, 2, 3, 4, 5, 0] rfl (hrc6 _ _ _ _ _ _ hres)
    · have hres := it_t hc hres
      refine q_aload_n 25 hX 0 dX12_metBy_24 rfl rfl rfl ?_
      refine q_iload_n 26 hX 1 dX12_metBy_25 rfl rfl rfl ?_
      refine q_aload_n 27 hX 0 dX12_metBy_26 rfl rfl rfl ?_
      refine q_iconst 28 hX dX12_metBy_27 rfl kI_2 ?_
      refine q_iload 30 hX 5 dX12_metBy_28 rfl rfl ?_
      refine q_imul 31 hX dX12_metBy_30 rfl ?_
      refine q_iconst 32 hX dX12_metBy_31 rfl kI_1 ?_
      refine q_iadd 33 hX dX12_metBy_32 rfl ?_
      obtain ⟨r5, S2, hk4, hres⟩ := ob hres
      refine q_callVi 36 (st := [.int x1, .ref (ad X 55)]) (As := [.int (((2 : Int32) * x5) + (1 : Int32))]) hX (cX12_octet9 hX.dj hk4) cv_RX12_400 ci12 oB_55 rfl (by decide) rfl (Nat.le_of_ble_eq_true rfl) dX12_metBy_33 rfl ?_
      refine q_iload_n 37 hX 2 dX12_metBy_36 rfl rfl rfl ?_
      obtain ⟨r7, S3, hk6, hres⟩ := ob hres
      refine q_callVi 40 (st := []) (As := [.int x1, .int r5, .int x2]) hX (cX12_isSeen9 hX.dj hk6) cv_RX12_149 ci12 oB_55 rfl (by decide) rfl (Nat.le_of_ble_eq_true rfl) dX12_metBy_37 rfl ?_
      refine q_if_eq 43 hX 52 dX12_metBy_40 rfl (by decide) (fun hc => ?_) (fun hc => ?_)
      · have hres := it_t hc hres
        refine q_iincB 55 5 (lv0 := [(0, .ref (ad X 55)), (1, .int x1), (2, .int x2), (3, .int x3), (4, .int x4)]) hX dX12_metBy_52 rfl rfl kI_1 (by decide) rfl hres (fun v8 hres => ?_)
        refine q_goto 6 hX dX12_metBy_55 (by decide) ?_
        exact q_sub [1, 2, 3, 4, 5, 0] rfl (hrc6 _ _ _ _ _ _ hres)
      · have hres := it_f hc hres
        refine q_iload 45 hX 4 dX12_metBy_43 rfl rfl ?_
        refine q_iconst 46 hX dX12_metBy_45 rfl kI_1 ?_
        refine q_iload 48 hX 5 dX12_metBy_46 rfl rfl ?_
        refine q_ishl 49 hX dX12_metBy_48 rfl ?_
        refine q_ior 50 hX dX12_metBy_49 rfl ?_
        refine q_istoreB 52 (lv0 := [(0, .ref (ad X 55)), (1, .int x1), (2, .int x2), (3, .int x3), (5, .int x5)]) hX dX12_metBy_50 rfl (by decide) rfl hres (fun v9 hres => ?_)
        refine q_iincB 55 5 (lv0 := [(4, .int v9), (0, .ref (ad X 55)), (1, .int x1), (2, .int x2), (3, .int x3)]) hX dX12_metBy_52 rfl rfl kI_1 (by decide) rfl hres (fun v10 hres => ?_)
        refine q_goto 6 hX dX12_metBy_55 (by decide) ?_
        exact q_sub [2, 3, 4, 5, 1, 0] rfl (hrc6 _ _ _ _ _ _ hres)
def fX12_metBy_6 : Nat → St → Int32 → Int32 → Int32 → Int32 → Int32 → Option (Int32 × St)
  | 0 => fun _ _ _ _ _ _ => none
  | k + 1 => fun S x1 x2 x3 x4 x5 => bX12_metBy_6 (fX12_metBy_6 k) S x1 x2 x3 x4 x5
theorem wfX12_metBy_6 {X : CX} (hX : Ok RX12 cX12_metBy (some .int) 55 40 6 X) {rr : Int32 × St} (hq : rs X = (some (.int rr.1), rr.2)) (k : Nat) : ∀ (S : St) (x1 : Int32) (x2 : Int32) (x3 : Int32) (x4 : Int32) (x5 : Int32), fX12_metBy_6 k S x1 x2 x3 x4 x5 = some rr → Wat 55 40 2 6 X 6 [(0, .ref (ad X 55)), (1, .int x1), (2, .int x2), (3, .int x3), (4, .int x4), (5, .int x5)] [] S := by
  induction k with
  | zero => intro S x1 x2 x3 x4 x5 hres; exact absurd hres (by simp [fX12_metBy_6])
  | succ k ih => intro S x1 x2 x3 x4 x5 hres; exact wbX12_metBy_6 hX hq ih hres
def fX12_metBy (S : St) (x1 : Int32) (x2 : Int32) (x3 : Int32) : Option (Int32 × St) :=
  fX12_metBy_6 100 S x1 x2 x3 (0 : Int32) (0 : Int32)
theorem wfX12_metBy {X : CX} (hX : Ok RX12 cX12_metBy (some .int) 55 40 6 X) {rr : Int32 × St} (hq : rs X = (some (.int rr.1), rr.2)) {S : St} {x1 : Int32} {x2 : Int32} {x3 : Int32} (hres : fX12_metBy S x1 x2 x3 = some rr) : Wat 55 40 2 6 X 0 [(0, .ref (ad X 55)), (1, .int x1), (2, .int x2), (3, .int x3)] [] S := by
  unfold fX12_metBy at hres
  refine q_iconst 1 hX dX12_metBy_0 rfl kI_0 ?_
  refine q_istore 3 (lv' := [(4, .int (0 : Int32)), (0, .ref (ad X 55)), (1, .int x1), (2, .int x2), (3, .int x3)]) hX dX12_metBy_1 rfl (by decide) rfl ?_
  refine q_iconst 4 hX dX12_metBy_3 rfl kI_0 ?_
  refine q_istore 6 (lv' := [(5, .int (0 : Int32)), (4, .int (0 : Int32)), (0, .ref (ad X 55)), (1, .int x1), (2, .int x2), (3, .int x3)]) hX dX12_metBy_4 rfl (by decide) rfl ?_
  exact q_sub [2, 3, 4, 5, 1, 0] rfl (wfX12_metBy_6 hX hq _ _ _ _ _ _ _ hres)
theorem cX12_metBy9 {l : Launch} {w : WD} (hj : Dj w 55 40) {rr : Int32 × St} {S : St} {x1 : Int32} {x2 : Int32} {x3 : Int32} (hres : fX12_metBy S x1 x2 x3 = some rr) : Ct l yX12_metBy cX12_metBy 6 (some .int) 2 w 55 40 [.ref (w.1 55), .int x1, .int x2, .int x3] S (some (.int rr.1), rr.2) := by
  refine Ct.of (lv := [(0, .ref (w.1 55)), (1, .int x1), (2, .int x2), (3, .int x3)]) hj (by decide +kernel) (Nat.le_of_ble_eq_true rfl) rfl ?_
  rintro X rfl rfl hq hX
  exact wfX12_metBy hX hq hres
def fX12_choosesHouse_85 (rc18 : St → Int32 → Int32 → Int32 → Int32 → Option (St)) (rc29 : St → Int32 → Int32 → Int32 → Int32 → Int32 → Option (St)) (S : St) (x1 : Int32) (x3 : Int32) (x4 : Int32) (x5 : Int32) (x6 : Int32) (s0 : Int32) : Option (St) :=
  bi (fX12_stateOf S (x5 ||| x4) x1) fun r2 S1 => if inb r2 1088 = true then bi (fX12_min S1 (S1.1 88 (r2.toNatClampNeg)) s0) fun r5 S2 => if inb r2 1088 = true then bS (pI S2 88 (r2.toNatClampNeg) r5) fun S3 => bV (x6 + (1 : Int32)) fun v7 => rc29 S3 x1 x3 x4 x5 v7 else none else none
theorem wfX12_choosesHouse_85 {X : CX} (hX : Ok RX12 cX12_choosesHouse none 55 40 10 X) {rr : St} (hq : rs X = (none, rr)) {rc18 : St → Int32 → Int32 → Int32 → Int32 → Option (St)} (hrc18 : ∀ (S : St) (x1 : Int32) (x3 : Int32) (x4 : Int32) (x5 : Int32), rc18 S x1 x3 x4 x5 = some rr → Wat 55 40 3 10 X 18 [(0, .ref (ad X 55)), (1, .int x1), (3, .int x3), (4, .int x4), (5, .int x5)] [] S) {rc29 : St → Int32 → Int32 → Int32 → Int32 → Int32 → Option (St)} (hrc29 : ∀ (S : St) (x1 : Int32) (x3 : Int32) (x4 : Int32) (x5 : Int32) (x6 : Int32), rc29 S x1 x3 x4 x5 x6 = some rr → Wat 55 40 3 10 X 29 [(0, .ref (ad X 55)), (1, .int x1), (3, .int x3), (4, .int x4), (5, .int x5), (6, .int x6)] [] S) {S : St} {x1 : Int32} {x3 : Int32} {x4 : Int32} {x5 : Int32} {x6 : Int32} {s0 : Int32} (hres : fX12_choosesHouse_85 rc18 rc29 S x1 x3 x4 x5 x6 s0 = some rr) : Wat 55 40 3 10 X 85 [(0, .ref (ad X 55)), (1, .int x1), (3, .int x3), (4, .int x4), (5, .int x5), (6, .int x6)] [.int s0] S := by
  unfold fX12_choosesHouse_85 at hres
  refine q_istore 87 (lv' := [(8, .int s0), (0, .ref (ad X 55)), (1, .int x1), (3, .int x3), (4, .int x4), (5, .int x5), (6, .int x6)]) hX dX12_choosesHouse_85 rfl (by decide) rfl ?_
  refine q_iload 89 hX 5 dX12_choosesHouse_87 rfl rfl ?_
  refine q_iload 91 hX 4 dX12_choosesHouse_89 rfl rfl ?_
  refine q_ior 92 hX dX12_choosesHouse_91 rfl ?_
  refine q_iload_n 93 hX 2 dX12_choosesHouse_92 rfl rfl rfl ?_
  obtain ⟨r2, S1, hk1, hres⟩ := ob hres
  refine q_callSi 96 (st := []) (As := [.int (x5 ||| x4), .int x1]) hX (cX12_stateOf9 hX.dj hk1) cs_RX12_406 rfl (by decide) rfl (Nat.le_of_ble_eq_true rfl) dX12_choosesHouse_93 rfl ?_
  refine q_istore 98 (lv' := [(9, .int r2), (8, .int s0), (0, .ref (ad X 55)), (1, .int x1), (3, .int x3), (4, .int x4), (5, .int x5), (6, .int x6)]) hX dX12_choosesHouse_96 rfl (by decide) rfl ?_
  refine q_aload_n 99 hX 2 dX12_choosesHouse_98 rfl rfl rfl ?_
  refine q_getR 102 hX ci12 lf_RX12_107 fR_55_52 dX12_choosesHouse_99 rfl ?_
  refine q_iload 104 hX 0 dX12_choosesHouse_102 rfl rfl ?_
  refine q_aload_n 105 hX 2 dX12_choosesHouse_104 rfl rfl rfl ?_
  refine q_getR 108 hX ci12 lf_RX12_107 fR_55_52 dX12_choosesHouse_105 rfl ?_
  refine q_iload 110 hX 0 dX12_choosesHouse_108 rfl rfl ?_
  obtain ⟨hb3, hres⟩ := gd hres
  refine q_iald 111 hX rfl aF_88 hb3 dX12_choosesHouse_110 rfl ?_
  refine q_iload 113 hX 1 dX12_choosesHouse_111 rfl rfl ?_
  obtain ⟨r5, S2, hk4, hres⟩ := ob hres
  refine q_callSi 116 (st := [.int r2, .ref (ad X 88)]) (As := [.int (S1.1 88 (r2.toNatClampNeg)), .int s0]) hX (cX12_min9 hX.dj hk4) cs_RX12_333 rfl (by decide) rfl (Nat.le_of_ble_eq_true rfl) dX12_choosesHouse_113 rfl ?_
  obtain ⟨hb6, hres⟩ := gd hres
  refine q_iast 117 hX rfl aF_88 hb6 dX12_choosesHouse_116 rfl ?_
  refine q_bS hres (fun S3 _ hres => ?_)
  refine q_iincB 120 7 (lv0 := [(9, .int r2), (8, .int s0), (0, .ref (ad X 55)), (1, .int x1), (3, .int x3), (4, .int x4), (5, .int x5)]) hX dX12_choosesHouse_117 rfl rfl kI_1 (by decide) rfl hres (fun v7 hres => ?_)
  refine q_goto 29 hX dX12_choosesHouse_120 (by decide) ?_
  exact q_sub [3, 4, 5, 6, 7, 0] rfl (hrc29 _ _ _ _ _ _ hres)
def bX12_choosesHouse_29 (rc18 : St → Int32 → Int32 → Int32 → Int32 → Option (St)) (rc29 : St → Int32 → Int32 → Int32 → Int32 → Int32 → Option (St)) (S : St) (x1 : Int32) (x3 : Int32) (x4 : Int32) (x5 : Int32) (x6 : Int32) : Option (St) :=
  if (16 : Int32) < x6 then (bV (x5 + (1 : Int32)) fun v1 => rc18 S x1 x3 x4 v1) else (bi (fX12_stateOf S x5 x6) fun r3 S1 => if inb r3 1088 = true then bV ((S1.1 87 (r3.toNatClampNeg))) fun v5 => if v5 < (100000000 : Int32) then (if x6 = (16 : Int32) then (fX12_choosesHouse_85 rc18 rc29 S1 x1 x3 x4 x5 x6 x1) else (bi (fX12_size S1 (x1 - x6)) fun r7 S2 => fX12_choosesHouse_85 rc18 rc29 S2 x1 x3 x4 x5 x6 (v5 + ((32 : Int32) * r7)))) else (bV (x6 + (1 : Int32)) fun v8 => rc29 S1 x1 x3 x4 x5 v8) else none)
theorem wbX12_choosesHouse_29 {X : CX} (hX : Ok RX12 cX12_choosesHouse none 55 40 10 X) {rr : St} (hq : rs X = (none, rr)) {rc18 : St → Int32 → Int32 → Int32 → Int32 → Option (St)} (hrc18 : ∀ (S : St) (x1 : Int32) (x3 : Int32) (x4 : Int32) (x5 : Int32), rc18 S x1 x3 x4 x5 = some rr → Wat 55 40 3 10 X 18 [(0, .ref (ad X 55)), (1, .int x1), (3, .int x3), (4, .int x4), (5, .int x5)] [] S) {rc29 : St → Int32 → Int32 → Int32 → Int32 → Int32 → Option (St)} (hrc29 : ∀ (S : St) (x1 : Int32) (x3 : Int32) (x4 : Int32) (x5 : Int32) (x6 : Int32), rc29 S x1 x3 x4 x5 x6 = some rr → Wat 55 40 3 10 X 29 [(0, .ref (ad X 55)), (1, .int x1), (3, .int x3), (4, .int x4), (5, .int x5), (6, .int x6)] [] S) {S : St} {x1 : Int32} {x3 : Int32} {x4 : Int32} {x5 : Int32} {x6 : Int32} (hres : bX12_choosesHouse_29 rc18 rc29 S x1 x3 x4 x5 x6 = some rr) : Wat 55 40 3 10 X 29 [(0, .ref (ad X 55)), (1, .int x1), (3, .int x3), (4, .int x4), (5, .int x5), (6, .int x6)] [] S := by
  unfold bX12_choosesHouse_29 at hres
  refine q_iload 31 hX 5 dX12_choosesHouse_29 rfl rfl ?_
  refine q_bipush 33 hX dX12_choosesHouse_31 rfl kB_16 ?_
  refine q_icmp_gt 36 hX 123 dX12_choosesHouse_33 rfl (by decide) (fun hc => ?_) (fun hc => ?_)
  · have hres := it_t hc hres
    refine q_iincB 126 4 (lv0 := [(0, .ref (ad X 55)), (1, .int x1), (3, .int x3), (4, .int x4), (6, .int x6)]) hX dX12_choosesHouse_123 rfl rfl kI_1 (by decide) rfl hres (fun v1 hres => ?_)
    refine q_goto 18 hX dX12_choosesHouse_126 (by decide) ?_
    exact q_sub [1, 2, 3, 4, 0] rfl (hrc18 _ _ _ _ _ hres)
  · have hres := it_f hc hres
    refine q_aload_n 37 hX 0 dX12_choosesHouse_36 rfl rfl rfl ?_
    refine q_getR 40 hX ci12 lf_RX12_104 fR_55_51 dX12_choosesHouse_37 rfl ?_
    refine q_iload 42 hX 4 dX12_choosesHouse_40 rfl rfl ?_
    refine q_iload 44 hX 5 dX12_choosesHouse_42 rfl rfl ?_
    obtain ⟨r3, S1, hk2, hres⟩ := ob hres
    refine q_callSi 47 (st := [.ref (ad X 87)]) (As := [.int x5, .int x6]) hX (cX12_stateOf9 hX.dj hk2) cs_RX12_406 rfl (by decide) rfl (Nat.le_of_ble_eq_true rfl) dX12_choosesHouse_44 rfl ?_
    obtain ⟨hb4, hres⟩ := gd hres
    refine q_iald 48 hX rfl aF_87 hb4 dX12_choosesHouse_47 rfl ?_
    refine q_istoreB 50 (lv0 := [(0, .ref (ad X 55)), (1, .int x1), (3, .int x3), (4, .int x4), (5, .int x5), (6, .int x6)]) hX dX12_choosesHouse_48 rfl (by decide) rfl hres (fun v5 hres => ?_)
    refine q_iload 52 hX 0 dX12_choosesHouse_50 rfl rfl ?_
    refine q_ldcw 55 hX dX12_choosesHouse_52 rfl gw998 ?_
    refine q_icmp_lt 58 hX 61 dX12_choosesHouse_55 rfl (by decide) (fun hc => ?_) (fun hc => ?_)
    · have hres := it_t hc hres
      refine q_iload 63 hX 6 dX12_choosesHouse_61 rfl rfl ?_
      refine q_bipush 65 hX dX12_choosesHouse_63 rfl kB_16 ?_
      refine q_icmp_ne 68 hX 72 dX12_choosesHouse_65 rfl (by decide) (fun hc => ?_) (fun hc => ?_)
      · have hres := it_f hc hres
        refine q_iload 74 hX 0 dX12_choosesHouse_72 rfl rfl ?_
        refine q_bipush 76 hX dX12_choosesHouse_74 rfl kB_32 ?_
        refine q_iload_n 77 hX 2 dX12_choosesHouse_76 rfl rfl rfl ?_
        refine q_iload 79 hX 6 dX12_choosesHouse_77 rfl rfl ?_
        refine q_isub 80 hX dX12_choosesHouse_79 rfl ?_
        obtain ⟨r7, S2, hk6, hres⟩ := ob hres
        refine q_callSi 83 (st := [.int (32 : Int32), .int v5]) (As := [.int (x1 - x6)]) hX (cX12_size9 hX.dj hk6) cs_RX12_317 rfl (by decide) rfl (Nat.le_of_ble_eq_true rfl) dX12_choosesHouse_80 rfl ?_
        refine q_imul 84 hX dX12_choosesHouse_83 rfl ?_
        refine q_iadd 85 hX dX12_choosesHouse_84 rfl ?_
        exact q_sub [1, 2, 3, 4, 5, 6] rfl (wfX12_choosesHouse_85 hX hq hrc18 hrc29 hres)
      · have hres := it_t hc hres
        refine q_iload_n 69 hX 2 dX12_choosesHouse_68 rfl rfl rfl ?_
        refine q_goto 85 hX dX12_choosesHouse_69 (by decide) ?_
        exact q_sub [1, 2, 3, 4, 5, 6] rfl (wfX12_choosesHouse_85 hX hq hrc18 hrc29 hres)
    · have hres := it_f hc hres
      refine q_goto 117 hX dX12_choosesHouse_58 (by decide) ?_
      refine q_iincB 120 6 (lv0 := [(7, .int v5), (0, .ref (ad X 55)), (1, .int x1), (3, .int x3), (4, .int x4), (5, .int x5)]) hX dX12_choosesHouse_117 rfl rfl kI_1 (by decide) rfl hres (fun v8 hres => ?_)
      refine q_goto 29 hX dX12_choosesHouse_120 (by decide) ?_
      exact q_sub [2, 3, 4, 5, 6, 0] rfl (hrc29 _ _ _ _ _ _ hres)
def fX12_choosesHouse_29 (rc18 : St → Int32 → Int32 → Int32 → Int32 → Option (St)) : Nat → St → Int32 → Int32 → Int32 → Int32 → Int32 → Option (St)
  | 0 => fun _ _ _ _ _ _ => none
  | k + 1 => fun S x1 x3 x4 x5 x6 => bX12_choosesHouse_29 rc18 (fX12_choosesHouse_29 rc18 k) S x1 x3 x4 x5 x6
theorem wfX12_choosesHouse_29 {X : CX} (hX : Ok RX12 cX12_choosesHouse none 55 40 10 X) {rr : St} (hq : rs X = (none, rr)) {rc18 : St → Int32 → Int32 → Int32 → Int32 → Option (St)} (hrc18 : ∀ (S : St) (x1 : Int32) (x3 : Int32) (x4 : Int32) (x5 : Int32), rc18 S x1 x3 x4 x5 = some rr → Wat 55 40 3 10 X 18 [(0, .ref (ad X 55)), (1, .int x1), (3, .int x3), (4, .int x4), (5, .int x5)] [] S) (k : Nat) : ∀ (S : St) (x1 : Int32) (x3 : Int32) (x4 : Int32) (x5 : Int32) (x6 : Int32), fX12_choosesHouse_29 rc18 k S x1 x3 x4 x5 x6 = some rr → Wat 55 40 3 10 X 29 [(0, .ref (ad X 55)), (1, .int x1), (3, .int x3), (4, .int x4), (5, .int x5), (6, .int x6)] [] S := by
  induction k with
  | zero => intro S x1 x3 x4 x5 x6 hres; exact absurd hres (by simp [fX12_choosesHouse_29])
  | succ k ih => intro S x1 x3 x4 x5 x6 hres; exact wbX12_choosesHouse_29 hX hq hrc18 ih hres
def bX12_choosesHouse_18 (rc18 : St → Int32 → Int32 → Int32 → Int32 → Option (St)) (S : St) (x1 : Int32) (x3 : Int32) (x4 : Int32) (x5 : Int32) : Option (St) :=
  if ((1 : Int32) <<< (x3 &&& 31)) ≤ x5 then (some S) else (fX12_choosesHouse_29 rc18 100 S x1 x3 x4 x5 (0 : Int32))
theorem wbX12_choosesHouse_18 {X : CX} (hX : Ok RX12 cX12_choosesHouse none 55 40 10 X) {rr : St} (hq : rs X = (none, rr)) {rc18 : St → Int32 → Int32 → Int32 → Int32 → Option (St)} (hrc18 : ∀ (S : St) (x1 : Int32) (x3 : Int32) (x4 : Int32) (x5 : Int32), rc18 S x1 x3 x4 x5 = some rr → Wat 55 40 3 10 X 18 [(0, .ref (ad X 55)), (1, .int x1), (3, .int x3), (4, .int x4), (5, .int x5)] [] S) {S : St} {x1 : Int32} {x3 : Int32} {x4 : Int32} {x5 : Int32} (hres : bX12_choosesHouse_18 rc18 S x1 x3 x4 x5 = some rr) : Wat 55 40 3 10 X 18 [(0, .ref (ad X 55)), (1, .int x1), (3, .int x3), (4, .int x4), (5, .int x5)] [] S := by
  unfold bX12_choosesHouse_18 at hres
  refine q_iload 20 hX 4 dX12_choosesHouse_18 rfl rfl ?_
  refine q_iconst 21 hX dX12_choosesHouse_20 rfl kI_1 ?_
  refine q_iload_n 22 hX 2 dX12_choosesHouse_21 rfl rfl rfl ?_
  refine q_ishl 23 hX dX12_choosesHouse_22 rfl ?_
  refine q_icmp_ge 26 hX 129 dX12_choosesHouse_23 rfl (by decide) (fun hc => ?_) (fun hc => ?_)
  · have hres := it_t hc hres
    exact q_vret hX (eqv hq hres) dX12_choosesHouse_129
  · have hres := it_f hc hres
    refine q_iconst 27 hX dX12_choosesHouse_26 rfl kI_0 ?_
    refine q_istore 29 (lv' := [(6, .int (0 : Int32)), (0, .ref (ad X 55)), (1, .int x1), (3, .int x3), (4, .int x4), (5, .int x5)]) hX dX12_choosesHouse_27 rfl (by decide) rfl ?_
    exact q_sub [1, 2, 3, 4, 5, 0] rfl (wfX12_choosesHouse_29 hX hq hrc18 _ _ _ _ _ _ _ hres)
def fX12_choosesHouse_18 : Nat → St → Int32 → Int32 → Int32 → Int32 → Option (St)
  | 0 => fun _ _ _ _ _ => none
  | k + 1 => fun S x1 x3 x4 x5 => bX12_choosesHouse_18 (fX12_choosesHouse_18 k) S x1 x3 x4 x5
theorem wfX12_choosesHouse_18 {X : CX} (hX : Ok RX12 cX12_choosesHouse none 55 40 10 X) {rr : St} (hq : rs X = (none, rr)) (k : Nat) : ∀ (S : St) (x1 : Int32) (x3 : Int32) (x4 : Int32) (x5 : Int32), fX12_choosesHouse_18 k S x1 x3 x4 x5 = some rr → Wat 55 40 3 10 X 18 [(0, .ref (ad X 55)), (1, .int x1), (3, .int x3), (4, .int x4), (5, .int x5)] [] S := by
  induction k with
  | zero => intro S x1 x3 x4 x5 hres; exact absurd hres (by simp [fX12_choosesHouse_18])
  | succ k ih => intro S x1 x3 x4 x5 hres; exact wbX12_choosesHouse_18 hX hq ih hres
def fX12_choosesHouse (S : St) (x1 : Int32) (x2 : Int32) (x3 : Int32) : Option (St) :=
  bi (fX12_metBy S x1 x2 x3) fun r2 S1 => if r2 = 0 then (some S1) else (fX12_choosesHouse_18 100 S1 x1 x3 r2 (0 : Int32))
theorem wfX12_choosesHouse {X : CX} (hX : Ok RX12 cX12_choosesHouse none 55 40 10 X) {rr : St} (hq : rs X = (none, rr)) {S : St} {x1 : Int32} {x2 : Int32} {x3 : Int32} (hres : fX12_choosesHouse S x1 x2 x3 = some rr) : Wat 55 40 3 10 X 0 [(0, .ref (ad X 55)), (1, .int x1), (2, .int x2), (3, .int x3)] [] S := by
  unfold fX12_choosesHouse at hres
  refine q_aload_n 1 hX 0 dX12_choosesHouse_0 rfl rfl rfl ?_
  refine q_iload_n 2 hX 1 dX12_choosesHouse_1 rfl rfl rfl ?_
  refine q_iload_n 3 hX 2 dX12_choosesHouse_2 rfl rfl rfl ?_
  refine q_iload_n 4 hX 3 dX12_choosesHouse_3 rfl rfl rfl ?_
  obtain ⟨r2, S1, hk1, hres⟩ := ob hres
  refine q_callVi 7 (st := []) (As := [.int x1, .int x2, .int x3]) hX (cX12_metBy9 hX.dj hk1) cv_RX12_403 ci12 oB_55 rfl (by decide) rfl (Nat.le_of_ble_eq_true rfl) dX12_choosesHouse_4 rfl ?_
  refine q_istore 9 (lv' := [(4, .int r2), (0, .ref (ad X 55)), (1, .int x1), (2, .int x2), (3, .int x3)]) hX dX12_choosesHouse_7 rfl (by decide) rfl ?_
  refine q_iload 11 hX 0 dX12_choosesHouse_9 rfl rfl ?_
  refine q_if_ne 14 hX 15 dX12_choosesHouse_11 rfl (by decide) (fun hc => ?_) (fun hc => ?_)
  · have hres := it_f hc hres
    refine q_iconst 16 hX dX12_choosesHouse_15 rfl kI_0 ?_
    refine q_istore 18 (lv' := [(5, .int (0 : Int32)), (4, .int r2), (0, .ref (ad X 55)), (1, .int x1), (2, .int x2), (3, .int x3)]) hX dX12_choosesHouse_16 rfl (by decide) rfl ?_
    exact q_sub [2, 3, 5, 1, 0] rfl (wfX12_choosesHouse_18 hX hq _ _ _ _ _ _ hres)
  · have hres := it_t hc hres
    exact q_vret hX (eqv hq hres) dX12_choosesHouse_14
theorem cX12_choosesHouse9 {l : Launch} {w : WD} (hj : Dj w 55 40) {rr : St} {S : St} {x1 : Int32} {x2 : Int32} {x3 : Int32} (hres : fX12_choosesHouse S x1 x2 x3 = some rr) : Ct l yX12_choosesHouse cX12_choosesHouse 10 none 3 w 55 40 [.ref (w.1 55), .int x1, .int x2, .int x3] S (none, rr) := by
  refine Ct.of (lv := [(0, .ref (w.1 55)), (1, .int x1), (2, .int x2), (3, .int x3)]) hj (by decide +kernel) (Nat.le_of_ble_eq_true rfl) rfl ?_
  rintro X rfl rfl hq hX
  exact wfX12_choosesHouse hX hq hres
def bX12_leastOfAll_102 (rc38 : St → Int32 → Int32 → Option (Int32 × St)) (rc102 : St → Int32 → Int32 → Int32 → Option (Int32 × St)) (S : St) (x1 : Int32) (x2 : Int32) (x3 : Int32) : Option (Int32 × St) :=
  if (1088 : Int32) ≤ x3 then (bV (x2 + (1 : Int32)) fun v1 => rc38 S x1 v1) else (if inb x3 1088 = true then if inb x3 1088 = true then bS (pI S 87 (x3.toNatClampNeg) (S.1 88 (x3.toNatClampNeg))) fun S1 => bV (x3 + (1 : Int32)) fun v4 => rc102 S1 x1 x2 v4 else none else none)
theorem wbX12_leastOfAll_102 {X : CX} (hX : Ok RX12 cX12_leastOfAll (some .int) 55 40 4 X) {rr : Int32 × St} (hq : rs X = (some (.int rr.1), rr.2)) {rc38 : St → Int32 → Int32 → Option (Int32 × St)} (hrc38 : ∀ (S : St) (x1 : Int32) (x2 : Int32), rc38 S x1 x2 = some rr → Wat 55 40 4 4 X 38 [(0, .ref (ad X 55)), (1, .int x1), (2, .int x2)] [] S) {rc102 : St → Int32 → Int32 → Int32 → Option (Int32 × St)} (hrc102 : ∀ (S : St) (x1 : Int32) (x2 : Int32) (x3 : Int32), rc102 S x1 x2 x3 = some rr → Wat 55 40 4 4 X 102 [(0, .ref (ad X 55)), (1, .int x1), (2, .int x2), (3, .int x3)] [] S) {S : St} {x1 : Int32} {x2 : Int32} {x3 : Int32} (hres : bX12_leastOfAll_102 rc38 rc102 S x1 x2 x3 = some rr) : Wat 55 40 4 4 X 102 [(0, .ref (ad X 55)), (1, .int x1), (2, .int x2), (3, .int x3)] [] S := by
  unfold bX12_leastOfAll_102 at hres
  refine q_iload_n 103 hX 3 dX12_leastOfAll_102 rfl rfl rfl ?_
  refine q_sipush 106 hX dX12_leastOfAll_103 rfl kS_1088 ?_
  refine q_icmp_ge 109 hX 127 dX12_leastOfAll_106 rfl (by decide) (fun hc => ?_) (fun hc => ?_)
  · have hres := it_t hc hres
    refine q_iincB 130 2 (lv0 := [(0, .ref (ad X 55)), (1, .int x1), (3, .int x3)]) hX dX12_leastOfAll_127 rfl rfl kI_1 (by decide) rfl hres (fun v1 hres => ?_)
    refine q_goto 38 hX dX12_leastOfAll_130 (by decide) ?_
    exact q_sub [1, 2, 0] rfl (hrc38 _ _ _ hres)
  · have hres := it_f hc hres
    refine q_aload_n 110 hX 0 dX12_leastOfAll_109 rfl rfl rfl ?_
    refine q_getR 113 hX ci12 lf_RX12_104 fR_55_51 dX12_leastOfAll_110 rfl ?_
    refine q_iload_n 114 hX 3 dX12_leastOfAll_113 rfl rfl rfl ?_
    refine q_aload_n 115 hX 0 dX12_leastOfAll_114 rfl rfl rfl ?_
    refine q_getR 118 hX ci12 lf_RX12_107 fR_55_52 dX12_leastOfAll_115 rfl ?_
    refine q_iload_n 119 hX 3 dX12_leastOfAll_118 rfl rfl rfl ?_
    obtain ⟨hb2, hres⟩ := gd hres
    refine q_iald 120 hX rfl aF_88 hb2 dX12_leastOfAll_119 rfl ?_
    obtain ⟨hb3, hres⟩ := gd hres
    refine q_iast 121 hX rfl aF_87 hb3 dX12_leastOfAll_120 rfl ?_
    refine q_bS hres (fun S1 _ hres => ?_)
    refine q_iincB 124 3 (lv0 := [(0, .ref (ad X 55)), (1, .int x1), (2, .int x2)]) hX dX12_leastOfAll_121 rfl rfl kI_1 (by decide) rfl hres (fun v4 hres => ?_)
    refine q_goto 102 hX dX12_leastOfAll_124 (by decide) ?_
    exact q_sub [1, 2, 3, 0] rfl (hrc102 _ _ _ _ hres)
def fX12_leastOfAll_102 (rc38 : St → Int32 → Int32 → Option (Int32 × St)) : Nat → St → Int32 → Int32 → Int32 → Option (Int32 × St)
  | 0 => fun _ _ _ _ => none
  | k + 1 => fun S x1 x2 x3 => bX12_leastOfAll_102 rc38 (fX12_leastOfAll_102 rc38 k) S x1 x2 x3
theorem wfX12_leastOfAll_102 {X : CX} (hX : Ok RX12 cX12_leastOfAll (some .int) 55 40 4 X) {rr : Int32 × St} (hq : rs X = (some (.int rr.1), rr.2)) {rc38 : St → Int32 → Int32 → Option (Int32 × St)} (hrc38 : ∀ (S : St) (x1 : Int32) (x2 : Int32), rc38 S x1 x2 = some rr → Wat 55 40 4 4 X 38 [(0, .ref (ad X 55)), (1, .int x1), (2, .int x2)] [] S) (k : Nat) : ∀ (S : St) (x1 : Int32) (x2 : Int32) (x3 : Int32), fX12_leastOfAll_102 rc38 k S x1 x2 x3 = some rr → Wat 55 40 4 4 X 102 [(0, .ref (ad X 55)), (1, .int x1), (2, .int x2), (3, .int x3)] [] S := by
  induction k with
  | zero => intro S x1 x2 x3 hres; exact absurd hres (by simp [fX12_leastOfAll_102])
  | succ k ih => intro S x1 x2 x3 hres; exact wbX12_leastOfAll_102 hX hq hrc38 ih hres
def bX12_leastOfAll_73 (rc38 : St → Int32 → Int32 → Option (Int32 × St)) (rc73 : St → Int32 → Int32 → Int32 → Option (Int32 × St)) (S : St) (x1 : Int32) (x2 : Int32) (x3 : Int32) : Option (Int32 × St) :=
  if (16 : Int32) ≤ x3 then (fX12_leastOfAll_102 rc38 1100 S x1 x2 (0 : Int32)) else (bi (fX12_isHouse S x3) fun r2 S1 => if r2 = 0 then (bV (x3 + (1 : Int32)) fun v3 => rc73 S1 x1 x2 v3) else (bv (fX12_choosesHouse S1 x3 x2 x1) fun S2 => bV (x3 + (1 : Int32)) fun v5 => rc73 S2 x1 x2 v5))
theorem wbX12_leastOfAll_73 {X : CX} (hX : Ok RX12 cX12_leastOfAll (some .int) 55 40 4 X) {rr : Int32 × St} (hq : rs X = (some (.int rr.1), rr.2)) {rc38 : St → Int32 → Int32 → Option (Int32 × St)} (hrc38 : ∀ (S : St) (x1 : Int32) (x2 : Int32), rc38 S x1 x2 = some rr → Wat 55 40 4 4 X 38 [(0, .ref (ad X 55)), (1, .int x1), (2, .int x2)] [] S) {rc73 : St → Int32 → Int32 → Int32 → Option (Int32 × St)} (hrc73 : ∀ (S : St) (x1 : Int32) (x2 : Int32) (x3 : Int32), rc73 S x1 x2 x3 = some rr → Wat 55 40 4 4 X 73 [(0, .ref (ad X 55)), (1, .int x1), (2, .int x2), (3, .int x3)] [] S) {S : St} {x1 : Int32} {x2 : Int32} {x3 : Int32} (hres : bX12_leastOfAll_73 rc38 rc73 S x1 x2 x3 = some rr) : Wat 55 40 4 4 X 73 [(0, .ref (ad X 55)), (1, .int x1), (2, .int x2), (3, .int x3)] [] S := by
  unfold bX12_leastOfAll_73 at hres
  refine q_iload_n 74 hX 3 dX12_leastOfAll_73 rfl rfl rfl ?_
  refine q_bipush 76 hX dX12_leastOfAll_74 rfl kB_16 ?_
  refine q_icmp_ge 79 hX 100 dX12_leastOfAll_76 rfl (by decide) (fun hc => ?_) (fun hc => ?_)
  · have hres := it_t hc hres
    refine q_iconst 101 hX dX12_leastOfAll_100 rfl kI_0 ?_
    refine q_istore_n 102 (lv' := [(3, .int (0 : Int32)), (0, .ref (ad X 55)), (1, .int x1), (2, .int x2)]) hX dX12_leastOfAll_101 rfl rfl (by decide) rfl ?_
    exact q_sub [1, 2, 3, 0] rfl (wfX12_leastOfAll_102 hX hq hrc38 _ _ _ _ _ hres)
  · have hres := it_f hc hres
    refine q_aload_n 80 hX 0 dX12_leastOfAll_79 rfl rfl rfl ?_
    refine q_iload_n 81 hX 3 dX12_leastOfAll_80 rfl rfl rfl ?_
    obtain ⟨r2, S1, hk1, hres⟩ := ob hres
    refine q_callVi 84 (st := []) (As := [.int x3]) hX (cX12_isHouse9 hX.dj hk1) cv_RX12_159 ci12 oB_55 rfl (by decide) rfl (Nat.le_of_ble_eq_true rfl) dX12_leastOfAll_81 rfl ?_
    refine q_if_eq 87 hX 94 dX12_leastOfAll_84 rfl (by decide) (fun hc => ?_) (fun hc => ?_)
    · have hres := it_t hc hres
      refine q_iincB 97 3 (lv0 := [(0, .ref (ad X 55)), (1, .int x1), (2, .int x2)]) hX dX12_leastOfAll_94 rfl rfl kI_1 (by decide) rfl hres (fun v3 hres => ?_)
      refine q_goto 73 hX dX12_leastOfAll_97 (by decide) ?_
      exact q_sub [1, 2, 3, 0] rfl (hrc73 _ _ _ _ hres)
    · have hres := it_f hc hres
      refine q_aload_n 88 hX 0 dX12_leastOfAll_87 rfl rfl rfl ?_
      refine q_iload_n 89 hX 3 dX12_leastOfAll_88 rfl rfl rfl ?_
      refine q_iload_n 90 hX 2 dX12_leastOfAll_89 rfl rfl rfl ?_
      refine q_iload_n 91 hX 1 dX12_leastOfAll_90 rfl rfl rfl ?_
      obtain ⟨S2, hk4, hres⟩ := obv hres
      refine q_callVv 94 (st := []) (As := [.int x3, .int x2, .int x1]) hX (cX12_choosesHouse9 hX.dj hk4) cv_RX12_410 ci12 oB_55 rfl (by decide) rfl (Nat.le_of_ble_eq_true rfl) dX12_leastOfAll_91 rfl ?_
      refine q_iincB 97 3 (lv0 := [(0, .ref (ad X 55)), (1, .int x1), (2, .int x2)]) hX dX12_leastOfAll_94 rfl rfl kI_1 (by decide) rfl hres (fun v5 hres => ?_)
      refine q_goto 73 hX dX12_leastOfAll_97 (by decide) ?_
      exact q_sub [1, 2, 3, 0] rfl (hrc73 _ _ _ _ hres)
def fX12_leastOfAll_73 (rc38 : St → Int32 → Int32 → Option (Int32 × St)) : Nat → St → Int32 → Int32 → Int32 → Option (Int32 × St)
  | 0 => fun _ _ _ _ => none
  | k + 1 => fun S x1 x2 x3 => bX12_leastOfAll_73 rc38 (fX12_leastOfAll_73 rc38 k) S x1 x2 x3
theorem wfX12_leastOfAll_73 {X : CX} (hX : Ok RX12 cX12_leastOfAll (some .int) 55 40 4 X) {rr : Int32 × St} (hq : rs X = (some (.int rr.1), rr.2)) {rc38 : St → Int32 → Int32 → Option (Int32 × St)} (hrc38 : ∀ (S : St) (x1 : Int32) (x2 : Int32), rc38 S x1 x2 = some rr → Wat 55 40 4 4 X 38 [(0, .ref (ad X 55)), (1, .int x1), (2, .int x2)] [] S) (k : Nat) : ∀ (S : St) (x1 : Int32) (x2 : Int32) (x3 : Int32), fX12_leastOfAll_73 rc38 k S x1 x2 x3 = some rr → Wat 55 40 4 4 X 73 [(0, .ref (ad X 55)), (1, .int x1), (2, .int x2), (3, .int x3)] [] S := by
  induction k with
  | zero => intro S x1 x2 x3 hres; exact absurd hres (by simp [fX12_leastOfAll_73])
  | succ k ih => intro S x1 x2 x3 hres; exact wbX12_leastOfAll_73 hX hq hrc38 ih hres
def bX12_leastOfAll_46 (rc38 : St → Int32 → Int32 → Option (Int32 × St)) (rc46 : St → Int32 → Int32 → Int32 → Option (Int32 × St)) (S : St) (x1 : Int32) (x2 : Int32) (x3 : Int32) : Option (Int32 × St) :=
  if (1088 : Int32) ≤ x3 then (fX12_leastOfAll_73 rc38 1100 S x1 x2 (0 : Int32)) else (if inb x3 1088 = true then if inb x3 1088 = true then bS (pI S 88 (x3.toNatClampNeg) (S.1 87 (x3.toNatClampNeg))) fun S1 => bV (x3 + (1 : Int32)) fun v3 => rc46 S1 x1 x2 v3 else none else none)
theorem wbX12_leastOfAll_46 {X : CX} (hX : Ok RX12 cX12_leastOfAll (some .int) 55 40 4 X) {rr : Int32 × St} (hq : rs X = (some (.int rr.1), rr.2)) {rc38 : St → Int32 → Int32 → Option (Int32 × St)} (hrc38 : ∀ (S : St) (x1 : Int32) (x2 : Int32), rc38 S x1 x2 = some rr → Wat 55 40 4 4 X 38 [(0, .ref (ad X 55)), (1, .int x1), (2, .int x2)] [] S) {rc46 : St → Int32 → Int32 → Int32 → Option (Int32 × St)} (hrc46 : ∀ (S : St) (x1 : Int32) (x2 : Int32) (x3 : Int32), rc46 S x1 x2 x3 = some rr → Wat 55 40 4 4 X 46 [(0, .ref (ad X 55)), (1, .int x1), (2, .int x2), (3, .int x3)] [] S) {S : St} {x1 : Int32} {x2 : Int32} {x3 : Int32} (hres : bX12_leastOfAll_46 rc38 rc46 S x1 x2 x3 = some rr) : Wat 55 40 4 4 X 46 [(0, .ref (ad X 55)), (1, .int x1), (2, .int x2), (3, .int x3)] [] S := by
  unfold bX12_leastOfAll_46 at hres
  refine q_iload_n 47 hX 3 dX12_leastOfAll_46 rfl rfl rfl ?_
  refine q_sipush 50 hX dX12_leastOfAll_47 rfl kS_1088 ?_
  refine q_icmp_ge 53 hX 71 dX12_leastOfAll_50 rfl (by decide) (fun hc => ?_) (fun hc => ?_)
  · have hres := it_t hc hres
    refine q_iconst 72 hX dX12_leastOfAll_71 rfl kI_0 ?_
    refine q_istore_n 73 (lv' := [(3, .int (0 : Int32)), (0, .ref (ad X 55)), (1, .int x1), (2, .int x2)]) hX dX12_leastOfAll_72 rfl rfl (by decide) rfl ?_
    exact q_sub [1, 2, 3, 0] rfl (wfX12_leastOfAll_73 hX hq hrc38 _ _ _ _ _ hres)
  · have hres := it_f hc hres
    refine q_aload_n 54 hX 0 dX12_leastOfAll_53 rfl rfl rfl ?_
    refine q_getR 57 hX ci12 lf_RX12_107 fR_55_52 dX12_leastOfAll_54 rfl ?_
    refine q_iload_n 58 hX 3 dX12_leastOfAll_57 rfl rfl rfl ?_
    refine q_aload_n 59 hX 0 dX12_leastOfAll_58 rfl rfl rfl ?_
    refine q_getR 62 hX ci12 lf_RX12_104 fR_55_51 dX12_leastOfAll_59 rfl ?_
    refine q_iload_n 63 hX 3 dX12_leastOfAll_62 rfl rfl rfl ?_
    obtain ⟨hb1, hres⟩ := gd hres
    refine q_iald 64 hX rfl aF_87 hb1 dX12_leastOfAll_63 rfl ?_
    obtain ⟨hb2, hres⟩ := gd hres
    refine q_iast 65 hX rfl aF_88 hb2 dX12_leastOfAll_64 rfl ?_
    refine q_bS hres (fun S1 _ hres => ?_)
    refine q_iincB 68 3 (lv0 := [(0, .ref (ad X 55)), (1, .int x1), (2, .int x2)]) hX dX12_leastOfAll_65 rfl rfl kI_1 (by decide) rfl hres (fun v3 hres => ?_)
    refine q_goto 46 hX dX12_leastOfAll_68 (by decide) ?_
    exact q_sub [1, 2, 3, 0] rfl (hrc46 _ _ _ _ hres)
def fX12_leastOfAll_46 (rc38 : St → Int32 → Int32 → Option (Int32 × St)) : Nat → St → Int32 → Int32 → Int32 → Option (Int32 × St)
  | 0 => fun _ _ _ _ => none
  | k + 1 => fun S x1 x2 x3 => bX12_leastOfAll_46 rc38 (fX12_leastOfAll_46 rc38 k) S x1 x2 x3
theorem wfX12_leastOfAll_46 {X : CX} (hX : Ok RX12 cX12_leastOfAll (some .int) 55 40 4 X) {rr : Int32 × St} (hq : rs X = (some (.int rr.1), rr.2)) {rc38 : St → Int32 → Int32 → Option (Int32 × St)} (hrc38 : ∀ (S : St) (x1 : Int32) (x2 : Int32), rc38 S x1 x2 = some rr → Wat 55 40 4 4 X 38 [(0, .ref (ad X 55)), (1, .int x1), (2, .int x2)] [] S) (k : Nat) : ∀ (S : St) (x1 : Int32) (x2 : Int32) (x3 : Int32), fX12_leastOfAll_46 rc38 k S x1 x2 x3 = some rr → Wat 55 40 4 4 X 46 [(0, .ref (ad X 55)), (1, .int x1), (2, .int x2), (3, .int x3)] [] S := by
  induction k with
  | zero => intro S x1 x2 x3 hres; exact absurd hres (by simp [fX12_leastOfAll_46])
  | succ k ih => intro S x1 x2 x3 hres; exact wbX12_leastOfAll_46 hX hq hrc38 ih hres
def bX12_leastOfAll_139 (rc139 : St → Int32 → Int32 → Int32 → Option (Int32 × St)) (S : St) (x1 : Int32) (x2 : Int32) (x3 : Int32) : Option (Int32 × St) :=
  if (16 : Int32) ≤ x3 then (some (x2, S)) else (bi (fX12_stateOf S (((1 : Int32) <<< (x1 &&& 31)) - (1 : Int32)) x3) fun r2 S1 => if inb r2 1088 = true then bi (fX12_min S1 x2 (S1.1 87 (r2.toNatClampNeg))) fun r5 S2 => bV (x3 + (1 : Int32)) fun v6 => rc139 S2 x1 r5 v6 else none)
theorem wbX12_leastOfAll_139 {X : CX} (hX : Ok RX12 cX12_leastOfAll (some .int) 55 40 4 X) {rr : Int32 × St} (hq : rs X = (some (.int rr.1), rr.2)) {rc139 : St → Int32 → Int32 → Int32 → Option (Int32 × St)} (hrc139 : ∀ (S : St) (x1 : Int32) (x2 : Int32) (x3 : Int32), rc139 S x1 x2 x3 = some rr → Wat 55 40 4 4 X 139 [(0, .ref (ad X 55)), (1, .int x1), (2, .int x2), (3, .int x3)] [] S) {S : St} {x1 : Int32} {x2 : Int32} {x3 : Int32} (hres : bX12_leastOfAll_139 rc139 S x1 x2 x3 = some rr) : Wat 55 40 4 4 X 139 [(0, .ref (ad X 55)), (1, .int x1), (2, .int x2), (3, .int x3)] [] S := by
  unfold bX12_leastOfAll_139 at hres
  refine q_iload_n 140 hX 3 dX12_leastOfAll_139 rfl rfl rfl ?_
  refine q_bipush 142 hX dX12_leastOfAll_140 rfl kB_16 ?_
  refine q_icmp_ge 145 hX 170 dX12_leastOfAll_142 rfl (by decide) (fun hc => ?_) (fun hc => ?_)
  · have hres := it_t hc hres
    refine q_iload_n 171 hX 2 dX12_leastOfAll_170 rfl rfl rfl ?_
    exact q_iret hX (eqi hq hres) dX12_leastOfAll_171
  · have hres := it_f hc hres
    refine q_iload_n 146 hX 2 dX12_leastOfAll_145 rfl rfl rfl ?_
    refine q_aload_n 147 hX 0 dX12_leastOfAll_146 rfl rfl rfl ?_
    refine q_getR 150 hX ci12 lf_RX12_104 fR_55_51 dX12_leastOfAll_147 rfl ?_
    refine q_iconst 151 hX dX12_leastOfAll_150 rfl kI_1 ?_
    refine q_iload_n 152 hX 1 dX12_leastOfAll_151 rfl rfl rfl ?_
    refine q_ishl 153 hX dX12_leastOfAll_152 rfl ?_
    refine q_iconst 154 hX dX12_leastOfAll_153 rfl kI_1 ?_
    refine q_isub 155 hX dX12_leastOfAll_154 rfl ?_
    refine q_iload_n 156 hX 3 dX12_leastOfAll_155 rfl rfl rfl ?_
    obtain ⟨r2, S1, hk1, hres⟩ := ob hres
    refine q_callSi 159 (st := [.ref (ad X 87), .int x2]) (As := [.int (((1 : Int32) <<< (x1 &&& 31)) - (1 : Int32)), .int x3]) hX (cX12_stateOf9 hX.dj hk1) cs_RX12_406 rfl (by decide) rfl (Nat.le_of_ble_eq_true rfl) dX12_leastOfAll_156 rfl ?_
    obtain ⟨hb3, hres⟩ := gd hres
    refine q_iald 160 hX rfl aF_87 hb3 dX12_leastOfAll_159 rfl ?_
    obtain ⟨r5, S2, hk4, hres⟩ := ob hres
    refine q_callSi 163 (st := []) (As := [.int x2, .int (S1.1 87 (r2.toNatClampNeg))]) hX (cX12_min9 hX.dj hk4) cs_RX12_333 rfl (by decide) rfl (Nat.le_of_ble_eq_true rfl) dX12_leastOfAll_160 rfl ?_
    refine q_istore_n 164 (lv' := [(2, .int r5), (0, .ref (ad X 55)), (1, .int x1), (3, .int x3)]) hX dX12_leastOfAll_163 rfl rfl (by decide) rfl ?_
    refine q_iincB 167 3 (lv0 := [(2, .int r5), (0, .ref (ad X 55)), (1, .int x1)]) hX dX12_leastOfAll_164 rfl rfl kI_1 (by decide) rfl hres (fun v6 hres => ?_)
    refine q_goto 139 hX dX12_leastOfAll_167 (by decide) ?_
    exact q_sub [2, 3, 1, 0] rfl (hrc139 _ _ _ _ hres)
def fX12_leastOfAll_139 : Nat → St → Int32 → Int32 → Int32 → Option (Int32 × St)
  | 0 => fun _ _ _ _ => none
  | k + 1 => fun S x1 x2 x3 => bX12_leastOfAll_139 (fX12_leastOfAll_139 k) S x1 x2 x3
theorem wfX12_leastOfAll_139 {X : CX} (hX : Ok RX12 cX12_leastOfAll (some .int) 55 40 4 X) {rr : Int32 × St} (hq : rs X = (some (.int rr.1), rr.2)) (k : Nat) : ∀ (S : St) (x1 : Int32) (x2 : Int32) (x3 : Int32), fX12_leastOfAll_139 k S x1 x2 x3 = some rr → Wat 55 40 4 4 X 139 [(0, .ref (ad X 55)), (1, .int x1), (2, .int x2), (3, .int x3)] [] S := by
  induction k with
  | zero => intro S x1 x2 x3 hres; exact absurd hres (by simp [fX12_leastOfAll_139])
  | succ k ih => intro S x1 x2 x3 hres; exact wbX12_leastOfAll_139 hX hq ih hres
def bX12_leastOfAll_38 (rc38 : St → Int32 → Int32 → Option (Int32 × St)) (S : St) (x1 : Int32) (x2 : Int32) : Option (Int32 × St) :=
  if (12 : Int32) ≤ x2 then (fX12_leastOfAll_139 1100 S x1 (100000000 : Int32) (0 : Int32)) else (fX12_leastOfAll_46 rc38 1100 S x1 x2 (0 : Int32))
theorem wbX12_leastOfAll_38 {X : CX} (hX : Ok RX12 cX12_leastOfAll (some .int) 55 40 4 X) {rr : Int32 × St} (hq : rs X = (some (.int rr.1), rr.2)) {rc38 : St → Int32 → Int32 → Option (Int32 × St)} (hrc38 : ∀ (S : St) (x1 : Int32) (x2 : Int32), rc38 S x1 x2 = some rr → Wat 55 40 4 4 X 38 [(0, .ref (ad X 55)), (1, .int x1), (2, .int x2)] [] S) {S : St} {x1 : Int32} {x2 : Int32} (hres : bX12_leastOfAll_38 rc38 S x1 x2 = some rr) : Wat 55 40 4 4 X 38 [(0, .ref (ad X 55)), (1, .int x1), (2, .int x2)] [] S := by
  unfold bX12_leastOfAll_38 at hres
  refine q_iload_n 39 hX 2 dX12_leastOfAll_38 rfl rfl rfl ?_
  refine q_bipush 41 hX dX12_leastOfAll_39 rfl kB_12 ?_
  refine q_icmp_ge 44 hX 133 dX12_leastOfAll_41 rfl (by decide) (fun hc => ?_) (fun hc => ?_)
  · have hres := it_t hc hres
    refine q_ldcw 136 hX dX12_leastOfAll_133 rfl gw998 ?_
    refine q_istore_n 137 (lv' := [(2, .int (100000000 : Int32)), (0, .ref (ad X 55)), (1, .int x1)]) hX dX12_leastOfAll_136 rfl rfl (by decide) rfl ?_
    refine q_iconst 138 hX dX12_leastOfAll_137 rfl kI_0 ?_
    refine q_istore_n 139 (lv' := [(3, .int (0 : Int32)), (2, .int (100000000 : Int32)), (0, .ref (ad X 55)), (1, .int x1)]) hX dX12_leastOfAll_138 rfl rfl (by decide) rfl ?_
    exact q_sub [2, 3, 1, 0] rfl (wfX12_leastOfAll_139 hX hq _ _ _ _ _ hres)
  · have hres := it_f hc hres
    refine q_iconst 45 hX dX12_leastOfAll_44 rfl kI_0 ?_
    refine q_istore_n 46 (lv' := [(3, .int (0 : Int32)), (0, .ref (ad X 55)), (1, .int x1), (2, .int x2)]) hX dX12_leastOfAll_45 rfl rfl (by decide) rfl ?_
    exact q_sub [1, 2, 3, 0] rfl (wfX12_leastOfAll_46 hX hq hrc38 _ _ _ _ _ hres)
def fX12_leastOfAll_38 : Nat → St → Int32 → Int32 → Option (Int32 × St)
  | 0 => fun _ _ _ => none
  | k + 1 => fun S x1 x2 => bX12_leastOfAll_38 (fX12_leastOfAll_38 k) S x1 x2
theorem wfX12_leastOfAll_38 {X : CX} (hX : Ok RX12 cX12_leastOfAll (some .int) 55 40 4 X) {rr : Int32 × St} (hq : rs X = (some (.int rr.1), rr.2)) (k : Nat) : ∀ (S : St) (x1 : Int32) (x2 : Int32), fX12_leastOfAll_38 k S x1 x2 = some rr → Wat 55 40 4 4 X 38 [(0, .ref (ad X 55)), (1, .int x1), (2, .int x2)] [] S := by
  induction k with
  | zero => intro S x1 x2 hres; exact absurd hres (by simp [fX12_leastOfAll_38])
  | succ k ih => intro S x1 x2 hres; exact wbX12_leastOfAll_38 hX hq ih hres
def bX12_leastOfAll_2 (rc2 : St → Int32 → Int32 → Option (Int32 × St)) (S : St) (x1 : Int32) (x2 : Int32) : Option (Int32 × St) :=
  if (1088 : Int32) ≤ x2 then (bi (fX12_stateOf S (0 : Int32) (16 : Int32)) fun r2 S1 => if inb r2 1088 = true then bS (pI S1 87 (r2.toNatClampNeg) (0 : Int32)) fun S2 => fX12_leastOfAll_38 1100 S2 x1 (0 : Int32) else none) else (if inb x2 1088 = true then bS (pI S 87 (x2.toNatClampNeg) (100000000 : Int32)) fun S3 => bV (x2 + (1 : Int32)) fun v5 => rc2 S3 x1 v5 else none)
theorem wbX12_leastOfAll_2 {X : CX} (hX : Ok RX12 cX12_leastOfAll (some .int) 55 40 4 X) {rr : Int32 × St} (hq : rs X = (some (.int rr.1), rr.2)) {rc2 : St → Int32 → Int32 → Option (Int32 × St)} (hrc2 : ∀ (S : St) (x1 : Int32) (x2 : Int32), rc2 S x1 x2 = some rr → Wat 55 40 4 4 X 2 [(0, .ref (ad X 55)), (1, .int x1), (2, .int x2)] [] S) {S : St} {x1 : Int32} {x2 : Int32} (hres : bX12_leastOfAll_2 rc2 S x1 x2 = some rr) : Wat 55 40 4 4 X 2 [(0, .ref (ad X 55)), (1, .int x1), (2, .int x2)] [] S := by
  unfold bX12_leastOfAll_2 at hres
  refine q_iload_n 3 hX 2 dX12_leastOfAll_2 rfl rfl rfl ?_
  refine q_sipush 6 hX dX12_leastOfAll_3 rfl kS_1088 ?_
  refine q_icmp_ge 9 hX 24 dX12_leastOfAll_6 rfl (by decide) (fun hc => ?_) (fun hc => ?_)
  · have hres := it_t hc hres
    refine q_aload_n 25 hX 0 dX12_leastOfAll_24 rfl rfl rfl ?_
    refine q_getR 28 hX ci12 lf_RX12_104 fR_55_51 dX12_leastOfAll_25 rfl ?_
    refine q_iconst 29 hX dX12_leastOfAll_28 rfl kI_0 ?_
    refine q_bipush 31 hX dX12_leastOfAll_29 rfl kB_16 ?_
    obtain ⟨r2, S1, hk1, hres⟩ := ob hres
    refine q_callSi 34 (st := [.ref (ad X 87)]) (As := [.int (0 : Int32), .int (16 : Int32)]) hX (cX12_stateOf9 hX.dj hk1) cs_RX12_406 rfl (by decide) rfl (Nat.le_of_ble_eq_true rfl) dX12_leastOfAll_31 rfl ?_
    refine q_iconst 35 hX dX12_leastOfAll_34 rfl kI_0 ?_
    obtain ⟨hb3, hres⟩ := gd hres
    refine q_iast 36 hX rfl aF_87 hb3 dX12_leastOfAll_35 rfl ?_
    refine q_bS hres (fun S2 _ hres => ?_)
    refine q_iconst 37 hX dX12_leastOfAll_36 rfl kI_0 ?_
    refine q_istore_n 38 (lv' := [(2, .int (0 : Int32)), (0, .ref (ad X 55)), (1, .int x1)]) hX dX12_leastOfAll_37 rfl rfl (by decide) rfl ?_
    exact q_sub [1, 2, 0] rfl (wfX12_leastOfAll_38 hX hq _ _ _ _ hres)
  · have hres := it_f hc hres
    refine q_aload_n 10 hX 0 dX12_leastOfAll_9 rfl rfl rfl ?_
    refine q_getR 13 hX ci12 lf_RX12_104 fR_55_51 dX12_leastOfAll_10 rfl ?_
    refine q_iload_n 14 hX 2 dX12_leastOfAll_13 rfl rfl rfl ?_
    refine q_ldcw 17 hX dX12_leastOfAll_14 rfl gw998 ?_
    obtain ⟨hb4, hres⟩ := gd hres
    refine q_iast 18 hX rfl aF_87 hb4 dX12_leastOfAll_17 rfl ?_
    refine q_bS hres (fun S3 _ hres => ?_)
    refine q_iincB 21 2 (lv0 := [(0, .ref (ad X 55)), (1, .int x1)]) hX dX12_leastOfAll_18 rfl rfl kI_1 (by decide) rfl hres (fun v5 hres => ?_)
    refine q_goto 2 hX dX12_leastOfAll_21 (by decide) ?_
    exact q_sub [1, 2, 0] rfl (hrc2 _ _ _ hres)
def fX12_leastOfAll_2 : Nat → St → Int32 → Int32 → Option (Int32 × St)
  | 0 => fun _ _ _ => none
  | k + 1 => fun S x1 x2 => bX12_leastOfAll_2 (fX12_leastOfAll_2 k) S x1 x2
theorem wfX12_leastOfAll_2 {X : CX} (hX : Ok RX12 cX12_leastOfAll (some .int) 55 40 4 X) {rr : Int32 × St} (hq : rs X = (some (.int rr.1), rr.2)) (k : Nat) : ∀ (S : St) (x1 : Int32) (x2 : Int32), fX12_leastOfAll_2 k S x1 x2 = some rr → Wat 55 40 4 4 X 2 [(0, .ref (ad X 55)), (1, .int x1), (2, .int x2)] [] S := by
  induction k with
  | zero => intro S x1 x2 hres; exact absurd hres (by simp [fX12_leastOfAll_2])
  | succ k ih => intro S x1 x2 hres; exact wbX12_leastOfAll_2 hX hq ih hres
def fX12_leastOfAll (S : St) (x1 : Int32) : Option (Int32 × St) :=
  fX12_leastOfAll_2 1100 S x1 (0 : Int32)
theorem wfX12_leastOfAll {X : CX} (hX : Ok RX12 cX12_leastOfAll (some .int) 55 40 4 X) {rr : Int32 × St} (hq : rs X = (some (.int rr.1), rr.2)) {S : St} {x1 : Int32} (hres : fX12_leastOfAll S x1 = some rr) : Wat 55 40 4 4 X 0 [(0, .ref (ad X 55)), (1, .int x1)] [] S := by
  unfold fX12_leastOfAll at hres
  refine q_iconst 1 hX dX12_leastOfAll_0 rfl kI_0 ?_
  refine q_istore_n 2 (lv' := [(2, .int (0 : Int32)), (0, .ref (ad X 55)), (1, .int x1)]) hX dX12_leastOfAll_1 rfl rfl (by decide) rfl ?_
  exact q_sub [1, 2, 0] rfl (wfX12_leastOfAll_2 hX hq _ _ _ _ hres)
theorem cX12_leastOfAll9 {l : Launch} {w : WD} (hj : Dj w 55 40) {rr : Int32 × St} {S : St} {x1 : Int32} (hres : fX12_leastOfAll S x1 = some rr) : Ct l yX12_leastOfAll cX12_leastOfAll 4 (some .int) 4 w 55 40 [.ref (w.1 55), .int x1] S (some (.int rr.1), rr.2) := by
  refine Ct.of (lv := [(0, .ref (w.1 55)), (1, .int x1)]) hj (by decide +kernel) (Nat.le_of_ble_eq_true rfl) rfl ?_
  rintro X rfl rfl hq hX
  exact wfX12_leastOfAll hX hq hres
def bX12_shortest_38 (rc38 : St → Int32 → Int32 → Int32 → Option (Int32 × St)) (S : St) (x1 : Int32) (x2 : Int32) (x3 : Int32) : Option (Int32 × St) :=
  if x1 ≤ x3 then (bi (fX12_leastOfAll S x1) fun r2 S1 => if r2 < (100000000 : Int32) then (if x2 = 0 then (some ((r2 / (32 : Int32)), S1)) else (some ((r2 - r2 / (32 : Int32) * (32 : Int32)), S1))) else (some ((-2 : Int32), S1))) else (bi (fX12_octet S ((2 : Int32) * x3)) fun r4 S2 => bi (fX12_isHouse S2 r4) fun r6 S3 => if r6 = 0 then (some ((-3 : Int32), S3)) else (bi (fX12_octet S3 (((2 : Int32) * x3) + (1 : Int32))) fun r8 S4 => bi (fX12_isThing S4 r8) fun r10 S5 => if r10 = 0 then (some ((-3 : Int32), S5)) else (bV (x3 + (1 : Int32)) fun v11 => rc38 S5 x1 x2 v11)))
theorem wbX12_shortest_38 {X : CX} (hX : Ok RX12 cX12_shortest (some .int) 55 40 4 X) {rr : Int32 × St} (hq : rs X = (some (.int rr.1), rr.2)) {rc38 : St → Int32 → Int32 → Int32 → Option (Int32 × St)} (hrc38 : ∀ (S : St) (x1 : Int32) (x2 : Int32) (x3 : Int32), rc38 S x1 x2 x3 = some rr → Wat 55 40 5 4 X 38 [(0, .ref (ad X 55)), (1, .int x1), (2, .int x2), (3, .int x3)] [] S) {S : St} {x1 : Int32} {x2 : Int32} {x3 : Int32} (hres : bX12_shortest_38 rc38 S x1 x2 x3 = some rr) : Wat 55 40 5 4 X 38 [(0, .ref (ad X 55)), (1, .int x1), (2, .int x2), (3, .int x3)] [] S := by
  unfold bX12_shortest_38 at hres
  refine q_iload_n 39 hX 3 dX12_shortest_38 rfl rfl rfl ?_
  refine q_iload_n 40 hX 1 dX12_shortest_39 rfl rfl rfl ?_
  refine q_icmp_ge 43 hX 82 dX12_shortest_40 rfl (by decide) (fun hc => ?_) (fun hc => ?_)
  · have hres := it_t hc hres
    refine q_aload_n 83 hX 0 dX12_shortest_82 rfl rfl rfl ?_
    refine q_iload_n 84 hX 1 dX12_shortest_83 rfl rfl rfl ?_
    obtain ⟨r2, S1, hk1, hres⟩ := ob hres
    refine q_callVi 87 (st := []) (As := [.int x1]) hX (cX12_leastOfAll9 hX.dj hk1) cv_RX12_413 ci12 oB_55 rfl (by decide) rfl (Nat.le_of_ble_eq_true rfl) dX12_shortest_84 rfl ?_
    refine q_istore_n 88 (lv' := [(3, .int r2), (0, .ref (ad X 55)), (1, .int x1), (2, .int x2)]) hX dX12_shortest_87 rfl rfl (by decide) rfl ?_
    refine q_iload_n 89 hX 0 dX12_shortest_88 rfl rfl rfl ?_
    refine q_ldcw 92 hX dX12_shortest_89 rfl gw998 ?_
    refine q_icmp_lt 95 hX 100 dX12_shortest_92 rfl (by decide) (fun hc => ?_) (fun hc => ?_)
    · have hres := it_t hc hres
      refine q_iload_n 101 hX 3 dX12_shortest_100 rfl rfl rfl ?_
      refine q_if_ne 104 hX 111 dX12_shortest_101 rfl (by decide) (fun hc => ?_) (fun hc => ?_)
      · have hres := it_f hc hres
        refine q_iload_n 112 hX 0 dX12_shortest_111 rfl rfl rfl ?_
        refine q_bipush 114 hX dX12_shortest_112 rfl kB_32 ?_
        refine q_irem 115 hX dX12_shortest_114 rfl (by decide) ?_
        exact q_iret hX (eqi hq hres) dX12_shortest_115
      · have hres := it_t hc hres
        refine q_iload_n 105 hX 0 dX12_shortest_104 rfl rfl rfl ?_
        refine q_bipush 107 hX dX12_shortest_105 rfl kB_32 ?_
        refine q_idiv 108 hX dX12_shortest_107 rfl (by decide) ?_
        refine q_goto 115 hX dX12_shortest_108 (by decide) ?_
        exact q_iret hX (eqi hq hres) dX12_shortest_115
    · have hres := it_f hc hres
      refine q_bipush 97 hX dX12_shortest_95 rfl kB_m2 ?_
      refine q_goto 115 hX dX12_shortest_97 (by decide) ?_
      exact q_iret hX (eqi hq hres) dX12_shortest_115
  · have hres := it_f hc hres
    refine q_aload_n 44 hX 0 dX12_shortest_43 rfl rfl rfl ?_
    refine q_aload_n 45 hX 0 dX12_shortest_44 rfl rfl rfl ?_
    refine q_iconst 46 hX dX12_shortest_45 rfl kI_2 ?_
    refine q_iload_n 47 hX 3 dX12_shortest_46 rfl rfl rfl ?_
    refine q_imul 48 hX dX12_shortest_47 rfl ?_
    obtain ⟨r4, S2, hk3, hres⟩ := ob hres
    refine q_callVi 51 (st := [.ref (ad X 55)]) (As := [.int ((2 : Int32) * x3)]) hX (cX12_octet9 hX.dj hk3) cv_RX12_400 ci12 oB_55 rfl (by decide) rfl (Nat.le_of_ble_eq_true rfl) dX12_shortest_48 rfl ?_
    obtain ⟨r6, S3, hk5, hres⟩ := ob hres
    refine q_callVi 54 (st := []) (As := [.int r4]) hX (cX12_isHouse9 hX.dj hk5) cv_RX12_159 ci12 oB_55 rfl (by decide) rfl (Nat.le_of_ble_eq_true rfl) dX12_shortest_51 rfl ?_
    refine q_if_eq 57 hX 73 dX12_shortest_54 rfl (by decide) (fun hc => ?_) (fun hc => ?_)
    · have hres := it_t hc hres
      refine q_bipush 75 hX dX12_shortest_73 rfl kB_m3 ?_
      exact q_iret hX (eqi hq hres) dX12_shortest_75
    · have hres := it_f hc hres
      refine q_aload_n 58 hX 0 dX12_shortest_57 rfl rfl rfl ?_
      refine q_aload_n 59 hX 0 dX12_shortest_58 rfl rfl rfl ?_
      refine q_iconst 60 hX dX12_shortest_59 rfl kI_2 ?_
      refine q_iload_n 61 hX 3 dX12_shortest_60 rfl rfl rfl ?_
      refine q_imul 62 hX dX12_shortest_61 rfl ?_
      refine q_iconst 63 hX dX12_shortest_62 rfl kI_1 ?_
      refine q_iadd 64 hX dX12_shortest_63 rfl ?_
      obtain ⟨r8, S4, hk7, hres⟩ := ob hres
      refine q_callVi 67 (st := [.ref (ad X 55)]) (As := [.int (((2 : Int32) * x3) + (1 : Int32))]) hX (cX12_octet9 hX.dj hk7) cv_RX12_400 ci12 oB_55 rfl (by decide) rfl (Nat.le_of_ble_eq_true rfl) dX12_shortest_64 rfl ?_
      obtain ⟨r10, S5, hk9, hres⟩ := ob hres
      refine q_callVi 70 (st := []) (As := [.int r8]) hX (cX12_isThing9 hX.dj hk9) cv_RX12_145 ci12 oB_55 rfl (by decide) rfl (Nat.le_of_ble_eq_true rfl) dX12_shortest_67 rfl ?_
      refine q_if_ne 73 hX 76 dX12_shortest_70 rfl (by decide) (fun hc => ?_) (fun hc => ?_)
      · have hres := it_f hc hres
        refine q_iincB 79 3 (lv0 := [(0, .ref (ad X 55)), (1, .int x1), (2, .int x2)]) hX dX12_shortest_76 rfl rfl kI_1 (by decide) rfl hres (fun v11 hres => ?_)
        refine q_goto 38 hX dX12_shortest_79 (by decide) ?_
        exact q_sub [1, 2, 3, 0] rfl (hrc38 _ _ _ _ hres)
      · have hres := it_t hc hres
        refine q_bipush 75 hX dX12_shortest_73 rfl kB_m3 ?_
        exact q_iret hX (eqi hq hres) dX12_shortest_75
def fX12_shortest_38 : Nat → St → Int32 → Int32 → Int32 → Option (Int32 × St)
  | 0 => fun _ _ _ _ => none
  | k + 1 => fun S x1 x2 x3 => bX12_shortest_38 (fX12_shortest_38 k) S x1 x2 x3
theorem wfX12_shortest_38 {X : CX} (hX : Ok RX12 cX12_shortest (some .int) 55 40 4 X) {rr : Int32 × St} (hq : rs X = (some (.int rr.1), rr.2)) (k : Nat) : ∀ (S : St) (x1 : Int32) (x2 : Int32) (x3 : Int32), fX12_shortest_38 k S x1 x2 x3 = some rr → Wat 55 40 5 4 X 38 [(0, .ref (ad X 55)), (1, .int x1), (2, .int x2), (3, .int x3)] [] S := by
  induction k with
  | zero => intro S x1 x2 x3 hres; exact absurd hres (by simp [fX12_shortest_38])
  | succ k ih => intro S x1 x2 x3 hres; exact wbX12_shortest_38 hX hq ih hres
def fX12_shortest (S : St) (x1 : Int32) (x2 : Int32) : Option (Int32 × St) :=
  bi (fX12_in S x1 (1 : Int32) (6 : Int32)) fun r2 S1 => if r2 = 0 then (some ((-1 : Int32), S1)) else (bi (fX12_in S1 x2 (0 : Int32) (1 : Int32)) fun r4 S2 => if r4 = 0 then (some ((-1 : Int32), S2)) else (if ((2 : Int32) * x1) ≤ (S2.1 55 11) then (bS (pI S2 55 11 (0 : Int32)) fun S3 => fX12_shortest_38 100 S3 x1 x2 (0 : Int32)) else (some ((-1 : Int32), S2))))
theorem wfX12_shortest {X : CX} (hX : Ok RX12 cX12_shortest (some .int) 55 40 4 X) {rr : Int32 × St} (hq : rs X = (some (.int rr.1), rr.2)) {S : St} {x1 : Int32} {x2 : Int32} (hres : fX12_shortest S x1 x2 = some rr) : Wat 55 40 5 4 X 0 [(0, .ref (ad X 55)), (1, .int x1), (2, .int x2)] [] S := by
  unfold fX12_shortest at hres
  refine q_iload_n 1 hX 1 dX12_shortest_0 rfl rfl rfl ?_
  refine q_iconst 2 hX dX12_shortest_1 rfl kI_1 ?_
  refine q_bipush 4 hX dX12_shortest_2 rfl kB_6 ?_
  obtain ⟨r2, S1, hk1, hres⟩ := ob hres
  refine q_callSi 7 (st := []) (As := [.int x1, .int (1 : Int32), .int (6 : Int32)]) hX (cX12_in9 hX.dj hk1) cs_RX12_134 rfl (by decide) rfl (Nat.le_of_ble_eq_true rfl) dX12_shortest_4 rfl ?_
  refine q_if_eq 10 hX 29 dX12_shortest_7 rfl (by decide) (fun hc => ?_) (fun hc => ?_)
  · have hres := it_t hc hres
    refine q_iconst 30 hX dX12_shortest_29 rfl kI_m1 ?_
    exact q_iret hX (eqi hq hres) dX12_shortest_30
  · have hres := it_f hc hres
    refine q_iload_n 11 hX 2 dX12_shortest_10 rfl rfl rfl ?_
    refine q_iconst 12 hX dX12_shortest_11 rfl kI_0 ?_
    refine q_iconst 13 hX dX12_shortest_12 rfl kI_1 ?_
    obtain ⟨r4, S2, hk3, hres⟩ := ob hres
    refine q_callSi 16 (st := []) (As := [.int x2, .int (0 : Int32), .int (1 : Int32)]) hX (cX12_in9 hX.dj hk3) cs_RX12_134 rfl (by decide) rfl (Nat.le_of_ble_eq_true rfl) dX12_shortest_13 rfl ?_
    refine q_if_eq 19 hX 29 dX12_shortest_16 rfl (by decide) (fun hc => ?_) (fun hc => ?_)
    · have hres := it_t hc hres
      refine q_iconst 30 hX dX12_shortest_29 rfl kI_m1 ?_
      exact q_iret hX (eqi hq hres) dX12_shortest_30
    · have hres := it_f hc hres
      refine q_iconst 20 hX dX12_shortest_19 rfl kI_2 ?_
      refine q_iload_n 21 hX 1 dX12_shortest_20 rfl rfl rfl ?_
      refine q_imul 22 hX dX12_shortest_21 rfl ?_
      refine q_aload_n 23 hX 0 dX12_shortest_22 rfl rfl rfl ?_
      refine q_getI 26 hX ci12 lf_RX12_162 fI_55_11 dX12_shortest_23 rfl ?_
      refine q_icmp_le 29 hX 31 dX12_shortest_26 rfl (by decide) (fun hc => ?_) (fun hc => ?_)
      · have hres := it_t hc hres
        refine q_aload_n 32 hX 0 dX12_shortest_31 rfl rfl rfl ?_
        refine q_iconst 33 hX dX12_shortest_32 rfl kI_0 ?_
        refine q_putI 36 hX ci12 lf_RX12_162 fI_55_11 (nar_i rfl) dX12_shortest_33 rfl ?_
        refine q_bS hres (fun S3 _ hres => ?_)
        refine q_iconst 37 hX dX12_shortest_36 rfl kI_0 ?_
        refine q_istore_n 38 (lv' := [(3, .int (0 : Int32)), (0, .ref (ad X 55)), (1, .int x1), (2, .int x2)]) hX dX12_shortest_37 rfl rfl (by decide) rfl ?_
        exact q_sub [1, 2, 3, 0] rfl (wfX12_shortest_38 hX hq _ _ _ _ _ hres)
      · have hres := it_f hc hres
        refine q_iconst 30 hX dX12_shortest_29 rfl kI_m1 ?_
        exact q_iret hX (eqi hq hres) dX12_shortest_30
theorem cX12_shortest9 {l : Launch} {w : WD} (hj : Dj w 55 40) {rr : Int32 × St} {S : St} {x1 : Int32} {x2 : Int32} (hres : fX12_shortest S x1 x2 = some rr) : Ct l yX12_shortest cX12_shortest 4 (some .int) 5 w 55 40 [.ref (w.1 55), .int x1, .int x2] S (some (.int rr.1), rr.2) := by
  refine Ct.of (lv := [(0, .ref (w.1 55)), (1, .int x1), (2, .int x2)]) hj (by decide +kernel) (Nat.le_of_ble_eq_true rfl) rfl ?_
  rintro X rfl rfl hq hX
  exact wfX12_shortest hX hq hres
def fX12_bestSet_32 (rc4 : St → Int32 → Int32 → Option (Int32 × St)) (S : St) (x1 : Int32) (x2 : Int32) (s1 : Int32) (s2 : Int32) : Option (Int32 × St) :=
  if inb s1 16 = true then bS (pI S 89 (s1.toNatClampNeg) s2) fun S1 => if inb x2 16 = true then bV ((x1 ||| (S1.1 89 (x2.toNatClampNeg)))) fun v3 => bV (x2 + (1 : Int32)) fun v4 => rc4 S1 v3 v4 else none else none
theorem wfX12_bestSet_32 {X : CX} (hX : Ok RX12 cX12_bestSet (some .int) 55 40 4 X) {rr : Int32 × St} (hq : rs X = (some (.int rr.1), rr.2)) {rc4 : St → Int32 → Int32 → Option (Int32 × St)} (hrc4 : ∀ (S : St) (x1 : Int32) (x2 : Int32), rc4 S x1 x2 = some rr → Wat 55 40 4 4 X 4 [(0, .ref (ad X 55)), (1, .int x1), (2, .int x2)] [] S) {S : St} {x1 : Int32} {x2 : Int32} {s1 : Int32} {s2 : Int32} (hres : fX12_bestSet_32 rc4 S x1 x2 s1 s2 = some rr) : Wat 55 40 4 4 X 32 [(0, .ref (ad X 55)), (1, .int x1), (2, .int x2)] [.int s2, .int s1, .ref (ad X 89)] S := by
  unfold fX12_bestSet_32 at hres
  obtain ⟨hb1, hres⟩ := gd hres
  refine q_iast 33 hX rfl aF_89 hb1 dX12_bestSet_32 rfl ?_
  refine q_bS hres (fun S1 _ hres => ?_)
  refine q_iload_n 34 hX 1 dX12_bestSet_33 rfl rfl rfl ?_
  refine q_aload_n 35 hX 0 dX12_bestSet_34 rfl rfl rfl ?_
  refine q_getR 38 hX ci12 lf_RX12_110 fR_55_53 dX12_bestSet_35 rfl ?_
  refine q_iload_n 39 hX 2 dX12_bestSet_38 rfl rfl rfl ?_
  obtain ⟨hb2, hres⟩ := gd hres
  refine q_iald 40 hX rfl aF_89 hb2 dX12_bestSet_39 rfl ?_
  refine q_ior 41 hX dX12_bestSet_40 rfl ?_
  refine q_istoreB_n 42 (lv0 := [(0, .ref (ad X 55)), (2, .int x2)]) hX dX12_bestSet_41 rfl rfl (by decide) rfl hres (fun v3 hres => ?_)
  refine q_iincB 45 2 (lv0 := [(1, .int v3), (0, .ref (ad X 55))]) hX dX12_bestSet_42 rfl rfl kI_1 (by decide) rfl hres (fun v4 hres => ?_)
  refine q_goto 4 hX dX12_bestSet_45 (by decide) ?_
  exact q_sub [2, 1, 0] rfl (hrc4 _ _ _ hres)
def bX12_bestSet_104 (rc104 : St → Int32 → Int32 → Int32 → Option (Int32 × St)) (S : St) (x1 : Int32) (x2 : Int32) (x3 : Int32) : Option (Int32 × St) :=
  if x3 < 0 then (some (x2, S)) else (if (x3 &&& ((S.1 55 8) ^^^ (-1 : Int32))) = 0 then (if inb x3 65536 = true then if (S.1 90 (x3.toNatClampNeg)) = x1 then (bi (fX12_bits S x3) fun r5 S1 => bi (fX12_bits S1 x2) fun r7 S2 => if r7 < r5 then (bV (x3 + (-1 : Int32)) fun v8 => rc104 S2 x1 x2 v8) else (bV (x3 + (-1 : Int32)) fun v9 => rc104 S2 x1 x3 v9)) else (bV (x3 + (-1 : Int32)) fun v3 => rc104 S x1 x2 v3) else none) else (bV (x3 + (-1 : Int32)) fun v1 => rc104 S x1 x2 v1))
theorem wbX12_bestSet_104 {X : CX} (hX : Ok RX12 cX12_bestSet (some .int) 55 40 4 X) {rr : Int32 × St} (hq : rs X = (some (.int rr.1), rr.2)) {rc104 : St → Int32 → Int32 → Int32 → Option (Int32 × St)} (hrc104 : ∀ (S : St) (x1 : Int32) (x2 : Int32) (x3 : Int32), rc104 S x1 x2 x3 = some rr → Wat 55 40 4 4 X 104 [(0, .ref (ad X 55)), (1, .int x1), (2, .int x2), (3, .int x3)] [] S) {S : St} {x1 : Int32} {x2 : Int32} {x3 : Int32} (hres : bX12_bestSet_104 rc104 S x1 x2 x3 = some rr) : Wat 55 40 4 4 X 104 [(0, .ref (ad X 55)), (1, .int x1), (2, .int x2), (3, .int x3)] [] S := by
  unfold bX12_bestSet_104 at hres
  refine q_iload_n 105 hX 3 dX12_bestSet_104 rfl rfl rfl ?_
  refine q_if_lt 108 hX 148 dX12_bestSet_105 rfl (by decide) (fun hc => ?_) (fun hc => ?_)
  · have hres := it_t hc hres
    refine q_iload_n 149 hX 2 dX12_bestSet_148 rfl rfl rfl ?_
    exact q_iret hX (eqi hq hres) dX12_bestSet_149
  · have hres := it_f hc hres
    refine q_iload_n 109 hX 3 dX12_bestSet_108 rfl rfl rfl ?_
    refine q_aload_n 110 hX 0 dX12_bestSet_109 rfl rfl rfl ?_
    refine q_getI 113 hX ci12 lf_RX12_138 fI_55_8 dX12_bestSet_110 rfl ?_
    refine q_iconst 114 hX dX12_bestSet_113 rfl kI_m1 ?_
    refine q_ixor 115 hX dX12_bestSet_114 rfl ?_
    refine q_iand 116 hX dX12_bestSet_115 rfl ?_
    refine q_if_ne 119 hX 142 dX12_bestSet_116 rfl (by decide) (fun hc => ?_) (fun hc => ?_)
    · have hres := it_f hc hres
      refine q_iincB 145 3 (lv0 := [(0, .ref (ad X 55)), (1, .int x1), (2, .int x2)]) hX dX12_bestSet_142 rfl rfl kI_m1 (by decide) rfl hres (fun v1 hres => ?_)
      refine q_goto 104 hX dX12_bestSet_145 (by decide) ?_
      exact q_sub [1, 2, 3, 0] rfl (hrc104 _ _ _ _ hres)
    · have hres := it_t hc hres
      refine q_aload_n 120 hX 0 dX12_bestSet_119 rfl rfl rfl ?_
      refine q_getR 123 hX ci12 lf_RX12_114 fR_55_54 dX12_bestSet_120 rfl ?_
      refine q_iload_n 124 hX 3 dX12_bestSet_123 rfl rfl rfl ?_
      obtain ⟨hb2, hres⟩ := gd hres
      refine q_iald 125 hX rfl aF_90 hb2 dX12_bestSet_124 rfl ?_
      refine q_iload_n 126 hX 1 dX12_bestSet_125 rfl rfl rfl ?_
      refine q_icmp_ne 129 hX 142 dX12_bestSet_126 rfl (by decide) (fun hc => ?_) (fun hc => ?_)
      · have hres := it_f hc hres
        refine q_iincB 145 3 (lv0 := [(0, .ref (ad X 55)), (1, .int x1), (2, .int x2)]) hX dX12_bestSet_142 rfl rfl kI_m1 (by decide) rfl hres (fun v3 hres => ?_)
        refine q_goto 104 hX dX12_bestSet_145 (by decide) ?_
        exact q_sub [1, 2, 3, 0] rfl (hrc104 _ _ _ _ hres)
      · have hres := it_t hc hres
        refine q_iload_n 130 hX 3 dX12_bestSet_129 rfl rfl rfl ?_
        obtain ⟨r5, S1, hk4, hres⟩ := ob hres
        refine q_callSi 133 (st := []) (As := [.int x3]) hX (cX12_bits9 hX.dj hk4) cs_RX12_320 rfl (by decide) rfl (Nat.le_of_ble_eq_true rfl) dX12_bestSet_130 rfl ?_
        refine q_iload_n 134 hX 2 dX12_bestSet_133 rfl rfl rfl ?_
        obtain ⟨r7, S2, hk6, hres⟩ := ob hres
        refine q_callSi 137 (st := [.int r5]) (As := [.int x2]) hX (cX12_bits9 hX.dj hk6) cs_RX12_320 rfl (by decide) rfl (Nat.le_of_ble_eq_true rfl) dX12_bestSet_134 rfl ?_
        refine q_icmp_gt 140 hX 142 dX12_bestSet_137 rfl (by decide) (fun hc => ?_) (fun hc => ?_)
        · have hres := it_t hc hres
          refine q_iincB 145 3 (lv0 := [(0, .ref (ad X 55)), (1, .int x1), (2, .int x2)]) hX dX12_bestSet_142 rfl rfl kI_m1 (by decide) rfl hres (fun v8 hres => ?_)
          refine q_goto 104 hX dX12_bestSet_145 (by decide) ?_
          exact q_sub [1, 2, 3, 0] rfl (hrc104 _ _ _ _ hres)
        · have hres := it_f hc hres
          refine q_iload_n 141 hX 3 dX12_bestSet_140 rfl rfl rfl ?_
          refine q_istore_n 142 (lv' := [(2, .int x3), (0, .ref (ad X 55)), (1, .int x1), (3, .int x3)]) hX dX12_bestSet_141 rfl rfl (by decide) rfl ?_
          refine q_iincB 145 3 (lv0 := [(2, .int x3), (0, .ref (ad X 55)), (1, .int x1)]) hX dX12_bestSet_142 rfl rfl kI_m1 (by decide) rfl hres (fun v9 hres => ?_)
          refine q_goto 104 hX dX12_bestSet_145 (by decide) ?_
          exact q_sub [2, 3, 1, 0] rfl (hrc104 _ _ _ _ hres)
def fX12_bestSet_104 : Nat → St → Int32 → Int32 → Int32 → Option (Int32 × St)
  | 0 => fun _ _ _ _ => none
  | k + 1 => fun S x1 x2 x3 => bX12_bestSet_104 (fX12_bestSet_104 k) S x1 x2 x3
theorem wfX12_bestSet_104 {X : CX} (hX : Ok RX12 cX12_bestSet (some .int) 55 40 4 X) {rr : Int32 × St} (hq : rs X = (some (.int rr.1), rr.2)) (k : Nat) : ∀ (S : St) (x1 : Int32) (x2 : Int32) (x3 : Int32), fX12_bestSet_104 k S x1 x2 x3 = some rr → Wat 55 40 4 4 X 104 [(0, .ref (ad X 55)), (1, .int x1), (2, .int x2), (3, .int x3)] [] S := by
  induction k with
  | zero => intro S x1 x2 x3 hres; exact absurd hres (by simp [fX12_bestSet_104])
  | succ k ih => intro S x1 x2 x3 hres; exact wbX12_bestSet_104 hX hq ih hres
def bX12_bestSet_62 (rc62 : St → Int32 → Int32 → Int32 → Option (Int32 × St)) (S : St) (x1 : Int32) (x2 : Int32) (x3 : Int32) : Option (Int32 × St) :=
  if (65536 : Int32) ≤ x3 then (fX12_bestSet_104 70000 S x1 x2 (65535 : Int32)) else (if inb (x3 &&& (x3 - (1 : Int32))) 65536 = true then bi (fX12_lowest S x3) fun r3 S1 => if inb r3 16 = true then if inb x3 65536 = true then bS (pI S1 90 (x3.toNatClampNeg) ((S.1 90 ((x3 &&& (x3 - (1 : Int32))).toNatClampNeg)) ||| (S1.1 89 (r3.toNatClampNeg)))) fun S2 => bV (x3 + (1 : Int32)) fun v6 => rc62 S2 x1 x2 v6 else none else none else none)
theorem wbX12_bestSet_62 {X : CX} (hX : Ok RX12 cX12_bestSet (some .int) 55 40 4 X) {rr : Int32 × St} (hq : rs X = (some (.int rr.1), rr.2)) {rc62 : St → Int32 → Int32 → Int32 → Option (Int32 × St)} (hrc62 : ∀ (S : St) (x1 : Int32) (x2 : Int32) (x3 : Int32), rc62 S x1 x2 x3 = some rr → Wat 55 40 4 4 X 62 [(0, .ref (ad X 55)), (1, .int x1), (2, .int x2), (3, .int x3)] [] S) {S : St} {x1 : Int32} {x2 : Int32} {x3 : Int32} (hres : bX12_bestSet_62 rc62 S x1 x2 x3 = some rr) : Wat 55 40 4 4 X 62 [(0, .ref (ad X 55)), (1, .int x1), (2, .int x2), (3, .int x3)] [] S := by
  unfold bX12_bestSet_62 at hres
  refine q_iload_n 63 hX 3 dX12_bestSet_62 rfl rfl rfl ?_
  refine q_ldc 65 hX dX12_bestSet_63 rfl gw913 ?_
  refine q_icmp_ge 68 hX 100 dX12_bestSet_65 rfl (by decide) (fun hc => ?_) (fun hc => ?_)
  · have hres := it_t hc hres
    refine q_ldcw 103 hX dX12_bestSet_100 rfl gw988 ?_
    refine q_istore_n 104 (lv' := [(3, .int (65535 : Int32)), (0, .ref (ad X 55)), (1, .int x1), (2, .int x2)]) hX dX12_bestSet_103 rfl rfl (by decide) rfl ?_
    exact q_sub [1, 2, 3, 0] rfl (wfX12_bestSet_104 hX hq _ _ _ _ _ hres)
  · have hres := it_f hc hres
    refine q_aload_n 69 hX 0 dX12_bestSet_68 rfl rfl rfl ?_
    refine q_getR 72 hX ci12 lf_RX12_114 fR_55_54 dX12_bestSet_69 rfl ?_
    refine q_iload_n 73 hX 3 dX12_bestSet_72 rfl rfl rfl ?_
    refine q_aload_n 74 hX 0 dX12_bestSet_73 rfl rfl rfl ?_
    refine q_getR 77 hX ci12 lf_RX12_114 fR_55_54 dX12_bestSet_74 rfl ?_
    refine q_iload_n 78 hX 3 dX12_bestSet_77 rfl rfl rfl ?_
    refine q_iload_n 79 hX 3 dX12_bestSet_78 rfl rfl rfl ?_
    refine q_iconst 80 hX dX12_bestSet_79 rfl kI_1 ?_
    refine q_isub 81 hX dX12_bestSet_80 rfl ?_
    refine q_iand 82 hX dX12_bestSet_81 rfl ?_
    obtain ⟨hb1, hres⟩ := gd hres
    refine q_iald 83 hX rfl aF_90 hb1 dX12_bestSet_82 rfl ?_
    refine q_aload_n 84 hX 0 dX12_bestSet_83 rfl rfl rfl ?_
    refine q_getR 87 hX ci12 lf_RX12_110 fR_55_53 dX12_bestSet_84 rfl ?_
    refine q_iload_n 88 hX 3 dX12_bestSet_87 rfl rfl rfl ?_
    obtain ⟨r3, S1, hk2, hres⟩ := ob hres
    refine q_callSi 91 (st := [.ref (ad X 89), .int (S.1 90 ((x3 &&& (x3 - (1 : Int32))).toNatClampNeg)), .int x3, .ref (ad X 90)]) (As := [.int x3]) hX (cX12_lowest9 hX.dj hk2) cs_RX12_416 rfl (by decide) rfl (Nat.le_of_ble_eq_true rfl) dX12_bestSet_88 rfl ?_
    obtain ⟨hb4, hres⟩ := gd hres
    refine q_iald 92 hX rfl aF_89 hb4 dX12_bestSet_91 rfl ?_
    refine q_ior 93 hX dX12_bestSet_92 rfl ?_
    obtain ⟨hb5, hres⟩ := gd hres
    refine q_iast 94 hX rfl aF_90 hb5 dX12_bestSet_93 rfl ?_
    refine q_bS hres (fun S2 _ hres => ?_)
    refine q_iincB 97 3 (lv0 := [(0, .ref (ad X 55)), (1, .int x1), (2, .int x2)]) hX dX12_bestSet_94 rfl rfl kI_1 (by decide) rfl hres (fun v6 hres => ?_)
    refine q_goto 62 hX dX12_bestSet_97 (by decide) ?_
    exact q_sub [1, 2, 3, 0] rfl (hrc62 _ _ _ _ hres)
def fX12_bestSet_62 : Nat → St → Int32 → Int32 → Int32 → Option (Int32 × St)
  | 0 => fun _ _ _ _ => none
  | k + 1 => fun S x1 x2 x3 => bX12_bestSet_62 (fX12_bestSet_62 k) S x1 x2 x3
theorem wfX12_bestSet_62 {X : CX} (hX : Ok RX12 cX12_bestSet (some .int) 55 40 4 X) {rr : Int32 × St} (hq : rs X = (some (.int rr.1), rr.2)) (k : Nat) : ∀ (S : St) (x1 : Int32) (x2 : Int32) (x3 : Int32), fX12_bestSet_62 k S x1 x2 x3 = some rr → Wat 55 40 4 4 X 62 [(0, .ref (ad X 55)), (1, .int x1), (2, .int x2), (3, .int x3)] [] S := by
  induction k with
  | zero => intro S x1 x2 x3 hres; exact absurd hres (by simp [fX12_bestSet_62])
  | succ k ih => intro S x1 x2 x3 hres; exact wbX12_bestSet_62 hX hq ih hres
def bX12_bestSet_4 (rc4 : St → Int32 → Int32 → Option (Int32 × St)) (S : St) (x1 : Int32) (x2 : Int32) : Option (Int32 × St) :=
  if (16 : Int32) ≤ x2 then (bV ((S.1 55 8)) fun v1 => bS (pI S 90 0 (0 : Int32)) fun S1 => fX12_bestSet_62 70000 S1 x1 v1 (1 : Int32)) else (bi (fX12_isHouse S x2) fun r3 S2 => if r3 = 0 then (fX12_bestSet_32 rc4 S2 x1 x2 x2 (0 : Int32)) else (bi (fX12_everSeenBy S2 x2) fun r5 S3 => fX12_bestSet_32 rc4 S3 x1 x2 x2 r5))
theorem wbX12_bestSet_4 {X : CX} (hX : Ok RX12 cX12_bestSet (some .int) 55 40 4 X) {rr : Int32 × St} (hq : rs X = (some (.int rr.1), rr.2)) {rc4 : St → Int32 → Int32 → Option (Int32 × St)} (hrc4 : ∀ (S : St) (x1 : Int32) (x2 : Int32), rc4 S x1 x2 = some rr → Wat 55 40 4 4 X 4 [(0, .ref (ad X 55)), (1, .int x1), (2, .int x2)] [] S) {S : St} {x1 : Int32} {x2 : Int32} (hres : bX12_bestSet_4 rc4 S x1 x2 = some rr) : Wat 55 40 4 4 X 4 [(0, .ref (ad X 55)), (1, .int x1), (2, .int x2)] [] S := by
  unfold bX12_bestSet_4 at hres
  refine q_iload_n 5 hX 2 dX12_bestSet_4 rfl rfl rfl ?_
  refine q_bipush 7 hX dX12_bestSet_5 rfl kB_16 ?_
  refine q_icmp_ge 10 hX 48 dX12_bestSet_7 rfl (by decide) (fun hc => ?_) (fun hc => ?_)
  · have hres := it_t hc hres
    refine q_aload_n 49 hX 0 dX12_bestSet_48 rfl rfl rfl ?_
    refine q_getI 52 hX ci12 lf_RX12_138 fI_55_8 dX12_bestSet_49 rfl ?_
    refine q_istoreB_n 53 (lv0 := [(0, .ref (ad X 55)), (1, .int x1)]) hX dX12_bestSet_52 rfl rfl (by decide) rfl hres (fun v1 hres => ?_)
    refine q_aload_n 54 hX 1 dX12_bestSet_53 rfl rfl rfl ?_
    refine q_getR 57 hX ci12 lf_RX12_114 fR_55_54 dX12_bestSet_54 rfl ?_
    refine q_iconst 58 hX dX12_bestSet_57 rfl kI_0 ?_
    refine q_iconst 59 hX dX12_bestSet_58 rfl kI_0 ?_
    refine q_iast 60 hX kU_0 aF_90 kN_0_65536 dX12_bestSet_59 rfl ?_
    refine q_bS hres (fun S1 _ hres => ?_)
    refine q_iconst 61 hX dX12_bestSet_60 rfl kI_1 ?_
    refine q_istore_n 62 (lv' := [(3, .int (1 : Int32)), (2, .int v1), (0, .ref (ad X 55)), (1, .int x1)]) hX dX12_bestSet_61 rfl rfl (by decide) rfl ?_
    exact q_sub [2, 3, 1, 0] rfl (wfX12_bestSet_62 hX hq _ _ _ _ _ hres)
  · have hres := it_f hc hres
    refine q_aload_n 11 hX 0 dX12_bestSet_10 rfl rfl rfl ?_
    refine q_getR 14 hX ci12 lf_RX12_110 fR_55_53 dX12_bestSet_11 rfl ?_
    refine q_iload_n 15 hX 2 dX12_bestSet_14 rfl rfl rfl ?_
    refine q_aload_n 16 hX 0 dX12_bestSet_15 rfl rfl rfl ?_
    refine q_iload_n 17 hX 2 dX12_bestSet_16 rfl rfl rfl ?_
    obtain ⟨r3, S2, hk2, hres⟩ := ob hres
    refine q_callVi 20 (st := [.int x2, .ref (ad X 89)]) (As := [.int x2]) hX (cX12_isHouse9 hX.dj hk2) cv_RX12_159 ci12 oB_55 rfl (by decide) rfl (Nat.le_of_ble_eq_true rfl) dX12_bestSet_17 rfl ?_
    refine q_if_eq 23 hX 31 dX12_bestSet_20 rfl (by decide) (fun hc => ?_) (fun hc => ?_)
    · have hres := it_t hc hres
      refine q_iconst 32 hX dX12_bestSet_31 rfl kI_0 ?_
      exact q_sub [0, 1, 2] rfl (wfX12_bestSet_32 hX hq hrc4 hres)
    · have hres := it_f hc hres
      refine q_aload_n 24 hX 0 dX12_bestSet_23 rfl rfl rfl ?_
      refine q_iload_n 25 hX 2 dX12_bestSet_24 rfl rfl rfl ?_
      obtain ⟨r5, S3, hk4, hres⟩ := ob hres
      refine q_callVi 28 (st := [.int x2, .ref (ad X 89)]) (As := [.int x2]) hX (cX12_everSeenBy9 hX.dj hk4) cv_RX12_374 ci12 oB_55 rfl (by decide) rfl (Nat.le_of_ble_eq_true rfl) dX12_bestSet_25 rfl ?_
      refine q_goto 32 hX dX12_bestSet_28 (by decide) ?_
      exact q_sub [0, 1, 2] rfl (wfX12_bestSet_32 hX hq hrc4 hres)
def fX12_bestSet_4 : Nat → St → Int32 → Int32 → Option (Int32 × St)
  | 0 => fun _ _ _ => none
  | k + 1 => fun S x1 x2 => bX12_bestSet_4 (fX12_bestSet_4 k) S x1 x2
theorem wfX12_bestSet_4 {X : CX} (hX : Ok RX12 cX12_bestSet (some .int) 55 40 4 X) {rr : Int32 × St} (hq : rs X = (some (.int rr.1), rr.2)) (k : Nat) : ∀ (S : St) (x1 : Int32) (x2 : Int32), fX12_bestSet_4 k S x1 x2 = some rr → Wat 55 40 4 4 X 4 [(0, .ref (ad X 55)), (1, .int x1), (2, .int x2)] [] S := by
  induction k with
  | zero => intro S x1 x2 hres; exact absurd hres (by simp [fX12_bestSet_4])
  | succ k ih => intro S x1 x2 hres; exact wbX12_bestSet_4 hX hq ih hres
def fX12_bestSet (S : St) : Option (Int32 × St) :=
  fX12_bestSet_4 70000 S (0 : Int32) (0 : Int32)
theorem wfX12_bestSet {X : CX} (hX : Ok RX12 cX12_bestSet (some .int) 55 40 4 X) {rr : Int32 × St} (hq : rs X = (some (.int rr.1), rr.2)) {S : St} (hres : fX12_bestSet S = some rr) : Wat 55 40 4 4 X 0 [(0, .ref (ad X 55))] [] S := by
  unfold fX12_bestSet at hres
  refine q_iconst 1 hX dX12_bestSet_0 rfl kI_0 ?_
  refine q_istore_n 2 (lv' := [(1, .int (0 : Int32)), (0, .ref (ad X 55))]) hX dX12_bestSet_1 rfl rfl (by decide) rfl ?_
  refine q_iconst 3 hX dX12_bestSet_2 rfl kI_0 ?_
  refine q_istore_n 4 (lv' := [(2, .int (0 : Int32)), (1, .int (0 : Int32)), (0, .ref (ad X 55))]) hX dX12_bestSet_3 rfl rfl (by decide) rfl ?_
  exact q_sub [2, 1, 0] rfl (wfX12_bestSet_4 hX hq _ _ _ _ hres)
theorem cX12_bestSet9 {l : Launch} {w : WD} (hj : Dj w 55 40) {rr : Int32 × St} {S : St} (hres : fX12_bestSet S = some rr) : Ct l yX12_bestSet cX12_bestSet 4 (some .int) 4 w 55 40 [.ref (w.1 55)] S (some (.int rr.1), rr.2) := by
  refine Ct.of (lv := [(0, .ref (w.1 55))]) hj (by decide +kernel) (Nat.le_of_ble_eq_true rfl) rfl ?_
  rintro X rfl rfl hq hX
  exact wfX12_bestSet hX hq hres
def fX12_second (S : St) (x1 : Int32) : Option (Int32 × St) :=
  bi (fX12_in S x1 (0 : Int32) (1 : Int32)) fun r2 S1 => if r2 = 0 then (some ((-1 : Int32), S1)) else (bi (fX12_bestSet S1) fun r4 S2 => if x1 = 0 then (bi (fX12_bits S2 r4) fun r6 S3 => some (r6, S3)) else (some (r4, S2)))
theorem wfX12_second {X : CX} (hX : Ok RX12 cX12_second (some .int) 55 40 3 X) {rr : Int32 × St} (hq : rs X = (some (.int rr.1), rr.2)) {S : St} {x1 : Int32} (hres : fX12_second S x1 = some rr) : Wat 55 40 5 3 X 0 [(0, .ref (ad X 55)), (1, .int x1)] [] S := by
  unfold fX12_second at hres
  refine q_iload_n 1 hX 1 dX12_second_0 rfl rfl rfl ?_
  refine q_iconst 2 hX dX12_second_1 rfl kI_0 ?_
  refine q_iconst 3 hX dX12_second_2 rfl kI_1 ?_
  obtain ⟨r2, S1, hk1, hres⟩ := ob hres
  refine q_callSi 6 (st := []) (As := [.int x1, .int (0 : Int32), .int (1 : Int32)]) hX (cX12_in9 hX.dj hk1) cs_RX12_134 rfl (by decide) rfl (Nat.le_of_ble_eq_true rfl) dX12_second_3 rfl ?_
  refine q_if_ne 9 hX 11 dX12_second_6 rfl (by decide) (fun hc => ?_) (fun hc => ?_)
  · have hres := it_f hc hres
    refine q_aload_n 12 hX 0 dX12_second_11 rfl rfl rfl ?_
    obtain ⟨r4, S2, hk3, hres⟩ := ob hres
    refine q_callVi 15 (st := []) (As := []) hX (cX12_bestSet9 hX.dj hk3) cv_RX12_419 ci12 oB_55 rfl (by decide) rfl (Nat.le_of_ble_eq_true rfl) dX12_second_12 rfl ?_
    refine q_istore_n 16 (lv' := [(2, .int r4), (0, .ref (ad X 55)), (1, .int x1)]) hX dX12_second_15 rfl rfl (by decide) rfl ?_
    refine q_iload_n 17 hX 2 dX12_second_16 rfl rfl rfl ?_
    refine q_if_ne 20 hX 27 dX12_second_17 rfl (by decide) (fun hc => ?_) (fun hc => ?_)
    · have hres := it_f hc hres
      refine q_iload_n 28 hX 0 dX12_second_27 rfl rfl rfl ?_
      exact q_iret hX (eqi hq hres) dX12_second_28
    · have hres := it_t hc hres
      refine q_iload_n 21 hX 0 dX12_second_20 rfl rfl rfl ?_
      obtain ⟨r6, S3, hk5, hres⟩ := ob hres
      refine q_callSi 24 (st := []) (As := [.int r4]) hX (cX12_bits9 hX.dj hk5) cs_RX12_320 rfl (by decide) rfl (Nat.le_of_ble_eq_true rfl) dX12_second_21 rfl ?_
      refine q_goto 28 hX dX12_second_24 (by decide) ?_
      exact q_iret hX (eqi hq hres) dX12_second_28
  · have hres := it_t hc hres
    refine q_iconst 10 hX dX12_second_9 rfl kI_m1 ?_
    exact q_iret hX (eqi hq hres) dX12_second_10
theorem cX12_second9 {l : Launch} {w : WD} (hj : Dj w 55 40) {rr : Int32 × St} {S : St} {x1 : Int32} (hres : fX12_second S x1 = some rr) : Ct l yX12_second cX12_second 3 (some .int) 5 w 55 40 [.ref (w.1 55), .int x1] S (some (.int rr.1), rr.2) := by
  refine Ct.of (lv := [(0, .ref (w.1 55)), (1, .int x1)]) hj (by decide +kernel) (Nat.le_of_ble_eq_true rfl) rfl ?_
  rintro X rfl rfl hq hX
  exact wfX12_second hX hq hres
def fX12_fits_23 (rc2 : St → Int32 → Int32 → Int32 → Option (Int32 × St)) (S : St) (x1 : Int32) (x2 : Int32) (x3 : Int32) (s0 : Int32) : Option (Int32 × St) :=
  bi (fX12_octet S (((2 : Int32) * x3) + (1 : Int32))) fun r2 S1 => if s0 = r2 then (bV (x3 + (1 : Int32)) fun v3 => rc2 S1 x1 x2 v3) else (some ((0 : Int32), S1))
theorem wfX12_fits_23 {X : CX} (hX : Ok RX12 cX12_fits (some .boolean) 55 40 4 X) {rr : Int32 × St} (hq : rs X = (some (.int rr.1), rr.2)) {rc2 : St → Int32 → Int32 → Int32 → Option (Int32 × St)} (hrc2 : ∀ (S : St) (x1 : Int32) (x2 : Int32) (x3 : Int32), rc2 S x1 x2 x3 = some rr → Wat 55 40 1 4 X 2 [(0, .ref (ad X 55)), (1, .int x1), (2, .int x2), (3, .int x3)] [] S) {S : St} {x1 : Int32} {x2 : Int32} {x3 : Int32} {s0 : Int32} (hres : fX12_fits_23 rc2 S x1 x2 x3 s0 = some rr) : Wat 55 40 1 4 X 23 [(0, .ref (ad X 55)), (1, .int x1), (2, .int x2), (3, .int x3)] [.int s0] S := by
  unfold fX12_fits_23 at hres
  refine q_aload_n 24 hX 0 dX12_fits_23 rfl rfl rfl ?_
  refine q_iconst 25 hX dX12_fits_24 rfl kI_2 ?_
  refine q_iload_n 26 hX 3 dX12_fits_25 rfl rfl rfl ?_
  refine q_imul 27 hX dX12_fits_26 rfl ?_
  refine q_iconst 28 hX dX12_fits_27 rfl kI_1 ?_
  refine q_iadd 29 hX dX12_fits_28 rfl ?_
  obtain ⟨r2, S1, hk1, hres⟩ := ob hres
  refine q_callVi 32 (st := [.int s0]) (As := [.int (((2 : Int32) * x3) + (1 : Int32))]) hX (cX12_octet9 hX.dj hk1) cv_RX12_400 ci12 oB_55 rfl (by decide) rfl (Nat.le_of_ble_eq_true rfl) dX12_fits_29 rfl ?_
  refine q_icmp_eq 35 hX 37 dX12_fits_32 rfl (by decide) (fun hc => ?_) (fun hc => ?_)
  · have hres := it_t hc hres
    refine q_iincB 40 3 (lv0 := [(0, .ref (ad X 55)), (1, .int x1), (2, .int x2)]) hX dX12_fits_37 rfl rfl kI_1 (by decide) rfl hres (fun v3 hres => ?_)
    refine q_goto 2 hX dX12_fits_40 (by decide) ?_
    exact q_sub [1, 2, 3, 0] rfl (hrc2 _ _ _ _ hres)
  · have hres := it_f hc hres
    refine q_iconst 36 hX dX12_fits_35 rfl kI_0 ?_
    exact q_zret hX (by decide) (eqi hq hres) dX12_fits_36
def bX12_fits_2 (rc2 : St → Int32 → Int32 → Int32 → Option (Int32 × St)) (S : St) (x1 : Int32) (x2 : Int32) (x3 : Int32) : Option (Int32 × St) :=
  if x1 ≤ x3 then (some ((1 : Int32), S)) else (bi (fX12_octet S ((2 : Int32) * x3)) fun r2 S1 => if r2 < x2 then (fX12_fits_23 rc2 S1 x1 x2 x3 (0 : Int32)) else (fX12_fits_23 rc2 S1 x1 x2 x3 (1 : Int32)))
theorem wbX12_fits_2 {X : CX} (hX : Ok RX12 cX12_fits (some .boolean) 55 40 4 X) {rr : Int32 × St} (hq : rs X = (some (.int rr.1), rr.2)) {rc2 : St → Int32 → Int32 → Int32 → Option (Int32 × St)} (hrc2 : ∀ (S : St) (x1 : Int32) (x2 : Int32) (x3 : Int32), rc2 S x1 x2 x3 = some rr → Wat 55 40 1 4 X 2 [(0, .ref (ad X 55)), (1, .int x1), (2, .int x2), (3, .int x3)] [] S) {S : St} {x1 : Int32} {x2 : Int32} {x3 : Int32} (hres : bX12_fits_2 rc2 S x1 x2 x3 = some rr) : Wat 55 40 1 4 X 2 [(0, .ref (ad X 55)), (1, .int x1), (2, .int x2), (3, .int x3)] [] S := by
  unfold bX12_fits_2 at hres
  refine q_iload_n 3 hX 3 dX12_fits_2 rfl rfl rfl ?_
  refine q_iload_n 4 hX 1 dX12_fits_3 rfl rfl rfl ?_
  refine q_icmp_ge 7 hX 43 dX12_fits_4 rfl (by decide) (fun hc => ?_) (fun hc => ?_)
  · have hres := it_t hc hres
    refine q_iconst 44 hX dX12_fits_43 rfl kI_1 ?_
    exact q_zret hX (by decide) (eqi hq hres) dX12_fits_44
  · have hres := it_f hc hres
    refine q_aload_n 8 hX 0 dX12_fits_7 rfl rfl rfl ?_
    refine q_iconst 9 hX dX12_fits_8 rfl kI_2 ?_
    refine q_iload_n 10 hX 3 dX12_fits_9 rfl rfl rfl ?_
    refine q_imul 11 hX dX12_fits_10 rfl ?_
    obtain ⟨r2, S1, hk1, hres⟩ := ob hres
    refine q_callVi 14 (st := []) (As := [.int ((2 : Int32) * x3)]) hX (cX12_octet9 hX.dj hk1) cv_RX12_400 ci12 oB_55 rfl (by decide) rfl (Nat.le_of_ble_eq_true rfl) dX12_fits_11 rfl ?_
    refine q_iload_n 15 hX 2 dX12_fits_14 rfl rfl rfl ?_
    refine q_icmp_lt 18 hX 22 dX12_fits_15 rfl (by decide) (fun hc => ?_) (fun hc => ?_)
    · have hres := it_t hc hres
      refine q_iconst 23 hX dX12_fits_22 rfl kI_0 ?_
      exact q_sub [0, 1, 2, 3] rfl (wfX12_fits_23 hX hq hrc2 hres)
    · have hres := it_f hc hres
      refine q_iconst 19 hX dX12_fits_18 rfl kI_1 ?_
      refine q_goto 23 hX dX12_fits_19 (by decide) ?_
      exact q_sub [0, 1, 2, 3] rfl (wfX12_fits_23 hX hq hrc2 hres)
def fX12_fits_2 : Nat → St → Int32 → Int32 → Int32 → Option (Int32 × St)
  | 0 => fun _ _ _ _ => none
  | k + 1 => fun S x1 x2 x3 => bX12_fits_2 (fX12_fits_2 k) S x1 x2 x3
theorem wfX12_fits_2 {X : CX} (hX : Ok RX12 cX12_fits (some .boolean) 55 40 4 X) {rr : Int32 × St} (hq : rs X = (some (.int rr.1), rr.2)) (k : Nat) : ∀ (S : St) (x1 : Int32) (x2 : Int32) (x3 : Int32), fX12_fits_2 k S x1 x2 x3 = some rr → Wat 55 40 1 4 X 2 [(0, .ref (ad X 55)), (1, .int x1), (2, .int x2), (3, .int x3)] [] S := by
  induction k with
  | zero => intro S x1 x2 x3 hres; exact absurd hres (by simp [fX12_fits_2])
  | succ k ih => intro S x1 x2 x3 hres; exact wbX12_fits_2 hX hq ih hres
def fX12_fits (S : St) (x1 : Int32) (x2 : Int32) : Option (Int32 × St) :=
  fX12_fits_2 100 S x1 x2 (0 : Int32)
theorem wfX12_fits {X : CX} (hX : Ok RX12 cX12_fits (some .boolean) 55 40 4 X) {rr : Int32 × St} (hq : rs X = (some (.int rr.1), rr.2)) {S : St} {x1 : Int32} {x2 : Int32} (hres : fX12_fits S x1 x2 = some rr) : Wat 55 40 1 4 X 0 [(0, .ref (ad X 55)), (1, .int x1), (2, .int x2)] [] S := by
  unfold fX12_fits at hres
  refine q_iconst 1 hX dX12_fits_0 rfl kI_0 ?_
  refine q_istore_n 2 (lv' := [(3, .int (0 : Int32)), (0, .ref (ad X 55)), (1, .int x1), (2, .int x2)]) hX dX12_fits_1 rfl rfl (by decide) rfl ?_
  exact q_sub [1, 2, 3, 0] rfl (wfX12_fits_2 hX hq _ _ _ _ _ hres)
theorem cX12_fits9 {l : Launch} {w : WD} (hj : Dj w 55 40) {rr : Int32 × St} {S : St} {x1 : Int32} {x2 : Int32} (hres : fX12_fits S x1 x2 = some rr) : Ct l yX12_fits cX12_fits 4 (some .boolean) 1 w 55 40 [.ref (w.1 55), .int x1, .int x2] S (some (.int rr.1), rr.2) := by
  refine Ct.of (lv := [(0, .ref (w.1 55)), (1, .int x1), (2, .int x2)]) hj (by decide +kernel) (Nat.le_of_ble_eq_true rfl) rfl ?_
  rintro X rfl rfl hq hX
  exact wfX12_fits hX hq hres
def bX12_crack_85 (rc85 : St → Int32 → Int32 → Int32 → Int32 → Int32 → Option (Int32 × St)) (S : St) (x1 : Int32) (x2 : Int32) (x3 : Int32) (x4 : Int32) (x5 : Int32) : Option (Int32 × St) :=
  if (12 : Int32) < x5 then (if x2 = 0 then (some (x3, S)) else (some (x4, S))) else (bi (fX12_fits S x1 x5) fun r2 S1 => if r2 = 0 then (bV (x5 + (1 : Int32)) fun v10 => rc85 S1 x1 x2 x3 x4 v10) else (bV ((x3 ||| ((1 : Int32) <<< (x5 &&& 31)))) fun v3 => if (12 : Int32) ≤ x5 then (bV (x5 + (1 : Int32)) fun v4 => rc85 S1 x1 x2 v3 x4 v4) else (if inb x5 12 = true then if (S1.1 59 (x5.toNatClampNeg)) = (-1 : Int32) then (bV (x5 + (1 : Int32)) fun v6 => rc85 S1 x1 x2 v3 x4 v6) else (if inb x5 12 = true then bV ((x4 ||| ((1 : Int32) <<< ((S1.1 59 (x5.toNatClampNeg)) &&& 31)))) fun v8 => bV (x5 + (1 : Int32)) fun v9 => rc85 S1 x1 x2 v3 v8 v9 else none) else none)))
theorem wbX12_crack_85 {X : CX} (hX : Ok RX12 cX12_crack (some .int) 55 40 6 X) {rr : Int32 × St} (hq : rs X = (some (.int rr.1), rr.2)) {rc85 : St → Int32 → Int32 → Int32 → Int32 → Int32 → Option (Int32 × St)} (hrc85 : ∀ (S : St) (x1 : Int32) (x2 : Int32) (x3 : Int32) (x4 : Int32) (x5 : Int32), rc85 S x1 x2 x3 x4 x5 = some rr → Wat 55 40 2 6 X 85 [(0, .ref (ad X 55)), (1, .int x1), (2, .int x2), (3, .int x3), (4, .int x4), (5, .int x5)] [] S) {S : St} {x1 : Int32} {x2 : Int32} {x3 : Int32} {x4 : Int32} {x5 : Int32} (hres : bX12_crack_85 rc85 S x1 x2 x3 x4 x5 = some rr) : Wat 55 40 2 6 X 85 [(0, .ref (ad X 55)), (1, .int x1), (2, .int x2), (3, .int x3), (4, .int x4), (5, .int x5)] [] S := by
  unfold bX12_crack_85 at hres
  refine q_iload 87 hX 5 dX12_crack_85 rfl rfl ?_
  refine q_bipush 89 hX dX12_crack_87 rfl kB_12 ?_
  refine q_icmp_gt 92 hX 150 dX12_crack_89 rfl (by decide) (fun hc => ?_) (fun hc => ?_)
  · have hres := it_t hc hres
    refine q_iload_n 151 hX 2 dX12_crack_150 rfl rfl rfl ?_
    refine q_if_ne 154 hX 158 dX12_crack_151 rfl (by decide) (fun hc => ?_) (fun hc => ?_)
    · have hres := it_f hc hres
      refine q_iload 160 hX 4 dX12_crack_158 rfl rfl ?_
      exact q_iret hX (eqi hq hres) dX12_crack_160
    · have hres := it_t hc hres
      refine q_iload_n 155 hX 3 dX12_crack_154 rfl rfl rfl ?_
      refine q_goto 160 hX dX12_crack_155 (by decide) ?_
      exact q_iret hX (eqi hq hres) dX12_crack_160
  · have hres := it_f hc hres
    refine q_aload_n 93 hX 0 dX12_crack_92 rfl rfl rfl ?_
    refine q_iload_n 94 hX 1 dX12_crack_93 rfl rfl rfl ?_
    refine q_iload 96 hX 5 dX12_crack_94 rfl rfl ?_
    obtain ⟨r2, S1, hk1, hres⟩ := ob hres
    refine q_callVi 99 (st := []) (As := [.int x1, .int x5]) hX (cX12_fits9 hX.dj hk1) cv_RX12_422 ci12 oB_55 rfl (by decide) rfl (Nat.le_of_ble_eq_true rfl) dX12_crack_96 rfl ?_
    refine q_if_ne 102 hX 105 dX12_crack_99 rfl (by decide) (fun hc => ?_) (fun hc => ?_)
    · have hres := it_f hc hres
      refine q_iload_n 106 hX 3 dX12_crack_105 rfl rfl rfl ?_
      refine q_iconst 107 hX dX12_crack_106 rfl kI_1 ?_
      refine q_iload 109 hX 5 dX12_crack_107 rfl rfl ?_
      refine q_ishl 110 hX dX12_crack_109 rfl ?_
      refine q_ior 111 hX dX12_crack_110 rfl ?_
      refine q_istoreB_n 112 (lv0 := [(0, .ref (ad X 55)), (1, .int x1), (2, .int x2), (4, .int x4), (5, .int x5)]) hX dX12_crack_111 rfl rfl (by decide) rfl hres (fun v3 hres => ?_)
      refine q_iload 114 hX 5 dX12_crack_112 rfl rfl ?_
      refine q_bipush 116 hX dX12_crack_114 rfl kB_12 ?_
      refine q_icmp_ge 119 hX 144 dX12_crack_116 rfl (by decide) (fun hc => ?_) (fun hc => ?_)
      · have hres := it_t hc hres
        refine q_iincB 147 5 (lv0 := [(3, .int v3), (0, .ref (ad X 55)), (1, .int x1), (2, .int x2), (4, .int x4)]) hX dX12_crack_144 rfl rfl kI_1 (by decide) rfl hres (fun v4 hres => ?_)
        refine q_goto 85 hX dX12_crack_147 (by decide) ?_
        exact q_sub [2, 3, 4, 1, 5, 0] rfl (hrc85 _ _ _ _ _ _ hres)
      · have hres := it_f hc hres
        refine q_aload_n 120 hX 1 dX12_crack_119 rfl rfl rfl ?_
        refine q_getR 123 hX ci12 lf_RX12_19 fR_55_3 dX12_crack_120 rfl ?_
        refine q_iload 125 hX 5 dX12_crack_123 rfl rfl ?_
        obtain ⟨hb5, hres⟩ := gd hres
        refine q_iald 126 hX rfl aF_59 hb5 dX12_crack_125 rfl ?_
        refine q_iconst 127 hX dX12_crack_126 rfl kI_m1 ?_
        refine q_icmp_eq 130 hX 144 dX12_crack_127 rfl (by decide) (fun hc => ?_) (fun hc => ?_)
        · have hres := it_t hc hres
          refine q_iincB 147 5 (lv0 := [(3, .int v3), (0, .ref (ad X 55)), (1, .int x1), (2, .int x2), (4, .int x4)]) hX dX12_crack_144 rfl rfl kI_1 (by decide) rfl hres (fun v6 hres => ?_)
          refine q_goto 85 hX dX12_crack_147 (by decide) ?_
          exact q_sub [2, 3, 4, 1, 5, 0] rfl (hrc85 _ _ _ _ _ _ hres)
        · have hres := it_f hc hres
          refine q_iload 132 hX 4 dX12_crack_130 rfl rfl ?_
          refine q_iconst 133 hX dX12_crack_132 rfl kI_1 ?_
          refine q_aload_n 134 hX 1 dX12_crack_133 rfl rfl rfl ?_
          refine q_getR 137 hX ci12 lf_RX12_19 fR_55_3 dX12_crack_134 rfl ?_
          refine q_iload 139 hX 5 dX12_crack_137 rfl rfl ?_
          obtain ⟨hb7, hres⟩ := gd hres
          refine q_iald 140 hX rfl aF_59 hb7 dX12_crack_139 rfl ?_
          refine q_ishl 141 hX dX12_crack_140 rfl ?_
          refine q_ior 142 hX dX12_crack_141 rfl ?_
          refine q_istoreB 144 (lv0 := [(3, .int v3), (0, .ref (ad X 55)), (1, .int x1), (2, .int x2), (5, .int x5)]) hX dX12_crack_142 rfl (by decide) rfl hres (fun v8 hres => ?_)
          refine q_iincB 147 5 (lv0 := [(4, .int v8), (3, .int v3), (0, .ref (ad X 55)), (1, .int x1), (2, .int x2)]) hX dX12_crack_144 rfl rfl kI_1 (by decide) rfl hres (fun v9 hres => ?_)
          refine q_goto 85 hX dX12_crack_147 (by decide) ?_
          exact q_sub [3, 4, 5, 2, 1, 0] rfl (hrc85 _ _ _ _ _ _ hres)
    · have hres := it_t hc hres
      refine q_goto 144 hX dX12_crack_102 (by decide) ?_
      refine q_iincB 147 5 (lv0 := [(0, .ref (ad X 55)), (1, .int x1), (2, .int x2), (3, .int x3), (4, .int x4)]) hX dX12_crack_144 rfl rfl kI_1 (by decide) rfl hres (fun v10 hres => ?_)
      refine q_goto 85 hX dX12_crack_147 (by decide) ?_
      exact q_sub [1, 2, 3, 4, 5, 0] rfl (hrc85 _ _ _ _ _ _ hres)
def fX12_crack_85 : Nat → St → Int32 → Int32 → Int32 → Int32 → Int32 → Option (Int32 × St)
  | 0 => fun _ _ _ _ _ _ => none
  | k + 1 => fun S x1 x2 x3 x4 x5 => bX12_crack_85 (fX12_crack_85 k) S x1 x2 x3 x4 x5
theorem wfX12_crack_85 {X : CX} (hX : Ok RX12 cX12_crack (some .int) 55 40 6 X) {rr : Int32 × St} (hq : rs X = (some (.int rr.1), rr.2)) (k : Nat) : ∀ (S : St) (x1 : Int32) (x2 : Int32) (x3 : Int32) (x4 : Int32) (x5 : Int32), fX12_crack_85 k S x1 x2 x3 x4 x5 = some rr → Wat 55 40 2 6 X 85 [(0, .ref (ad X 55)), (1, .int x1), (2, .int x2), (3, .int x3), (4, .int x4), (5, .int x5)] [] S := by
  induction k with
  | zero => intro S x1 x2 x3 x4 x5 hres; exact absurd hres (by simp [fX12_crack_85])
  | succ k ih => intro S x1 x2 x3 x4 x5 hres; exact wbX12_crack_85 hX hq ih hres
def bX12_crack_38 (rc38 : St → Int32 → Int32 → Int32 → Option (Int32 × St)) (S : St) (x1 : Int32) (x2 : Int32) (x3 : Int32) : Option (Int32 × St) :=
  if x1 ≤ x3 then (fX12_crack_85 100 S x1 x2 (0 : Int32) (0 : Int32) (0 : Int32)) else (bi (fX12_octet S ((2 : Int32) * x3)) fun r2 S1 => if (12 : Int32) ≤ r2 then (some ((-3 : Int32), S1)) else (bi (fX12_octet S1 (((2 : Int32) * x3) + (1 : Int32))) fun r4 S2 => if r4 ≤ (1 : Int32) then (bV (x3 + (1 : Int32)) fun v5 => rc38 S2 x1 x2 v5) else (some ((-3 : Int32), S2))))
theorem wbX12_crack_38 {X : CX} (hX : Ok RX12 cX12_crack (some .int) 55 40 6 X) {rr : Int32 × St} (hq : rs X = (some (.int rr.1), rr.2)) {rc38 : St → Int32 → Int32 → Int32 → Option (Int32 × St)} (hrc38 : ∀ (S : St) (x1 : Int32) (x2 : Int32) (x3 : Int32), rc38 S x1 x2 x3 = some rr → Wat 55 40 2 6 X 38 [(0, .ref (ad X 55)), (1, .int x1), (2, .int x2), (3, .int x3)] [] S) {S : St} {x1 : Int32} {x2 : Int32} {x3 : Int32} (hres : bX12_crack_38 rc38 S x1 x2 x3 = some rr) : Wat 55 40 2 6 X 38 [(0, .ref (ad X 55)), (1, .int x1), (2, .int x2), (3, .int x3)] [] S := by
  unfold bX12_crack_38 at hres
  refine q_iload_n 39 hX 3 dX12_crack_38 rfl rfl rfl ?_
  refine q_iload_n 40 hX 1 dX12_crack_39 rfl rfl rfl ?_
  refine q_icmp_ge 43 hX 77 dX12_crack_40 rfl (by decide) (fun hc => ?_) (fun hc => ?_)
  · have hres := it_t hc hres
    refine q_iconst 78 hX dX12_crack_77 rfl kI_0 ?_
    refine q_istore_n 79 (lv' := [(3, .int (0 : Int32)), (0, .ref (ad X 55)), (1, .int x1), (2, .int x2)]) hX dX12_crack_78 rfl rfl (by decide) rfl ?_
    refine q_iconst 80 hX dX12_crack_79 rfl kI_0 ?_
    refine q_istore 82 (lv' := [(4, .int (0 : Int32)), (3, .int (0 : Int32)), (0, .ref (ad X 55)), (1, .int x1), (2, .int x2)]) hX dX12_crack_80 rfl (by decide) rfl ?_
    refine q_iconst 83 hX dX12_crack_82 rfl kI_0 ?_
    refine q_istore 85 (lv' := [(5, .int (0 : Int32)), (4, .int (0 : Int32)), (3, .int (0 : Int32)), (0, .ref (ad X 55)), (1, .int x1), (2, .int x2)]) hX dX12_crack_83 rfl (by decide) rfl ?_
    exact q_sub [3, 4, 5, 2, 1, 0] rfl (wfX12_crack_85 hX hq _ _ _ _ _ _ _ hres)
  · have hres := it_f hc hres
    refine q_aload_n 44 hX 0 dX12_crack_43 rfl rfl rfl ?_
    refine q_iconst 45 hX dX12_crack_44 rfl kI_2 ?_
    refine q_iload_n 46 hX 3 dX12_crack_45 rfl rfl rfl ?_
    refine q_imul 47 hX dX12_crack_46 rfl ?_
    obtain ⟨r2, S1, hk1, hres⟩ := ob hres
    refine q_callVi 50 (st := []) (As := [.int ((2 : Int32) * x3)]) hX (cX12_octet9 hX.dj hk1) cv_RX12_400 ci12 oB_55 rfl (by decide) rfl (Nat.le_of_ble_eq_true rfl) dX12_crack_47 rfl ?_
    refine q_bipush 52 hX dX12_crack_50 rfl kB_12 ?_
    refine q_icmp_ge 55 hX 68 dX12_crack_52 rfl (by decide) (fun hc => ?_) (fun hc => ?_)
    · have hres := it_t hc hres
      refine q_bipush 70 hX dX12_crack_68 rfl kB_m3 ?_
      exact q_iret hX (eqi hq hres) dX12_crack_70
    · have hres := it_f hc hres
      refine q_aload_n 56 hX 0 dX12_crack_55 rfl rfl rfl ?_
      refine q_iconst 57 hX dX12_crack_56 rfl kI_2 ?_
      refine q_iload_n 58 hX 3 dX12_crack_57 rfl rfl rfl ?_
      refine q_imul 59 hX dX12_crack_58 rfl ?_
      refine q_iconst 60 hX dX12_crack_59 rfl kI_1 ?_
      refine q_iadd 61 hX dX12_crack_60 rfl ?_
      obtain ⟨r4, S2, hk3, hres⟩ := ob hres
      refine q_callVi 64 (st := []) (As := [.int (((2 : Int32) * x3) + (1 : Int32))]) hX (cX12_octet9 hX.dj hk3) cv_RX12_400 ci12 oB_55 rfl (by decide) rfl (Nat.le_of_ble_eq_true rfl) dX12_crack_61 rfl ?_
      refine q_iconst 65 hX dX12_crack_64 rfl kI_1 ?_
      refine q_icmp_le 68 hX 71 dX12_crack_65 rfl (by decide) (fun hc => ?_) (fun hc => ?_)
      · have hres := it_t hc hres
        refine q_iincB 74 3 (lv0 := [(0, .ref (ad X 55)), (1, .int x1), (2, .int x2)]) hX dX12_crack_71 rfl rfl kI_1 (by decide) rfl hres (fun v5 hres => ?_)
        refine q_goto 38 hX dX12_crack_74 (by decide) ?_
        exact q_sub [1, 2, 3, 0] rfl (hrc38 _ _ _ _ hres)
      · have hres := it_f hc hres
        refine q_bipush 70 hX dX12_crack_68 rfl kB_m3 ?_
        exact q_iret hX (eqi hq hres) dX12_crack_70
def fX12_crack_38 : Nat → St → Int32 → Int32 → Int32 → Option (Int32 × St)
  | 0 => fun _ _ _ _ => none
  | k + 1 => fun S x1 x2 x3 => bX12_crack_38 (fX12_crack_38 k) S x1 x2 x3
theorem wfX12_crack_38 {X : CX} (hX : Ok RX12 cX12_crack (some .int) 55 40 6 X) {rr : Int32 × St} (hq : rs X = (some (.int rr.1), rr.2)) (k : Nat) : ∀ (S : St) (x1 : Int32) (x2 : Int32) (x3 : Int32), fX12_crack_38 k S x1 x2 x3 = some rr → Wat 55 40 2 6 X 38 [(0, .ref (ad X 55)), (1, .int x1), (2, .int x2), (3, .int x3)] [] S := by
  induction k with
  | zero => intro S x1 x2 x3 hres; exact absurd hres (by simp [fX12_crack_38])
  | succ k ih => intro S x1 x2 x3 hres; exact wbX12_crack_38 hX hq ih hres
def fX12_crack (S : St) (x1 : Int32) (x2 : Int32) : Option (Int32 × St) :=
  bi (fX12_in S x1 (1 : Int32) (12 : Int32)) fun r2 S1 => if r2 = 0 then (some ((-1 : Int32), S1)) else (bi (fX12_in S1 x2 (0 : Int32) (1 : Int32)) fun r4 S2 => if r4 = 0 then (some ((-1 : Int32), S2)) else (if ((2 : Int32) * x1) ≤ (S2.1 55 11) then (bS (pI S2 55 11 (0 : Int32)) fun S3 => fX12_crack_38 100 S3 x1 x2 (0 : Int32)) else (some ((-1 : Int32), S2))))
theorem wfX12_crack {X : CX} (hX : Ok RX12 cX12_crack (some .int) 55 40 6 X) {rr : Int32 × St} (hq : rs X = (some (.int rr.1), rr.2)) {S : St} {x1 : Int32} {x2 : Int32} (hres : fX12_crack S x1 x2 = some rr) : Wat 55 40 2 6 X 0 [(0, .ref (ad X 55)), (1, .int x1), (2, .int x2)] [] S := by
  unfold fX12_crack at hres
  refine q_iload_n 1 hX 1 dX12_crack_0 rfl rfl rfl ?_
  refine q_iconst 2 hX dX12_crack_1 rfl kI_1 ?_
  refine q_bipush 4 hX dX12_crack_2 rfl kB_12 ?_
  obtain ⟨r2, S1, hk1, hres⟩ := ob hres
  refine q_callSi 7 (st := []) (As := [.int x1, .int (1 : Int32), .int (12 : Int32)]) hX (cX12_in9 hX.dj hk1) cs_RX12_134 rfl (by decide) rfl (Nat.le_of_ble_eq_true rfl) dX12_crack_4 rfl ?_
  refine q_if_eq 10 hX 29 dX12_crack_7 rfl (by decide) (fun hc => ?_) (fun hc => ?_)
  · have hres := it_t hc hres
    refine q_iconst 30 hX dX12_crack_29 rfl kI_m1 ?_
    exact q_iret hX (eqi hq hres) dX12_crack_30
  · have hres := it_f hc hres
    refine q_iload_n 11 hX 2 dX12_crack_10 rfl rfl rfl ?_
    refine q_iconst 12 hX dX12_crack_11 rfl kI_0 ?_
    refine q_iconst 13 hX dX12_crack_12 rfl kI_1 ?_
    obtain ⟨r4, S2, hk3, hres⟩ := ob hres
    refine q_callSi 16 (st := []) (As := [.int x2, .int (0 : Int32), .int (1 : Int32)]) hX (cX12_in9 hX.dj hk3) cs_RX12_134 rfl (by decide) rfl (Nat.le_of_ble_eq_true rfl) dX12_crack_13 rfl ?_
    refine q_if_eq 19 hX 29 dX12_crack_16 rfl (by decide) (fun hc => ?_) (fun hc => ?_)
    · have hres := it_t hc hres
      refine q_iconst 30 hX dX12_crack_29 rfl kI_m1 ?_
      exact q_iret hX (eqi hq hres) dX12_crack_30
    · have hres := it_f hc hres
      refine q_iconst 20 hX dX12_crack_19 rfl kI_2 ?_
      refine q_iload_n 21 hX 1 dX12_crack_20 rfl rfl rfl ?_
      refine q_imul 22 hX dX12_crack_21 rfl ?_
      refine q_aload_n 23 hX 0 dX12_crack_22 rfl rfl rfl ?_
      refine q_getI 26 hX ci12 lf_RX12_162 fI_55_11 dX12_crack_23 rfl ?_
      refine q_icmp_le 29 hX 31 dX12_crack_26 rfl (by decide) (fun hc => ?_) (fun hc => ?_)
      · have hres := it_t hc hres
        refine q_aload_n 32 hX 0 dX12_crack_31 rfl rfl rfl ?_
        refine q_iconst 33 hX dX12_crack_32 rfl kI_0 ?_
        refine q_putI 36 hX ci12 lf_RX12_162 fI_55_11 (nar_i rfl) dX12_crack_33 rfl ?_
        refine q_bS hres (fun S3 _ hres => ?_)
        refine q_iconst 37 hX dX12_crack_36 rfl kI_0 ?_
        refine q_istore_n 38 (lv' := [(3, .int (0 : Int32)), (0, .ref (ad X 55)), (1, .int x1), (2, .int x2)]) hX dX12_crack_37 rfl rfl (by decide) rfl ?_
        exact q_sub [1, 2, 3, 0] rfl (wfX12_crack_38 hX hq _ _ _ _ _ hres)
      · have hres := it_f hc hres
        refine q_iconst 30 hX dX12_crack_29 rfl kI_m1 ?_
        exact q_iret hX (eqi hq hres) dX12_crack_30
theorem cX12_crack9 {l : Launch} {w : WD} (hj : Dj w 55 40) {rr : Int32 × St} {S : St} {x1 : Int32} {x2 : Int32} (hres : fX12_crack S x1 x2 = some rr) : Ct l yX12_crack cX12_crack 6 (some .int) 2 w 55 40 [.ref (w.1 55), .int x1, .int x2] S (some (.int rr.1), rr.2) := by
  refine Ct.of (lv := [(0, .ref (w.1 55)), (1, .int x1), (2, .int x2)]) hj (by decide +kernel) (Nat.le_of_ble_eq_true rfl) rfl ?_
  rintro X rfl rfl hq hX
  exact wfX12_crack hX hq hres
def bX12_sumFrom_5 (rc5 : St → Int32 → Int32 → Int32 → Option (Int32 × St)) (S : St) (x2 : Int32) (x3 : Int32) (x4 : Int32) : Option (Int32 × St) :=
  if x2 < x4 then (some (x3, S)) else (bi (fX12_octet S x4) fun r2 S1 => bV ((x3 + r2)) fun v3 => bV (x4 + (1 : Int32)) fun v4 => rc5 S1 x2 v3 v4)
theorem wbX12_sumFrom_5 {X : CX} (hX : Ok RX12 cX12_sumFrom (some .int) 55 40 5 X) {rr : Int32 × St} (hq : rs X = (some (.int rr.1), rr.2)) {rc5 : St → Int32 → Int32 → Int32 → Option (Int32 × St)} (hrc5 : ∀ (S : St) (x2 : Int32) (x3 : Int32) (x4 : Int32), rc5 S x2 x3 x4 = some rr → Wat 55 40 1 5 X 5 [(0, .ref (ad X 55)), (2, .int x2), (3, .int x3), (4, .int x4)] [] S) {S : St} {x2 : Int32} {x3 : Int32} {x4 : Int32} (hres : bX12_sumFrom_5 rc5 S x2 x3 x4 = some rr) : Wat 55 40 1 5 X 5 [(0, .ref (ad X 55)), (2, .int x2), (3, .int x3), (4, .int x4)] [] S := by
  unfold bX12_sumFrom_5 at hres
  refine q_iload 7 hX 3 dX12_sumFrom_5 rfl rfl ?_
  refine q_iload_n 8 hX 1 dX12_sumFrom_7 rfl rfl rfl ?_
  refine q_icmp_gt 11 hX 26 dX12_sumFrom_8 rfl (by decide) (fun hc => ?_) (fun hc => ?_)
  · have hres := it_t hc hres
    refine q_iload_n 27 hX 2 dX12_sumFrom_26 rfl rfl rfl ?_
    exact q_iret hX (eqi hq hres) dX12_sumFrom_27
  · have hres := it_f hc hres
    refine q_iload_n 12 hX 2 dX12_sumFrom_11 rfl rfl rfl ?_
    refine q_aload_n 13 hX 0 dX12_sumFrom_12 rfl rfl rfl ?_
    refine q_iload 15 hX 3 dX12_sumFrom_13 rfl rfl ?_
    obtain ⟨r2, S1, hk1, hres⟩ := ob hres
    refine q_callVi 18 (st := [.int x3]) (As := [.int x4]) hX (cX12_octet9 hX.dj hk1) cv_RX12_400 ci12 oB_55 rfl (by decide) rfl (Nat.le_of_ble_eq_true rfl) dX12_sumFrom_15 rfl ?_
    refine q_iadd 19 hX dX12_sumFrom_18 rfl ?_
    refine q_istoreB_n 20 (lv0 := [(0, .ref (ad X 55)), (2, .int x2), (4, .int x4)]) hX dX12_sumFrom_19 rfl rfl (by decide) rfl hres (fun v3 hres => ?_)
    refine q_iincB 23 3 (lv0 := [(3, .int v3), (0, .ref (ad X 55)), (2, .int x2)]) hX dX12_sumFrom_20 rfl rfl kI_1 (by decide) rfl hres (fun v4 hres => ?_)
    refine q_goto 5 hX dX12_sumFrom_23 (by decide) ?_
    exact q_sub [2, 3, 1, 0] rfl (hrc5 _ _ _ _ hres)
def fX12_sumFrom_5 : Nat → St → Int32 → Int32 → Int32 → Option (Int32 × St)
  | 0 => fun _ _ _ _ => none
  | k + 1 => fun S x2 x3 x4 => bX12_sumFrom_5 (fX12_sumFrom_5 k) S x2 x3 x4
theorem wfX12_sumFrom_5 {X : CX} (hX : Ok RX12 cX12_sumFrom (some .int) 55 40 5 X) {rr : Int32 × St} (hq : rs X = (some (.int rr.1), rr.2)) (k : Nat) : ∀ (S : St) (x2 : Int32) (x3 : Int32) (x4 : Int32), fX12_sumFrom_5 k S x2 x3 x4 = some rr → Wat 55 40 1 5 X 5 [(0, .ref (ad X 55)), (2, .int x2), (3, .int x3), (4, .int x4)] [] S := by
  induction k with
  | zero => intro S x2 x3 x4 hres; exact absurd hres (by simp [fX12_sumFrom_5])
  | succ k ih => intro S x2 x3 x4 hres; exact wbX12_sumFrom_5 hX hq ih hres
def fX12_sumFrom (S : St) (x1 : Int32) (x2 : Int32) : Option (Int32 × St) :=
  fX12_sumFrom_5 100 S x2 (0 : Int32) x1
theorem wfX12_sumFrom {X : CX} (hX : Ok RX12 cX12_sumFrom (some .int) 55 40 5 X) {rr : Int32 × St} (hq : rs X = (some (.int rr.1), rr.2)) {S : St} {x1 : Int32} {x2 : Int32} (hres : fX12_sumFrom S x1 x2 = some rr) : Wat 55 40 1 5 X 0 [(0, .ref (ad X 55)), (1, .int x1), (2, .int x2)] [] S := by
  unfold fX12_sumFrom at hres
  refine q_iconst 1 hX dX12_sumFrom_0 rfl kI_0 ?_
  refine q_istore_n 2 (lv' := [(3, .int (0 : Int32)), (0, .ref (ad X 55)), (1, .int x1), (2, .int x2)]) hX dX12_sumFrom_1 rfl rfl (by decide) rfl ?_
  refine q_iload_n 3 hX 2 dX12_sumFrom_2 rfl rfl rfl ?_
  refine q_istore 5 (lv' := [(4, .int x1), (3, .int (0 : Int32)), (0, .ref (ad X 55)), (1, .int x1), (2, .int x2)]) hX dX12_sumFrom_3 rfl (by decide) rfl ?_
  exact q_sub [2, 4, 1, 0] rfl (wfX12_sumFrom_5 hX hq _ _ _ _ _ hres)
theorem cX12_sumFrom9 {l : Launch} {w : WD} (hj : Dj w 55 40) {rr : Int32 × St} {S : St} {x1 : Int32} {x2 : Int32} (hres : fX12_sumFrom S x1 x2 = some rr) : Ct l yX12_sumFrom cX12_sumFrom 5 (some .int) 1 w 55 40 [.ref (w.1 55), .int x1, .int x2] S (some (.int rr.1), rr.2) := by
  refine Ct.of (lv := [(0, .ref (w.1 55)), (1, .int x1), (2, .int x2)]) hj (by decide +kernel) (Nat.le_of_ble_eq_true rfl) rfl ?_
  rintro X rfl rfl hq hX
  exact wfX12_sumFrom hX hq hres
def bX12_halves_53 (rc29 : St → Int32 → Int32 → Option (Int32 × St)) (rc53 : St → Int32 → Int32 → Int32 → Option (Int32 × St)) (S : St) (x1 : Int32) (x2 : Int32) (x3 : Int32) : Option (Int32 × St) :=
  if x1 ≤ x3 then (bV (x2 + (-1 : Int32)) fun v1 => rc29 S x1 v1) else (bi (fX12_octet S x2) fun r3 S1 => bi (fX12_sumFrom S1 (x2 + (1 : Int32)) x3) fun r5 S2 => if inb (((12 : Int32) * (x2 + (1 : Int32))) + x3) 144 = true then bV (((r3 + r5) - (S2.1 91 ((((12 : Int32) * (x2 + (1 : Int32))) + x3).toNatClampNeg)))) fun v7 => bi (fX12_octet S2 x3) fun r9 S3 => bi (fX12_sumFrom S3 x2 (x3 - (1 : Int32))) fun r11 S4 => if inb ((((12 : Int32) * x2) + x3) - (1 : Int32)) 144 = true then bV (((r9 + r11) - (S4.1 91 (((((12 : Int32) * x2) + x3) - (1 : Int32)).toNatClampNeg)))) fun v13 => bi (fX12_max S4 v7 v13) fun r15 S5 => if inb (((12 : Int32) * x2) + x3) 144 = true then bS (pI S5 91 ((((12 : Int32) * x2) + x3).toNatClampNeg) r15) fun S6 => bV (x3 + (1 : Int32)) fun v17 => rc53 S6 x1 x2 v17 else none else none else none)
theorem wbX12_halves_53 {X : CX} (hX : Ok RX12 cX12_halves (some .int) 55 40 6 X) {rr : Int32 × St} (hq : rs X = (some (.int rr.1), rr.2)) {rc29 : St → Int32 → Int32 → Option (Int32 × St)} (hrc29 : ∀ (S : St) (x1 : Int32) (x2 : Int32), rc29 S x1 x2 = some rr → Wat 55 40 2 6 X 29 [(0, .ref (ad X 55)), (1, .int x1), (2, .int x2)] [] S) {rc53 : St → Int32 → Int32 → Int32 → Option (Int32 × St)} (hrc53 : ∀ (S : St) (x1 : Int32) (x2 : Int32) (x3 : Int32), rc53 S x1 x2 x3 = some rr → Wat 55 40 2 6 X 53 [(0, .ref (ad X 55)), (1, .int x1), (2, .int x2), (3, .int x3)] [] S) {S : St} {x1 : Int32} {x2 : Int32} {x3 : Int32} (hres : bX12_halves_53 rc29 rc53 S x1 x2 x3 = some rr) : Wat 55 40 2 6 X 53 [(0, .ref (ad X 55)), (1, .int x1), (2, .int x2), (3, .int x3)] [] S := by
  unfold bX12_halves_53 at hres
  refine q_iload_n 54 hX 3 dX12_halves_53 rfl rfl rfl ?_
  refine q_iload_n 55 hX 1 dX12_halves_54 rfl rfl rfl ?_
  refine q_icmp_ge 58 hX 142 dX12_halves_55 rfl (by decide) (fun hc => ?_) (fun hc => ?_)
  · have hres := it_t hc hres
    refine q_iincB 145 2 (lv0 := [(0, .ref (ad X 55)), (1, .int x1), (3, .int x3)]) hX dX12_halves_142 rfl rfl kI_m1 (by decide) rfl hres (fun v1 hres => ?_)
    refine q_goto 29 hX dX12_halves_145 (by decide) ?_
    exact q_sub [1, 2, 0] rfl (hrc29 _ _ _ hres)
  · have hres := it_f hc hres
    refine q_aload_n 59 hX 0 dX12_halves_58 rfl rfl rfl ?_
    refine q_iload_n 60 hX 2 dX12_halves_59 rfl rfl rfl ?_
    obtain ⟨r3, S1, hk2, hres⟩ := ob hres
    refine q_callVi 63 (st := []) (As := [.int x2]) hX (cX12_octet9 hX.dj hk2) cv_RX12_400 ci12 oB_55 rfl (by decide) rfl (Nat.le_of_ble_eq_true rfl) dX12_halves_60 rfl ?_
    refine q_aload_n 64 hX 0 dX12_halves_63 rfl rfl rfl ?_
    refine q_iload_n 65 hX 2 dX12_halves_64 rfl rfl rfl ?_
    refine q_iconst 66 hX dX12_halves_65 rfl kI_1 ?_
    refine q_iadd 67 hX dX12_halves_66 rfl ?_
    refine q_iload_n 68 hX 3 dX12_halves_67 rfl rfl rfl ?_
    obtain ⟨r5, S2, hk4, hres⟩ := ob hres
    refine q_callVi 71 (st := [.int r3]) (As := [.int (x2 + (1 : Int32)), .int x3]) hX (cX12_sumFrom9 hX.dj hk4) cv_RX12_425 ci12 oB_55 rfl (by decide) rfl (Nat.le_of_ble_eq_true rfl) dX12_halves_68 rfl ?_
    refine q_iadd 72 hX dX12_halves_71 rfl ?_
    refine q_aload_n 73 hX 0 dX12_halves_72 rfl rfl rfl ?_
    refine q_getR 76 hX ci12 lf_RX12_117 fR_55_55 dX12_halves_73 rfl ?_
    refine q_bipush 78 hX dX12_halves_76 rfl kB_12 ?_
    refine q_iload_n 79 hX 2 dX12_halves_78 rfl rfl rfl ?_
    refine q_iconst 80 hX dX12_halves_79 rfl kI_1 ?_
    refine q_iadd 81 hX dX12_halves_80 rfl ?_
    refine q_imul 82 hX dX12_halves_81 rfl ?_
    refine q_iload_n 83 hX 3 dX12_halves_82 rfl rfl rfl ?_
    refine q_iadd 84 hX dX12_halves_83 rfl ?_
    obtain ⟨hb6, hres⟩ := gd hres
    refine q_iald 85 hX rfl aF_91 hb6 dX12_halves_84 rfl ?_
    refine q_isub 86 hX dX12_halves_85 rfl ?_
    refine q_istoreB 88 (lv0 := [(0, .ref (ad X 55)), (1, .int x1), (2, .int x2), (3, .int x3)]) hX dX12_halves_86 rfl (by decide) rfl hres (fun v7 hres => ?_)
    refine q_aload_n 89 hX 1 dX12_halves_88 rfl rfl rfl ?_
    refine q_iload_n 90 hX 4 dX12_halves_89 rfl rfl rfl ?_
    obtain ⟨r9, S3, hk8, hres⟩ := ob hres
    refine q_callVi 93 (st := []) (As := [.int x3]) hX (cX12_octet9 hX.dj hk8) cv_RX12_400 ci12 oB_55 rfl (by decide) rfl (Nat.le_of_ble_eq_true rfl) dX12_halves_90 rfl ?_
    refine q_aload_n 94 hX 1 dX12_halves_93 rfl rfl rfl ?_
    refine q_iload_n 95 hX 3 dX12_halves_94 rfl rfl rfl ?_
    refine q_iload_n 96 hX 4 dX12_halves_95 rfl rfl rfl ?_
    refine q_iconst 97 hX dX12_halves_96 rfl kI_1 ?_
    refine q_isub 98 hX dX12_halves_97 rfl ?_
    obtain ⟨r11, S4, hk10, hres⟩ := ob hres
    refine q_callVi 101 (st := [.int r9]) (As := [.int x2, .int (x3 - (1 : Int32))]) hX (cX12_sumFrom9 hX.dj hk10) cv_RX12_425 ci12 oB_55 rfl (by decide) rfl (Nat.le_of_ble_eq_true rfl) dX12_halves_98 rfl ?_
    refine q_iadd 102 hX dX12_halves_101 rfl ?_
    refine q_aload_n 103 hX 1 dX12_halves_102 rfl rfl rfl ?_
    refine q_getR 106 hX ci12 lf_RX12_117 fR_55_55 dX12_halves_103 rfl ?_
    refine q_bipush 108 hX dX12_halves_106 rfl kB_12 ?_
    refine q_iload_n 109 hX 3 dX12_halves_108 rfl rfl rfl ?_
    refine q_imul 110 hX dX12_halves_109 rfl ?_
    refine q_iload_n 111 hX 4 dX12_halves_110 rfl rfl rfl ?_
    refine q_iadd 112 hX dX12_halves_111 rfl ?_
    refine q_iconst 113 hX dX12_halves_112 rfl kI_1 ?_
    refine q_isub 114 hX dX12_halves_113 rfl ?_
    obtain ⟨hb12, hres⟩ := gd hres
    refine q_iald 115 hX rfl aF_91 hb12 dX12_halves_114 rfl ?_
    refine q_isub 116 hX dX12_halves_115 rfl ?_
    refine q_istoreB 118 (lv0 := [(4, .int v7), (0, .ref (ad X 55)), (1, .int x1), (2, .int x2), (3, .int x3)]) hX dX12_halves_116 rfl (by decide) rfl hres (fun v13 hres => ?_)
    refine q_aload_n 119 hX 2 dX12_halves_118 rfl rfl rfl ?_
    refine q_getR 122 hX ci12 lf_RX12_117 fR_55_55 dX12_halves_119 rfl ?_
    refine q_bipush 124 hX dX12_halves_122 rfl kB_12 ?_
    refine q_iload_n 125 hX 4 dX12_halves_124 rfl rfl rfl ?_
    refine q_imul 126 hX dX12_halves_125 rfl ?_
    refine q_iload_n 127 hX 5 dX12_halves_126 rfl rfl rfl ?_
    refine q_iadd 128 hX dX12_halves_127 rfl ?_
    refine q_iload 130 hX 1 dX12_halves_128 rfl rfl ?_
    refine q_iload 132 hX 0 dX12_halves_130 rfl rfl ?_
    obtain ⟨r15, S5, hk14, hres⟩ := ob hres
    refine q_callSi 135 (st := [.int (((12 : Int32) * x2) + x3), .ref (ad X 91)]) (As := [.int v7, .int v13]) hX (cX12_max9 hX.dj hk14) cs_RX12_362 rfl (by decide) rfl (Nat.le_of_ble_eq_true rfl) dX12_halves_132 rfl ?_
    obtain ⟨hb16, hres⟩ := gd hres
    refine q_iast 136 hX rfl aF_91 hb16 dX12_halves_135 rfl ?_
    refine q_bS hres (fun S6 _ hres => ?_)
    refine q_iincB 139 5 (lv0 := [(5, .int v13), (4, .int v7), (0, .ref (ad X 55)), (1, .int x1), (2, .int x2)]) hX dX12_halves_136 rfl rfl kI_1 (by decide) rfl hres (fun v17 hres => ?_)
    refine q_goto 53 hX dX12_halves_139 (by decide) ?_
    exact q_sub [3, 4, 5, 0] rfl (hrc53 _ _ _ _ hres)
def fX12_halves_53 (rc29 : St → Int32 → Int32 → Option (Int32 × St)) : Nat → St → Int32 → Int32 → Int32 → Option (Int32 × St)
  | 0 => fun _ _ _ _ => none
  | k + 1 => fun S x1 x2 x3 => bX12_halves_53 rc29 (fX12_halves_53 rc29 k) S x1 x2 x3
theorem wfX12_halves_53 {X : CX} (hX : Ok RX12 cX12_halves (some .int) 55 40 6 X) {rr : Int32 × St} (hq : rs X = (some (.int rr.1), rr.2)) {rc29 : St → Int32 → Int32 → Option (Int32 × St)} (hrc29 : ∀ (S : St) (x1 : Int32) (x2 : Int32), rc29 S x1 x2 = some rr → Wat 55 40 2 6 X 29 [(0, .ref (ad X 55)), (1, .int x1), (2, .int x2)] [] S) (k : Nat) : ∀ (S : St) (x1 : Int32) (x2 : Int32) (x3 : Int32), fX12_halves_53 rc29 k S x1 x2 x3 = some rr → Wat 55 40 2 6 X 53 [(0, .ref (ad X 55)), (1, .int x1), (2, .int x2), (3, .int x3)] [] S := by
  induction k with
  | zero => intro S x1 x2 x3 hres; exact absurd hres (by simp [fX12_halves_53])
  | succ k ih => intro S x1 x2 x3 hres; exact wbX12_halves_53 hX hq hrc29 ih hres
def bX12_halves_29 (rc29 : St → Int32 → Int32 → Option (Int32 × St)) (S : St) (x1 : Int32) (x2 : Int32) : Option (Int32 × St) :=
  if x2 < 0 then (if inb (x1 - (1 : Int32)) 144 = true then some ((S.1 91 ((x1 - (1 : Int32)).toNatClampNeg)), S) else none) else (bi (fX12_octet S x2) fun r3 S1 => if inb (((12 : Int32) * x2) + x2) 144 = true then bS (pI S1 91 ((((12 : Int32) * x2) + x2).toNatClampNeg) r3) fun S2 => bV ((x2 + (1 : Int32))) fun v5 => fX12_halves_53 rc29 100 S2 x1 x2 v5 else none)
theorem wbX12_halves_29 {X : CX} (hX : Ok RX12 cX12_halves (some .int) 55 40 6 X) {rr : Int32 × St} (hq : rs X = (some (.int rr.1), rr.2)) {rc29 : St → Int32 → Int32 → Option (Int32 × St)} (hrc29 : ∀ (S : St) (x1 : Int32) (x2 : Int32), rc29 S x1 x2 = some rr → Wat 55 40 2 6 X 29 [(0, .ref (ad X 55)), (1, .int x1), (2, .int x2)] [] S) {S : St} {x1 : Int32} {x2 : Int32} (hres : bX12_halves_29 rc29 S x1 x2 = some rr) : Wat 55 40 2 6 X 29 [(0, .ref (ad X 55)), (1, .int x1), (2, .int x2)] [] S := by
  unfold bX12_halves_29 at hres
  refine q_iload_n 30 hX 2 dX12_halves_29 rfl rfl rfl ?_
  refine q_if_lt 33 hX 148 dX12_halves_30 rfl (by decide) (fun hc => ?_) (fun hc => ?_)
  · have hres := it_t hc hres
    refine q_aload_n 149 hX 0 dX12_halves_148 rfl rfl rfl ?_
    refine q_getR 152 hX ci12 lf_RX12_117 fR_55_55 dX12_halves_149 rfl ?_
    refine q_iload_n 153 hX 1 dX12_halves_152 rfl rfl rfl ?_
    refine q_iconst 154 hX dX12_halves_153 rfl kI_1 ?_
    refine q_isub 155 hX dX12_halves_154 rfl ?_
    obtain ⟨hb1, hres⟩ := gd hres
    refine q_iald 156 hX rfl aF_91 hb1 dX12_halves_155 rfl ?_
    exact q_iret hX (eqi hq hres) dX12_halves_156
  · have hres := it_f hc hres
    refine q_aload_n 34 hX 0 dX12_halves_33 rfl rfl rfl ?_
    refine q_getR 37 hX ci12 lf_RX12_117 fR_55_55 dX12_halves_34 rfl ?_
    refine q_bipush 39 hX dX12_halves_37 rfl kB_12 ?_
    refine q_iload_n 40 hX 2 dX12_halves_39 rfl rfl rfl ?_
    refine q_imul 41 hX dX12_halves_40 rfl ?_
    refine q_iload_n 42 hX 2 dX12_halves_41 rfl rfl rfl ?_
    refine q_iadd 43 hX dX12_halves_42 rfl ?_
    refine q_aload_n 44 hX 0 dX12_halves_43 rfl rfl rfl ?_
    refine q_iload_n 45 hX 2 dX12_halves_44 rfl rfl rfl ?_
    obtain ⟨r3, S1, hk2, hres⟩ := ob hres
    refine q_callVi 48 (st := [.int (((12 : Int32) * x2) + x2), .ref (ad X 91)]) (As := [.int x2]) hX (cX12_octet9 hX.dj hk2) cv_RX12_400 ci12 oB_55 rfl (by decide) rfl (Nat.le_of_ble_eq_true rfl) dX12_halves_45 rfl ?_
    obtain ⟨hb4, hres⟩ := gd hres
    refine q_iast 49 hX rfl aF_91 hb4 dX12_halves_48 rfl ?_
    refine q_bS hres (fun S2 _ hres => ?_)
    refine q_iload_n 50 hX 2 dX12_halves_49 rfl rfl rfl ?_
    refine q_iconst 51 hX dX12_halves_50 rfl kI_1 ?_
    refine q_iadd 52 hX dX12_halves_51 rfl ?_
    refine q_istoreB_n 53 (lv0 := [(0, .ref (ad X 55)), (1, .int x1), (2, .int x2)]) hX dX12_halves_52 rfl rfl (by decide) rfl hres (fun v5 hres => ?_)
    exact q_sub [1, 2, 3, 0] rfl (wfX12_halves_53 hX hq hrc29 _ _ _ _ _ hres)
def fX12_halves_29 : Nat → St → Int32 → Int32 → Option (Int32 × St)
  | 0 => fun _ _ _ => none
  | k + 1 => fun S x1 x2 => bX12_halves_29 (fX12_halves_29 k) S x1 x2
theorem wfX12_halves_29 {X : CX} (hX : Ok RX12 cX12_halves (some .int) 55 40 6 X) {rr : Int32 × St} (hq : rs X = (some (.int rr.1), rr.2)) (k : Nat) : ∀ (S : St) (x1 : Int32) (x2 : Int32), fX12_halves_29 k S x1 x2 = some rr → Wat 55 40 2 6 X 29 [(0, .ref (ad X 55)), (1, .int x1), (2, .int x2)] [] S := by
  induction k with
  | zero => intro S x1 x2 hres; exact absurd hres (by simp [fX12_halves_29])
  | succ k ih => intro S x1 x2 hres; exact wbX12_halves_29 hX hq ih hres
def fX12_halves (S : St) (x1 : Int32) : Option (Int32 × St) :=
  bi (fX12_in S x1 (2 : Int32) (12 : Int32)) fun r2 S1 => if r2 = 0 then (some ((-1 : Int32), S1)) else (if x1 ≤ (S1.1 55 11) then (bS (pI S1 55 11 (0 : Int32)) fun S2 => bV ((x1 - (1 : Int32))) fun v3 => fX12_halves_29 100 S2 x1 v3) else (some ((-1 : Int32), S1)))
theorem wfX12_halves {X : CX} (hX : Ok RX12 cX12_halves (some .int) 55 40 6 X) {rr : Int32 × St} (hq : rs X = (some (.int rr.1), rr.2)) {S : St} {x1 : Int32} (hres : fX12_halves S x1 = some rr) : Wat 55 40 2 6 X 0 [(0, .ref (ad X 55)), (1, .int x1)] [] S := by
  unfold fX12_halves at hres
  refine q_iload_n 1 hX 1 dX12_halves_0 rfl rfl rfl ?_
  refine q_iconst 2 hX dX12_halves_1 rfl kI_2 ?_
  refine q_bipush 4 hX dX12_halves_2 rfl kB_12 ?_
  obtain ⟨r2, S1, hk1, hres⟩ := ob hres
  refine q_callSi 7 (st := []) (As := [.int x1, .int (2 : Int32), .int (12 : Int32)]) hX (cX12_in9 hX.dj hk1) cs_RX12_134 rfl (by decide) rfl (Nat.le_of_ble_eq_true rfl) dX12_halves_4 rfl ?_
  refine q_if_eq 10 hX 18 dX12_halves_7 rfl (by decide) (fun hc => ?_) (fun hc => ?_)
  · have hres := it_t hc hres
    refine q_iconst 19 hX dX12_halves_18 rfl kI_m1 ?_
    exact q_iret hX (eqi hq hres) dX12_halves_19
  · have hres := it_f hc hres
    refine q_iload_n 11 hX 1 dX12_halves_10 rfl rfl rfl ?_
    refine q_aload_n 12 hX 0 dX12_halves_11 rfl rfl rfl ?_
    refine q_getI 15 hX ci12 lf_RX12_162 fI_55_11 dX12_halves_12 rfl ?_
    refine q_icmp_le 18 hX 20 dX12_halves_15 rfl (by decide) (fun hc => ?_) (fun hc => ?_)
    · have hres := it_t hc hres
      refine q_aload_n 21 hX 0 dX12_halves_20 rfl rfl rfl ?_
      refine q_iconst 22 hX dX12_halves_21 rfl kI_0 ?_
      refine q_putI 25 hX ci12 lf_RX12_162 fI_55_11 (nar_i rfl) dX12_halves_22 rfl ?_
      refine q_bS hres (fun S2 _ hres => ?_)
      refine q_iload_n 26 hX 1 dX12_halves_25 rfl rfl rfl ?_
      refine q_iconst 27 hX dX12_halves_26 rfl kI_1 ?_
      refine q_isub 28 hX dX12_halves_27 rfl ?_
      refine q_istoreB_n 29 (lv0 := [(0, .ref (ad X 55)), (1, .int x1)]) hX dX12_halves_28 rfl rfl (by decide) rfl hres (fun v3 hres => ?_)
      exact q_sub [1, 2, 0] rfl (wfX12_halves_29 hX hq _ _ _ _ hres)
    · have hres := it_f hc hres
      refine q_iconst 19 hX dX12_halves_18 rfl kI_m1 ?_
      exact q_iret hX (eqi hq hres) dX12_halves_19
theorem cX12_halves9 {l : Launch} {w : WD} (hj : Dj w 55 40) {rr : Int32 × St} {S : St} {x1 : Int32} (hres : fX12_halves S x1 = some rr) : Ct l yX12_halves cX12_halves 6 (some .int) 2 w 55 40 [.ref (w.1 55), .int x1] S (some (.int rr.1), rr.2) := by
  refine Ct.of (lv := [(0, .ref (w.1 55)), (1, .int x1)]) hj (by decide +kernel) (Nat.le_of_ble_eq_true rfl) rfl ?_
  rintro X rfl rfl hq hX
  exact wfX12_halves hX hq hres
def fX12_worth (S : St) (x1 : Int32) (x2 : Int32) (x3 : Int32) : Option (Int32 × St) :=
  bi (fX12_octet S ((x1 * x2) + x3)) fun r2 S1 => some (r2, S1)
theorem wfX12_worth {X : CX} (hX : Ok RX12 cX12_worth (some .int) 55 40 4 X) {rr : Int32 × St} (hq : rs X = (some (.int rr.1), rr.2)) {S : St} {x1 : Int32} {x2 : Int32} {x3 : Int32} (hres : fX12_worth S x1 x2 x3 = some rr) : Wat 55 40 1 4 X 0 [(0, .ref (ad X 55)), (1, .int x1), (2, .int x2), (3, .int x3)] [] S := by
  unfold fX12_worth at hres
  refine q_aload_n 1 hX 0 dX12_worth_0 rfl rfl rfl ?_
  refine q_iload_n 2 hX 1 dX12_worth_1 rfl rfl rfl ?_
  refine q_iload_n 3 hX 2 dX12_worth_2 rfl rfl rfl ?_
  refine q_imul 4 hX dX12_worth_3 rfl ?_
  refine q_iload_n 5 hX 3 dX12_worth_4 rfl rfl rfl ?_
  refine q_iadd 6 hX dX12_worth_5 rfl ?_
  obtain ⟨r2, S1, hk1, hres⟩ := ob hres
  refine q_callVi 9 (st := []) (As := [.int ((x1 * x2) + x3)]) hX (cX12_octet9 hX.dj hk1) cv_RX12_400 ci12 oB_55 rfl (by decide) rfl (Nat.le_of_ble_eq_true rfl) dX12_worth_6 rfl ?_
  exact q_iret hX (eqi hq hres) dX12_worth_9
theorem cX12_worth9 {l : Launch} {w : WD} (hj : Dj w 55 40) {rr : Int32 × St} {S : St} {x1 : Int32} {x2 : Int32} {x3 : Int32} (hres : fX12_worth S x1 x2 x3 = some rr) : Ct l yX12_worth cX12_worth 4 (some .int) 1 w 55 40 [.ref (w.1 55), .int x1, .int x2, .int x3] S (some (.int rr.1), rr.2) := by
  refine Ct.of (lv := [(0, .ref (w.1 55)), (1, .int x1), (2, .int x2), (3, .int x3)]) hj (by decide +kernel) (Nat.le_of_ble_eq_true rfl) rfl ?_
  rintro X rfl rfl hq hX
  exact wfX12_worth hX hq hres
def fX12_bothWould_38 (S : St) : Option (Int32 × St) :=
  some ((0 : Int32), S)
theorem wfX12_bothWould_38 {X : CX} (hX : Ok RX12 cX12_bothWould (some .boolean) 55 40 4 X) {rr : Int32 × St} (hq : rs X = (some (.int rr.1), rr.2)) {S : St} (hres : fX12_bothWould_38 S = some rr) : Wat 55 40 2 4 X 38 [] [] S := by
  unfold fX12_bothWould_38 at hres
  refine q_iconst 39 hX dX12_bothWould_38 rfl kI_0 ?_
  exact q_zret hX (by decide) (eqi hq hres) dX12_bothWould_39
def fX12_bothWould (S : St) (x1 : Int32) (x2 : Int32) (x3 : Int32) : Option (Int32 × St) :=
  bi (fX12_worth S x1 x2 x3) fun r2 S1 => bi (fX12_worth S1 x1 x2 x2) fun r4 S2 => if r2 ≤ r4 then (fX12_bothWould_38 S2) else (bi (fX12_worth S2 x1 x3 x2) fun r6 S3 => bi (fX12_worth S3 x1 x3 x3) fun r8 S4 => if r6 ≤ r8 then (fX12_bothWould_38 S4) else (some ((1 : Int32), S4)))
theorem wfX12_bothWould {X : CX} (hX : Ok RX12 cX12_bothWould (some .boolean) 55 40 4 X) {rr : Int32 × St} (hq : rs X = (some (.int rr.1), rr.2)) {S : St} {x1 : Int32} {x2 : Int32} {x3 : Int32} (hres : fX12_bothWould S x1 x2 x3 = some rr) : Wat 55 40 2 4 X 0 [(0, .ref (ad X 55)), (1, .int x1), (2, .int x2), (3, .int x3)] [] S := by
  unfold fX12_bothWould at hres
  refine q_aload_n 1 hX 0 dX12_bothWould_0 rfl rfl rfl ?_
  refine q_iload_n 2 hX 1 dX12_bothWould_1 rfl rfl rfl ?_
  refine q_iload_n 3 hX 2 dX12_bothWould_2 rfl rfl rfl ?_
  refine q_iload_n 4 hX 3 dX12_bothWould_3 rfl rfl rfl ?_
  obtain ⟨r2, S1, hk1, hres⟩ := ob hres
  refine q_callVi 7 (st := []) (As := [.int x1, .int x2, .int x3]) hX (cX12_worth9 hX.dj hk1) cv_RX12_428 ci12 oB_55 rfl (by decide) rfl (Nat.le_of_ble_eq_true rfl) dX12_bothWould_4 rfl ?_
  refine q_aload_n 8 hX 0 dX12_bothWould_7 rfl rfl rfl ?_
  refine q_iload_n 9 hX 1 dX12_bothWould_8 rfl rfl rfl ?_
  refine q_iload_n 10 hX 2 dX12_bothWould_9 rfl rfl rfl ?_
  refine q_iload_n 11 hX 2 dX12_bothWould_10 rfl rfl rfl ?_
  obtain ⟨r4, S2, hk3, hres⟩ := ob hres
  refine q_callVi 14 (st := [.int r2]) (As := [.int x1, .int x2, .int x2]) hX (cX12_worth9 hX.dj hk3) cv_RX12_428 ci12 oB_55 rfl (by decide) rfl (Nat.le_of_ble_eq_true rfl) dX12_bothWould_11 rfl ?_
  refine q_icmp_le 17 hX 38 dX12_bothWould_14 rfl (by decide) (fun hc => ?_) (fun hc => ?_)
  · have hres := it_t hc hres
    exact q_sub [] rfl (wfX12_bothWould_38 hX hq hres)
  · have hres := it_f hc hres
    refine q_aload_n 18 hX 0 dX12_bothWould_17 rfl rfl rfl ?_
    refine q_iload_n 19 hX 1 dX12_bothWould_18 rfl rfl rfl ?_
    refine q_iload_n 20 hX 3 dX12_bothWould_19 rfl rfl rfl ?_
    refine q_iload_n 21 hX 2 dX12_bothWould_20 rfl rfl rfl ?_
    obtain ⟨r6, S3, hk5, hres⟩ := ob hres
    refine q_callVi 24 (st := []) (As := [.int x1, .int x3, .int x2]) hX (cX12_worth9 hX.dj hk5) cv_RX12_428 ci12 oB_55 rfl (by decide) rfl (Nat.le_of_ble_eq_true rfl) dX12_bothWould_21 rfl ?_
    refine q_aload_n 25 hX 0 dX12_bothWould_24 rfl rfl rfl ?_
    refine q_iload_n 26 hX 1 dX12_bothWould_25 rfl rfl rfl ?_
    refine q_iload_n 27 hX 3 dX12_bothWould_26 rfl rfl rfl ?_
    refine q_iload_n 28 hX 3 dX12_bothWould_27 rfl rfl rfl ?_
    obtain ⟨r8, S4, hk7, hres⟩ := ob hres
    refine q_callVi 31 (st := [.int r6]) (As := [.int x1, .int x3, .int x3]) hX (cX12_worth9 hX.dj hk7) cv_RX12_428 ci12 oB_55 rfl (by decide) rfl (Nat.le_of_ble_eq_true rfl) dX12_bothWould_28 rfl ?_
    refine q_icmp_le 34 hX 38 dX12_bothWould_31 rfl (by decide) (fun hc => ?_) (fun hc => ?_)
    · have hres := it_t hc hres
      exact q_sub [] rfl (wfX12_bothWould_38 hX hq hres)
    · have hres := it_f hc hres
      refine q_iconst 35 hX dX12_bothWould_34 rfl kI_1 ?_
      refine q_goto 39 hX dX12_bothWould_35 (by decide) ?_
      exact q_zret hX (by decide) (eqi hq hres) dX12_bothWould_39
theorem cX12_bothWould9 {l : Launch} {w : WD} (hj : Dj w 55 40) {rr : Int32 × St} {S : St} {x1 : Int32} {x2 : Int32} {x3 : Int32} (hres : fX12_bothWould S x1 x2 x3 = some rr) : Ct l yX12_bothWould cX12_bothWould 4 (some .boolean) 2 w 55 40 [.ref (w.1 55), .int x1, .int x2, .int x3] S (some (.int rr.1), rr.2) := by
  refine Ct.of (lv := [(0, .ref (w.1 55)), (1, .int x1), (2, .int x2), (3, .int x3)]) hj (by decide +kernel) (Nat.le_of_ble_eq_true rfl) rfl ?_
  rintro X rfl rfl hq hX
  exact wfX12_bothWould hX hq hres
def bX12_mostAtOnce_53 (rc2 : St → Int32 → Int32 → Option (Int32 × St)) (rc53 : St → Int32 → Int32 → Int32 → Int32 → Int32 → Option (Int32 × St)) (S : St) (x1 : Int32) (x2 : Int32) (x3 : Int32) (x4 : Int32) (x5 : Int32) : Option (Int32 × St) :=
  if x1 ≤ x5 then (bV (x2 + (1 : Int32)) fun v1 => rc2 S x1 v1) else (bi (fX12_has S x4 x5) fun r3 S1 => if r3 = 0 then (bV (x5 + (1 : Int32)) fun v4 => rc53 S1 x1 x2 x3 x4 v4) else (bi (fX12_bothWould S1 x1 x3 x5) fun r6 S2 => if r6 = 0 then (bV (x5 + (1 : Int32)) fun v7 => rc53 S2 x1 x2 x3 x4 v7) else (if inb x2 256 = true then if inb (x4 &&& (((1 : Int32) <<< (x5 &&& 31)) ^^^ (-1 : Int32))) 256 = true then bi (fX12_max S2 (S2.1 92 (x2.toNatClampNeg)) ((1 : Int32) + (S2.1 92 ((x4 &&& (((1 : Int32) <<< (x5 &&& 31)) ^^^ (-1 : Int32))).toNatClampNeg)))) fun r11 S3 => if inb x2 256 = true then bS (pI S3 92 (x2.toNatClampNeg) r11) fun S4 => bV (x5 + (1 : Int32)) fun v13 => rc53 S4 x1 x2 x3 x4 v13 else none else none else none)))
theorem wbX12_mostAtOnce_53 {X : CX} (hX : Ok RX12 cX12_mostAtOnce (some .int) 55 40 6 X) {rr : Int32 × St} (hq : rs X = (some (.int rr.1), rr.2)) {rc2 : St → Int32 → Int32 → Option (Int32 × St)} (hrc2 : ∀ (S : St) (x1 : Int32) (x2 : Int32), rc2 S x1 x2 = some rr → Wat 55 40 3 6 X 2 [(0, .ref (ad X 55)), (1, .int x1), (2, .int x2)] [] S) {rc53 : St → Int32 → Int32 → Int32 → Int32 → Int32 → Option (Int32 × St)} (hrc53 : ∀ (S : St) (x1 : Int32) (x2 : Int32) (x3 : Int32) (x4 : Int32) (x5 : Int32), rc53 S x1 x2 x3 x4 x5 = some rr → Wat 55 40 3 6 X 53 [(0, .ref (ad X 55)), (1, .int x1), (2, .int x2), (3, .int x3), (4, .int x4), (5, .int x5)] [] S) {S : St} {x1 : Int32} {x2 : Int32} {x3 : Int32} {x4 : Int32} {x5 : Int32} (hres : bX12_mostAtOnce_53 rc2 rc53 S x1 x2 x3 x4 x5 = some rr) : Wat 55 40 3 6 X 53 [(0, .ref (ad X 55)), (1, .int x1), (2, .int x2), (3, .int x3), (4, .int x4), (5, .int x5)] [] S := by
  unfold bX12_mostAtOnce_53 at hres
  refine q_iload 55 hX 5 dX12_mostAtOnce_53 rfl rfl ?_
  refine q_iload_n 56 hX 1 dX12_mostAtOnce_55 rfl rfl rfl ?_
  refine q_icmp_ge 59 hX 117 dX12_mostAtOnce_56 rfl (by decide) (fun hc => ?_) (fun hc => ?_)
  · have hres := it_t hc hres
    refine q_iincB 120 2 (lv0 := [(0, .ref (ad X 55)), (1, .int x1), (3, .int x3), (4, .int x4), (5, .int x5)]) hX dX12_mostAtOnce_117 rfl rfl kI_1 (by decide) rfl hres (fun v1 hres => ?_)
    refine q_goto 2 hX dX12_mostAtOnce_120 (by decide) ?_
    exact q_sub [1, 2, 0] rfl (hrc2 _ _ _ hres)
  · have hres := it_f hc hres
    refine q_iload 61 hX 4 dX12_mostAtOnce_59 rfl rfl ?_
    refine q_iload 63 hX 5 dX12_mostAtOnce_61 rfl rfl ?_
    obtain ⟨r3, S1, hk2, hres⟩ := ob hres
    refine q_callSi 66 (st := []) (As := [.int x4, .int x5]) hX (cX12_has9 hX.dj hk2) cs_RX12_130 rfl (by decide) rfl (Nat.le_of_ble_eq_true rfl) dX12_mostAtOnce_63 rfl ?_
    refine q_if_eq 69 hX 111 dX12_mostAtOnce_66 rfl (by decide) (fun hc => ?_) (fun hc => ?_)
    · have hres := it_t hc hres
      refine q_iincB 114 5 (lv0 := [(0, .ref (ad X 55)), (1, .int x1), (2, .int x2), (3, .int x3), (4, .int x4)]) hX dX12_mostAtOnce_111 rfl rfl kI_1 (by decide) rfl hres (fun v4 hres => ?_)
      refine q_goto 53 hX dX12_mostAtOnce_114 (by decide) ?_
      exact q_sub [1, 2, 3, 4, 5, 0] rfl (hrc53 _ _ _ _ _ _ hres)
    · have hres := it_f hc hres
      refine q_aload_n 70 hX 0 dX12_mostAtOnce_69 rfl rfl rfl ?_
      refine q_iload_n 71 hX 1 dX12_mostAtOnce_70 rfl rfl rfl ?_
      refine q_iload_n 72 hX 3 dX12_mostAtOnce_71 rfl rfl rfl ?_
      refine q_iload 74 hX 5 dX12_mostAtOnce_72 rfl rfl ?_
      obtain ⟨r6, S2, hk5, hres⟩ := ob hres
      refine q_callVi 77 (st := []) (As := [.int x1, .int x3, .int x5]) hX (cX12_bothWould9 hX.dj hk5) cv_RX12_431 ci12 oB_55 rfl (by decide) rfl (Nat.le_of_ble_eq_true rfl) dX12_mostAtOnce_74 rfl ?_
      refine q_if_eq 80 hX 111 dX12_mostAtOnce_77 rfl (by decide) (fun hc => ?_) (fun hc => ?_)
      · have hres := it_t hc hres
        refine q_iincB 114 5 (lv0 := [(0, .ref (ad X 55)), (1, .int x1), (2, .int x2), (3, .int x3), (4, .int x4)]) hX dX12_mostAtOnce_111 rfl rfl kI_1 (by decide) rfl hres (fun v7 hres => ?_)
        refine q_goto 53 hX dX12_mostAtOnce_114 (by decide) ?_
        exact q_sub [1, 2, 3, 4, 5, 0] rfl (hrc53 _ _ _ _ _ _ hres)
      · have hres := it_f hc hres
        refine q_aload_n 81 hX 0 dX12_mostAtOnce_80 rfl rfl rfl ?_
        refine q_getR 84 hX ci12 lf_RX12_120 fR_55_56 dX12_mostAtOnce_81 rfl ?_
        refine q_iload_n 85 hX 2 dX12_mostAtOnce_84 rfl rfl rfl ?_
        refine q_aload_n 86 hX 0 dX12_mostAtOnce_85 rfl rfl rfl ?_
        refine q_getR 89 hX ci12 lf_RX12_120 fR_55_56 dX12_mostAtOnce_86 rfl ?_
        refine q_iload_n 90 hX 2 dX12_mostAtOnce_89 rfl rfl rfl ?_
        obtain ⟨hb8, hres⟩ := gd hres
        refine q_iald 91 hX rfl aF_92 hb8 dX12_mostAtOnce_90 rfl ?_
        refine q_iconst 92 hX dX12_mostAtOnce_91 rfl kI_1 ?_
        refine q_aload_n 93 hX 0 dX12_mostAtOnce_92 rfl rfl rfl ?_
        refine q_getR 96 hX ci12 lf_RX12_120 fR_55_56 dX12_mostAtOnce_93 rfl ?_
        refine q_iload 98 hX 4 dX12_mostAtOnce_96 rfl rfl ?_
        refine q_iconst 99 hX dX12_mostAtOnce_98 rfl kI_1 ?_
        refine q_iload 101 hX 5 dX12_mostAtOnce_99 rfl rfl ?_
        refine q_ishl 102 hX dX12_mostAtOnce_101 rfl ?_
        refine q_iconst 103 hX dX12_mostAtOnce_102 rfl kI_m1 ?_
        refine q_ixor 104 hX dX12_mostAtOnce_103 rfl ?_
        refine q_iand 105 hX dX12_mostAtOnce_104 rfl ?_
        obtain ⟨hb9, hres⟩ := gd hres
        refine q_iald 106 hX rfl aF_92 hb9 dX12_mostAtOnce_105 rfl ?_
        refine q_iadd 107 hX dX12_mostAtOnce_106 rfl ?_
        obtain ⟨r11, S3, hk10, hres⟩ := ob hres
        refine q_callSi 110 (st := [.int x2, .ref (ad X 92)]) (As := [.int (S2.1 92 (x2.toNatClampNeg)), .int ((1 : Int32) + (S2.1 92 ((x4 &&& (((1 : Int32) <<< (x5 &&& 31)) ^^^ (-1 : Int32))).toNatClampNeg)))]) hX (cX12_max9 hX.dj hk10) cs_RX12_362 rfl (by decide) rfl (Nat.le_of_ble_eq_true rfl) dX12_mostAtOnce_107 rfl ?_
        obtain ⟨hb12, hres⟩ := gd hres
        refine q_iast 111 hX rfl aF_92 hb12 dX12_mostAtOnce_110 rfl ?_
        refine q_bS hres (fun S4 _ hres => ?_)
        refine q_iincB 114 5 (lv0 := [(0, .ref (ad X 55)), (1, .int x1), (2, .int x2), (3, .int x3), (4, .int x4)]) hX dX12_mostAtOnce_111 rfl rfl kI_1 (by decide) rfl hres (fun v13 hres => ?_)
        refine q_goto 53 hX dX12_mostAtOnce_114 (by decide) ?_
        exact q_sub [1, 2, 3, 4, 5, 0] rfl (hrc53 _ _ _ _ _ _ hres)
def fX12_mostAtOnce_53 (rc2 : St → Int32 → Int32 → Option (Int32 × St)) : Nat → St → Int32 → Int32 → Int32 → Int32 → Int32 → Option (Int32 × St)
  | 0 => fun _ _ _ _ _ _ => none
  | k + 1 => fun S x1 x2 x3 x4 x5 => bX12_mostAtOnce_53 rc2 (fX12_mostAtOnce_53 rc2 k) S x1 x2 x3 x4 x5
theorem wfX12_mostAtOnce_53 {X : CX} (hX : Ok RX12 cX12_mostAtOnce (some .int) 55 40 6 X) {rr : Int32 × St} (hq : rs X = (some (.int rr.1), rr.2)) {rc2 : St → Int32 → Int32 → Option (Int32 × St)} (hrc2 : ∀ (S : St) (x1 : Int32) (x2 : Int32), rc2 S x1 x2 = some rr → Wat 55 40 3 6 X 2 [(0, .ref (ad X 55)), (1, .int x1), (2, .int x2)] [] S) (k : Nat) : ∀ (S : St) (x1 : Int32) (x2 : Int32) (x3 : Int32) (x4 : Int32) (x5 : Int32), fX12_mostAtOnce_53 rc2 k S x1 x2 x3 x4 x5 = some rr → Wat 55 40 3 6 X 53 [(0, .ref (ad X 55)), (1, .int x1), (2, .int x2), (3, .int x3), (4, .int x4), (5, .int x5)] [] S := by
  induction k with
  | zero => intro S x1 x2 x3 x4 x5 hres; exact absurd hres (by simp [fX12_mostAtOnce_53])
  | succ k ih => intro S x1 x2 x3 x4 x5 hres; exact wbX12_mostAtOnce_53 hX hq hrc2 ih hres
def bX12_mostAtOnce_2 (rc2 : St → Int32 → Int32 → Option (Int32 × St)) (S : St) (x1 : Int32) (x2 : Int32) : Option (Int32 × St) :=
  if ((1 : Int32) <<< (x1 &&& 31)) ≤ x2 then (if inb (((1 : Int32) <<< (x1 &&& 31)) - (1 : Int32)) 256 = true then some ((S.1 92 ((((1 : Int32) <<< (x1 &&& 31)) - (1 : Int32)).toNatClampNeg)), S) else none) else (if inb x2 256 = true then bS (pI S 92 (x2.toNatClampNeg) (0 : Int32)) fun S1 => if x2 = 0 then (bV (x2 + (1 : Int32)) fun v8 => rc2 S1 x1 v8) else (bi (fX12_lowest S1 x2) fun r4 S2 => bV ((x2 &&& (((1 : Int32) <<< (r4 &&& 31)) ^^^ (-1 : Int32)))) fun v5 => if inb v5 256 = true then if inb x2 256 = true then bS (pI S2 92 (x2.toNatClampNeg) (S2.1 92 (v5.toNatClampNeg))) fun S3 => fX12_mostAtOnce_53 rc2 300 S3 x1 x2 r4 v5 (0 : Int32) else none else none) else none)
theorem wbX12_mostAtOnce_2 {X : CX} (hX : Ok RX12 cX12_mostAtOnce (some .int) 55 40 6 X) {rr : Int32 × St} (hq : rs X = (some (.int rr.1), rr.2)) {rc2 : St → Int32 → Int32 → Option (Int32 × St)} (hrc2 : ∀ (S : St) (x1 : Int32) (x2 : Int32), rc2 S x1 x2 = some rr → Wat 55 40 3 6 X 2 [(0, .ref (ad X 55)), (1, .int x1), (2, .int x2)] [] S) {S : St} {x1 : Int32} {x2 : Int32} (hres : bX12_mostAtOnce_2 rc2 S x1 x2 = some rr) : Wat 55 40 3 6 X 2 [(0, .ref (ad X 55)), (1, .int x1), (2, .int x2)] [] S := by
  unfold bX12_mostAtOnce_2 at hres
  refine q_iload_n 3 hX 2 dX12_mostAtOnce_2 rfl rfl rfl ?_
  refine q_iconst 4 hX dX12_mostAtOnce_3 rfl kI_1 ?_
  refine q_iload_n 5 hX 1 dX12_mostAtOnce_4 rfl rfl rfl ?_
  refine q_ishl 6 hX dX12_mostAtOnce_5 rfl ?_
  refine q_icmp_ge 9 hX 123 dX12_mostAtOnce_6 rfl (by decide) (fun hc => ?_) (fun hc => ?_)
  · have hres := it_t hc hres
    refine q_aload_n 124 hX 0 dX12_mostAtOnce_123 rfl rfl rfl ?_
    refine q_getR 127 hX ci12 lf_RX12_120 fR_55_56 dX12_mostAtOnce_124 rfl ?_
    refine q_iconst 128 hX dX12_mostAtOnce_127 rfl kI_1 ?_
    refine q_iload_n 129 hX 1 dX12_mostAtOnce_128 rfl rfl rfl ?_
    refine q_ishl 130 hX dX12_mostAtOnce_129 rfl ?_
    refine q_iconst 131 hX dX12_mostAtOnce_130 rfl kI_1 ?_
    refine q_isub 132 hX dX12_mostAtOnce_131 rfl ?_
    obtain ⟨hb1, hres⟩ := gd hres
    refine q_iald 133 hX rfl aF_92 hb1 dX12_mostAtOnce_132 rfl ?_
    exact q_iret hX (eqi hq hres) dX12_mostAtOnce_133
  · have hres := it_f hc hres
    refine q_aload_n 10 hX 0 dX12_mostAtOnce_9 rfl rfl rfl ?_
    refine q_getR 13 hX ci12 lf_RX12_120 fR_55_56 dX12_mostAtOnce_10 rfl ?_
    refine q_iload_n 14 hX 2 dX12_mostAtOnce_13 rfl rfl rfl ?_
    refine q_iconst 15 hX dX12_mostAtOnce_14 rfl kI_0 ?_
    obtain ⟨hb2, hres⟩ := gd hres
    refine q_iast 16 hX rfl aF_92 hb2 dX12_mostAtOnce_15 rfl ?_
    refine q_bS hres (fun S1 _ hres => ?_)
    refine q_iload_n 17 hX 2 dX12_mostAtOnce_16 rfl rfl rfl ?_
    refine q_if_ne 20 hX 23 dX12_mostAtOnce_17 rfl (by decide) (fun hc => ?_) (fun hc => ?_)
    · have hres := it_f hc hres
      refine q_iload_n 24 hX 2 dX12_mostAtOnce_23 rfl rfl rfl ?_
      obtain ⟨r4, S2, hk3, hres⟩ := ob hres
      refine q_callSi 27 (st := []) (As := [.int x2]) hX (cX12_lowest9 hX.dj hk3) cs_RX12_416 rfl (by decide) rfl (Nat.le_of_ble_eq_true rfl) dX12_mostAtOnce_24 rfl ?_
      refine q_istore_n 28 (lv' := [(3, .int r4), (0, .ref (ad X 55)), (1, .int x1), (2, .int x2)]) hX dX12_mostAtOnce_27 rfl rfl (by decide) rfl ?_
      refine q_iload_n 29 hX 3 dX12_mostAtOnce_28 rfl rfl rfl ?_
      refine q_iconst 30 hX dX12_mostAtOnce_29 rfl kI_1 ?_
      refine q_iload_n 31 hX 0 dX12_mostAtOnce_30 rfl rfl rfl ?_
      refine q_ishl 32 hX dX12_mostAtOnce_31 rfl ?_
      refine q_iconst 33 hX dX12_mostAtOnce_32 rfl kI_m1 ?_
      refine q_ixor 34 hX dX12_mostAtOnce_33 rfl ?_
      refine q_iand 35 hX dX12_mostAtOnce_34 rfl ?_
      refine q_istoreB 37 (lv0 := [(3, .int r4), (0, .ref (ad X 55)), (1, .int x1), (2, .int x2)]) hX dX12_mostAtOnce_35 rfl (by decide) rfl hres (fun v5 hres => ?_)
      refine q_aload_n 38 hX 2 dX12_mostAtOnce_37 rfl rfl rfl ?_
      refine q_getR 41 hX ci12 lf_RX12_120 fR_55_56 dX12_mostAtOnce_38 rfl ?_
      refine q_iload_n 42 hX 4 dX12_mostAtOnce_41 rfl rfl rfl ?_
      refine q_aload_n 43 hX 2 dX12_mostAtOnce_42 rfl rfl rfl ?_
      refine q_getR 46 hX ci12 lf_RX12_120 fR_55_56 dX12_mostAtOnce_43 rfl ?_
      refine q_iload 48 hX 0 dX12_mostAtOnce_46 rfl rfl ?_
      obtain ⟨hb6, hres⟩ := gd hres
      refine q_iald 49 hX rfl aF_92 hb6 dX12_mostAtOnce_48 rfl ?_
      obtain ⟨hb7, hres⟩ := gd hres
      refine q_iast 50 hX rfl aF_92 hb7 dX12_mostAtOnce_49 rfl ?_
      refine q_bS hres (fun S3 _ hres => ?_)
      refine q_iconst 51 hX dX12_mostAtOnce_50 rfl kI_0 ?_
      refine q_istore 53 (lv' := [(5, .int (0 : Int32)), (4, .int v5), (3, .int r4), (0, .ref (ad X 55)), (1, .int x1), (2, .int x2)]) hX dX12_mostAtOnce_51 rfl (by decide) rfl ?_
      exact q_sub [3, 4, 5, 2, 1, 0] rfl (wfX12_mostAtOnce_53 hX hq hrc2 _ _ _ _ _ _ _ hres)
    · have hres := it_t hc hres
      refine q_goto 117 hX dX12_mostAtOnce_20 (by decide) ?_
      refine q_iincB 120 2 (lv0 := [(0, .ref (ad X 55)), (1, .int x1)]) hX dX12_mostAtOnce_117 rfl rfl kI_1 (by decide) rfl hres (fun v8 hres => ?_)
      refine q_goto 2 hX dX12_mostAtOnce_120 (by decide) ?_
      exact q_sub [1, 2, 0] rfl (hrc2 _ _ _ hres)
def fX12_mostAtOnce_2 : Nat → St → Int32 → Int32 → Option (Int32 × St)
  | 0 => fun _ _ _ => none
  | k + 1 => fun S x1 x2 => bX12_mostAtOnce_2 (fX12_mostAtOnce_2 k) S x1 x2
theorem wfX12_mostAtOnce_2 {X : CX} (hX : Ok RX12 cX12_mostAtOnce (some .int) 55 40 6 X) {rr : Int32 × St} (hq : rs X = (some (.int rr.1), rr.2)) (k : Nat) : ∀ (S : St) (x1 : Int32) (x2 : Int32), fX12_mostAtOnce_2 k S x1 x2 = some rr → Wat 55 40 3 6 X 2 [(0, .ref (ad X 55)), (1, .int x1), (2, .int x2)] [] S := by
  induction k with
  | zero => intro S x1 x2 hres; exact absurd hres (by simp [fX12_mostAtOnce_2])
  | succ k ih => intro S x1 x2 hres; exact wbX12_mostAtOnce_2 hX hq ih hres
def fX12_mostAtOnce (S : St) (x1 : Int32) : Option (Int32 × St) :=
  fX12_mostAtOnce_2 300 S x1 (0 : Int32)
theorem wfX12_mostAtOnce {X : CX} (hX : Ok RX12 cX12_mostAtOnce (some .int) 55 40 6 X) {rr : Int32 × St} (hq : rs X = (some (.int rr.1), rr.2)) {S : St} {x1 : Int32} (hres : fX12_mostAtOnce S x1 = some rr) : Wat 55 40 3 6 X 0 [(0, .ref (ad X 55)), (1, .int x1)] [] S := by
  unfold fX12_mostAtOnce at hres
  refine q_iconst 1 hX dX12_mostAtOnce_0 rfl kI_0 ?_
  refine q_istore_n 2 (lv' := [(2, .int (0 : Int32)), (0, .ref (ad X 55)), (1, .int x1)]) hX dX12_mostAtOnce_1 rfl rfl (by decide) rfl ?_
  exact q_sub [1, 2, 0] rfl (wfX12_mostAtOnce_2 hX hq _ _ _ _ hres)
theorem cX12_mostAtOnce9 {l : Launch} {w : WD} (hj : Dj w 55 40) {rr : Int32 × St} {S : St} {x1 : Int32} (hres : fX12_mostAtOnce S x1 = some rr) : Ct l yX12_mostAtOnce cX12_mostAtOnce 6 (some .int) 3 w 55 40 [.ref (w.1 55), .int x1] S (some (.int rr.1), rr.2) := by
  refine Ct.of (lv := [(0, .ref (w.1 55)), (1, .int x1)]) hj (by decide +kernel) (Nat.le_of_ble_eq_true rfl) rfl ?_
  rintro X rfl rfl hq hX
  exact wfX12_mostAtOnce hX hq hres
def bX12_swaps_61 (rc52 : St → Int32 → Int32 → Int32 → Option (Int32 × St)) (rc61 : St → Int32 → Int32 → Int32 → Int32 → Option (Int32 × St)) (S : St) (x1 : Int32) (x3 : Int32) (x4 : Int32) (x5 : Int32) : Option (Int32 × St) :=
  if x4 ≤ x5 then (bV (x4 + (1 : Int32)) fun v1 => rc52 S x1 x3 v1) else (bi (fX12_bothWould S x1 x4 x5) fun r3 S1 => if r3 = 0 then (bV (x5 + (1 : Int32)) fun v4 => rc61 S1 x1 x3 x4 v4) else (bV ((x3 + (1 : Int32))) fun v5 => bV (x5 + (1 : Int32)) fun v6 => rc61 S1 x1 v5 x4 v6))
theorem wbX12_swaps_61 {X : CX} (hX : Ok RX12 cX12_swaps (some .int) 55 40 6 X) {rr : Int32 × St} (hq : rs X = (some (.int rr.1), rr.2)) {rc52 : St → Int32 → Int32 → Int32 → Option (Int32 × St)} (hrc52 : ∀ (S : St) (x1 : Int32) (x3 : Int32) (x4 : Int32), rc52 S x1 x3 x4 = some rr → Wat 55 40 4 6 X 52 [(0, .ref (ad X 55)), (1, .int x1), (3, .int x3), (4, .int x4)] [] S) {rc61 : St → Int32 → Int32 → Int32 → Int32 → Option (Int32 × St)} (hrc61 : ∀ (S : St) (x1 : Int32) (x3 : Int32) (x4 : Int32) (x5 : Int32), rc61 S x1 x3 x4 x5 = some rr → Wat 55 40 4 6 X 61 [(0, .ref (ad X 55)), (1, .int x1), (3, .int x3), (4, .int x4), (5, .int x5)] [] S) {S : St} {x1 : Int32} {x3 : Int32} {x4 : Int32} {x5 : Int32} (hres : bX12_swaps_61 rc52 rc61 S x1 x3 x4 x5 = some rr) : Wat 55 40 4 6 X 61 [(0, .ref (ad X 55)), (1, .int x1), (3, .int x3), (4, .int x4), (5, .int x5)] [] S := by
  unfold bX12_swaps_61 at hres
  refine q_iload 63 hX 4 dX12_swaps_61 rfl rfl ?_
  refine q_iload 65 hX 3 dX12_swaps_63 rfl rfl ?_
  refine q_icmp_ge 68 hX 90 dX12_swaps_65 rfl (by decide) (fun hc => ?_) (fun hc => ?_)
  · have hres := it_t hc hres
    refine q_iincB 93 3 (lv0 := [(0, .ref (ad X 55)), (1, .int x1), (3, .int x3), (5, .int x5)]) hX dX12_swaps_90 rfl rfl kI_1 (by decide) rfl hres (fun v1 hres => ?_)
    refine q_goto 52 hX dX12_swaps_93 (by decide) ?_
    exact q_sub [1, 2, 3, 0] rfl (hrc52 _ _ _ _ hres)
  · have hres := it_f hc hres
    refine q_aload_n 69 hX 0 dX12_swaps_68 rfl rfl rfl ?_
    refine q_iload_n 70 hX 1 dX12_swaps_69 rfl rfl rfl ?_
    refine q_iload 72 hX 3 dX12_swaps_70 rfl rfl ?_
    refine q_iload 74 hX 4 dX12_swaps_72 rfl rfl ?_
    obtain ⟨r3, S1, hk2, hres⟩ := ob hres
    refine q_callVi 77 (st := []) (As := [.int x1, .int x4, .int x5]) hX (cX12_bothWould9 hX.dj hk2) cv_RX12_431 ci12 oB_55 rfl (by decide) rfl (Nat.le_of_ble_eq_true rfl) dX12_swaps_74 rfl ?_
    refine q_if_eq 80 hX 84 dX12_swaps_77 rfl (by decide) (fun hc => ?_) (fun hc => ?_)
    · have hres := it_t hc hres
      refine q_iincB 87 4 (lv0 := [(0, .ref (ad X 55)), (1, .int x1), (3, .int x3), (4, .int x4)]) hX dX12_swaps_84 rfl rfl kI_1 (by decide) rfl hres (fun v4 hres => ?_)
      refine q_goto 61 hX dX12_swaps_87 (by decide) ?_
      exact q_sub [1, 2, 3, 4, 0] rfl (hrc61 _ _ _ _ _ hres)
    · have hres := it_f hc hres
      refine q_iload_n 81 hX 2 dX12_swaps_80 rfl rfl rfl ?_
      refine q_iconst 82 hX dX12_swaps_81 rfl kI_1 ?_
      refine q_iadd 83 hX dX12_swaps_82 rfl ?_
      refine q_istoreB_n 84 (lv0 := [(0, .ref (ad X 55)), (1, .int x1), (4, .int x4), (5, .int x5)]) hX dX12_swaps_83 rfl rfl (by decide) rfl hres (fun v5 hres => ?_)
      refine q_iincB 87 4 (lv0 := [(3, .int v5), (0, .ref (ad X 55)), (1, .int x1), (4, .int x4)]) hX dX12_swaps_84 rfl rfl kI_1 (by decide) rfl hres (fun v6 hres => ?_)
      refine q_goto 61 hX dX12_swaps_87 (by decide) ?_
      exact q_sub [2, 3, 1, 4, 0] rfl (hrc61 _ _ _ _ _ hres)
def fX12_swaps_61 (rc52 : St → Int32 → Int32 → Int32 → Option (Int32 × St)) : Nat → St → Int32 → Int32 → Int32 → Int32 → Option (Int32 × St)
  | 0 => fun _ _ _ _ _ => none
  | k + 1 => fun S x1 x3 x4 x5 => bX12_swaps_61 rc52 (fX12_swaps_61 rc52 k) S x1 x3 x4 x5
theorem wfX12_swaps_61 {X : CX} (hX : Ok RX12 cX12_swaps (some .int) 55 40 6 X) {rr : Int32 × St} (hq : rs X = (some (.int rr.1), rr.2)) {rc52 : St → Int32 → Int32 → Int32 → Option (Int32 × St)} (hrc52 : ∀ (S : St) (x1 : Int32) (x3 : Int32) (x4 : Int32), rc52 S x1 x3 x4 = some rr → Wat 55 40 4 6 X 52 [(0, .ref (ad X 55)), (1, .int x1), (3, .int x3), (4, .int x4)] [] S) (k : Nat) : ∀ (S : St) (x1 : Int32) (x3 : Int32) (x4 : Int32) (x5 : Int32), fX12_swaps_61 rc52 k S x1 x3 x4 x5 = some rr → Wat 55 40 4 6 X 61 [(0, .ref (ad X 55)), (1, .int x1), (3, .int x3), (4, .int x4), (5, .int x5)] [] S := by
  induction k with
  | zero => intro S x1 x3 x4 x5 hres; exact absurd hres (by simp [fX12_swaps_61])
  | succ k ih => intro S x1 x3 x4 x5 hres; exact wbX12_swaps_61 hX hq hrc52 ih hres
def bX12_swaps_52 (rc52 : St → Int32 → Int32 → Int32 → Option (Int32 × St)) (S : St) (x1 : Int32) (x3 : Int32) (x4 : Int32) : Option (Int32 × St) :=
  if x1 ≤ x4 then (some (x3, S)) else (fX12_swaps_61 rc52 100 S x1 x3 x4 (0 : Int32))
theorem wbX12_swaps_52 {X : CX} (hX : Ok RX12 cX12_swaps (some .int) 55 40 6 X) {rr : Int32 × St} (hq : rs X = (some (.int rr.1), rr.2)) {rc52 : St → Int32 → Int32 → Int32 → Option (Int32 × St)} (hrc52 : ∀ (S : St) (x1 : Int32) (x3 : Int32) (x4 : Int32), rc52 S x1 x3 x4 = some rr → Wat 55 40 4 6 X 52 [(0, .ref (ad X 55)), (1, .int x1), (3, .int x3), (4, .int x4)] [] S) {S : St} {x1 : Int32} {x3 : Int32} {x4 : Int32} (hres : bX12_swaps_52 rc52 S x1 x3 x4 = some rr) : Wat 55 40 4 6 X 52 [(0, .ref (ad X 55)), (1, .int x1), (3, .int x3), (4, .int x4)] [] S := by
  unfold bX12_swaps_52 at hres
  refine q_iload 54 hX 3 dX12_swaps_52 rfl rfl ?_
  refine q_iload_n 55 hX 1 dX12_swaps_54 rfl rfl rfl ?_
  refine q_icmp_ge 58 hX 96 dX12_swaps_55 rfl (by decide) (fun hc => ?_) (fun hc => ?_)
  · have hres := it_t hc hres
    refine q_iload_n 97 hX 2 dX12_swaps_96 rfl rfl rfl ?_
    exact q_iret hX (eqi hq hres) dX12_swaps_97
  · have hres := it_f hc hres
    refine q_iconst 59 hX dX12_swaps_58 rfl kI_0 ?_
    refine q_istore 61 (lv' := [(5, .int (0 : Int32)), (0, .ref (ad X 55)), (1, .int x1), (3, .int x3), (4, .int x4)]) hX dX12_swaps_59 rfl (by decide) rfl ?_
    exact q_sub [1, 2, 3, 4, 0] rfl (wfX12_swaps_61 hX hq hrc52 _ _ _ _ _ _ hres)
def fX12_swaps_52 : Nat → St → Int32 → Int32 → Int32 → Option (Int32 × St)
  | 0 => fun _ _ _ _ => none
  | k + 1 => fun S x1 x3 x4 => bX12_swaps_52 (fX12_swaps_52 k) S x1 x3 x4
theorem wfX12_swaps_52 {X : CX} (hX : Ok RX12 cX12_swaps (some .int) 55 40 6 X) {rr : Int32 × St} (hq : rs X = (some (.int rr.1), rr.2)) (k : Nat) : ∀ (S : St) (x1 : Int32) (x3 : Int32) (x4 : Int32), fX12_swaps_52 k S x1 x3 x4 = some rr → Wat 55 40 4 6 X 52 [(0, .ref (ad X 55)), (1, .int x1), (3, .int x3), (4, .int x4)] [] S := by
  induction k with
  | zero => intro S x1 x3 x4 hres; exact absurd hres (by simp [fX12_swaps_52])
  | succ k ih => intro S x1 x3 x4 hres; exact wbX12_swaps_52 hX hq ih hres
def fX12_swaps (S : St) (x1 : Int32) (x2 : Int32) : Option (Int32 × St) :=
  bi (fX12_in S x1 (2 : Int32) (8 : Int32)) fun r2 S1 => if r2 = 0 then (some ((-1 : Int32), S1)) else (bi (fX12_in S1 x2 (0 : Int32) (1 : Int32)) fun r4 S2 => if r4 = 0 then (some ((-1 : Int32), S2)) else (if (x1 * x1) ≤ (S2.1 55 11) then (bS (pI S2 55 11 (0 : Int32)) fun S3 => if x2 = (1 : Int32) then (bi (fX12_mostAtOnce S3 x1) fun r6 S4 => some (r6, S4)) else (fX12_swaps_52 100 S3 x1 (0 : Int32) (0 : Int32))) else (some ((-1 : Int32), S2))))
theorem wfX12_swaps {X : CX} (hX : Ok RX12 cX12_swaps (some .int) 55 40 6 X) {rr : Int32 × St} (hq : rs X = (some (.int rr.1), rr.2)) {S : St} {x1 : Int32} {x2 : Int32} (hres : fX12_swaps S x1 x2 = some rr) : Wat 55 40 4 6 X 0 [(0, .ref (ad X 55)), (1, .int x1), (2, .int x2)] [] S := by
  unfold fX12_swaps at hres
  refine q_iload_n 1 hX 1 dX12_swaps_0 rfl rfl rfl ?_
  refine q_iconst 2 hX dX12_swaps_1 rfl kI_2 ?_
  refine q_bipush 4 hX dX12_swaps_2 rfl kB_8 ?_
  obtain ⟨r2, S1, hk1, hres⟩ := ob hres
  refine q_callSi 7 (st := []) (As := [.int x1, .int (2 : Int32), .int (8 : Int32)]) hX (cX12_in9 hX.dj hk1) cs_RX12_134 rfl (by decide) rfl (Nat.le_of_ble_eq_true rfl) dX12_swaps_4 rfl ?_
  refine q_if_eq 10 hX 29 dX12_swaps_7 rfl (by decide) (fun hc => ?_) (fun hc => ?_)
  · have hres := it_t hc hres
    refine q_iconst 30 hX dX12_swaps_29 rfl kI_m1 ?_
    exact q_iret hX (eqi hq hres) dX12_swaps_30
  · have hres := it_f hc hres
    refine q_iload_n 11 hX 2 dX12_swaps_10 rfl rfl rfl ?_
    refine q_iconst 12 hX dX12_swaps_11 rfl kI_0 ?_
    refine q_iconst 13 hX dX12_swaps_12 rfl kI_1 ?_
    obtain ⟨r4, S2, hk3, hres⟩ := ob hres
    refine q_callSi 16 (st := []) (As := [.int x2, .int (0 : Int32), .int (1 : Int32)]) hX (cX12_in9 hX.dj hk3) cs_RX12_134 rfl (by decide) rfl (Nat.le_of_ble_eq_true rfl) dX12_swaps_13 rfl ?_
    refine q_if_eq 19 hX 29 dX12_swaps_16 rfl (by decide) (fun hc => ?_) (fun hc => ?_)
    · have hres := it_t hc hres
      refine q_iconst 30 hX dX12_swaps_29 rfl kI_m1 ?_
      exact q_iret hX (eqi hq hres) dX12_swaps_30
    · have hres := it_f hc hres
      refine q_iload_n 20 hX 1 dX12_swaps_19 rfl rfl rfl ?_
      refine q_iload_n 21 hX 1 dX12_swaps_20 rfl rfl rfl ?_
      refine q_imul 22 hX dX12_swaps_21 rfl ?_
      refine q_aload_n 23 hX 0 dX12_swaps_22 rfl rfl rfl ?_
      refine q_getI 26 hX ci12 lf_RX12_162 fI_55_11 dX12_swaps_23 rfl ?_
      refine q_icmp_le 29 hX 31 dX12_swaps_26 rfl (by decide) (fun hc => ?_) (fun hc => ?_)
      · have hres := it_t hc hres
        refine q_aload_n 32 hX 0 dX12_swaps_31 rfl rfl rfl ?_
        refine q_iconst 33 hX dX12_swaps_32 rfl kI_0 ?_
        refine q_putI 36 hX ci12 lf_RX12_162 fI_55_11 (nar_i rfl) dX12_swaps_33 rfl ?_
        refine q_bS hres (fun S3 _ hres => ?_)
        refine q_iload_n 37 hX 2 dX12_swaps_36 rfl rfl rfl ?_
        refine q_iconst 38 hX dX12_swaps_37 rfl kI_1 ?_
        refine q_icmp_ne 41 hX 47 dX12_swaps_38 rfl (by decide) (fun hc => ?_) (fun hc => ?_)
        · have hres := it_f hc hres
          refine q_iconst 48 hX dX12_swaps_47 rfl kI_0 ?_
          refine q_istore_n 49 (lv' := [(3, .int (0 : Int32)), (0, .ref (ad X 55)), (1, .int x1), (2, .int x2)]) hX dX12_swaps_48 rfl rfl (by decide) rfl ?_
          refine q_iconst 50 hX dX12_swaps_49 rfl kI_0 ?_
          refine q_istore 52 (lv' := [(4, .int (0 : Int32)), (3, .int (0 : Int32)), (0, .ref (ad X 55)), (1, .int x1), (2, .int x2)]) hX dX12_swaps_50 rfl (by decide) rfl ?_
          exact q_sub [2, 3, 1, 0] rfl (wfX12_swaps_52 hX hq _ _ _ _ _ hres)
        · have hres := it_t hc hres
          refine q_aload_n 42 hX 0 dX12_swaps_41 rfl rfl rfl ?_
          refine q_iload_n 43 hX 1 dX12_swaps_42 rfl rfl rfl ?_
          obtain ⟨r6, S4, hk5, hres⟩ := ob hres
          refine q_callVi 46 (st := []) (As := [.int x1]) hX (cX12_mostAtOnce9 hX.dj hk5) cv_RX12_434 ci12 oB_55 rfl (by decide) rfl (Nat.le_of_ble_eq_true rfl) dX12_swaps_43 rfl ?_
          exact q_iret hX (eqi hq hres) dX12_swaps_46
      · have hres := it_f hc hres
        refine q_iconst 30 hX dX12_swaps_29 rfl kI_m1 ?_
        exact q_iret hX (eqi hq hres) dX12_swaps_30
theorem cX12_swaps9 {l : Launch} {w : WD} (hj : Dj w 55 40) {rr : Int32 × St} {S : St} {x1 : Int32} {x2 : Int32} (hres : fX12_swaps S x1 x2 = some rr) : Ct l yX12_swaps cX12_swaps 6 (some .int) 4 w 55 40 [.ref (w.1 55), .int x1, .int x2] S (some (.int rr.1), rr.2) := by
  refine Ct.of (lv := [(0, .ref (w.1 55)), (1, .int x1), (2, .int x2)]) hj (by decide +kernel) (Nat.le_of_ble_eq_true rfl) rfl ?_
  rintro X rfl rfl hq hX
  exact wfX12_swaps hX hq hres
def bX12_laysSale_25 (rc6 : St → Int32 → Int32 → Option (St)) (rc25 : St → Int32 → Int32 → Int32 → Int32 → Option (St)) (S : St) (x1 : Int32) (x2 : Int32) (x3 : Int32) (x4 : Int32) : Option (St) :=
  if x1 ≤ x4 then (bV (x2 + (-1 : Int32)) fun v1 => rc6 S x1 v1) else (bi (fX12_has S x2 x4) fun r3 S1 => if r3 = 0 then (if inb x2 256 = true then bi (fX12_worth S1 x1 x3 x4) fun r7 S2 => if inb (x2 ||| ((1 : Int32) <<< (x4 &&& 31))) 256 = true then bi (fX12_max S2 (S1.1 92 (x2.toNatClampNeg)) (r7 + (S2.1 92 ((x2 ||| ((1 : Int32) <<< (x4 &&& 31))).toNatClampNeg)))) fun r10 S3 => if inb x2 256 = true then bS (pI S3 92 (x2.toNatClampNeg) r10) fun S4 => bV (x4 + (1 : Int32)) fun v12 => rc25 S4 x1 x2 x3 v12 else none else none else none) else (bV (x4 + (1 : Int32)) fun v4 => rc25 S1 x1 x2 x3 v4))
theorem wbX12_laysSale_25 {X : CX} (hX : Ok RX12 cX12_laysSale none 55 40 5 X) {rr : St} (hq : rs X = (none, rr)) {rc6 : St → Int32 → Int32 → Option (St)} (hrc6 : ∀ (S : St) (x1 : Int32) (x2 : Int32), rc6 S x1 x2 = some rr → Wat 55 40 2 5 X 6 [(0, .ref (ad X 55)), (1, .int x1), (2, .int x2)] [] S) {rc25 : St → Int32 → Int32 → Int32 → Int32 → Option (St)} (hrc25 : ∀ (S : St) (x1 : Int32) (x2 : Int32) (x3 : Int32) (x4 : Int32), rc25 S x1 x2 x3 x4 = some rr → Wat 55 40 2 5 X 25 [(0, .ref (ad X 55)), (1, .int x1), (2, .int x2), (3, .int x3), (4, .int x4)] [] S) {S : St} {x1 : Int32} {x2 : Int32} {x3 : Int32} {x4 : Int32} (hres : bX12_laysSale_25 rc6 rc25 S x1 x2 x3 x4 = some rr) : Wat 55 40 2 5 X 25 [(0, .ref (ad X 55)), (1, .int x1), (2, .int x2), (3, .int x3), (4, .int x4)] [] S := by
  unfold bX12_laysSale_25 at hres
  refine q_iload 27 hX 4 dX12_laysSale_25 rfl rfl ?_
  refine q_iload_n 28 hX 1 dX12_laysSale_27 rfl rfl rfl ?_
  refine q_icmp_ge 31 hX 81 dX12_laysSale_28 rfl (by decide) (fun hc => ?_) (fun hc => ?_)
  · have hres := it_t hc hres
    refine q_iincB 84 2 (lv0 := [(0, .ref (ad X 55)), (1, .int x1), (3, .int x3), (4, .int x4)]) hX dX12_laysSale_81 rfl rfl kI_m1 (by decide) rfl hres (fun v1 hres => ?_)
    refine q_goto 6 hX dX12_laysSale_84 (by decide) ?_
    exact q_sub [1, 2, 0] rfl (hrc6 _ _ _ hres)
  · have hres := it_f hc hres
    refine q_iload_n 32 hX 2 dX12_laysSale_31 rfl rfl rfl ?_
    refine q_iload 34 hX 4 dX12_laysSale_32 rfl rfl ?_
    obtain ⟨r3, S1, hk2, hres⟩ := ob hres
    refine q_callSi 37 (st := []) (As := [.int x2, .int x4]) hX (cX12_has9 hX.dj hk2) cs_RX12_130 rfl (by decide) rfl (Nat.le_of_ble_eq_true rfl) dX12_laysSale_34 rfl ?_
    refine q_if_ne 40 hX 75 dX12_laysSale_37 rfl (by decide) (fun hc => ?_) (fun hc => ?_)
    · have hres := it_f hc hres
      refine q_iincB 78 4 (lv0 := [(0, .ref (ad X 55)), (1, .int x1), (2, .int x2), (3, .int x3)]) hX dX12_laysSale_75 rfl rfl kI_1 (by decide) rfl hres (fun v4 hres => ?_)
      refine q_goto 25 hX dX12_laysSale_78 (by decide) ?_
      exact q_sub [1, 2, 3, 4, 0] rfl (hrc25 _ _ _ _ _ hres)
    · have hres := it_t hc hres
      refine q_aload_n 41 hX 0 dX12_laysSale_40 rfl rfl rfl ?_
      refine q_getR 44 hX ci12 lf_RX12_120 fR_55_56 dX12_laysSale_41 rfl ?_
      refine q_iload_n 45 hX 2 dX12_laysSale_44 rfl rfl rfl ?_
      refine q_aload_n 46 hX 0 dX12_laysSale_45 rfl rfl rfl ?_
      refine q_getR 49 hX ci12 lf_RX12_120 fR_55_56 dX12_laysSale_46 rfl ?_
      refine q_iload_n 50 hX 2 dX12_laysSale_49 rfl rfl rfl ?_
      obtain ⟨hb5, hres⟩ := gd hres
      refine q_iald 51 hX rfl aF_92 hb5 dX12_laysSale_50 rfl ?_
      refine q_aload_n 52 hX 0 dX12_laysSale_51 rfl rfl rfl ?_
      refine q_iload_n 53 hX 1 dX12_laysSale_52 rfl rfl rfl ?_
      refine q_iload_n 54 hX 3 dX12_laysSale_53 rfl rfl rfl ?_
      refine q_iload 56 hX 4 dX12_laysSale_54 rfl rfl ?_
      obtain ⟨r7, S2, hk6, hres⟩ := ob hres
      refine q_callVi 59 (st := [.int (S1.1 92 (x2.toNatClampNeg)), .int x2, .ref (ad X 92)]) (As := [.int x1, .int x3, .int x4]) hX (cX12_worth9 hX.dj hk6) cv_RX12_428 ci12 oB_55 rfl (by decide) rfl (Nat.le_of_ble_eq_true rfl) dX12_laysSale_56 rfl ?_
      refine q_aload_n 60 hX 0 dX12_laysSale_59 rfl rfl rfl ?_
      refine q_getR 63 hX ci12 lf_RX12_120 fR_55_56 dX12_laysSale_60 rfl ?_
      refine q_iload_n 64 hX 2 dX12_laysSale_63 rfl rfl rfl ?_
      refine q_iconst 65 hX dX12_laysSale_64 rfl kI_1 ?_
      refine q_iload 67 hX 4 dX12_laysSale_65 rfl rfl ?_
      refine q_ishl 68 hX dX12_laysSale_67 rfl ?_
      refine q_ior 69 hX dX12_laysSale_68 rfl ?_
      obtain ⟨hb8, hres⟩ := gd hres
      refine q_iald 70 hX rfl aF_92 hb8 dX12_laysSale_69 rfl ?_
      refine q_iadd 71 hX dX12_laysSale_70 rfl ?_
      obtain ⟨r10, S3, hk9, hres⟩ := ob hres
      refine q_callSi 74 (st := [.int x2, .ref (ad X 92)]) (As := [.int (S1.1 92 (x2.toNatClampNeg)), .int (r7 + (S2.1 92 ((x2 ||| ((1 : Int32) <<< (x4 &&& 31))).toNatClampNeg)))]) hX (cX12_max9 hX.dj hk9) cs_RX12_362 rfl (by decide) rfl (Nat.le_of_ble_eq_true rfl) dX12_laysSale_71 rfl ?_
      obtain ⟨hb11, hres⟩ := gd hres
      refine q_iast 75 hX rfl aF_92 hb11 dX12_laysSale_74 rfl ?_
      refine q_bS hres (fun S4 _ hres => ?_)
      refine q_iincB 78 4 (lv0 := [(0, .ref (ad X 55)), (1, .int x1), (2, .int x2), (3, .int x3)]) hX dX12_laysSale_75 rfl rfl kI_1 (by decide) rfl hres (fun v12 hres => ?_)
      refine q_goto 25 hX dX12_laysSale_78 (by decide) ?_
      exact q_sub [1, 2, 3, 4, 0] rfl (hrc25 _ _ _ _ _ hres)
def fX12_laysSale_25 (rc6 : St → Int32 → Int32 → Option (St)) : Nat → St → Int32 → Int32 → Int32 → Int32 → Option (St)
  | 0 => fun _ _ _ _ _ => none
  | k + 1 => fun S x1 x2 x3 x4 => bX12_laysSale_25 rc6 (fX12_laysSale_25 rc6 k) S x1 x2 x3 x4
theorem wfX12_laysSale_25 {X : CX} (hX : Ok RX12 cX12_laysSale none 55 40 5 X) {rr : St} (hq : rs X = (none, rr)) {rc6 : St → Int32 → Int32 → Option (St)} (hrc6 : ∀ (S : St) (x1 : Int32) (x2 : Int32), rc6 S x1 x2 = some rr → Wat 55 40 2 5 X 6 [(0, .ref (ad X 55)), (1, .int x1), (2, .int x2)] [] S) (k : Nat) : ∀ (S : St) (x1 : Int32) (x2 : Int32) (x3 : Int32) (x4 : Int32), fX12_laysSale_25 rc6 k S x1 x2 x3 x4 = some rr → Wat 55 40 2 5 X 25 [(0, .ref (ad X 55)), (1, .int x1), (2, .int x2), (3, .int x3), (4, .int x4)] [] S := by
  induction k with
  | zero => intro S x1 x2 x3 x4 hres; exact absurd hres (by simp [fX12_laysSale_25])
  | succ k ih => intro S x1 x2 x3 x4 hres; exact wbX12_laysSale_25 hX hq hrc6 ih hres
def bX12_laysSale_6 (rc6 : St → Int32 → Int32 → Option (St)) (S : St) (x1 : Int32) (x2 : Int32) : Option (St) :=
  if x2 < 0 then (some S) else (bi (fX12_bits S x2) fun r2 S1 => if inb x2 256 = true then bS (pI S1 92 (x2.toNatClampNeg) (0 : Int32)) fun S2 => fX12_laysSale_25 rc6 300 S2 x1 x2 r2 (0 : Int32) else none)
theorem wbX12_laysSale_6 {X : CX} (hX : Ok RX12 cX12_laysSale none 55 40 5 X) {rr : St} (hq : rs X = (none, rr)) {rc6 : St → Int32 → Int32 → Option (St)} (hrc6 : ∀ (S : St) (x1 : Int32) (x2 : Int32), rc6 S x1 x2 = some rr → Wat 55 40 2 5 X 6 [(0, .ref (ad X 55)), (1, .int x1), (2, .int x2)] [] S) {S : St} {x1 : Int32} {x2 : Int32} (hres : bX12_laysSale_6 rc6 S x1 x2 = some rr) : Wat 55 40 2 5 X 6 [(0, .ref (ad X 55)), (1, .int x1), (2, .int x2)] [] S := by
  unfold bX12_laysSale_6 at hres
  refine q_iload_n 7 hX 2 dX12_laysSale_6 rfl rfl rfl ?_
  refine q_if_lt 10 hX 87 dX12_laysSale_7 rfl (by decide) (fun hc => ?_) (fun hc => ?_)
  · have hres := it_t hc hres
    exact q_vret hX (eqv hq hres) dX12_laysSale_87
  · have hres := it_f hc hres
    refine q_iload_n 11 hX 2 dX12_laysSale_10 rfl rfl rfl ?_
    obtain ⟨r2, S1, hk1, hres⟩ := ob hres
    refine q_callSi 14 (st := []) (As := [.int x2]) hX (cX12_bits9 hX.dj hk1) cs_RX12_320 rfl (by decide) rfl (Nat.le_of_ble_eq_true rfl) dX12_laysSale_11 rfl ?_
    refine q_istore_n 15 (lv' := [(3, .int r2), (0, .ref (ad X 55)), (1, .int x1), (2, .int x2)]) hX dX12_laysSale_14 rfl rfl (by decide) rfl ?_
    refine q_aload_n 16 hX 1 dX12_laysSale_15 rfl rfl rfl ?_
    refine q_getR 19 hX ci12 lf_RX12_120 fR_55_56 dX12_laysSale_16 rfl ?_
    refine q_iload_n 20 hX 3 dX12_laysSale_19 rfl rfl rfl ?_
    refine q_iconst 21 hX dX12_laysSale_20 rfl kI_0 ?_
    obtain ⟨hb3, hres⟩ := gd hres
    refine q_iast 22 hX rfl aF_92 hb3 dX12_laysSale_21 rfl ?_
    refine q_bS hres (fun S2 _ hres => ?_)
    refine q_iconst 23 hX dX12_laysSale_22 rfl kI_0 ?_
    refine q_istore 25 (lv' := [(4, .int (0 : Int32)), (3, .int r2), (0, .ref (ad X 55)), (1, .int x1), (2, .int x2)]) hX dX12_laysSale_23 rfl (by decide) rfl ?_
    exact q_sub [2, 3, 4, 1, 0] rfl (wfX12_laysSale_25 hX hq hrc6 _ _ _ _ _ _ hres)
def fX12_laysSale_6 : Nat → St → Int32 → Int32 → Option (St)
  | 0 => fun _ _ _ => none
  | k + 1 => fun S x1 x2 => bX12_laysSale_6 (fX12_laysSale_6 k) S x1 x2
theorem wfX12_laysSale_6 {X : CX} (hX : Ok RX12 cX12_laysSale none 55 40 5 X) {rr : St} (hq : rs X = (none, rr)) (k : Nat) : ∀ (S : St) (x1 : Int32) (x2 : Int32), fX12_laysSale_6 k S x1 x2 = some rr → Wat 55 40 2 5 X 6 [(0, .ref (ad X 55)), (1, .int x1), (2, .int x2)] [] S := by
  induction k with
  | zero => intro S x1 x2 hres; exact absurd hres (by simp [fX12_laysSale_6])
  | succ k ih => intro S x1 x2 hres; exact wbX12_laysSale_6 hX hq ih hres
def fX12_laysSale (S : St) (x1 : Int32) : Option (St) :=
  bV ((((1 : Int32) <<< (x1 &&& 31)) - (1 : Int32))) fun v1 => fX12_laysSale_6 300 S x1 v1
theorem wfX12_laysSale {X : CX} (hX : Ok RX12 cX12_laysSale none 55 40 5 X) {rr : St} (hq : rs X = (none, rr)) {S : St} {x1 : Int32} (hres : fX12_laysSale S x1 = some rr) : Wat 55 40 2 5 X 0 [(0, .ref (ad X 55)), (1, .int x1)] [] S := by
  unfold fX12_laysSale at hres
  refine q_iconst 1 hX dX12_laysSale_0 rfl kI_1 ?_
  refine q_iload_n 2 hX 1 dX12_laysSale_1 rfl rfl rfl ?_
  refine q_ishl 3 hX dX12_laysSale_2 rfl ?_
  refine q_iconst 4 hX dX12_laysSale_3 rfl kI_1 ?_
  refine q_isub 5 hX dX12_laysSale_4 rfl ?_
  refine q_istoreB_n 6 (lv0 := [(0, .ref (ad X 55)), (1, .int x1)]) hX dX12_laysSale_5 rfl rfl (by decide) rfl hres (fun v1 hres => ?_)
  exact q_sub [1, 2, 0] rfl (wfX12_laysSale_6 hX hq _ _ _ _ hres)
theorem cX12_laysSale9 {l : Launch} {w : WD} (hj : Dj w 55 40) {rr : St} {S : St} {x1 : Int32} (hres : fX12_laysSale S x1 = some rr) : Ct l yX12_laysSale cX12_laysSale 5 none 2 w 55 40 [.ref (w.1 55), .int x1] S (none, rr) := by
  refine Ct.of (lv := [(0, .ref (w.1 55)), (1, .int x1)]) hj (by decide +kernel) (Nat.le_of_ble_eq_true rfl) rfl ?_
  rintro X rfl rfl hq hX
  exact wfX12_laysSale hX hq hres
def fX12_sale_115 (rc67 : St → Int32 → Int32 → Int32 → Int32 → Option (Int32 × St)) (rc76 : St → Int32 → Int32 → Int32 → Int32 → Int32 → Option (Int32 × St)) (S : St) (x1 : Int32) (x2 : Int32) (x3 : Int32) (x4 : Int32) (x5 : Int32) : Option (Int32 × St) :=
  bV ((x5 + (1 : Int32))) fun v1 => rc76 S x1 x2 x3 x4 v1
theorem wfX12_sale_115 {X : CX} (hX : Ok RX12 cX12_sale (some .int) 55 40 6 X) {rr : Int32 × St} (hq : rs X = (some (.int rr.1), rr.2)) {rc67 : St → Int32 → Int32 → Int32 → Int32 → Option (Int32 × St)} (hrc67 : ∀ (S : St) (x1 : Int32) (x2 : Int32) (x3 : Int32) (x4 : Int32), rc67 S x1 x2 x3 x4 = some rr → Wat 55 40 3 6 X 67 [(0, .ref (ad X 55)), (1, .int x1), (2, .int x2), (3, .int x3), (4, .int x4)] [] S) {rc76 : St → Int32 → Int32 → Int32 → Int32 → Int32 → Option (Int32 × St)} (hrc76 : ∀ (S : St) (x1 : Int32) (x2 : Int32) (x3 : Int32) (x4 : Int32) (x5 : Int32), rc76 S x1 x2 x3 x4 x5 = some rr → Wat 55 40 3 6 X 76 [(0, .ref (ad X 55)), (1, .int x1), (2, .int x2), (3, .int x3), (4, .int x4), (5, .int x5)] [] S) {S : St} {x1 : Int32} {x2 : Int32} {x3 : Int32} {x4 : Int32} {x5 : Int32} (hres : fX12_sale_115 rc67 rc76 S x1 x2 x3 x4 x5 = some rr) : Wat 55 40 3 6 X 115 [(0, .ref (ad X 55)), (1, .int x1), (2, .int x2), (3, .int x3), (4, .int x4), (5, .int x5)] [] S := by
  unfold fX12_sale_115 at hres
  refine q_iload 117 hX 5 dX12_sale_115 rfl rfl ?_
  refine q_iconst 118 hX dX12_sale_117 rfl kI_1 ?_
  refine q_iadd 119 hX dX12_sale_118 rfl ?_
  refine q_istoreB 121 (lv0 := [(0, .ref (ad X 55)), (1, .int x1), (2, .int x2), (3, .int x3), (4, .int x4)]) hX dX12_sale_119 rfl (by decide) rfl hres (fun v1 hres => ?_)
  refine q_goto 76 hX dX12_sale_121 (by decide) ?_
  exact q_sub [1, 2, 3, 4, 5, 0] rfl (hrc76 _ _ _ _ _ _ hres)
def bX12_sale_76 (rc67 : St → Int32 → Int32 → Int32 → Int32 → Option (Int32 × St)) (rc76 : St → Int32 → Int32 → Int32 → Int32 → Int32 → Option (Int32 × St)) (S : St) (x1 : Int32) (x2 : Int32) (x3 : Int32) (x4 : Int32) (x5 : Int32) : Option (Int32 × St) :=
  bi (fX12_has S x3 x5) fun r2 S1 => if r2 = 0 then (bi (fX12_worth S1 x1 x4 x5) fun r4 S2 => if inb (x3 ||| ((1 : Int32) <<< (x5 &&& 31))) 256 = true then if inb x3 256 = true then if (r4 + (S2.1 92 ((x3 ||| ((1 : Int32) <<< (x5 &&& 31))).toNatClampNeg))) = (S2.1 92 (x3.toNatClampNeg)) then (if x5 = x2 then (some (x4, S2)) else (bV ((x3 ||| ((1 : Int32) <<< (x5 &&& 31)))) fun v7 => bV (x4 + (1 : Int32)) fun v8 => rc67 S2 x1 x2 v7 v8)) else (fX12_sale_115 rc67 rc76 S2 x1 x2 x3 x4 x5) else none else none) else (fX12_sale_115 rc67 rc76 S1 x1 x2 x3 x4 x5)
theorem wbX12_sale_76 {X : CX} (hX : Ok RX12 cX12_sale (some .int) 55 40 6 X) {rr : Int32 × St} (hq : rs X = (some (.int rr.1), rr.2)) {rc67 : St → Int32 → Int32 → Int32 → Int32 → Option (Int32 × St)} (hrc67 : ∀ (S : St) (x1 : Int32) (x2 : Int32) (x3 : Int32) (x4 : Int32), rc67 S x1 x2 x3 x4 = some rr → Wat 55 40 3 6 X 67 [(0, .ref (ad X 55)), (1, .int x1), (2, .int x2), (3, .int x3), (4, .int x4)] [] S) {rc76 : St → Int32 → Int32 → Int32 → Int32 → Int32 → Option (Int32 × St)} (hrc76 : ∀ (S : St) (x1 : Int32) (x2 : Int32) (x3 : Int32) (x4 : Int32) (x5 : Int32), rc76 S x1 x2 x3 x4 x5 = some rr → Wat 55 40 3 6 X 76 [(0, .ref (ad X 55)), (1, .int x1), (2, .int x2), (3, .int x3), (4, .int x4), (5, .int x5)] [] S) {S : St} {x1 : Int32} {x2 : Int32} {x3 : Int32} {x4 : Int32} {x5 : Int32} (hres : bX12_sale_76 rc67 rc76 S x1 x2 x3 x4 x5 = some rr) : Wat 55 40 3 6 X 76 [(0, .ref (ad X 55)), (1, .int x1), (2, .int x2), (3, .int x3), (4, .int x4), (5, .int x5)] [] S := by
  unfold bX12_sale_76 at hres
  refine q_iload_n 77 hX 3 dX12_sale_76 rfl rfl rfl ?_
  refine q_iload 79 hX 5 dX12_sale_77 rfl rfl ?_
  obtain ⟨r2, S1, hk1, hres⟩ := ob hres
  refine q_callSi 82 (st := []) (As := [.int x3, .int x5]) hX (cX12_has9 hX.dj hk1) cs_RX12_130 rfl (by decide) rfl (Nat.le_of_ble_eq_true rfl) dX12_sale_79 rfl ?_
  refine q_if_ne 85 hX 115 dX12_sale_82 rfl (by decide) (fun hc => ?_) (fun hc => ?_)
  · have hres := it_f hc hres
    exact q_sub [0, 1, 2, 3, 4, 5] rfl (wfX12_sale_115 hX hq hrc67 hrc76 hres)
  · have hres := it_t hc hres
    refine q_aload_n 86 hX 0 dX12_sale_85 rfl rfl rfl ?_
    refine q_iload_n 87 hX 1 dX12_sale_86 rfl rfl rfl ?_
    refine q_iload 89 hX 4 dX12_sale_87 rfl rfl ?_
    refine q_iload 91 hX 5 dX12_sale_89 rfl rfl ?_
    obtain ⟨r4, S2, hk3, hres⟩ := ob hres
    refine q_callVi 94 (st := []) (As := [.int x1, .int x4, .int x5]) hX (cX12_worth9 hX.dj hk3) cv_RX12_428 ci12 oB_55 rfl (by decide) rfl (Nat.le_of_ble_eq_true rfl) dX12_sale_91 rfl ?_
    refine q_aload_n 95 hX 0 dX12_sale_94 rfl rfl rfl ?_
    refine q_getR 98 hX ci12 lf_RX12_120 fR_55_56 dX12_sale_95 rfl ?_
    refine q_iload_n 99 hX 3 dX12_sale_98 rfl rfl rfl ?_
    refine q_iconst 100 hX dX12_sale_99 rfl kI_1 ?_
    refine q_iload 102 hX 5 dX12_sale_100 rfl rfl ?_
    refine q_ishl 103 hX dX12_sale_102 rfl ?_
    refine q_ior 104 hX dX12_sale_103 rfl ?_
    obtain ⟨hb5, hres⟩ := gd hres
    refine q_iald 105 hX rfl aF_92 hb5 dX12_sale_104 rfl ?_
    refine q_iadd 106 hX dX12_sale_105 rfl ?_
    refine q_aload_n 107 hX 0 dX12_sale_106 rfl rfl rfl ?_
    refine q_getR 110 hX ci12 lf_RX12_120 fR_55_56 dX12_sale_107 rfl ?_
    refine q_iload_n 111 hX 3 dX12_sale_110 rfl rfl rfl ?_
    obtain ⟨hb6, hres⟩ := gd hres
    refine q_iald 112 hX rfl aF_92 hb6 dX12_sale_111 rfl ?_
    refine q_icmp_eq 115 hX 124 dX12_sale_112 rfl (by decide) (fun hc => ?_) (fun hc => ?_)
    · have hres := it_t hc hres
      refine q_iload 126 hX 5 dX12_sale_124 rfl rfl ?_
      refine q_iload_n 127 hX 2 dX12_sale_126 rfl rfl rfl ?_
      refine q_icmp_ne 130 hX 133 dX12_sale_127 rfl (by decide) (fun hc => ?_) (fun hc => ?_)
      · have hres := it_f hc hres
        refine q_iload_n 134 hX 3 dX12_sale_133 rfl rfl rfl ?_
        refine q_iconst 135 hX dX12_sale_134 rfl kI_1 ?_
        refine q_iload 137 hX 5 dX12_sale_135 rfl rfl ?_
        refine q_ishl 138 hX dX12_sale_137 rfl ?_
        refine q_ior 139 hX dX12_sale_138 rfl ?_
        refine q_istoreB_n 140 (lv0 := [(0, .ref (ad X 55)), (1, .int x1), (2, .int x2), (4, .int x4), (5, .int x5)]) hX dX12_sale_139 rfl rfl (by decide) rfl hres (fun v7 hres => ?_)
        refine q_iincB 143 4 (lv0 := [(3, .int v7), (0, .ref (ad X 55)), (1, .int x1), (2, .int x2), (5, .int x5)]) hX dX12_sale_140 rfl rfl kI_1 (by decide) rfl hres (fun v8 hres => ?_)
        refine q_goto 67 hX dX12_sale_143 (by decide) ?_
        exact q_sub [2, 3, 4, 1, 0] rfl (hrc67 _ _ _ _ _ hres)
      · have hres := it_t hc hres
        refine q_iload 132 hX 4 dX12_sale_130 rfl rfl ?_
        exact q_iret hX (eqi hq hres) dX12_sale_132
    · have hres := it_f hc hres
      exact q_sub [0, 1, 2, 3, 4, 5] rfl (wfX12_sale_115 hX hq hrc67 hrc76 hres)
def fX12_sale_76 (rc67 : St → Int32 → Int32 → Int32 → Int32 → Option (Int32 × St)) : Nat → St → Int32 → Int32 → Int32 → Int32 → Int32 → Option (Int32 × St)
  | 0 => fun _ _ _ _ _ _ => none
  | k + 1 => fun S x1 x2 x3 x4 x5 => bX12_sale_76 rc67 (fX12_sale_76 rc67 k) S x1 x2 x3 x4 x5
theorem wfX12_sale_76 {X : CX} (hX : Ok RX12 cX12_sale (some .int) 55 40 6 X) {rr : Int32 × St} (hq : rs X = (some (.int rr.1), rr.2)) {rc67 : St → Int32 → Int32 → Int32 → Int32 → Option (Int32 × St)} (hrc67 : ∀ (S : St) (x1 : Int32) (x2 : Int32) (x3 : Int32) (x4 : Int32), rc67 S x1 x2 x3 x4 = some rr → Wat 55 40 3 6 X 67 [(0, .ref (ad X 55)), (1, .int x1), (2, .int x2), (3, .int x3), (4, .int x4)] [] S) (k : Nat) : ∀ (S : St) (x1 : Int32) (x2 : Int32) (x3 : Int32) (x4 : Int32) (x5 : Int32), fX12_sale_76 rc67 k S x1 x2 x3 x4 x5 = some rr → Wat 55 40 3 6 X 76 [(0, .ref (ad X 55)), (1, .int x1), (2, .int x2), (3, .int x3), (4, .int x4), (5, .int x5)] [] S := by
  induction k with
  | zero => intro S x1 x2 x3 x4 x5 hres; exact absurd hres (by simp [fX12_sale_76])
  | succ k ih => intro S x1 x2 x3 x4 x5 hres; exact wbX12_sale_76 hX hq hrc67 ih hres
def bX12_sale_67 (rc67 : St → Int32 → Int32 → Int32 → Int32 → Option (Int32 × St)) (S : St) (x1 : Int32) (x2 : Int32) (x3 : Int32) (x4 : Int32) : Option (Int32 × St) :=
  if x1 ≤ x4 then (some ((-1 : Int32), S)) else (fX12_sale_76 rc67 100 S x1 x2 x3 x4 (0 : Int32))
theorem wbX12_sale_67 {X : CX} (hX : Ok RX12 cX12_sale (some .int) 55 40 6 X) {rr : Int32 × St} (hq : rs X = (some (.int rr.1), rr.2)) {rc67 : St → Int32 → Int32 → Int32 → Int32 → Option (Int32 × St)} (hrc67 : ∀ (S : St) (x1 : Int32) (x2 : Int32) (x3 : Int32) (x4 : Int32), rc67 S x1 x2 x3 x4 = some rr → Wat 55 40 3 6 X 67 [(0, .ref (ad X 55)), (1, .int x1), (2, .int x2), (3, .int x3), (4, .int x4)] [] S) {S : St} {x1 : Int32} {x2 : Int32} {x3 : Int32} {x4 : Int32} (hres : bX12_sale_67 rc67 S x1 x2 x3 x4 = some rr) : Wat 55 40 3 6 X 67 [(0, .ref (ad X 55)), (1, .int x1), (2, .int x2), (3, .int x3), (4, .int x4)] [] S := by
  unfold bX12_sale_67 at hres
  refine q_iload 69 hX 4 dX12_sale_67 rfl rfl ?_
  refine q_iload_n 70 hX 1 dX12_sale_69 rfl rfl rfl ?_
  refine q_icmp_ge 73 hX 146 dX12_sale_70 rfl (by decide) (fun hc => ?_) (fun hc => ?_)
  · have hres := it_t hc hres
    refine q_iconst 147 hX dX12_sale_146 rfl kI_m1 ?_
    exact q_iret hX (eqi hq hres) dX12_sale_147
  · have hres := it_f hc hres
    refine q_iconst 74 hX dX12_sale_73 rfl kI_0 ?_
    refine q_istore 76 (lv' := [(5, .int (0 : Int32)), (0, .ref (ad X 55)), (1, .int x1), (2, .int x2), (3, .int x3), (4, .int x4)]) hX dX12_sale_74 rfl (by decide) rfl ?_
    exact q_sub [1, 2, 3, 4, 5, 0] rfl (wfX12_sale_76 hX hq hrc67 _ _ _ _ _ _ _ hres)
def fX12_sale_67 : Nat → St → Int32 → Int32 → Int32 → Int32 → Option (Int32 × St)
  | 0 => fun _ _ _ _ _ => none
  | k + 1 => fun S x1 x2 x3 x4 => bX12_sale_67 (fX12_sale_67 k) S x1 x2 x3 x4
theorem wfX12_sale_67 {X : CX} (hX : Ok RX12 cX12_sale (some .int) 55 40 6 X) {rr : Int32 × St} (hq : rs X = (some (.int rr.1), rr.2)) (k : Nat) : ∀ (S : St) (x1 : Int32) (x2 : Int32) (x3 : Int32) (x4 : Int32), fX12_sale_67 k S x1 x2 x3 x4 = some rr → Wat 55 40 3 6 X 67 [(0, .ref (ad X 55)), (1, .int x1), (2, .int x2), (3, .int x3), (4, .int x4)] [] S := by
  induction k with
  | zero => intro S x1 x2 x3 x4 hres; exact absurd hres (by simp [fX12_sale_67])
  | succ k ih => intro S x1 x2 x3 x4 hres; exact wbX12_sale_67 hX hq ih hres
def fX12_sale_27 (S : St) (x1 : Int32) (x2 : Int32) : Option (Int32 × St) :=
  if (x1 * x1) ≤ (S.1 55 11) then (bS (pI S 55 11 (0 : Int32)) fun S1 => bv (fX12_laysSale S1 x1) fun S2 => if x2 = (100 : Int32) then (some ((S2.1 92 0), S2)) else (fX12_sale_67 100 S2 x1 x2 (0 : Int32) (0 : Int32))) else (some ((-1 : Int32), S))
theorem wfX12_sale_27 {X : CX} (hX : Ok RX12 cX12_sale (some .int) 55 40 6 X) {rr : Int32 × St} (hq : rs X = (some (.int rr.1), rr.2)) {S : St} {x1 : Int32} {x2 : Int32} (hres : fX12_sale_27 S x1 x2 = some rr) : Wat 55 40 3 6 X 27 [(0, .ref (ad X 55)), (1, .int x1), (2, .int x2)] [] S := by
  unfold fX12_sale_27 at hres
  refine q_iload_n 28 hX 1 dX12_sale_27 rfl rfl rfl ?_
  refine q_iload_n 29 hX 1 dX12_sale_28 rfl rfl rfl ?_
  refine q_imul 30 hX dX12_sale_29 rfl ?_
  refine q_aload_n 31 hX 0 dX12_sale_30 rfl rfl rfl ?_
  refine q_getI 34 hX ci12 lf_RX12_162 fI_55_11 dX12_sale_31 rfl ?_
  refine q_icmp_le 37 hX 39 dX12_sale_34 rfl (by decide) (fun hc => ?_) (fun hc => ?_)
  · have hres := it_t hc hres
    refine q_aload_n 40 hX 0 dX12_sale_39 rfl rfl rfl ?_
    refine q_iconst 41 hX dX12_sale_40 rfl kI_0 ?_
    refine q_putI 44 hX ci12 lf_RX12_162 fI_55_11 (nar_i rfl) dX12_sale_41 rfl ?_
    refine q_bS hres (fun S1 _ hres => ?_)
    refine q_aload_n 45 hX 0 dX12_sale_44 rfl rfl rfl ?_
    refine q_iload_n 46 hX 1 dX12_sale_45 rfl rfl rfl ?_
    obtain ⟨S2, hk1, hres⟩ := obv hres
    refine q_callVv 49 (st := []) (As := [.int x1]) hX (cX12_laysSale9 hX.dj hk1) cv_RX12_437 ci12 oB_55 rfl (by decide) rfl (Nat.le_of_ble_eq_true rfl) dX12_sale_46 rfl ?_
    refine q_iload_n 50 hX 2 dX12_sale_49 rfl rfl rfl ?_
    refine q_bipush 52 hX dX12_sale_50 rfl kB_100 ?_
    refine q_icmp_ne 55 hX 62 dX12_sale_52 rfl (by decide) (fun hc => ?_) (fun hc => ?_)
    · have hres := it_f hc hres
      refine q_iconst 63 hX dX12_sale_62 rfl kI_0 ?_
      refine q_istore_n 64 (lv' := [(3, .int (0 : Int32)), (0, .ref (ad X 55)), (1, .int x1), (2, .int x2)]) hX dX12_sale_63 rfl rfl (by decide) rfl ?_
      refine q_iconst 65 hX dX12_sale_64 rfl kI_0 ?_
      refine q_istore 67 (lv' := [(4, .int (0 : Int32)), (3, .int (0 : Int32)), (0, .ref (ad X 55)), (1, .int x1), (2, .int x2)]) hX dX12_sale_65 rfl (by decide) rfl ?_
      exact q_sub [2, 3, 4, 1, 0] rfl (wfX12_sale_67 hX hq _ _ _ _ _ _ hres)
    · have hres := it_t hc hres
      refine q_aload_n 56 hX 0 dX12_sale_55 rfl rfl rfl ?_
      refine q_getR 59 hX ci12 lf_RX12_120 fR_55_56 dX12_sale_56 rfl ?_
      refine q_iconst 60 hX dX12_sale_59 rfl kI_0 ?_
      refine q_iald 61 hX kU_0 aF_92 kN_0_256 dX12_sale_60 rfl ?_
      exact q_iret hX (eqi hq hres) dX12_sale_61
  · have hres := it_f hc hres
    refine q_iconst 38 hX dX12_sale_37 rfl kI_m1 ?_
    exact q_iret hX (eqi hq hres) dX12_sale_38
def fX12_sale (S : St) (x1 : Int32) (x2 : Int32) : Option (Int32 × St) :=
  bi (fX12_in S x1 (2 : Int32) (8 : Int32)) fun r2 S1 => if r2 = 0 then (some ((-1 : Int32), S1)) else (bi (fX12_in S1 x2 (0 : Int32) (x1 - (1 : Int32))) fun r4 S2 => if r4 = 0 then (if x2 = (100 : Int32) then (fX12_sale_27 S2 x1 x2) else (some ((-1 : Int32), S2))) else (fX12_sale_27 S2 x1 x2))
theorem wfX12_sale {X : CX} (hX : Ok RX12 cX12_sale (some .int) 55 40 6 X) {rr : Int32 × St} (hq : rs X = (some (.int rr.1), rr.2)) {S : St} {x1 : Int32} {x2 : Int32} (hres : fX12_sale S x1 x2 = some rr) : Wat 55 40 3 6 X 0 [(0, .ref (ad X 55)), (1, .int x1), (2, .int x2)] [] S := by
  unfold fX12_sale at hres
  refine q_iload_n 1 hX 1 dX12_sale_0 rfl rfl rfl ?_
  refine q_iconst 2 hX dX12_sale_1 rfl kI_2 ?_
  refine q_bipush 4 hX dX12_sale_2 rfl kB_8 ?_
  obtain ⟨r2, S1, hk1, hres⟩ := ob hres
  refine q_callSi 7 (st := []) (As := [.int x1, .int (2 : Int32), .int (8 : Int32)]) hX (cX12_in9 hX.dj hk1) cs_RX12_134 rfl (by decide) rfl (Nat.le_of_ble_eq_true rfl) dX12_sale_4 rfl ?_
  refine q_if_eq 10 hX 37 dX12_sale_7 rfl (by decide) (fun hc => ?_) (fun hc => ?_)
  · have hres := it_t hc hres
    refine q_iconst 38 hX dX12_sale_37 rfl kI_m1 ?_
    exact q_iret hX (eqi hq hres) dX12_sale_38
  · have hres := it_f hc hres
    refine q_iload_n 11 hX 2 dX12_sale_10 rfl rfl rfl ?_
    refine q_iconst 12 hX dX12_sale_11 rfl kI_0 ?_
    refine q_iload_n 13 hX 1 dX12_sale_12 rfl rfl rfl ?_
    refine q_iconst 14 hX dX12_sale_13 rfl kI_1 ?_
    refine q_isub 15 hX dX12_sale_14 rfl ?_
    obtain ⟨r4, S2, hk3, hres⟩ := ob hres
    refine q_callSi 18 (st := []) (As := [.int x2, .int (0 : Int32), .int (x1 - (1 : Int32))]) hX (cX12_in9 hX.dj hk3) cs_RX12_134 rfl (by decide) rfl (Nat.le_of_ble_eq_true rfl) dX12_sale_15 rfl ?_
    refine q_if_ne 21 hX 27 dX12_sale_18 rfl (by decide) (fun hc => ?_) (fun hc => ?_)
    · have hres := it_f hc hres
      exact q_sub [0, 1, 2] rfl (wfX12_sale_27 hX hq hres)
    · have hres := it_t hc hres
      refine q_iload_n 22 hX 2 dX12_sale_21 rfl rfl rfl ?_
      refine q_bipush 24 hX dX12_sale_22 rfl kB_100 ?_
      refine q_icmp_ne 27 hX 37 dX12_sale_24 rfl (by decide) (fun hc => ?_) (fun hc => ?_)
      · have hres := it_f hc hres
        refine q_iconst 38 hX dX12_sale_37 rfl kI_m1 ?_
        exact q_iret hX (eqi hq hres) dX12_sale_38
      · have hres := it_t hc hres
        exact q_sub [0, 1, 2] rfl (wfX12_sale_27 hX hq hres)
theorem cX12_sale9 {l : Launch} {w : WD} (hj : Dj w 55 40) {rr : Int32 × St} {S : St} {x1 : Int32} {x2 : Int32} (hres : fX12_sale S x1 x2 = some rr) : Ct l yX12_sale cX12_sale 6 (some .int) 3 w 55 40 [.ref (w.1 55), .int x1, .int x2] S (some (.int rr.1), rr.2) := by
  refine Ct.of (lv := [(0, .ref (w.1 55)), (1, .int x1), (2, .int x2)]) hj (by decide +kernel) (Nat.le_of_ble_eq_true rfl) rfl ?_
  rintro X rfl rfl hq hX
  exact wfX12_sale hX hq hres
