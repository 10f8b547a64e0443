def fX11_turn_25 (S : St) (x1 : Int32) (x2 : Int32) : Option (Int32 × St) :=
  bv (fX4_give S x1 x2) fun S1 => some ((1 : Int32), S1)
theorem wfX11_turn_25 {X : CX} (hX : Ok RX11 cX11_turn (some .boolean) 0 55 3 X) {rr : Int32 × St} (hq : rs X = (some (.int rr.1), rr.2)) {S : St} {x1 : Int32} {x2 : Int32} (hres : fX11_turn_25 S x1 x2 = some rr) : Wat 0 55 2 3 X 25 [(0, .ref (ad X 0)), (1, .int x1), (2, .int x2)] [] S := by
  unfold fX11_turn_25 at hres
  refine q_aload_n 26 hX 0 dX11_turn_25 rfl rfl rfl ?_
  refine q_getR 29 hX ci11 lf_RX11_47 fR_0_4 dX11_turn_26 rfl ?_
  refine q_iload_n 30 hX 1 dX11_turn_29 rfl rfl rfl ?_
  refine q_iload_n 31 hX 2 dX11_turn_30 rfl rfl rfl ?_
  obtain ⟨S1, hk1, hres⟩ := obv hres
  refine q_callVv 34 (st := []) (As := [.int x1, .int x2]) hX (cX4_give9 hX.dj hk1) cv_RX11_109 ci4 oB_8 rfl (by decide) rfl (Nat.le_of_ble_eq_true rfl) dX11_turn_31 rfl ?_
  refine q_iconst 35 hX dX11_turn_34 rfl kI_1 ?_
  exact q_zret hX (by decide) (eqi hq hres) dX11_turn_35
def fX11_turn (S : St) (x1 : Int32) (x2 : Int32) : Option (Int32 × St) :=
  bi (fX11_isTurn S x1) fun r2 S1 => if r2 = 0 then (some ((0 : Int32), S1)) else (if x2 = (-1 : Int32) then (fX11_turn_25 S1 x1 x2) else (if isT (S1.2.2 0) then bi (fX8_hasHouse (S1.2.2 0) S1 x2) fun r5 S2 => if r5 = 0 then (some ((0 : Int32), S2)) else (fX11_turn_25 S2 x1 x2) else none))
theorem wfX11_turn {X : CX} (hX : Ok RX11 cX11_turn (some .boolean) 0 55 3 X) {rr : Int32 × St} (hq : rs X = (some (.int rr.1), rr.2)) {S : St} {x1 : Int32} {x2 : Int32} (hres : fX11_turn S x1 x2 = some rr) : Wat 0 55 2 3 X 0 [(0, .ref (ad X 0)), (1, .int x1), (2, .int x2)] [] S := by
  unfold fX11_turn at hres
  refine q_iload_n 1 hX 1 dX11_turn_0 rfl rfl rfl ?_
  obtain ⟨r2, S1, hk1, hres⟩ := ob hres
  refine q_callSi 4 (st := []) (As := [.int x1]) hX (cX11_isTurn9 hX.dj hk1) cs_RX11_102 rfl (by decide) rfl (Nat.le_of_ble_eq_true rfl) dX11_turn_1 rfl ?_
  refine q_if_eq 7 hX 23 dX11_turn_4 rfl (by decide) (fun hc => ?_) (fun hc => ?_)
  · have hres := it_t hc hres
    refine q_iconst 24 hX dX11_turn_23 rfl kI_0 ?_
    exact q_zret hX (by decide) (eqi hq hres) dX11_turn_24
  · have hres := it_f hc hres
    refine q_iload_n 8 hX 2 dX11_turn_7 rfl rfl rfl ?_
    refine q_iconst 9 hX dX11_turn_8 rfl kI_m1 ?_
    refine q_icmp_eq 12 hX 25 dX11_turn_9 rfl (by decide) (fun hc => ?_) (fun hc => ?_)
    · have hres := it_t hc hres
      exact q_sub [0, 1, 2] rfl (wfX11_turn_25 hX hq hres)
    · have hres := it_f hc hres
      refine q_aload_n 13 hX 0 dX11_turn_12 rfl rfl rfl ?_
      obtain ⟨hd3, hres⟩ := gd hres
      refine q_getD 16 hX ci11 lf_RX11_81 fD_0_10 dX11_turn_13 rfl ?_
      refine q_iload_n 17 hX 2 dX11_turn_16 rfl rfl rfl ?_
      obtain ⟨r5, S2, hk4, hres⟩ := ob hres
      refine q_callVi 20 (st := []) (As := [.int x2]) hX (cX8_hasHouse9 hX.dj hd3 hk4) cv_RX11_106 ci8 (oB_T hd3) rfl (by decide) rfl (Nat.le_of_ble_eq_true rfl) dX11_turn_17 rfl ?_
      refine q_if_ne 23 hX 25 dX11_turn_20 rfl (by decide) (fun hc => ?_) (fun hc => ?_)
      · have hres := it_f hc hres
        exact q_sub [0, 1, 2] rfl (wfX11_turn_25 hX hq hres)
      · have hres := it_t hc hres
        refine q_iconst 24 hX dX11_turn_23 rfl kI_0 ?_
        exact q_zret hX (by decide) (eqi hq hres) dX11_turn_24
theorem cX11_turn9 {l : Launch} {w : WD} (hj : Dj w 0 55) {rr : Int32 × St} {S : St} {x1 : Int32} {x2 : Int32} (hres : fX11_turn S x1 x2 = some rr) : Ct l yX11_turn cX11_turn 3 (some .boolean) 2 w 0 55 [.ref (w.1 0), .int x1, .int x2] S (some (.int rr.1), rr.2) := by
  refine Ct.of (lv := [(0, .ref (w.1 0)), (1, .int x1), (2, .int x2)]) hj (by decide +kernel) (Nat.le_of_ble_eq_true rfl) rfl ?_
  rintro X rfl rfl hq hX
  exact wfX11_turn hX hq hres
def fX11_feed (S : St) (x1 : Int32) (x2 : Int32) (x3 : Int32) (x4 : Int32) (x5 : Int32) : Option (Int32 × St) :=
  bi (fX7_hasRoom S) fun r2 S1 => if r2 = 0 then (some ((-1 : Int32), S1)) else (bv (fX7_addInt S1 x1) fun S2 => bv (fX7_addInt S2 x2) fun S3 => bv (fX7_addInt S3 x3) fun S4 => bv (fX7_addInt S4 x4) fun S5 => bv (fX7_addInt S5 x5) fun S6 => bi (fX7_size S6) fun r9 S7 => some (r9, S7))
theorem wfX11_feed {X : CX} (hX : Ok RX11 cX11_feed (some .int) 0 55 6 X) {rr : Int32 × St} (hq : rs X = (some (.int rr.1), rr.2)) {S : St} {x1 : Int32} {x2 : Int32} {x3 : Int32} {x4 : Int32} {x5 : Int32} (hres : fX11_feed S x1 x2 x3 x4 x5 = some rr) : Wat 0 55 1 6 X 0 [(0, .ref (ad X 0)), (1, .int x1), (2, .int x2), (3, .int x3), (4, .int x4), (5, .int x5)] [] S := by
  unfold fX11_feed at hres
  refine q_aload_n 1 hX 0 dX11_feed_0 rfl rfl rfl ?_
  refine q_getR 4 hX ci11 lf_RX11_10 fR_0_0 dX11_feed_1 rfl ?_
  obtain ⟨r2, S1, hk1, hres⟩ := ob hres
  refine q_callVi 7 (st := []) (As := []) hX (cX7_hasRoom9 hX.dj hk1) cv_RX11_113 ci7 oB_1 rfl (by decide) rfl (Nat.le_of_ble_eq_true rfl) dX11_feed_4 rfl ?_
  refine q_if_ne 10 hX 12 dX11_feed_7 rfl (by decide) (fun hc => ?_) (fun hc => ?_)
  · have hres := it_f hc hres
    refine q_aload_n 13 hX 0 dX11_feed_12 rfl rfl rfl ?_
    refine q_getR 16 hX ci11 lf_RX11_10 fR_0_0 dX11_feed_13 rfl ?_
    refine q_iload_n 17 hX 1 dX11_feed_16 rfl rfl rfl ?_
    obtain ⟨S2, hk3, hres⟩ := obv hres
    refine q_callVv 20 (st := []) (As := [.int x1]) hX (cX7_addInt9 hX.dj hk3) cv_RX11_117 ci7 oB_1 rfl (by decide) rfl (Nat.le_of_ble_eq_true rfl) dX11_feed_17 rfl ?_
    refine q_aload_n 21 hX 0 dX11_feed_20 rfl rfl rfl ?_
    refine q_getR 24 hX ci11 lf_RX11_10 fR_0_0 dX11_feed_21 rfl ?_
    refine q_iload_n 25 hX 2 dX11_feed_24 rfl rfl rfl ?_
    obtain ⟨S3, hk4, hres⟩ := obv hres
    refine q_callVv 28 (st := []) (As := [.int x2]) hX (cX7_addInt9 hX.dj hk4) cv_RX11_117 ci7 oB_1 rfl (by decide) rfl (Nat.le_of_ble_eq_true rfl) dX11_feed_25 rfl ?_
    refine q_aload_n 29 hX 0 dX11_feed_28 rfl rfl rfl ?_
    refine q_getR 32 hX ci11 lf_RX11_10 fR_0_0 dX11_feed_29 rfl ?_
    refine q_iload_n 33 hX 3 dX11_feed_32 rfl rfl rfl ?_
    obtain ⟨S4, hk5, hres⟩ := obv hres
    refine q_callVv 36 (st := []) (As := [.int x3]) hX (cX7_addInt9 hX.dj hk5) cv_RX11_117 ci7 oB_1 rfl (by decide) rfl (Nat.le_of_ble_eq_true rfl) dX11_feed_33 rfl ?_
    refine q_aload_n 37 hX 0 dX11_feed_36 rfl rfl rfl ?_
    refine q_getR 40 hX ci11 lf_RX11_10 fR_0_0 dX11_feed_37 rfl ?_
    refine q_iload 42 hX 4 dX11_feed_40 rfl rfl ?_
    obtain ⟨S5, hk6, hres⟩ := obv hres
    refine q_callVv 45 (st := []) (As := [.int x4]) hX (cX7_addInt9 hX.dj hk6) cv_RX11_117 ci7 oB_1 rfl (by decide) rfl (Nat.le_of_ble_eq_true rfl) dX11_feed_42 rfl ?_
    refine q_aload_n 46 hX 0 dX11_feed_45 rfl rfl rfl ?_
    refine q_getR 49 hX ci11 lf_RX11_10 fR_0_0 dX11_feed_46 rfl ?_
    refine q_iload 51 hX 5 dX11_feed_49 rfl rfl ?_
    obtain ⟨S6, hk7, hres⟩ := obv hres
    refine q_callVv 54 (st := []) (As := [.int x5]) hX (cX7_addInt9 hX.dj hk7) cv_RX11_117 ci7 oB_1 rfl (by decide) rfl (Nat.le_of_ble_eq_true rfl) dX11_feed_51 rfl ?_
    refine q_aload_n 55 hX 0 dX11_feed_54 rfl rfl rfl ?_
    refine q_getR 58 hX ci11 lf_RX11_10 fR_0_0 dX11_feed_55 rfl ?_
    obtain ⟨r9, S7, hk8, hres⟩ := ob hres
    refine q_callVi 61 (st := []) (As := []) hX (cX7_size9 hX.dj hk8) cv_RX11_121 ci7 oB_1 rfl (by decide) rfl (Nat.le_of_ble_eq_true rfl) dX11_feed_58 rfl ?_
    exact q_iret hX (eqi hq hres) dX11_feed_61
  · have hres := it_t hc hres
    refine q_iconst 11 hX dX11_feed_10 rfl kI_m1 ?_
    exact q_iret hX (eqi hq hres) dX11_feed_11
theorem cX11_feed9 {l : Launch} {w : WD} (hj : Dj w 0 55) {rr : Int32 × St} {S : St} {x1 : Int32} {x2 : Int32} {x3 : Int32} {x4 : Int32} {x5 : Int32} (hres : fX11_feed S x1 x2 x3 x4 x5 = some rr) : Ct l yX11_feed cX11_feed 6 (some .int) 1 w 0 55 [.ref (w.1 0), .int x1, .int x2, .int x3, .int x4, .int x5] S (some (.int rr.1), rr.2) := by
  refine Ct.of (lv := [(0, .ref (w.1 0)), (1, .int x1), (2, .int x2), (3, .int x3), (4, .int x4), (5, .int x5)]) hj (by decide +kernel) (Nat.le_of_ble_eq_true rfl) rfl ?_
  rintro X rfl rfl hq hX
  exact wfX11_feed hX hq hres
def fX11_law (S : St) (x1 : Int32) : Option (Int32 × St) :=
  if x1 < (1 : Int32) then (some ((-1 : Int32), S)) else (if (240 : Int32) < x1 then (some ((-1 : Int32), S)) else (bi (fX7_holds S x1) fun r2 S1 => if r2 = 0 then (some ((-1 : Int32), S1)) else (if isL (S1.2.2 3) then bi (fX3_readLaw (S1.2.2 3) S1 x1) fun r5 S2 => bv (fX7_clear S2) fun S3 => if r5 < 0 then (some (r5, S3)) else (if isL (S3.2.2 2) then if isL (S3.2.2 3) then bS (pR S3 2 (S3.2.2 3)) fun S4 => bS (pR S4 3 (S3.2.2 2)) fun S5 => some (r5, S5) else none else none) else none)))
theorem wfX11_law {X : CX} (hX : Ok RX11 cX11_law (some .int) 0 55 4 X) {rr : Int32 × St} (hq : rs X = (some (.int rr.1), rr.2)) {S : St} {x1 : Int32} (hres : fX11_law S x1 = some rr) : Wat 0 55 69 4 X 0 [(0, .ref (ad X 0)), (1, .int x1)] [] S := by
  unfold fX11_law at hres
  refine q_iload_n 1 hX 1 dX11_law_0 rfl rfl rfl ?_
  refine q_iconst 2 hX dX11_law_1 rfl kI_1 ?_
  refine q_icmp_lt 5 hX 23 dX11_law_2 rfl (by decide) (fun hc => ?_) (fun hc => ?_)
  · have hres := it_t hc hres
    refine q_iconst 24 hX dX11_law_23 rfl kI_m1 ?_
    exact q_iret hX (eqi hq hres) dX11_law_24
  · have hres := it_f hc hres
    refine q_iload_n 6 hX 1 dX11_law_5 rfl rfl rfl ?_
    refine q_sipush 9 hX dX11_law_6 rfl kS_240 ?_
    refine q_icmp_gt 12 hX 23 dX11_law_9 rfl (by decide) (fun hc => ?_) (fun hc => ?_)
    · have hres := it_t hc hres
      refine q_iconst 24 hX dX11_law_23 rfl kI_m1 ?_
      exact q_iret hX (eqi hq hres) dX11_law_24
    · have hres := it_f hc hres
      refine q_aload_n 13 hX 0 dX11_law_12 rfl rfl rfl ?_
      refine q_getR 16 hX ci11 lf_RX11_10 fR_0_0 dX11_law_13 rfl ?_
      refine q_iload_n 17 hX 1 dX11_law_16 rfl rfl rfl ?_
      obtain ⟨r2, S1, hk1, hres⟩ := ob hres
      refine q_callVi 20 (st := []) (As := [.int x1]) hX (cX7_holds9 hX.dj hk1) cv_RX11_125 ci7 oB_1 rfl (by decide) rfl (Nat.le_of_ble_eq_true rfl) dX11_law_17 rfl ?_
      refine q_if_ne 23 hX 25 dX11_law_20 rfl (by decide) (fun hc => ?_) (fun hc => ?_)
      · have hres := it_f hc hres
        refine q_aload_n 26 hX 0 dX11_law_25 rfl rfl rfl ?_
        refine q_getR 29 hX ci11 lf_RX11_40 fR_0_3 dX11_law_26 rfl ?_
        refine q_iload_n 30 hX 1 dX11_law_29 rfl rfl rfl ?_
        refine q_aload_n 31 hX 0 dX11_law_30 rfl rfl rfl ?_
        obtain ⟨hd3, hres⟩ := gd hres
        refine q_getD 34 hX ci11 lf_RX11_95 fD_0_13 dX11_law_31 rfl ?_
        obtain ⟨r5, S2, hk4, hres⟩ := ob hres
        refine q_callVi 37 (st := []) (As := [.int x1, .ref (ad X (S1.2.2 3))]) hX (cX3_readLaw9 hX.dj hd3 hk4) cv_RX11_128 ci3 oB_7 rfl (by decide) rfl (Nat.le_of_ble_eq_true rfl) dX11_law_34 rfl ?_
        refine q_istore_n 38 (lv' := [(2, .int r5), (0, .ref (ad X 0)), (1, .int x1)]) hX dX11_law_37 rfl rfl (by decide) rfl ?_
        refine q_aload_n 39 hX 1 dX11_law_38 rfl rfl rfl ?_
        refine q_getR 42 hX ci11 lf_RX11_10 fR_0_0 dX11_law_39 rfl ?_
        obtain ⟨S3, hk6, hres⟩ := obv hres
        refine q_callVv 45 (st := []) (As := []) hX (cX7_clear9 hX.dj hk6) cv_RX11_132 ci7 oB_1 rfl (by decide) rfl (Nat.le_of_ble_eq_true rfl) dX11_law_42 rfl ?_
        refine q_iload_n 46 hX 0 dX11_law_45 rfl rfl rfl ?_
        refine q_if_lt 49 hX 67 dX11_law_46 rfl (by decide) (fun hc => ?_) (fun hc => ?_)
        · have hres := it_t hc hres
          refine q_iload_n 68 hX 0 dX11_law_67 rfl rfl rfl ?_
          exact q_iret hX (eqi hq hres) dX11_law_68
        · have hres := it_f hc hres
          refine q_aload_n 50 hX 1 dX11_law_49 rfl rfl rfl ?_
          obtain ⟨hd7, hres⟩ := gd hres
          refine q_getD 53 hX ci11 lf_RX11_91 fD_0_12 dX11_law_50 rfl ?_
          refine q_astore_n 54 (lv' := [(3, .ref (ad X (S3.2.2 2))), (2, .int r5), (0, .ref (ad X 0)), (1, .int x1)]) hX dX11_law_53 rfl rfl (by decide) rfl ?_
          refine q_aload_n 55 hX 2 dX11_law_54 rfl rfl rfl ?_
          refine q_aload_n 56 hX 2 dX11_law_55 rfl rfl rfl ?_
          obtain ⟨hd8, hres⟩ := gd hres
          refine q_getD 59 hX ci11 lf_RX11_95 fD_0_13 dX11_law_56 rfl ?_
          refine q_putD12 62 hX ci11 lf_RX11_91 dX11_law_59 rfl ?_
          refine q_bS hres (fun S4 _ hres => ?_)
          refine q_aload_n 63 hX 2 dX11_law_62 rfl rfl rfl ?_
          refine q_aload_n 64 hX 0 dX11_law_63 rfl rfl rfl ?_
          refine q_putD13 67 hX ci11 lf_RX11_95 dX11_law_64 rfl ?_
          refine q_bS hres (fun S5 _ hres => ?_)
          refine q_iload_n 68 hX 1 dX11_law_67 rfl rfl rfl ?_
          exact q_iret hX (eqi hq hres) dX11_law_68
      · have hres := it_t hc hres
        refine q_iconst 24 hX dX11_law_23 rfl kI_m1 ?_
        exact q_iret hX (eqi hq hres) dX11_law_24
theorem cX11_law9 {l : Launch} {w : WD} (hj : Dj w 0 55) {rr : Int32 × St} {S : St} {x1 : Int32} (hres : fX11_law S x1 = some rr) : Ct l yX11_law cX11_law 4 (some .int) 69 w 0 55 [.ref (w.1 0), .int x1] S (some (.int rr.1), rr.2) := by
  refine Ct.of (lv := [(0, .ref (w.1 0)), (1, .int x1)]) hj (by decide +kernel) (Nat.le_of_ble_eq_true rfl) rfl ?_
  rintro X rfl rfl hq hX
  exact wfX11_law hX hq hres
def fX11_terrace (S : St) (x1 : Int32) : Option (Int32 × St) :=
  if x1 < (1 : Int32) then (some ((-1 : Int32), S)) else (if (200 : Int32) < x1 then (some ((-1 : Int32), S)) else (bi (fX7_holds S x1) fun r2 S1 => if r2 = 0 then (some ((-1 : Int32), S1)) else (if isT (S1.2.2 1) then bi (fX9_readTerrace (S1.2.2 1) S1 x1) fun r5 S2 => bv (fX7_clear S2) fun S3 => if r5 < 0 then (some (r5, S3)) else (if isT (S3.2.2 0) then if isT (S3.2.2 1) then bS (pR S3 0 (S3.2.2 1)) fun S4 => bS (pR S4 1 (S3.2.2 0)) fun S5 => if isT (S5.2.2 0) then bv (fX4_dropStrangers (S5.2.2 0) S5) fun S6 => bv (fX6_startAnew 19 S6) fun S7 => some (r5, S7) else none else none else none) else none)))
theorem wfX11_terrace {X : CX} (hX : Ok RX11 cX11_terrace (some .int) 0 55 4 X) {rr : Int32 × St} (hq : rs X = (some (.int rr.1), rr.2)) {S : St} {x1 : Int32} (hres : fX11_terrace S x1 = some rr) : Wat 0 55 7 4 X 0 [(0, .ref (ad X 0)), (1, .int x1)] [] S := by
  unfold fX11_terrace at hres
  refine q_iload_n 1 hX 1 dX11_terrace_0 rfl rfl rfl ?_
  refine q_iconst 2 hX dX11_terrace_1 rfl kI_1 ?_
  refine q_icmp_lt 5 hX 23 dX11_terrace_2 rfl (by decide) (fun hc => ?_) (fun hc => ?_)
  · have hres := it_t hc hres
    refine q_iconst 24 hX dX11_terrace_23 rfl kI_m1 ?_
    exact q_iret hX (eqi hq hres) dX11_terrace_24
  · have hres := it_f hc hres
    refine q_iload_n 6 hX 1 dX11_terrace_5 rfl rfl rfl ?_
    refine q_sipush 9 hX dX11_terrace_6 rfl kS_200 ?_
    refine q_icmp_gt 12 hX 23 dX11_terrace_9 rfl (by decide) (fun hc => ?_) (fun hc => ?_)
    · have hres := it_t hc hres
      refine q_iconst 24 hX dX11_terrace_23 rfl kI_m1 ?_
      exact q_iret hX (eqi hq hres) dX11_terrace_24
    · have hres := it_f hc hres
      refine q_aload_n 13 hX 0 dX11_terrace_12 rfl rfl rfl ?_
      refine q_getR 16 hX ci11 lf_RX11_10 fR_0_0 dX11_terrace_13 rfl ?_
      refine q_iload_n 17 hX 1 dX11_terrace_16 rfl rfl rfl ?_
      obtain ⟨r2, S1, hk1, hres⟩ := ob hres
      refine q_callVi 20 (st := []) (As := [.int x1]) hX (cX7_holds9 hX.dj hk1) cv_RX11_125 ci7 oB_1 rfl (by decide) rfl (Nat.le_of_ble_eq_true rfl) dX11_terrace_17 rfl ?_
      refine q_if_ne 23 hX 25 dX11_terrace_20 rfl (by decide) (fun hc => ?_) (fun hc => ?_)
      · have hres := it_f hc hres
        refine q_aload_n 26 hX 0 dX11_terrace_25 rfl rfl rfl ?_
        refine q_getR 29 hX ci11 lf_RX11_26 fR_0_1 dX11_terrace_26 rfl ?_
        refine q_iload_n 30 hX 1 dX11_terrace_29 rfl rfl rfl ?_
        refine q_aload_n 31 hX 0 dX11_terrace_30 rfl rfl rfl ?_
        obtain ⟨hd3, hres⟩ := gd hres
        refine q_getD 34 hX ci11 lf_RX11_85 fD_0_11 dX11_terrace_31 rfl ?_
        obtain ⟨r5, S2, hk4, hres⟩ := ob hres
        refine q_callVi 37 (st := []) (As := [.int x1, .ref (ad X (S1.2.2 1))]) hX (cX9_readTerrace9 hX.dj hd3 hk4) cv_RX11_135 ci9 oB_4 rfl (by decide) rfl (Nat.le_of_ble_eq_true rfl) dX11_terrace_34 rfl ?_
        refine q_istore_n 38 (lv' := [(2, .int r5), (0, .ref (ad X 0)), (1, .int x1)]) hX dX11_terrace_37 rfl rfl (by decide) rfl ?_
        refine q_aload_n 39 hX 1 dX11_terrace_38 rfl rfl rfl ?_
        refine q_getR 42 hX ci11 lf_RX11_10 fR_0_0 dX11_terrace_39 rfl ?_
        obtain ⟨S3, hk6, hres⟩ := obv hres
        refine q_callVv 45 (st := []) (As := []) hX (cX7_clear9 hX.dj hk6) cv_RX11_132 ci7 oB_1 rfl (by decide) rfl (Nat.le_of_ble_eq_true rfl) dX11_terrace_42 rfl ?_
        refine q_iload_n 46 hX 0 dX11_terrace_45 rfl rfl rfl ?_
        refine q_if_lt 49 hX 85 dX11_terrace_46 rfl (by decide) (fun hc => ?_) (fun hc => ?_)
        · have hres := it_t hc hres
          refine q_iload_n 86 hX 0 dX11_terrace_85 rfl rfl rfl ?_
          exact q_iret hX (eqi hq hres) dX11_terrace_86
        · have hres := it_f hc hres
          refine q_aload_n 50 hX 1 dX11_terrace_49 rfl rfl rfl ?_
          obtain ⟨hd7, hres⟩ := gd hres
          refine q_getD 53 hX ci11 lf_RX11_81 fD_0_10 dX11_terrace_50 rfl ?_
          refine q_astore_n 54 (lv' := [(3, .ref (ad X (S3.2.2 0))), (2, .int r5), (0, .ref (ad X 0)), (1, .int x1)]) hX dX11_terrace_53 rfl rfl (by decide) rfl ?_
          refine q_aload_n 55 hX 2 dX11_terrace_54 rfl rfl rfl ?_
          refine q_aload_n 56 hX 2 dX11_terrace_55 rfl rfl rfl ?_
          obtain ⟨hd8, hres⟩ := gd hres
          refine q_getD 59 hX ci11 lf_RX11_85 fD_0_11 dX11_terrace_56 rfl ?_
          refine q_putD10 62 hX ci11 lf_RX11_81 dX11_terrace_59 rfl ?_
          refine q_bS hres (fun S4 _ hres => ?_)
          refine q_aload_n 63 hX 2 dX11_terrace_62 rfl rfl rfl ?_
          refine q_aload_n 64 hX 0 dX11_terrace_63 rfl rfl rfl ?_
          refine q_putD11 67 hX ci11 lf_RX11_85 dX11_terrace_64 rfl ?_
          refine q_bS hres (fun S5 _ hres => ?_)
          refine q_aload_n 68 hX 2 dX11_terrace_67 rfl rfl rfl ?_
          refine q_getR 71 hX ci11 lf_RX11_47 fR_0_4 dX11_terrace_68 rfl ?_
          refine q_aload_n 72 hX 2 dX11_terrace_71 rfl rfl rfl ?_
          obtain ⟨hd9, hres⟩ := gd hres
          refine q_getD 75 hX ci11 lf_RX11_81 fD_0_10 dX11_terrace_72 rfl ?_
          obtain ⟨S6, hk10, hres⟩ := obv hres
          refine q_callVv 78 (st := []) (As := [.ref (ad X (S5.2.2 0))]) hX (cX4_dropStrangers9 hX.dj hd9 hk10) cv_RX11_139 ci4 oB_8 rfl (by decide) rfl (Nat.le_of_ble_eq_true rfl) dX11_terrace_75 rfl ?_
          refine q_aload_n 79 hX 2 dX11_terrace_78 rfl rfl rfl ?_
          refine q_getR 82 hX ci11 lf_RX11_68 fR_0_7 dX11_terrace_79 rfl ?_
          obtain ⟨S7, hk11, hres⟩ := obv hres
          refine q_callVv 85 (st := []) (As := []) hX (cX6_startAnew9 hX.dj (by decide) hk11) cv_RX11_143 ci6 oB_19 rfl (by decide) rfl (Nat.le_of_ble_eq_true rfl) dX11_terrace_82 rfl ?_
          refine q_iload_n 86 hX 1 dX11_terrace_85 rfl rfl rfl ?_
          exact q_iret hX (eqi hq hres) dX11_terrace_86
      · have hres := it_t hc hres
        refine q_iconst 24 hX dX11_terrace_23 rfl kI_m1 ?_
        exact q_iret hX (eqi hq hres) dX11_terrace_24
theorem cX11_terrace9 {l : Launch} {w : WD} (hj : Dj w 0 55) {rr : Int32 × St} {S : St} {x1 : Int32} (hres : fX11_terrace S x1 = some rr) : Ct l yX11_terrace cX11_terrace 4 (some .int) 7 w 0 55 [.ref (w.1 0), .int x1] S (some (.int rr.1), rr.2) := by
  refine Ct.of (lv := [(0, .ref (w.1 0)), (1, .int x1)]) hj (by decide +kernel) (Nat.le_of_ble_eq_true rfl) rfl ?_
  rintro X rfl rfl hq hX
  exact wfX11_terrace hX hq hres
def fX11_rota (S : St) (x1 : Int32) : Option (Int32 × St) :=
  if x1 < (1 : Int32) then (some ((-1 : Int32), S)) else (if (60 : Int32) < x1 then (some ((-1 : Int32), S)) else (bi (fX7_holds S x1) fun r2 S1 => if r2 = 0 then (some ((-1 : Int32), S1)) else (if isT (S1.2.2 0) then bi (fX5_readRota (S1.2.2 0) S1 x1) fun r5 S2 => bv (fX7_clear S2) fun S3 => some (r5, S3) else none)))
theorem wfX11_rota {X : CX} (hX : Ok RX11 cX11_rota (some .int) 0 55 3 X) {rr : Int32 × St} (hq : rs X = (some (.int rr.1), rr.2)) {S : St} {x1 : Int32} (hres : fX11_rota S x1 = some rr) : Wat 0 55 18 3 X 0 [(0, .ref (ad X 0)), (1, .int x1)] [] S := by
  unfold fX11_rota at hres
  refine q_iload_n 1 hX 1 dX11_rota_0 rfl rfl rfl ?_
  refine q_iconst 2 hX dX11_rota_1 rfl kI_1 ?_
  refine q_icmp_lt 5 hX 22 dX11_rota_2 rfl (by decide) (fun hc => ?_) (fun hc => ?_)
  · have hres := it_t hc hres
    refine q_iconst 23 hX dX11_rota_22 rfl kI_m1 ?_
    exact q_iret hX (eqi hq hres) dX11_rota_23
  · have hres := it_f hc hres
    refine q_iload_n 6 hX 1 dX11_rota_5 rfl rfl rfl ?_
    refine q_bipush 8 hX dX11_rota_6 rfl kB_60 ?_
    refine q_icmp_gt 11 hX 22 dX11_rota_8 rfl (by decide) (fun hc => ?_) (fun hc => ?_)
    · have hres := it_t hc hres
      refine q_iconst 23 hX dX11_rota_22 rfl kI_m1 ?_
      exact q_iret hX (eqi hq hres) dX11_rota_23
    · have hres := it_f hc hres
      refine q_aload_n 12 hX 0 dX11_rota_11 rfl rfl rfl ?_
      refine q_getR 15 hX ci11 lf_RX11_10 fR_0_0 dX11_rota_12 rfl ?_
      refine q_iload_n 16 hX 1 dX11_rota_15 rfl rfl rfl ?_
      obtain ⟨r2, S1, hk1, hres⟩ := ob hres
      refine q_callVi 19 (st := []) (As := [.int x1]) hX (cX7_holds9 hX.dj hk1) cv_RX11_125 ci7 oB_1 rfl (by decide) rfl (Nat.le_of_ble_eq_true rfl) dX11_rota_16 rfl ?_
      refine q_if_ne 22 hX 24 dX11_rota_19 rfl (by decide) (fun hc => ?_) (fun hc => ?_)
      · have hres := it_f hc hres
        refine q_aload_n 25 hX 0 dX11_rota_24 rfl rfl rfl ?_
        refine q_getR 28 hX ci11 lf_RX11_33 fR_0_2 dX11_rota_25 rfl ?_
        refine q_iload_n 29 hX 1 dX11_rota_28 rfl rfl rfl ?_
        refine q_aload_n 30 hX 0 dX11_rota_29 rfl rfl rfl ?_
        obtain ⟨hd3, hres⟩ := gd hres
        refine q_getD 33 hX ci11 lf_RX11_81 fD_0_10 dX11_rota_30 rfl ?_
        refine q_aload_n 34 hX 0 dX11_rota_33 rfl rfl rfl ?_
        refine q_getR 37 hX ci11 lf_RX11_47 fR_0_4 dX11_rota_34 rfl ?_
        obtain ⟨r5, S2, hk4, hres⟩ := ob hres
        refine q_callVi 40 (st := []) (As := [.int x1, .ref (ad X (S1.2.2 0)), .ref (ad X 8)]) hX (cX5_readRota9 hX.dj hd3 hk4) cv_RX11_146 ci5 oB_5 rfl (by decide) rfl (Nat.le_of_ble_eq_true rfl) dX11_rota_37 rfl ?_
        refine q_istore_n 41 (lv' := [(2, .int r5), (0, .ref (ad X 0)), (1, .int x1)]) hX dX11_rota_40 rfl rfl (by decide) rfl ?_
        refine q_aload_n 42 hX 1 dX11_rota_41 rfl rfl rfl ?_
        refine q_getR 45 hX ci11 lf_RX11_10 fR_0_0 dX11_rota_42 rfl ?_
        obtain ⟨S3, hk6, hres⟩ := obv hres
        refine q_callVv 48 (st := []) (As := []) hX (cX7_clear9 hX.dj hk6) cv_RX11_132 ci7 oB_1 rfl (by decide) rfl (Nat.le_of_ble_eq_true rfl) dX11_rota_45 rfl ?_
        refine q_iload_n 49 hX 0 dX11_rota_48 rfl rfl rfl ?_
        exact q_iret hX (eqi hq hres) dX11_rota_49
      · have hres := it_t hc hres
        refine q_iconst 23 hX dX11_rota_22 rfl kI_m1 ?_
        exact q_iret hX (eqi hq hres) dX11_rota_23
theorem cX11_rota9 {l : Launch} {w : WD} (hj : Dj w 0 55) {rr : Int32 × St} {S : St} {x1 : Int32} (hres : fX11_rota S x1 = some rr) : Ct l yX11_rota cX11_rota 3 (some .int) 18 w 0 55 [.ref (w.1 0), .int x1] S (some (.int rr.1), rr.2) := by
  refine Ct.of (lv := [(0, .ref (w.1 0)), (1, .int x1)]) hj (by decide +kernel) (Nat.le_of_ble_eq_true rfl) rfl ?_
  rintro X rfl rfl hq hX
  exact wfX11_rota hX hq hres
def fX11_seed (S : St) (x1 : Int32) : Option (Int32 × St) :=
  if x1 < 0 then (some ((0 : Int32), S)) else (if x1 ≤ (65535 : Int32) then (bS (pI S 19 5 x1) fun S1 => some ((1 : Int32), S1)) else (some ((0 : Int32), S)))
theorem wfX11_seed {X : CX} (hX : Ok RX11 cX11_seed (some .boolean) 0 55 2 X) {rr : Int32 × St} (hq : rs X = (some (.int rr.1), rr.2)) {S : St} {x1 : Int32} (hres : fX11_seed S x1 = some rr) : Wat 0 55 0 2 X 0 [(0, .ref (ad X 0)), (1, .int x1)] [] S := by
  unfold fX11_seed at hres
  refine q_iload_n 1 hX 1 dX11_seed_0 rfl rfl rfl ?_
  refine q_if_lt 4 hX 10 dX11_seed_1 rfl (by decide) (fun hc => ?_) (fun hc => ?_)
  · have hres := it_t hc hres
    refine q_iconst 11 hX dX11_seed_10 rfl kI_0 ?_
    exact q_zret hX (by decide) (eqi hq hres) dX11_seed_11
  · have hres := it_f hc hres
    refine q_iload_n 5 hX 1 dX11_seed_4 rfl rfl rfl ?_
    refine q_ldc 7 hX dX11_seed_5 rfl gw537 ?_
    refine q_icmp_le 10 hX 12 dX11_seed_7 rfl (by decide) (fun hc => ?_) (fun hc => ?_)
    · have hres := it_t hc hres
      refine q_aload_n 13 hX 0 dX11_seed_12 rfl rfl rfl ?_
      refine q_getR 16 hX ci11 lf_RX11_68 fR_0_7 dX11_seed_13 rfl ?_
      refine q_iload_n 17 hX 1 dX11_seed_16 rfl rfl rfl ?_
      refine q_putI 20 hX ci6 lf_RX11_151 fI_19_5 (nar_i rfl) dX11_seed_17 rfl ?_
      refine q_bS hres (fun S1 _ hres => ?_)
      refine q_iconst 21 hX dX11_seed_20 rfl kI_1 ?_
      exact q_zret hX (by decide) (eqi hq hres) dX11_seed_21
    · have hres := it_f hc hres
      refine q_iconst 11 hX dX11_seed_10 rfl kI_0 ?_
      exact q_zret hX (by decide) (eqi hq hres) dX11_seed_11
theorem cX11_seed9 {l : Launch} {w : WD} (hj : Dj w 0 55) {rr : Int32 × St} {S : St} {x1 : Int32} (hres : fX11_seed S x1 = some rr) : Ct l yX11_seed cX11_seed 2 (some .boolean) 0 w 0 55 [.ref (w.1 0), .int x1] S (some (.int rr.1), rr.2) := by
  refine Ct.of (lv := [(0, .ref (w.1 0)), (1, .int x1)]) hj (by decide +kernel) (Nat.le_of_ble_eq_true rfl) rfl ?_
  rintro X rfl rfl hq hX
  exact wfX11_seed hX hq hres
def fX11_days (S : St) (x1 : Int32) : Option (Int32 × St) :=
  if x1 < (1 : Int32) then (some ((-1 : Int32), S)) else (if x1 ≤ (100 : Int32) then (bV ((S.1 19 3)) fun v1 => if isT (S.2.2 0) then if isL (S.2.2 2) then bv (fX6_liveDays 19 (S.2.2 0) (S.2.2 2) S x1) fun S1 => some (((S1.1 19 3) - v1), S1) else none else none) else (some ((-1 : Int32), S)))
theorem wfX11_days {X : CX} (hX : Ok RX11 cX11_days (some .int) 0 55 3 X) {rr : Int32 × St} (hq : rs X = (some (.int rr.1), rr.2)) {S : St} {x1 : Int32} (hres : fX11_days S x1 = some rr) : Wat 0 55 7 3 X 0 [(0, .ref (ad X 0)), (1, .int x1)] [] S := by
  unfold fX11_days at hres
  refine q_iload_n 1 hX 1 dX11_days_0 rfl rfl rfl ?_
  refine q_iconst 2 hX dX11_days_1 rfl kI_1 ?_
  refine q_icmp_lt 5 hX 11 dX11_days_2 rfl (by decide) (fun hc => ?_) (fun hc => ?_)
  · have hres := it_t hc hres
    refine q_iconst 12 hX dX11_days_11 rfl kI_m1 ?_
    exact q_iret hX (eqi hq hres) dX11_days_12
  · have hres := it_f hc hres
    refine q_iload_n 6 hX 1 dX11_days_5 rfl rfl rfl ?_
    refine q_bipush 8 hX dX11_days_6 rfl kB_100 ?_
    refine q_icmp_le 11 hX 13 dX11_days_8 rfl (by decide) (fun hc => ?_) (fun hc => ?_)
    · have hres := it_t hc hres
      refine q_aload_n 14 hX 0 dX11_days_13 rfl rfl rfl ?_
      refine q_getR 17 hX ci11 lf_RX11_68 fR_0_7 dX11_days_14 rfl ?_
      refine q_getI 20 hX ci6 lf_RX11_155 fI_19_3 dX11_days_17 rfl ?_
      refine q_istoreB_n 21 (lv0 := [(0, .ref (ad X 0)), (1, .int x1)]) hX dX11_days_20 rfl rfl (by decide) rfl hres (fun v1 hres => ?_)
      refine q_aload_n 22 hX 1 dX11_days_21 rfl rfl rfl ?_
      refine q_getR 25 hX ci11 lf_RX11_68 fR_0_7 dX11_days_22 rfl ?_
      refine q_iload_n 26 hX 2 dX11_days_25 rfl rfl rfl ?_
      refine q_aload_n 27 hX 1 dX11_days_26 rfl rfl rfl ?_
      refine q_getR 30 hX ci11 lf_RX11_47 fR_0_4 dX11_days_27 rfl ?_
      refine q_aload_n 31 hX 1 dX11_days_30 rfl rfl rfl ?_
      obtain ⟨hd2, hres⟩ := gd hres
      refine q_getD 34 hX ci11 lf_RX11_81 fD_0_10 dX11_days_31 rfl ?_
      refine q_aload_n 35 hX 1 dX11_days_34 rfl rfl rfl ?_
      obtain ⟨hd3, hres⟩ := gd hres
      refine q_getD 38 hX ci11 lf_RX11_91 fD_0_12 dX11_days_35 rfl ?_
      obtain ⟨S1, hk4, hres⟩ := obv hres
      refine q_callVv 41 (st := []) (As := [.int x1, .ref (ad X 8), .ref (ad X (S.2.2 0)), .ref (ad X (S.2.2 2))]) hX (cX6_liveDays9 hX.dj (by decide) hd2 hd3 hk4) cv_RX11_158 ci6 oB_19 rfl (by decide) rfl (Nat.le_of_ble_eq_true rfl) dX11_days_38 rfl ?_
      refine q_aload_n 42 hX 1 dX11_days_41 rfl rfl rfl ?_
      refine q_getR 45 hX ci11 lf_RX11_68 fR_0_7 dX11_days_42 rfl ?_
      refine q_getI 48 hX ci6 lf_RX11_155 fI_19_3 dX11_days_45 rfl ?_
      refine q_iload_n 49 hX 0 dX11_days_48 rfl rfl rfl ?_
      refine q_isub 50 hX dX11_days_49 rfl ?_
      exact q_iret hX (eqi hq hres) dX11_days_50
    · have hres := it_f hc hres
      refine q_iconst 12 hX dX11_days_11 rfl kI_m1 ?_
      exact q_iret hX (eqi hq hres) dX11_days_12
theorem cX11_days9 {l : Launch} {w : WD} (hj : Dj w 0 55) {rr : Int32 × St} {S : St} {x1 : Int32} (hres : fX11_days S x1 = some rr) : Ct l yX11_days cX11_days 3 (some .int) 7 w 0 55 [.ref (w.1 0), .int x1] S (some (.int rr.1), rr.2) := by
  refine Ct.of (lv := [(0, .ref (w.1 0)), (1, .int x1)]) hj (by decide +kernel) (Nat.le_of_ble_eq_true rfl) rfl ?_
  rintro X rfl rfl hq hX
  exact wfX11_days hX hq hres
def fX11_canBeTried_33 (S : St) : Option (Int32 × St) :=
  some ((0 : Int32), S)
theorem wfX11_canBeTried_33 {X : CX} (hX : Ok RX11 cX11_canBeTried (some .boolean) 0 55 2 X) {rr : Int32 × St} (hq : rs X = (some (.int rr.1), rr.2)) {S : St} (hres : fX11_canBeTried_33 S = some rr) : Wat 0 55 1 2 X 33 [] [] S := by
  unfold fX11_canBeTried_33 at hres
  refine q_iconst 34 hX dX11_canBeTried_33 rfl kI_0 ?_
  exact q_zret hX (by decide) (eqi hq hres) dX11_canBeTried_34
def fX11_canBeTried_9 (S : St) (x1 : Int32) : Option (Int32 × St) :=
  if x1 < (10 : Int32) then (fX11_canBeTried_33 S) else (if isT (S.2.2 0) then bi (fX8_hasHouse (S.2.2 0) S (x1 - (10 : Int32))) fun r3 S1 => if r3 = 0 then (fX11_canBeTried_33 S1) else (some ((1 : Int32), S1)) else none)
theorem wfX11_canBeTried_9 {X : CX} (hX : Ok RX11 cX11_canBeTried (some .boolean) 0 55 2 X) {rr : Int32 × St} (hq : rs X = (some (.int rr.1), rr.2)) {S : St} {x1 : Int32} (hres : fX11_canBeTried_9 S x1 = some rr) : Wat 0 55 1 2 X 9 [(0, .ref (ad X 0)), (1, .int x1)] [] S := by
  unfold fX11_canBeTried_9 at hres
  refine q_iload_n 10 hX 1 dX11_canBeTried_9 rfl rfl rfl ?_
  refine q_bipush 12 hX dX11_canBeTried_10 rfl kB_10 ?_
  refine q_icmp_lt 15 hX 33 dX11_canBeTried_12 rfl (by decide) (fun hc => ?_) (fun hc => ?_)
  · have hres := it_t hc hres
    exact q_sub [] rfl (wfX11_canBeTried_33 hX hq hres)
  · have hres := it_f hc hres
    refine q_aload_n 16 hX 0 dX11_canBeTried_15 rfl rfl rfl ?_
    obtain ⟨hd1, hres⟩ := gd hres
    refine q_getD 19 hX ci11 lf_RX11_81 fD_0_10 dX11_canBeTried_16 rfl ?_
    refine q_iload_n 20 hX 1 dX11_canBeTried_19 rfl rfl rfl ?_
    refine q_bipush 22 hX dX11_canBeTried_20 rfl kB_10 ?_
    refine q_isub 23 hX dX11_canBeTried_22 rfl ?_
    obtain ⟨r3, S1, hk2, hres⟩ := ob hres
    refine q_callVi 26 (st := []) (As := [.int (x1 - (10 : Int32))]) hX (cX8_hasHouse9 hX.dj hd1 hk2) cv_RX11_106 ci8 (oB_T hd1) rfl (by decide) rfl (Nat.le_of_ble_eq_true rfl) dX11_canBeTried_23 rfl ?_
    refine q_if_eq 29 hX 33 dX11_canBeTried_26 rfl (by decide) (fun hc => ?_) (fun hc => ?_)
    · have hres := it_t hc hres
      exact q_sub [] rfl (wfX11_canBeTried_33 hX hq hres)
    · have hres := it_f hc hres
      refine q_iconst 30 hX dX11_canBeTried_29 rfl kI_1 ?_
      refine q_goto 34 hX dX11_canBeTried_30 (by decide) ?_
      exact q_zret hX (by decide) (eqi hq hres) dX11_canBeTried_34
def fX11_canBeTried (S : St) (x1 : Int32) : Option (Int32 × St) :=
  if x1 < 0 then (fX11_canBeTried_9 S x1) else (if x1 ≤ (3 : Int32) then (some ((1 : Int32), S)) else (fX11_canBeTried_9 S x1))
theorem wfX11_canBeTried {X : CX} (hX : Ok RX11 cX11_canBeTried (some .boolean) 0 55 2 X) {rr : Int32 × St} (hq : rs X = (some (.int rr.1), rr.2)) {S : St} {x1 : Int32} (hres : fX11_canBeTried S x1 = some rr) : Wat 0 55 1 2 X 0 [(0, .ref (ad X 0)), (1, .int x1)] [] S := by
  unfold fX11_canBeTried at hres
  refine q_iload_n 1 hX 1 dX11_canBeTried_0 rfl rfl rfl ?_
  refine q_if_lt 4 hX 9 dX11_canBeTried_1 rfl (by decide) (fun hc => ?_) (fun hc => ?_)
  · have hres := it_t hc hres
    exact q_sub [0, 1] rfl (wfX11_canBeTried_9 hX hq hres)
  · have hres := it_f hc hres
    refine q_iload_n 5 hX 1 dX11_canBeTried_4 rfl rfl rfl ?_
    refine q_iconst 6 hX dX11_canBeTried_5 rfl kI_3 ?_
    refine q_icmp_le 9 hX 29 dX11_canBeTried_6 rfl (by decide) (fun hc => ?_) (fun hc => ?_)
    · have hres := it_t hc hres
      refine q_iconst 30 hX dX11_canBeTried_29 rfl kI_1 ?_
      refine q_goto 34 hX dX11_canBeTried_30 (by decide) ?_
      exact q_zret hX (by decide) (eqi hq hres) dX11_canBeTried_34
    · have hres := it_f hc hres
      exact q_sub [0, 1] rfl (wfX11_canBeTried_9 hX hq hres)
theorem cX11_canBeTried9 {l : Launch} {w : WD} (hj : Dj w 0 55) {rr : Int32 × St} {S : St} {x1 : Int32} (hres : fX11_canBeTried S x1 = some rr) : Ct l yX11_canBeTried cX11_canBeTried 2 (some .boolean) 1 w 0 55 [.ref (w.1 0), .int x1] S (some (.int rr.1), rr.2) := by
  refine Ct.of (lv := [(0, .ref (w.1 0)), (1, .int x1)]) hj (by decide +kernel) (Nat.le_of_ble_eq_true rfl) rfl ?_
  rintro X rfl rfl hq hX
  exact wfX11_canBeTried hX hq hres
def fX11_orNoneAtAll (S : St) (x0 : Int32) : Option (Int32 × St) :=
  if x0 = (-1 : Int32) then (some ((-2 : Int32), S)) else (some (x0, S))
theorem wfX11_orNoneAtAll {X : CX} (hX : Ok RX11 cX11_orNoneAtAll (some .int) 0 55 1 X) {rr : Int32 × St} (hq : rs X = (some (.int rr.1), rr.2)) {S : St} {x0 : Int32} (hres : fX11_orNoneAtAll S x0 = some rr) : Wat 0 55 0 1 X 0 [(0, .int x0)] [] S := by
  unfold fX11_orNoneAtAll at hres
  refine q_iload_n 1 hX 0 dX11_orNoneAtAll_0 rfl rfl rfl ?_
  refine q_iconst 2 hX dX11_orNoneAtAll_1 rfl kI_m1 ?_
  refine q_icmp_ne 5 hX 10 dX11_orNoneAtAll_2 rfl (by decide) (fun hc => ?_) (fun hc => ?_)
  · have hres := it_f hc hres
    refine q_iload_n 11 hX 0 dX11_orNoneAtAll_10 rfl rfl rfl ?_
    exact q_iret hX (eqi hq hres) dX11_orNoneAtAll_11
  · have hres := it_t hc hres
    refine q_bipush 7 hX dX11_orNoneAtAll_5 rfl kB_m2 ?_
    refine q_goto 11 hX dX11_orNoneAtAll_7 (by decide) ?_
    exact q_iret hX (eqi hq hres) dX11_orNoneAtAll_11
theorem cX11_orNoneAtAll9 {l : Launch} {w : WD} (hj : Dj w 0 55) {rr : Int32 × St} {S : St} {x0 : Int32} (hres : fX11_orNoneAtAll S x0 = some rr) : Ct l yX11_orNoneAtAll cX11_orNoneAtAll 1 (some .int) 0 w 0 55 [.int x0] S (some (.int rr.1), rr.2) := by
  refine Ct.of (lv := [(0, .int x0)]) hj (by decide +kernel) (Nat.le_of_ble_eq_true rfl) rfl ?_
  rintro X rfl rfl hq hX
  exact wfX11_orNoneAtAll hX hq hres
def fX11_tried (S : St) (x1 : Int32) (x2 : Int32) : Option (Int32 × St) :=
  if x1 < (1 : Int32) then (some ((-1 : Int32), S)) else (if (100 : Int32) < x1 then (some ((-1 : Int32), S)) else (bi (fX11_canBeTried S x2) fun r2 S1 => if r2 = 0 then (some ((-1 : Int32), S1)) else (bv (fX6_copyFrom 21 19 S1) fun S2 => if isT (S2.2.2 0) then if isL (S2.2.2 2) then bv (fX6_liveDays 21 (S2.2.2 0) (S2.2.2 2) S2 x1) fun S3 => if x2 = (0 : Int32) then (some (((S3.1 21 3) - (S3.1 19 3)), S3)) else (if x2 = (1 : Int32) then (bi (fX11_orNoneAtAll S3 (S3.1 21 1)) fun r8 S4 => some (r8, S4)) else (if x2 = (2 : Int32) then (some ((S3.1 21 2), S3)) else (if x2 = (3 : Int32) then (bi (fX6_joyOfAll 21 S3) fun r10 S5 => some (r10, S5)) else (bi (fX6_joyOf 21 S3 (x2 - (10 : Int32))) fun r12 S6 => some (r12, S6))))) else none else none)))
theorem wfX11_tried {X : CX} (hX : Ok RX11 cX11_tried (some .int) 0 55 3 X) {rr : Int32 × St} (hq : rs X = (some (.int rr.1), rr.2)) {S : St} {x1 : Int32} {x2 : Int32} (hres : fX11_tried S x1 x2 = some rr) : Wat 0 55 7 3 X 0 [(0, .ref (ad X 0)), (1, .int x1), (2, .int x2)] [] S := by
  unfold fX11_tried at hres
  refine q_iload_n 1 hX 1 dX11_tried_0 rfl rfl rfl ?_
  refine q_iconst 2 hX dX11_tried_1 rfl kI_1 ?_
  refine q_icmp_lt 5 hX 19 dX11_tried_2 rfl (by decide) (fun hc => ?_) (fun hc => ?_)
  · have hres := it_t hc hres
    refine q_iconst 20 hX dX11_tried_19 rfl kI_m1 ?_
    exact q_iret hX (eqi hq hres) dX11_tried_20
  · have hres := it_f hc hres
    refine q_iload_n 6 hX 1 dX11_tried_5 rfl rfl rfl ?_
    refine q_bipush 8 hX dX11_tried_6 rfl kB_100 ?_
    refine q_icmp_gt 11 hX 19 dX11_tried_8 rfl (by decide) (fun hc => ?_) (fun hc => ?_)
    · have hres := it_t hc hres
      refine q_iconst 20 hX dX11_tried_19 rfl kI_m1 ?_
      exact q_iret hX (eqi hq hres) dX11_tried_20
    · have hres := it_f hc hres
      refine q_aload_n 12 hX 0 dX11_tried_11 rfl rfl rfl ?_
      refine q_iload_n 13 hX 2 dX11_tried_12 rfl rfl rfl ?_
      obtain ⟨r2, S1, hk1, hres⟩ := ob hres
      refine q_callVi 16 (st := []) (As := [.int x2]) hX (cX11_canBeTried9 hX.dj hk1) cv_RX11_162 ci11 oB_0 rfl (by decide) rfl (Nat.le_of_ble_eq_true rfl) dX11_tried_13 rfl ?_
      refine q_if_ne 19 hX 21 dX11_tried_16 rfl (by decide) (fun hc => ?_) (fun hc => ?_)
      · have hres := it_f hc hres
        refine q_aload_n 22 hX 0 dX11_tried_21 rfl rfl rfl ?_
        refine q_getR 25 hX ci11 lf_RX11_72 fR_0_8 dX11_tried_22 rfl ?_
        refine q_aload_n 26 hX 0 dX11_tried_25 rfl rfl rfl ?_
        refine q_getR 29 hX ci11 lf_RX11_68 fR_0_7 dX11_tried_26 rfl ?_
        obtain ⟨S2, hk3, hres⟩ := obv hres
        refine q_callVv 32 (st := []) (As := [.ref (ad X 19)]) hX (cX6_copyFrom9 hX.dj (by decide) (by decide) hk3) cv_RX11_165 ci6 oB_21 rfl (by decide) rfl (Nat.le_of_ble_eq_true rfl) dX11_tried_29 rfl ?_
        refine q_aload_n 33 hX 0 dX11_tried_32 rfl rfl rfl ?_
        refine q_getR 36 hX ci11 lf_RX11_72 fR_0_8 dX11_tried_33 rfl ?_
        refine q_iload_n 37 hX 1 dX11_tried_36 rfl rfl rfl ?_
        refine q_aload_n 38 hX 0 dX11_tried_37 rfl rfl rfl ?_
        refine q_getR 41 hX ci11 lf_RX11_47 fR_0_4 dX11_tried_38 rfl ?_
        refine q_aload_n 42 hX 0 dX11_tried_41 rfl rfl rfl ?_
        obtain ⟨hd4, hres⟩ := gd hres
        refine q_getD 45 hX ci11 lf_RX11_81 fD_0_10 dX11_tried_42 rfl ?_
        refine q_aload_n 46 hX 0 dX11_tried_45 rfl rfl rfl ?_
        obtain ⟨hd5, hres⟩ := gd hres
        refine q_getD 49 hX ci11 lf_RX11_91 fD_0_12 dX11_tried_46 rfl ?_
        obtain ⟨S3, hk6, hres⟩ := obv hres
        refine q_callVv 52 (st := []) (As := [.int x1, .ref (ad X 8), .ref (ad X (S2.2.2 0)), .ref (ad X (S2.2.2 2))]) hX (cX6_liveDays9 hX.dj (by decide) hd4 hd5 hk6) cv_RX11_158 ci6 oB_21 rfl (by decide) rfl (Nat.le_of_ble_eq_true rfl) dX11_tried_49 rfl ?_
        refine q_iload_n 53 hX 2 dX11_tried_52 rfl rfl rfl ?_
        by_cases hc0 : x2 = (0 : Int32)
        · have hres := it_t hc0 hres
          refine q_tabIn 84 hX dX11_tried_53 (by rw [hc0]; decide) (by rw [hc0]; decide) (by rw [hc0]; rfl) (by decide) ?_
          refine q_aload_n 85 hX 0 dX11_tried_84 rfl rfl rfl ?_
          refine q_getR 88 hX ci11 lf_RX11_72 fR_0_8 dX11_tried_85 rfl ?_
          refine q_getI 91 hX ci6 lf_RX11_155 fI_21_3 dX11_tried_88 rfl ?_
          refine q_aload_n 92 hX 0 dX11_tried_91 rfl rfl rfl ?_
          refine q_getR 95 hX ci11 lf_RX11_68 fR_0_7 dX11_tried_92 rfl ?_
          refine q_getI 98 hX ci6 lf_RX11_155 fI_19_3 dX11_tried_95 rfl ?_
          refine q_isub 99 hX dX11_tried_98 rfl ?_
          exact q_iret hX (eqi hq hres) dX11_tried_99
        have hres := it_f hc0 hres
        have hn0 := ne_ti (k := 0) hc0 (by decide)
        by_cases hc1 : x2 = (1 : Int32)
        · have hres := it_t hc1 hres
          refine q_tabIn 100 hX dX11_tried_53 (by rw [hc1]; decide) (by rw [hc1]; decide) (by rw [hc1]; rfl) (by decide) ?_
          refine q_aload_n 101 hX 0 dX11_tried_100 rfl rfl rfl ?_
          refine q_getR 104 hX ci11 lf_RX11_72 fR_0_8 dX11_tried_101 rfl ?_
          refine q_getI 107 hX ci6 lf_RX11_169 fI_21_1 dX11_tried_104 rfl ?_
          obtain ⟨r8, S4, hk7, hres⟩ := ob hres
          refine q_callSi 110 (st := []) (As := [.int (S3.1 21 1)]) hX (cX11_orNoneAtAll9 hX.dj hk7) cs_RX11_172 rfl (by decide) rfl (Nat.le_of_ble_eq_true rfl) dX11_tried_107 rfl ?_
          exact q_iret hX (eqi hq hres) dX11_tried_110
        have hres := it_f hc1 hres
        have hn1 := ne_ti (k := 1) hc1 (by decide)
        by_cases hc2 : x2 = (2 : Int32)
        · have hres := it_t hc2 hres
          refine q_tabIn 111 hX dX11_tried_53 (by rw [hc2]; decide) (by rw [hc2]; decide) (by rw [hc2]; rfl) (by decide) ?_
          refine q_aload_n 112 hX 0 dX11_tried_111 rfl rfl rfl ?_
          refine q_getR 115 hX ci11 lf_RX11_72 fR_0_8 dX11_tried_112 rfl ?_
          refine q_getI 118 hX ci6 lf_RX11_176 fI_21_2 dX11_tried_115 rfl ?_
          exact q_iret hX (eqi hq hres) dX11_tried_118
        have hres := it_f hc2 hres
        have hn2 := ne_ti (k := 2) hc2 (by decide)
        by_cases hc3 : x2 = (3 : Int32)
        · have hres := it_t hc3 hres
          refine q_tabIn 119 hX dX11_tried_53 (by rw [hc3]; decide) (by rw [hc3]; decide) (by rw [hc3]; rfl) (by decide) ?_
          refine q_aload_n 120 hX 0 dX11_tried_119 rfl rfl rfl ?_
          refine q_getR 123 hX ci11 lf_RX11_72 fR_0_8 dX11_tried_120 rfl ?_
          obtain ⟨r10, S5, hk9, hres⟩ := ob hres
          refine q_callVi 126 (st := []) (As := []) hX (cX6_joyOfAll9 hX.dj (by decide) hk9) cv_RX11_179 ci6 oB_21 rfl (by decide) rfl (Nat.le_of_ble_eq_true rfl) dX11_tried_123 rfl ?_
          exact q_iret hX (eqi hq hres) dX11_tried_126
        have hres := it_f hc3 hres
        have hn3 := ne_ti (k := 3) hc3 (by decide)
        refine q_tabOut 127 hX dX11_tried_53 (by omega) (by decide) ?_
        refine q_aload_n 128 hX 0 dX11_tried_127 rfl rfl rfl ?_
        refine q_getR 131 hX ci11 lf_RX11_72 fR_0_8 dX11_tried_128 rfl ?_
        refine q_iload_n 132 hX 2 dX11_tried_131 rfl rfl rfl ?_
        refine q_bipush 134 hX dX11_tried_132 rfl kB_10 ?_
        refine q_isub 135 hX dX11_tried_134 rfl ?_
        obtain ⟨r12, S6, hk11, hres⟩ := ob hres
        refine q_callVi 138 (st := []) (As := [.int (x2 - (10 : Int32))]) hX (cX6_joyOf9 hX.dj (by decide) hk11) cv_RX11_182 ci6 oB_21 rfl (by decide) rfl (Nat.le_of_ble_eq_true rfl) dX11_tried_135 rfl ?_
        exact q_iret hX (eqi hq hres) dX11_tried_138
      · have hres := it_t hc hres
        refine q_iconst 20 hX dX11_tried_19 rfl kI_m1 ?_
        exact q_iret hX (eqi hq hres) dX11_tried_20
theorem cX11_tried9 {l : Launch} {w : WD} (hj : Dj w 0 55) {rr : Int32 × St} {S : St} {x1 : Int32} {x2 : Int32} (hres : fX11_tried S x1 x2 = some rr) : Ct l yX11_tried cX11_tried 3 (some .int) 7 w 0 55 [.ref (w.1 0), .int x1, .int x2] S (some (.int rr.1), rr.2) := by
  refine Ct.of (lv := [(0, .ref (w.1 0)), (1, .int x1), (2, .int x2)]) hj (by decide +kernel) (Nat.le_of_ble_eq_true rfl) rfl ?_
  rintro X rfl rfl hq hX
  exact wfX11_tried hX hq hres
def fX11_keep (S : St) : Option (Int32 × St) :=
  bv (fX6_copyFrom 23 19 S) fun S1 => bS (pI S1 0 14 (1 : Int32)) fun S2 => some ((S2.1 19 4), S2)
theorem wfX11_keep {X : CX} (hX : Ok RX11 cX11_keep (some .int) 0 55 1 X) {rr : Int32 × St} (hq : rs X = (some (.int rr.1), rr.2)) {S : St} (hres : fX11_keep S = some rr) : Wat 0 55 2 1 X 0 [(0, .ref (ad X 0))] [] S := by
  unfold fX11_keep at hres
  refine q_aload_n 1 hX 0 dX11_keep_0 rfl rfl rfl ?_
  refine q_getR 4 hX ci11 lf_RX11_75 fR_0_9 dX11_keep_1 rfl ?_
  refine q_aload_n 5 hX 0 dX11_keep_4 rfl rfl rfl ?_
  refine q_getR 8 hX ci11 lf_RX11_68 fR_0_7 dX11_keep_5 rfl ?_
  obtain ⟨S1, hk1, hres⟩ := obv hres
  refine q_callVv 11 (st := []) (As := [.ref (ad X 19)]) hX (cX6_copyFrom9 hX.dj (by decide) (by decide) hk1) cv_RX11_165 ci6 oB_23 rfl (by decide) rfl (Nat.le_of_ble_eq_true rfl) dX11_keep_8 rfl ?_
  refine q_aload_n 12 hX 0 dX11_keep_11 rfl rfl rfl ?_
  refine q_iconst 13 hX dX11_keep_12 rfl kI_1 ?_
  refine q_putI 16 hX ci11 lf_RX11_98 fI_0_14 (nar_z rfl (by decide)) dX11_keep_13 rfl ?_
  refine q_bS hres (fun S2 _ hres => ?_)
  refine q_aload_n 17 hX 0 dX11_keep_16 rfl rfl rfl ?_
  refine q_getR 20 hX ci11 lf_RX11_68 fR_0_7 dX11_keep_17 rfl ?_
  refine q_getI 23 hX ci6 lf_RX11_185 fI_19_4 dX11_keep_20 rfl ?_
  exact q_iret hX (eqi hq hres) dX11_keep_23
theorem cX11_keep9 {l : Launch} {w : WD} (hj : Dj w 0 55) {rr : Int32 × St} {S : St} (hres : fX11_keep S = some rr) : Ct l yX11_keep cX11_keep 1 (some .int) 2 w 0 55 [.ref (w.1 0)] S (some (.int rr.1), rr.2) := by
  refine Ct.of (lv := [(0, .ref (w.1 0))]) hj (by decide +kernel) (Nat.le_of_ble_eq_true rfl) rfl ?_
  rintro X rfl rfl hq hX
  exact wfX11_keep hX hq hres
def fX11_undo (S : St) : Option (Int32 × St) :=
  if (S.1 0 14) = 0 then (some ((0 : Int32), S)) else (bv (fX6_copyFrom 19 23 S) fun S1 => if isT (S1.2.2 0) then bv (fX6_dropStrangers 19 (S1.2.2 0) S1) fun S2 => some ((1 : Int32), S2) else none)
theorem wfX11_undo {X : CX} (hX : Ok RX11 cX11_undo (some .boolean) 0 55 1 X) {rr : Int32 × St} (hq : rs X = (some (.int rr.1), rr.2)) {S : St} (hres : fX11_undo S = some rr) : Wat 0 55 2 1 X 0 [(0, .ref (ad X 0))] [] S := by
  unfold fX11_undo at hres
  refine q_aload_n 1 hX 0 dX11_undo_0 rfl rfl rfl ?_
  refine q_getI 4 hX ci11 lf_RX11_98 fI_0_14 dX11_undo_1 rfl ?_
  refine q_if_ne 7 hX 9 dX11_undo_4 rfl (by decide) (fun hc => ?_) (fun hc => ?_)
  · have hres := it_f hc hres
    refine q_aload_n 10 hX 0 dX11_undo_9 rfl rfl rfl ?_
    refine q_getR 13 hX ci11 lf_RX11_68 fR_0_7 dX11_undo_10 rfl ?_
    refine q_aload_n 14 hX 0 dX11_undo_13 rfl rfl rfl ?_
    refine q_getR 17 hX ci11 lf_RX11_75 fR_0_9 dX11_undo_14 rfl ?_
    obtain ⟨S1, hk1, hres⟩ := obv hres
    refine q_callVv 20 (st := []) (As := [.ref (ad X 23)]) hX (cX6_copyFrom9 hX.dj (by decide) (by decide) hk1) cv_RX11_165 ci6 oB_19 rfl (by decide) rfl (Nat.le_of_ble_eq_true rfl) dX11_undo_17 rfl ?_
    refine q_aload_n 21 hX 0 dX11_undo_20 rfl rfl rfl ?_
    refine q_getR 24 hX ci11 lf_RX11_68 fR_0_7 dX11_undo_21 rfl ?_
    refine q_aload_n 25 hX 0 dX11_undo_24 rfl rfl rfl ?_
    obtain ⟨hd2, hres⟩ := gd hres
    refine q_getD 28 hX ci11 lf_RX11_81 fD_0_10 dX11_undo_25 rfl ?_
    obtain ⟨S2, hk3, hres⟩ := obv hres
    refine q_callVv 31 (st := []) (As := [.ref (ad X (S1.2.2 0))]) hX (cX6_dropStrangers9 hX.dj (by decide) hd2 hk3) cv_RX11_188 ci6 oB_19 rfl (by decide) rfl (Nat.le_of_ble_eq_true rfl) dX11_undo_28 rfl ?_
    refine q_iconst 32 hX dX11_undo_31 rfl kI_1 ?_
    exact q_zret hX (by decide) (eqi hq hres) dX11_undo_32
  · have hres := it_t hc hres
    refine q_iconst 8 hX dX11_undo_7 rfl kI_0 ?_
    exact q_zret hX (by decide) (eqi hq hres) dX11_undo_8
theorem cX11_undo9 {l : Launch} {w : WD} (hj : Dj w 0 55) {rr : Int32 × St} {S : St} (hres : fX11_undo S = some rr) : Ct l yX11_undo cX11_undo 1 (some .boolean) 2 w 0 55 [.ref (w.1 0)] S (some (.int rr.1), rr.2) := by
  refine Ct.of (lv := [(0, .ref (w.1 0))]) hj (by decide +kernel) (Nat.le_of_ble_eq_true rfl) rfl ?_
  rintro X rfl rfl hq hX
  exact wfX11_undo hX hq hres
def fX11_check_63 (rc30 : St → Int32 → Int32 → Option (Int32 × St)) (S : St) (x2 : Int32) (x3 : Int32) (s0 : Int32) : Option (Int32 × St) :=
  bi (fX7_byteAt S x3) fun r2 S1 => if r2 = s0 then (bV (x3 + (-1 : Int32)) fun v3 => rc30 S1 x2 v3) else (bV (x3 + (-1 : Int32)) fun v4 => rc30 S1 x3 v4)
theorem wfX11_check_63 {X : CX} (hX : Ok RX11 cX11_check (some .int) 0 55 5 X) {rr : Int32 × St} (hq : rs X = (some (.int rr.1), rr.2)) {rc30 : St → Int32 → Int32 → Option (Int32 × St)} (hrc30 : ∀ (S : St) (x2 : Int32) (x3 : Int32), rc30 S x2 x3 = some rr → Wat 0 55 1 5 X 30 [(0, .ref (ad X 0)), (2, .int x2), (3, .int x3)] [] S) {S : St} {x2 : Int32} {x3 : Int32} {s0 : Int32} (hres : fX11_check_63 rc30 S x2 x3 s0 = some rr) : Wat 0 55 1 5 X 63 [(0, .ref (ad X 0)), (2, .int x2), (3, .int x3)] [.int s0] S := by
  unfold fX11_check_63 at hres
  refine q_istore 65 (lv' := [(4, .int s0), (0, .ref (ad X 0)), (2, .int x2), (3, .int x3)]) hX dX11_check_63 rfl (by decide) rfl ?_
  refine q_aload_n 66 hX 1 dX11_check_65 rfl rfl rfl ?_
  refine q_getR 69 hX ci11 lf_RX11_10 fR_0_0 dX11_check_66 rfl ?_
  refine q_iload_n 70 hX 3 dX11_check_69 rfl rfl rfl ?_
  obtain ⟨r2, S1, hk1, hres⟩ := ob hres
  refine q_callVi 73 (st := []) (As := [.int x3]) hX (cX7_byteAt9 hX.dj hk1) cv_RX11_189 ci7 oB_1 rfl (by decide) rfl (Nat.le_of_ble_eq_true rfl) dX11_check_70 rfl ?_
  refine q_iload 75 hX 0 dX11_check_73 rfl rfl ?_
  refine q_icmp_eq 78 hX 80 dX11_check_75 rfl (by decide) (fun hc => ?_) (fun hc => ?_)
  · have hres := it_t hc hres
    refine q_iincB 83 3 (lv0 := [(4, .int s0), (0, .ref (ad X 0)), (2, .int x2)]) hX dX11_check_80 rfl rfl kI_m1 (by decide) rfl hres (fun v3 hres => ?_)
    refine q_goto 30 hX dX11_check_83 (by decide) ?_
    exact q_sub [2, 3, 0] rfl (hrc30 _ _ _ hres)
  · have hres := it_f hc hres
    refine q_iload_n 79 hX 3 dX11_check_78 rfl rfl rfl ?_
    refine q_istore_n 80 (lv' := [(2, .int x3), (4, .int s0), (0, .ref (ad X 0)), (3, .int x3)]) hX dX11_check_79 rfl rfl (by decide) rfl ?_
    refine q_iincB 83 3 (lv0 := [(2, .int x3), (4, .int s0), (0, .ref (ad X 0))]) hX dX11_check_80 rfl rfl kI_m1 (by decide) rfl hres (fun v4 hres => ?_)
    refine q_goto 30 hX dX11_check_83 (by decide) ?_
    exact q_sub [3, 1, 0] rfl (hrc30 _ _ _ hres)
def bX11_check_30 (rc30 : St → Int32 → Int32 → Option (Int32 × St)) (S : St) (x2 : Int32) (x3 : Int32) : Option (Int32 × St) :=
  if x3 < 0 then (bv (fX7_clear S) fun S1 => some (x2, S1)) else (if isT (S.2.2 0) then bi (fX8_hasHouse (S.2.2 0) S x3) fun r4 S2 => if r4 = 0 then (fX11_check_63 rc30 S2 x2 x3 (255 : Int32)) else (bi (fX6_joyOf 19 S2 x3) fun r6 S3 => fX11_check_63 rc30 S3 x2 x3 (r6 - r6 / (256 : Int32) * (256 : Int32))) else none)
theorem wbX11_check_30 {X : CX} (hX : Ok RX11 cX11_check (some .int) 0 55 5 X) {rr : Int32 × St} (hq : rs X = (some (.int rr.1), rr.2)) {rc30 : St → Int32 → Int32 → Option (Int32 × St)} (hrc30 : ∀ (S : St) (x2 : Int32) (x3 : Int32), rc30 S x2 x3 = some rr → Wat 0 55 1 5 X 30 [(0, .ref (ad X 0)), (2, .int x2), (3, .int x3)] [] S) {S : St} {x2 : Int32} {x3 : Int32} (hres : bX11_check_30 rc30 S x2 x3 = some rr) : Wat 0 55 1 5 X 30 [(0, .ref (ad X 0)), (2, .int x2), (3, .int x3)] [] S := by
  unfold bX11_check_30 at hres
  refine q_iload_n 31 hX 2 dX11_check_30 rfl rfl rfl ?_
  refine q_if_lt 34 hX 86 dX11_check_31 rfl (by decide) (fun hc => ?_) (fun hc => ?_)
  · have hres := it_t hc hres
    refine q_aload_n 87 hX 0 dX11_check_86 rfl rfl rfl ?_
    refine q_getR 90 hX ci11 lf_RX11_10 fR_0_0 dX11_check_87 rfl ?_
    obtain ⟨S1, hk1, hres⟩ := obv hres
    refine q_callVv 93 (st := []) (As := []) hX (cX7_clear9 hX.dj hk1) cv_RX11_132 ci7 oB_1 rfl (by decide) rfl (Nat.le_of_ble_eq_true rfl) dX11_check_90 rfl ?_
    refine q_iload_n 94 hX 1 dX11_check_93 rfl rfl rfl ?_
    exact q_iret hX (eqi hq hres) dX11_check_94
  · have hres := it_f hc hres
    refine q_aload_n 35 hX 0 dX11_check_34 rfl rfl rfl ?_
    obtain ⟨hd2, hres⟩ := gd hres
    refine q_getD 38 hX ci11 lf_RX11_81 fD_0_10 dX11_check_35 rfl ?_
    refine q_iload_n 39 hX 2 dX11_check_38 rfl rfl rfl ?_
    obtain ⟨r4, S2, hk3, hres⟩ := ob hres
    refine q_callVi 42 (st := []) (As := [.int x3]) hX (cX8_hasHouse9 hX.dj hd2 hk3) cv_RX11_106 ci8 (oB_T hd2) rfl (by decide) rfl (Nat.le_of_ble_eq_true rfl) dX11_check_39 rfl ?_
    refine q_if_eq 45 hX 60 dX11_check_42 rfl (by decide) (fun hc => ?_) (fun hc => ?_)
    · have hres := it_t hc hres
      refine q_sipush 63 hX dX11_check_60 rfl kS_255 ?_
      exact q_sub [0, 1, 2] rfl (wfX11_check_63 hX hq hrc30 hres)
    · have hres := it_f hc hres
      refine q_aload_n 46 hX 0 dX11_check_45 rfl rfl rfl ?_
      refine q_getR 49 hX ci11 lf_RX11_68 fR_0_7 dX11_check_46 rfl ?_
      refine q_iload_n 50 hX 2 dX11_check_49 rfl rfl rfl ?_
      obtain ⟨r6, S3, hk5, hres⟩ := ob hres
      refine q_callVi 53 (st := []) (As := [.int x3]) hX (cX6_joyOf9 hX.dj (by decide) hk5) cv_RX11_182 ci6 oB_19 rfl (by decide) rfl (Nat.le_of_ble_eq_true rfl) dX11_check_50 rfl ?_
      refine q_sipush 56 hX dX11_check_53 rfl kS_256 ?_
      refine q_irem 57 hX dX11_check_56 rfl (by decide) ?_
      refine q_goto 63 hX dX11_check_57 (by decide) ?_
      exact q_sub [0, 1, 2] rfl (wfX11_check_63 hX hq hrc30 hres)
def fX11_check_30 : Nat → St → Int32 → Int32 → Option (Int32 × St)
  | 0 => fun _ _ _ => none
  | k + 1 => fun S x2 x3 => bX11_check_30 (fX11_check_30 k) S x2 x3
theorem wfX11_check_30 {X : CX} (hX : Ok RX11 cX11_check (some .int) 0 55 5 X) {rr : Int32 × St} (hq : rs X = (some (.int rr.1), rr.2)) (k : Nat) : ∀ (S : St) (x2 : Int32) (x3 : Int32), fX11_check_30 k S x2 x3 = some rr → Wat 0 55 1 5 X 30 [(0, .ref (ad X 0)), (2, .int x2), (3, .int x3)] [] S := by
  induction k with
  | zero => intro S x2 x3 hres; exact absurd hres (by simp [fX11_check_30])
  | succ k ih => intro S x2 x3 hres; exact wbX11_check_30 hX hq ih hres
def fX11_check (S : St) (x1 : Int32) : Option (Int32 × St) :=
  if x1 < 0 then (some ((-2 : Int32), S)) else (if (16 : Int32) < x1 then (some ((-2 : Int32), S)) else (bi (fX7_holds S x1) fun r2 S1 => if r2 = 0 then (some ((-2 : Int32), S1)) else (bV ((x1 - (1 : Int32))) fun v3 => fX11_check_30 100 S1 (-1 : Int32) v3)))
theorem wfX11_check {X : CX} (hX : Ok RX11 cX11_check (some .int) 0 55 5 X) {rr : Int32 × St} (hq : rs X = (some (.int rr.1), rr.2)) {S : St} {x1 : Int32} (hres : fX11_check S x1 = some rr) : Wat 0 55 1 5 X 0 [(0, .ref (ad X 0)), (1, .int x1)] [] S := by
  unfold fX11_check at hres
  refine q_iload_n 1 hX 1 dX11_check_0 rfl rfl rfl ?_
  refine q_if_lt 4 hX 21 dX11_check_1 rfl (by decide) (fun hc => ?_) (fun hc => ?_)
  · have hres := it_t hc hres
    refine q_bipush 23 hX dX11_check_21 rfl kB_m2 ?_
    exact q_iret hX (eqi hq hres) dX11_check_23
  · have hres := it_f hc hres
    refine q_iload_n 5 hX 1 dX11_check_4 rfl rfl rfl ?_
    refine q_bipush 7 hX dX11_check_5 rfl kB_16 ?_
    refine q_icmp_gt 10 hX 21 dX11_check_7 rfl (by decide) (fun hc => ?_) (fun hc => ?_)
    · have hres := it_t hc hres
      refine q_bipush 23 hX dX11_check_21 rfl kB_m2 ?_
      exact q_iret hX (eqi hq hres) dX11_check_23
    · have hres := it_f hc hres
      refine q_aload_n 11 hX 0 dX11_check_10 rfl rfl rfl ?_
      refine q_getR 14 hX ci11 lf_RX11_10 fR_0_0 dX11_check_11 rfl ?_
      refine q_iload_n 15 hX 1 dX11_check_14 rfl rfl rfl ?_
      obtain ⟨r2, S1, hk1, hres⟩ := ob hres
      refine q_callVi 18 (st := []) (As := [.int x1]) hX (cX7_holds9 hX.dj hk1) cv_RX11_125 ci7 oB_1 rfl (by decide) rfl (Nat.le_of_ble_eq_true rfl) dX11_check_15 rfl ?_
      refine q_if_ne 21 hX 24 dX11_check_18 rfl (by decide) (fun hc => ?_) (fun hc => ?_)
      · have hres := it_f hc hres
        refine q_iconst 25 hX dX11_check_24 rfl kI_m1 ?_
        refine q_istore_n 26 (lv' := [(2, .int (-1 : Int32)), (0, .ref (ad X 0)), (1, .int x1)]) hX dX11_check_25 rfl rfl (by decide) rfl ?_
        refine q_iload_n 27 hX 2 dX11_check_26 rfl rfl rfl ?_
        refine q_iconst 28 hX dX11_check_27 rfl kI_1 ?_
        refine q_isub 29 hX dX11_check_28 rfl ?_
        refine q_istoreB_n 30 (lv0 := [(2, .int (-1 : Int32)), (0, .ref (ad X 0)), (1, .int x1)]) hX dX11_check_29 rfl rfl (by decide) rfl hres (fun v3 hres => ?_)
        exact q_sub [2, 1, 0] rfl (wfX11_check_30 hX hq _ _ _ _ hres)
      · have hres := it_t hc hres
        refine q_bipush 23 hX dX11_check_21 rfl kB_m2 ?_
        exact q_iret hX (eqi hq hres) dX11_check_23
theorem cX11_check9 {l : Launch} {w : WD} (hj : Dj w 0 55) {rr : Int32 × St} {S : St} {x1 : Int32} (hres : fX11_check S x1 = some rr) : Ct l yX11_check cX11_check 5 (some .int) 1 w 0 55 [.ref (w.1 0), .int x1] S (some (.int rr.1), rr.2) := by
  refine Ct.of (lv := [(0, .ref (w.1 0)), (1, .int x1)]) hj (by decide +kernel) (Nat.le_of_ble_eq_true rfl) rfl ?_
  rintro X rfl rfl hq hX
  exact wfX11_check hX hq hres
def fX11_count (S : St) (x1 : Int32) : Option (Int32 × St) :=
  if x1 = (0 : Int32) then (some ((S.1 19 4), S)) else (if x1 = (1 : Int32) then (if isT (S.2.2 0) then some ((S.1 (S.2.2 0) 7), S) else none) else (if x1 = (2 : Int32) then (if isT (S.2.2 0) then some ((S.1 (S.2.2 0) 8), S) else none) else (if x1 = (3 : Int32) then (bi (fX11_orNoneAtAll S (S.1 19 1)) fun r4 S1 => some (r4, S1)) else (if x1 = (4 : Int32) then (some ((S.1 19 2), S)) else (if x1 = (5 : Int32) then (some ((S.1 19 3), S)) else (if x1 = (6 : Int32) then (if isL (S.2.2 2) then some ((S.1 (S.2.2 2) 6), S) else none) else (if x1 = (7 : Int32) then (bi (fX7_size S) fun r7 S2 => some (r7, S2)) else (if x1 = (8 : Int32) then (some ((S.1 19 5), S)) else (if x1 = (9 : Int32) then (bi (fX6_joyOfAll 19 S) fun r9 S3 => some (r9, S3)) else (if x1 = (10 : Int32) then (bi (fJ6_bitCount_0f7a4 S (S.1 19 2)) fun r11 S4 => some (r11, S4)) else (if x1 = (11 : Int32) then (bi (fX4_takenTurns S) fun r13 S5 => some (r13, S5)) else (some ((-1 : Int32), S)))))))))))))
theorem wfX11_count {X : CX} (hX : Ok RX11 cX11_count (some .int) 0 55 2 X) {rr : Int32 × St} (hq : rs X = (some (.int rr.1), rr.2)) {S : St} {x1 : Int32} (hres : fX11_count S x1 = some rr) : Wat 0 55 1 2 X 0 [(0, .ref (ad X 0)), (1, .int x1)] [] S := by
  unfold fX11_count at hres
  refine q_iload_n 1 hX 1 dX11_count_0 rfl rfl rfl ?_
  by_cases hc0 : x1 = (0 : Int32)
  · have hres := it_t hc0 hres
    refine q_tabIn 64 hX dX11_count_1 (by rw [hc0]; decide) (by rw [hc0]; decide) (by rw [hc0]; rfl) (by decide) ?_
    refine q_aload_n 65 hX 0 dX11_count_64 rfl rfl rfl ?_
    refine q_getR 68 hX ci11 lf_RX11_68 fR_0_7 dX11_count_65 rfl ?_
    refine q_getI 71 hX ci6 lf_RX11_185 fI_19_4 dX11_count_68 rfl ?_
    exact q_iret hX (eqi hq hres) dX11_count_71
  have hres := it_f hc0 hres
  have hn0 := ne_ti (k := 0) hc0 (by decide)
  by_cases hc1 : x1 = (1 : Int32)
  · have hres := it_t hc1 hres
    refine q_tabIn 72 hX dX11_count_1 (by rw [hc1]; decide) (by rw [hc1]; decide) (by rw [hc1]; rfl) (by decide) ?_
    refine q_aload_n 73 hX 0 dX11_count_72 rfl rfl rfl ?_
    obtain ⟨hd1, hres⟩ := gd hres
    refine q_getD 76 hX ci11 lf_RX11_81 fD_0_10 dX11_count_73 rfl ?_
    refine q_getI 79 hX ci8 lf_RX11_192 (fI_T_7 hd1) dX11_count_76 rfl ?_
    exact q_iret hX (eqi hq hres) dX11_count_79
  have hres := it_f hc1 hres
  have hn1 := ne_ti (k := 1) hc1 (by decide)
  by_cases hc2 : x1 = (2 : Int32)
  · have hres := it_t hc2 hres
    refine q_tabIn 80 hX dX11_count_1 (by rw [hc2]; decide) (by rw [hc2]; decide) (by rw [hc2]; rfl) (by decide) ?_
    refine q_aload_n 81 hX 0 dX11_count_80 rfl rfl rfl ?_
    obtain ⟨hd2, hres⟩ := gd hres
    refine q_getD 84 hX ci11 lf_RX11_81 fD_0_10 dX11_count_81 rfl ?_
    refine q_getI 87 hX ci8 lf_RX11_195 (fI_T_8 hd2) dX11_count_84 rfl ?_
    exact q_iret hX (eqi hq hres) dX11_count_87
  have hres := it_f hc2 hres
  have hn2 := ne_ti (k := 2) hc2 (by decide)
  by_cases hc3 : x1 = (3 : Int32)
  · have hres := it_t hc3 hres
    refine q_tabIn 88 hX dX11_count_1 (by rw [hc3]; decide) (by rw [hc3]; decide) (by rw [hc3]; rfl) (by decide) ?_
    refine q_aload_n 89 hX 0 dX11_count_88 rfl rfl rfl ?_
    refine q_getR 92 hX ci11 lf_RX11_68 fR_0_7 dX11_count_89 rfl ?_
    refine q_getI 95 hX ci6 lf_RX11_169 fI_19_1 dX11_count_92 rfl ?_
    obtain ⟨r4, S1, hk3, hres⟩ := ob hres
    refine q_callSi 98 (st := []) (As := [.int (S.1 19 1)]) hX (cX11_orNoneAtAll9 hX.dj hk3) cs_RX11_172 rfl (by decide) rfl (Nat.le_of_ble_eq_true rfl) dX11_count_95 rfl ?_
    exact q_iret hX (eqi hq hres) dX11_count_98
  have hres := it_f hc3 hres
  have hn3 := ne_ti (k := 3) hc3 (by decide)
  by_cases hc4 : x1 = (4 : Int32)
  · have hres := it_t hc4 hres
    refine q_tabIn 99 hX dX11_count_1 (by rw [hc4]; decide) (by rw [hc4]; decide) (by rw [hc4]; rfl) (by decide) ?_
    refine q_aload_n 100 hX 0 dX11_count_99 rfl rfl rfl ?_
    refine q_getR 103 hX ci11 lf_RX11_68 fR_0_7 dX11_count_100 rfl ?_
    refine q_getI 106 hX ci6 lf_RX11_176 fI_19_2 dX11_count_103 rfl ?_
    exact q_iret hX (eqi hq hres) dX11_count_106
  have hres := it_f hc4 hres
  have hn4 := ne_ti (k := 4) hc4 (by decide)
  by_cases hc5 : x1 = (5 : Int32)
  · have hres := it_t hc5 hres
    refine q_tabIn 107 hX dX11_count_1 (by rw [hc5]; decide) (by rw [hc5]; decide) (by rw [hc5]; rfl) (by decide) ?_
    refine q_aload_n 108 hX 0 dX11_count_107 rfl rfl rfl ?_
    refine q_getR 111 hX ci11 lf_RX11_68 fR_0_7 dX11_count_108 rfl ?_
    refine q_getI 114 hX ci6 lf_RX11_155 fI_19_3 dX11_count_111 rfl ?_
    exact q_iret hX (eqi hq hres) dX11_count_114
  have hres := it_f hc5 hres
  have hn5 := ne_ti (k := 5) hc5 (by decide)
  by_cases hc6 : x1 = (6 : Int32)
  · have hres := it_t hc6 hres
    refine q_tabIn 115 hX dX11_count_1 (by rw [hc6]; decide) (by rw [hc6]; decide) (by rw [hc6]; rfl) (by decide) ?_
    refine q_aload_n 116 hX 0 dX11_count_115 rfl rfl rfl ?_
    obtain ⟨hd5, hres⟩ := gd hres
    refine q_getD 119 hX ci11 lf_RX11_91 fD_0_12 dX11_count_116 rfl ?_
    refine q_getI 122 hX ci2 lf_RX11_198 (fI_L_6 hd5) dX11_count_119 rfl ?_
    exact q_iret hX (eqi hq hres) dX11_count_122
  have hres := it_f hc6 hres
  have hn6 := ne_ti (k := 6) hc6 (by decide)
  by_cases hc7 : x1 = (7 : Int32)
  · have hres := it_t hc7 hres
    refine q_tabIn 123 hX dX11_count_1 (by rw [hc7]; decide) (by rw [hc7]; decide) (by rw [hc7]; rfl) (by decide) ?_
    refine q_aload_n 124 hX 0 dX11_count_123 rfl rfl rfl ?_
    refine q_getR 127 hX ci11 lf_RX11_10 fR_0_0 dX11_count_124 rfl ?_
    obtain ⟨r7, S2, hk6, hres⟩ := ob hres
    refine q_callVi 130 (st := []) (As := []) hX (cX7_size9 hX.dj hk6) cv_RX11_121 ci7 oB_1 rfl (by decide) rfl (Nat.le_of_ble_eq_true rfl) dX11_count_127 rfl ?_
    exact q_iret hX (eqi hq hres) dX11_count_130
  have hres := it_f hc7 hres
  have hn7 := ne_ti (k := 7) hc7 (by decide)
  by_cases hc8 : x1 = (8 : Int32)
  · have hres := it_t hc8 hres
    refine q_tabIn 131 hX dX11_count_1 (by rw [hc8]; decide) (by rw [hc8]; decide) (by rw [hc8]; rfl) (by decide) ?_
    refine q_aload_n 132 hX 0 dX11_count_131 rfl rfl rfl ?_
    refine q_getR 135 hX ci11 lf_RX11_68 fR_0_7 dX11_count_132 rfl ?_
    refine q_getI 138 hX ci6 lf_RX11_151 fI_19_5 dX11_count_135 rfl ?_
    exact q_iret hX (eqi hq hres) dX11_count_138
  have hres := it_f hc8 hres
  have hn8 := ne_ti (k := 8) hc8 (by decide)
  by_cases hc9 : x1 = (9 : Int32)
  · have hres := it_t hc9 hres
    refine q_tabIn 139 hX dX11_count_1 (by rw [hc9]; decide) (by rw [hc9]; decide) (by rw [hc9]; rfl) (by decide) ?_
    refine q_aload_n 140 hX 0 dX11_count_139 rfl rfl rfl ?_
    refine q_getR 143 hX ci11 lf_RX11_68 fR_0_7 dX11_count_140 rfl ?_
    obtain ⟨r9, S3, hk8, hres⟩ := ob hres
    refine q_callVi 146 (st := []) (As := []) hX (cX6_joyOfAll9 hX.dj (by decide) hk8) cv_RX11_179 ci6 oB_19 rfl (by decide) rfl (Nat.le_of_ble_eq_true rfl) dX11_count_143 rfl ?_
    exact q_iret hX (eqi hq hres) dX11_count_146
  have hres := it_f hc9 hres
  have hn9 := ne_ti (k := 9) hc9 (by decide)
  by_cases hc10 : x1 = (10 : Int32)
  · have hres := it_t hc10 hres
    refine q_tabIn 147 hX dX11_count_1 (by rw [hc10]; decide) (by rw [hc10]; decide) (by rw [hc10]; rfl) (by decide) ?_
    refine q_aload_n 148 hX 0 dX11_count_147 rfl rfl rfl ?_
    refine q_getR 151 hX ci11 lf_RX11_68 fR_0_7 dX11_count_148 rfl ?_
    refine q_getI 154 hX ci6 lf_RX11_176 fI_19_2 dX11_count_151 rfl ?_
    obtain ⟨r11, S4, hk10, hres⟩ := ob hres
    refine q_callSi 157 (st := []) (As := [.int (S.1 19 2)]) hX (cJ6_bitCount_0f7a49 hX.dj hk10) cs_RX11_201 rfl (by decide) rfl (Nat.le_of_ble_eq_true rfl) dX11_count_154 rfl ?_
    exact q_iret hX (eqi hq hres) dX11_count_157
  have hres := it_f hc10 hres
  have hn10 := ne_ti (k := 10) hc10 (by decide)
  by_cases hc11 : x1 = (11 : Int32)
  · have hres := it_t hc11 hres
    refine q_tabIn 158 hX dX11_count_1 (by rw [hc11]; decide) (by rw [hc11]; decide) (by rw [hc11]; rfl) (by decide) ?_
    refine q_aload_n 159 hX 0 dX11_count_158 rfl rfl rfl ?_
    refine q_getR 162 hX ci11 lf_RX11_47 fR_0_4 dX11_count_159 rfl ?_
    obtain ⟨r13, S5, hk12, hres⟩ := ob hres
    refine q_callVi 165 (st := []) (As := []) hX (cX4_takenTurns9 hX.dj hk12) cv_RX11_206 ci4 oB_8 rfl (by decide) rfl (Nat.le_of_ble_eq_true rfl) dX11_count_162 rfl ?_
    exact q_iret hX (eqi hq hres) dX11_count_165
  have hres := it_f hc11 hres
  have hn11 := ne_ti (k := 11) hc11 (by decide)
  refine q_tabOut 166 hX dX11_count_1 (by omega) (by decide) ?_
  refine q_iconst 167 hX dX11_count_166 rfl kI_m1 ?_
  exact q_iret hX (eqi hq hres) dX11_count_167
theorem cX11_count9 {l : Launch} {w : WD} (hj : Dj w 0 55) {rr : Int32 × St} {S : St} {x1 : Int32} (hres : fX11_count S x1 = some rr) : Ct l yX11_count cX11_count 2 (some .int) 1 w 0 55 [.ref (w.1 0), .int x1] S (some (.int rr.1), rr.2) := by
  refine Ct.of (lv := [(0, .ref (w.1 0)), (1, .int x1)]) hj (by decide +kernel) (Nat.le_of_ble_eq_true rfl) rfl ?_
  rintro X rfl rfl hq hX
  exact wfX11_count hX hq hres
def fX11_sees_30 (S : St) : Option (Int32 × St) :=
  some ((-1 : Int32), S)
theorem wfX11_sees_30 {X : CX} (hX : Ok RX11 cX11_sees (some .int) 0 55 3 X) {rr : Int32 × St} (hq : rs X = (some (.int rr.1), rr.2)) {S : St} (hres : fX11_sees_30 S = some rr) : Wat 0 55 2 3 X 30 [] [] S := by
  unfold fX11_sees_30 at hres
  refine q_iconst 31 hX dX11_sees_30 rfl kI_m1 ?_
  exact q_iret hX (eqi hq hres) dX11_sees_31
def fX11_sees (S : St) (x1 : Int32) (x2 : Int32) : Option (Int32 × St) :=
  if isT (S.2.2 0) then bi (fX8_hasHouse (S.2.2 0) S x1) fun r3 S1 => if r3 = 0 then (fX11_sees_30 S1) else (bi (fX11_isTurn S1 x2) fun r5 S2 => if r5 = 0 then (fX11_sees_30 S2) else (if isT (S2.2.2 0) then bi (fX8_view (S2.2.2 0) S2 x1 x2) fun r8 S3 => some (r8, S3) else none)) else none
theorem wfX11_sees {X : CX} (hX : Ok RX11 cX11_sees (some .int) 0 55 3 X) {rr : Int32 × St} (hq : rs X = (some (.int rr.1), rr.2)) {S : St} {x1 : Int32} {x2 : Int32} (hres : fX11_sees S x1 x2 = some rr) : Wat 0 55 2 3 X 0 [(0, .ref (ad X 0)), (1, .int x1), (2, .int x2)] [] S := by
  unfold fX11_sees at hres
  refine q_aload_n 1 hX 0 dX11_sees_0 rfl rfl rfl ?_
  obtain ⟨hd1, hres⟩ := gd hres
  refine q_getD 4 hX ci11 lf_RX11_81 fD_0_10 dX11_sees_1 rfl ?_
  refine q_iload_n 5 hX 1 dX11_sees_4 rfl rfl rfl ?_
  obtain ⟨r3, S1, hk2, hres⟩ := ob hres
  refine q_callVi 8 (st := []) (As := [.int x1]) hX (cX8_hasHouse9 hX.dj hd1 hk2) cv_RX11_106 ci8 (oB_T hd1) rfl (by decide) rfl (Nat.le_of_ble_eq_true rfl) dX11_sees_5 rfl ?_
  refine q_if_eq 11 hX 30 dX11_sees_8 rfl (by decide) (fun hc => ?_) (fun hc => ?_)
  · have hres := it_t hc hres
    exact q_sub [] rfl (wfX11_sees_30 hX hq hres)
  · have hres := it_f hc hres
    refine q_iload_n 12 hX 2 dX11_sees_11 rfl rfl rfl ?_
    obtain ⟨r5, S2, hk4, hres⟩ := ob hres
    refine q_callSi 15 (st := []) (As := [.int x2]) hX (cX11_isTurn9 hX.dj hk4) cs_RX11_102 rfl (by decide) rfl (Nat.le_of_ble_eq_true rfl) dX11_sees_12 rfl ?_
    refine q_if_eq 18 hX 30 dX11_sees_15 rfl (by decide) (fun hc => ?_) (fun hc => ?_)
    · have hres := it_t hc hres
      exact q_sub [] rfl (wfX11_sees_30 hX hq hres)
    · have hres := it_f hc hres
      refine q_aload_n 19 hX 0 dX11_sees_18 rfl rfl rfl ?_
      obtain ⟨hd6, hres⟩ := gd hres
      refine q_getD 22 hX ci11 lf_RX11_81 fD_0_10 dX11_sees_19 rfl ?_
      refine q_iload_n 23 hX 1 dX11_sees_22 rfl rfl rfl ?_
      refine q_iload_n 24 hX 2 dX11_sees_23 rfl rfl rfl ?_
      obtain ⟨r8, S3, hk7, hres⟩ := ob hres
      refine q_callVi 27 (st := []) (As := [.int x1, .int x2]) hX (cX8_view9 hX.dj hd6 hk7) cv_RX11_209 ci8 (oB_T hd6) rfl (by decide) rfl (Nat.le_of_ble_eq_true rfl) dX11_sees_24 rfl ?_
      refine q_goto 31 hX dX11_sees_27 (by decide) ?_
      exact q_iret hX (eqi hq hres) dX11_sees_31
theorem cX11_sees9 {l : Launch} {w : WD} (hj : Dj w 0 55) {rr : Int32 × St} {S : St} {x1 : Int32} {x2 : Int32} (hres : fX11_sees S x1 x2 = some rr) : Ct l yX11_sees cX11_sees 3 (some .int) 2 w 0 55 [.ref (w.1 0), .int x1, .int x2] S (some (.int rr.1), rr.2) := by
  refine Ct.of (lv := [(0, .ref (w.1 0)), (1, .int x1), (2, .int x2)]) hj (by decide +kernel) (Nat.le_of_ble_eq_true rfl) rfl ?_
  rintro X rfl rfl hq hX
  exact wfX11_sees hX hq hres
def fX11_longestRun_41 (rc16 : St → Int32 → Int32 → Int32 → Int32 → Option (Int32 × St)) (S : St) (x0 : Int32) (x2 : Int32) (x3 : Int32) (s0 : Int32) : Option (Int32 × St) :=
  bV ((if x2 < s0 then s0 else x2)) fun v1 => bV (x3 + (1 : Int32)) fun v2 => rc16 S x0 s0 v1 v2
theorem wfX11_longestRun_41 {X : CX} (hX : Ok RX11 cX11_longestRun (some .int) 0 55 4 X) {rr : Int32 × St} (hq : rs X = (some (.int rr.1), rr.2)) {rc16 : St → Int32 → Int32 → Int32 → Int32 → Option (Int32 × St)} (hrc16 : ∀ (S : St) (x0 : Int32) (x1 : Int32) (x2 : Int32) (x3 : Int32), rc16 S x0 x1 x2 x3 = some rr → Wat 0 55 1 4 X 16 [(0, .int x0), (1, .int x1), (2, .int x2), (3, .int x3)] [] S) {S : St} {x0 : Int32} {x2 : Int32} {x3 : Int32} {s0 : Int32} (hres : fX11_longestRun_41 rc16 S x0 x2 x3 s0 = some rr) : Wat 0 55 1 4 X 41 [(0, .int x0), (2, .int x2), (3, .int x3)] [.int s0] S := by
  unfold fX11_longestRun_41 at hres
  refine q_istore_n 42 (lv' := [(1, .int s0), (0, .int x0), (2, .int x2), (3, .int x3)]) hX dX11_longestRun_41 rfl rfl (by decide) rfl ?_
  refine q_iload_n 43 hX 2 dX11_longestRun_42 rfl rfl rfl ?_
  refine q_iload_n 44 hX 0 dX11_longestRun_43 rfl rfl rfl ?_
  refine q_max 47 hX mw_RX11_322 (by decide) (Nat.le_of_ble_eq_true rfl) dX11_longestRun_44 rfl ?_
  refine q_istoreB_n 48 (lv0 := [(1, .int s0), (0, .int x0), (3, .int x3)]) hX dX11_longestRun_47 rfl rfl (by decide) rfl hres (fun v1 hres => ?_)
  refine q_iincB 51 3 (lv0 := [(2, .int v1), (1, .int s0), (0, .int x0)]) hX dX11_longestRun_48 rfl rfl kI_1 (by decide) rfl hres (fun v2 hres => ?_)
  refine q_goto 16 hX dX11_longestRun_51 (by decide) ?_
  exact q_sub [3, 2, 1, 0] rfl (hrc16 _ _ _ _ _ hres)
def bX11_longestRun_16 (rc16 : St → Int32 → Int32 → Int32 → Int32 → Option (Int32 × St)) (S : St) (x0 : Int32) (x1 : Int32) (x2 : Int32) (x3 : Int32) : Option (Int32 × St) :=
  if (24 : Int32) ≤ x3 then (some (x2, S)) else (if ((x0 >>> ((x3 - x3 / (12 : Int32) * (12 : Int32)) &&& 31)) &&& (1 : Int32)) = (1 : Int32) then (fX11_longestRun_41 rc16 S x0 x2 x3 (x1 + (1 : Int32))) else (fX11_longestRun_41 rc16 S x0 x2 x3 (0 : Int32)))
theorem wbX11_longestRun_16 {X : CX} (hX : Ok RX11 cX11_longestRun (some .int) 0 55 4 X) {rr : Int32 × St} (hq : rs X = (some (.int rr.1), rr.2)) {rc16 : St → Int32 → Int32 → Int32 → Int32 → Option (Int32 × St)} (hrc16 : ∀ (S : St) (x0 : Int32) (x1 : Int32) (x2 : Int32) (x3 : Int32), rc16 S x0 x1 x2 x3 = some rr → Wat 0 55 1 4 X 16 [(0, .int x0), (1, .int x1), (2, .int x2), (3, .int x3)] [] S) {S : St} {x0 : Int32} {x1 : Int32} {x2 : Int32} {x3 : Int32} (hres : bX11_longestRun_16 rc16 S x0 x1 x2 x3 = some rr) : Wat 0 55 1 4 X 16 [(0, .int x0), (1, .int x1), (2, .int x2), (3, .int x3)] [] S := by
  unfold bX11_longestRun_16 at hres
  refine q_iload_n 17 hX 3 dX11_longestRun_16 rfl rfl rfl ?_
  refine q_bipush 19 hX dX11_longestRun_17 rfl kB_24 ?_
  refine q_icmp_ge 22 hX 54 dX11_longestRun_19 rfl (by decide) (fun hc => ?_) (fun hc => ?_)
  · have hres := it_t hc hres
    refine q_iload_n 55 hX 2 dX11_longestRun_54 rfl rfl rfl ?_
    exact q_iret hX (eqi hq hres) dX11_longestRun_55
  · have hres := it_f hc hres
    refine q_iload_n 23 hX 0 dX11_longestRun_22 rfl rfl rfl ?_
    refine q_iload_n 24 hX 3 dX11_longestRun_23 rfl rfl rfl ?_
    refine q_bipush 26 hX dX11_longestRun_24 rfl kB_12 ?_
    refine q_irem 27 hX dX11_longestRun_26 rfl (by decide) ?_
    refine q_ishr 28 hX dX11_longestRun_27 rfl ?_
    refine q_iconst 29 hX dX11_longestRun_28 rfl kI_1 ?_
    refine q_iand 30 hX dX11_longestRun_29 rfl ?_
    refine q_iconst 31 hX dX11_longestRun_30 rfl kI_1 ?_
    refine q_icmp_ne 34 hX 40 dX11_longestRun_31 rfl (by decide) (fun hc => ?_) (fun hc => ?_)
    · have hres := it_f hc hres
      refine q_iconst 41 hX dX11_longestRun_40 rfl kI_0 ?_
      exact q_sub [0, 2, 3] rfl (wfX11_longestRun_41 hX hq hrc16 hres)
    · have hres := it_t hc hres
      refine q_iload_n 35 hX 1 dX11_longestRun_34 rfl rfl rfl ?_
      refine q_iconst 36 hX dX11_longestRun_35 rfl kI_1 ?_
      refine q_iadd 37 hX dX11_longestRun_36 rfl ?_
      refine q_goto 41 hX dX11_longestRun_37 (by decide) ?_
      exact q_sub [0, 2, 3] rfl (wfX11_longestRun_41 hX hq hrc16 hres)
def fX11_longestRun_16 : Nat → St → Int32 → Int32 → Int32 → Int32 → Option (Int32 × St)
  | 0 => fun _ _ _ _ _ => none
  | k + 1 => fun S x0 x1 x2 x3 => bX11_longestRun_16 (fX11_longestRun_16 k) S x0 x1 x2 x3
theorem wfX11_longestRun_16 {X : CX} (hX : Ok RX11 cX11_longestRun (some .int) 0 55 4 X) {rr : Int32 × St} (hq : rs X = (some (.int rr.1), rr.2)) (k : Nat) : ∀ (S : St) (x0 : Int32) (x1 : Int32) (x2 : Int32) (x3 : Int32), fX11_longestRun_16 k S x0 x1 x2 x3 = some rr → Wat 0 55 1 4 X 16 [(0, .int x0), (1, .int x1), (2, .int x2), (3, .int x3)] [] S := by
  induction k with
  | zero => intro S x0 x1 x2 x3 hres; exact absurd hres (by simp [fX11_longestRun_16])
  | succ k ih => intro S x0 x1 x2 x3 hres; exact wbX11_longestRun_16 hX hq ih hres
def fX11_longestRun (S : St) (x0 : Int32) : Option (Int32 × St) :=
  if x0 = (4095 : Int32) then (some ((12 : Int32), S)) else (fX11_longestRun_16 100 S x0 (0 : Int32) (0 : Int32) (0 : Int32))
theorem wfX11_longestRun {X : CX} (hX : Ok RX11 cX11_longestRun (some .int) 0 55 4 X) {rr : Int32 × St} (hq : rs X = (some (.int rr.1), rr.2)) {S : St} {x0 : Int32} (hres : fX11_longestRun S x0 = some rr) : Wat 0 55 1 4 X 0 [(0, .int x0)] [] S := by
  unfold fX11_longestRun at hres
  refine q_iload_n 1 hX 0 dX11_longestRun_0 rfl rfl rfl ?_
  refine q_sipush 4 hX dX11_longestRun_1 rfl kS_4095 ?_
  refine q_icmp_ne 7 hX 10 dX11_longestRun_4 rfl (by decide) (fun hc => ?_) (fun hc => ?_)
  · have hres := it_f hc hres
    refine q_iconst 11 hX dX11_longestRun_10 rfl kI_0 ?_
    refine q_istore_n 12 (lv' := [(1, .int (0 : Int32)), (0, .int x0)]) hX dX11_longestRun_11 rfl rfl (by decide) rfl ?_
    refine q_iconst 13 hX dX11_longestRun_12 rfl kI_0 ?_
    refine q_istore_n 14 (lv' := [(2, .int (0 : Int32)), (1, .int (0 : Int32)), (0, .int x0)]) hX dX11_longestRun_13 rfl rfl (by decide) rfl ?_
    refine q_iconst 15 hX dX11_longestRun_14 rfl kI_0 ?_
    refine q_istore_n 16 (lv' := [(3, .int (0 : Int32)), (2, .int (0 : Int32)), (1, .int (0 : Int32)), (0, .int x0)]) hX dX11_longestRun_15 rfl rfl (by decide) rfl ?_
    exact q_sub [3, 2, 1, 0] rfl (wfX11_longestRun_16 hX hq _ _ _ _ _ _ hres)
  · have hres := it_t hc hres
    refine q_bipush 9 hX dX11_longestRun_7 rfl kB_12 ?_
    exact q_iret hX (eqi hq hres) dX11_longestRun_9
theorem cX11_longestRun9 {l : Launch} {w : WD} (hj : Dj w 0 55) {rr : Int32 × St} {S : St} {x0 : Int32} (hres : fX11_longestRun S x0 = some rr) : Ct l yX11_longestRun cX11_longestRun 4 (some .int) 1 w 0 55 [.int x0] S (some (.int rr.1), rr.2) := by
  refine Ct.of (lv := [(0, .int x0)]) hj (by decide +kernel) (Nat.le_of_ble_eq_true rfl) rfl ?_
  rintro X rfl rfl hq hX
  exact wfX11_longestRun hX hq hres
def fX11_houseIs (S : St) (x1 : Int32) (x2 : Int32) : Option (Int32 × St) :=
  if isT (S.2.2 0) then bi (fX8_hasHouse (S.2.2 0) S x1) fun r3 S1 => if r3 = 0 then (some ((-1 : Int32), S1)) else (if x2 = (0 : Int32) then (if isT (S1.2.2 0) then if inb x1 16 = true then some ((S1.1 ((S1.2.2 0) + 1) (x1.toNatClampNeg)), S1) else none else none) else (if x2 = (1 : Int32) then (bi (fX6_joyOf 19 S1 x1) fun r7 S2 => some (r7, S2)) else (if x2 = (2 : Int32) then (bi (fX4_turnsOf S1 x1) fun r9 S3 => bi (fJ6_bitCount_0f7a4 S3 r9) fun r11 S4 => some (r11, S4)) else (if x2 = (3 : Int32) then (bi (fX4_turnsOf S1 x1) fun r13 S5 => bi (fX11_longestRun S5 ((4095 : Int32) &&& (r13 ^^^ (-1 : Int32)))) fun r15 S6 => some (r15, S6)) else (if x2 = (4 : Int32) then (if isT (S1.2.2 0) then bi (fX8_wholeView (S1.2.2 0) S1 x1) fun r18 S7 => some (r18, S7) else none) else (some ((-1 : Int32), S1))))))) else none
theorem wfX11_houseIs {X : CX} (hX : Ok RX11 cX11_houseIs (some .int) 0 55 3 X) {rr : Int32 × St} (hq : rs X = (some (.int rr.1), rr.2)) {S : St} {x1 : Int32} {x2 : Int32} (hres : fX11_houseIs S x1 x2 = some rr) : Wat 0 55 2 3 X 0 [(0, .ref (ad X 0)), (1, .int x1), (2, .int x2)] [] S := by
  unfold fX11_houseIs at hres
  refine q_aload_n 1 hX 0 dX11_houseIs_0 rfl rfl rfl ?_
  obtain ⟨hd1, hres⟩ := gd hres
  refine q_getD 4 hX ci11 lf_RX11_81 fD_0_10 dX11_houseIs_1 rfl ?_
  refine q_iload_n 5 hX 1 dX11_houseIs_4 rfl rfl rfl ?_
  obtain ⟨r3, S1, hk2, hres⟩ := ob hres
  refine q_callVi 8 (st := []) (As := [.int x1]) hX (cX8_hasHouse9 hX.dj hd1 hk2) cv_RX11_106 ci8 (oB_T hd1) rfl (by decide) rfl (Nat.le_of_ble_eq_true rfl) dX11_houseIs_5 rfl ?_
  refine q_if_ne 11 hX 13 dX11_houseIs_8 rfl (by decide) (fun hc => ?_) (fun hc => ?_)
  · have hres := it_f hc hres
    refine q_iload_n 14 hX 2 dX11_houseIs_13 rfl rfl rfl ?_
    by_cases hc0 : x2 = (0 : Int32)
    · have hres := it_t hc0 hres
      refine q_tabIn 48 hX dX11_houseIs_14 (by rw [hc0]; decide) (by rw [hc0]; decide) (by rw [hc0]; rfl) (by decide) ?_
      refine q_aload_n 49 hX 0 dX11_houseIs_48 rfl rfl rfl ?_
      obtain ⟨hd4, hres⟩ := gd hres
      refine q_getD 52 hX ci11 lf_RX11_81 fD_0_10 dX11_houseIs_49 rfl ?_
      refine q_getR 55 hX ci8 lf_RX11_213 (fR_T_0 hd4) dX11_houseIs_52 rfl ?_
      refine q_iload_n 56 hX 1 dX11_houseIs_55 rfl rfl rfl ?_
      obtain ⟨hb5, hres⟩ := gd hres
      refine q_iald 57 hX rfl (aF_T_1 hd4) hb5 dX11_houseIs_56 rfl ?_
      exact q_iret hX (eqi hq hres) dX11_houseIs_57
    have hres := it_f hc0 hres
    have hn0 := ne_ti (k := 0) hc0 (by decide)
    by_cases hc1 : x2 = (1 : Int32)
    · have hres := it_t hc1 hres
      refine q_tabIn 58 hX dX11_houseIs_14 (by rw [hc1]; decide) (by rw [hc1]; decide) (by rw [hc1]; rfl) (by decide) ?_
      refine q_aload_n 59 hX 0 dX11_houseIs_58 rfl rfl rfl ?_
      refine q_getR 62 hX ci11 lf_RX11_68 fR_0_7 dX11_houseIs_59 rfl ?_
      refine q_iload_n 63 hX 1 dX11_houseIs_62 rfl rfl rfl ?_
      obtain ⟨r7, S2, hk6, hres⟩ := ob hres
      refine q_callVi 66 (st := []) (As := [.int x1]) hX (cX6_joyOf9 hX.dj (by decide) hk6) cv_RX11_182 ci6 oB_19 rfl (by decide) rfl (Nat.le_of_ble_eq_true rfl) dX11_houseIs_63 rfl ?_
      exact q_iret hX (eqi hq hres) dX11_houseIs_66
    have hres := it_f hc1 hres
    have hn1 := ne_ti (k := 1) hc1 (by decide)
    by_cases hc2 : x2 = (2 : Int32)
    · have hres := it_t hc2 hres
      refine q_tabIn 67 hX dX11_houseIs_14 (by rw [hc2]; decide) (by rw [hc2]; decide) (by rw [hc2]; rfl) (by decide) ?_
      refine q_aload_n 68 hX 0 dX11_houseIs_67 rfl rfl rfl ?_
      refine q_getR 71 hX ci11 lf_RX11_47 fR_0_4 dX11_houseIs_68 rfl ?_
      refine q_iload_n 72 hX 1 dX11_houseIs_71 rfl rfl rfl ?_
      obtain ⟨r9, S3, hk8, hres⟩ := ob hres
      refine q_callVi 75 (st := []) (As := [.int x1]) hX (cX4_turnsOf9 hX.dj hk8) cv_RX11_217 ci4 oB_8 rfl (by decide) rfl (Nat.le_of_ble_eq_true rfl) dX11_houseIs_72 rfl ?_
      obtain ⟨r11, S4, hk10, hres⟩ := ob hres
      refine q_callSi 78 (st := []) (As := [.int r9]) hX (cJ6_bitCount_0f7a49 hX.dj hk10) cs_RX11_201 rfl (by decide) rfl (Nat.le_of_ble_eq_true rfl) dX11_houseIs_75 rfl ?_
      exact q_iret hX (eqi hq hres) dX11_houseIs_78
    have hres := it_f hc2 hres
    have hn2 := ne_ti (k := 2) hc2 (by decide)
    by_cases hc3 : x2 = (3 : Int32)
    · have hres := it_t hc3 hres
      refine q_tabIn 79 hX dX11_houseIs_14 (by rw [hc3]; decide) (by rw [hc3]; decide) (by rw [hc3]; rfl) (by decide) ?_
      refine q_sipush 82 hX dX11_houseIs_79 rfl kS_4095 ?_
      refine q_aload_n 83 hX 0 dX11_houseIs_82 rfl rfl rfl ?_
      refine q_getR 86 hX ci11 lf_RX11_47 fR_0_4 dX11_houseIs_83 rfl ?_
      refine q_iload_n 87 hX 1 dX11_houseIs_86 rfl rfl rfl ?_
      obtain ⟨r13, S5, hk12, hres⟩ := ob hres
      refine q_callVi 90 (st := [.int (4095 : Int32)]) (As := [.int x1]) hX (cX4_turnsOf9 hX.dj hk12) cv_RX11_217 ci4 oB_8 rfl (by decide) rfl (Nat.le_of_ble_eq_true rfl) dX11_houseIs_87 rfl ?_
      refine q_iconst 91 hX dX11_houseIs_90 rfl kI_m1 ?_
      refine q_ixor 92 hX dX11_houseIs_91 rfl ?_
      refine q_iand 93 hX dX11_houseIs_92 rfl ?_
      obtain ⟨r15, S6, hk14, hres⟩ := ob hres
      refine q_callSi 96 (st := []) (As := [.int ((4095 : Int32) &&& (r13 ^^^ (-1 : Int32)))]) hX (cX11_longestRun9 hX.dj hk14) cs_RX11_220 rfl (by decide) rfl (Nat.le_of_ble_eq_true rfl) dX11_houseIs_93 rfl ?_
      exact q_iret hX (eqi hq hres) dX11_houseIs_96
    have hres := it_f hc3 hres
    have hn3 := ne_ti (k := 3) hc3 (by decide)
    by_cases hc4 : x2 = (4 : Int32)
    · have hres := it_t hc4 hres
      refine q_tabIn 97 hX dX11_houseIs_14 (by rw [hc4]; decide) (by rw [hc4]; decide) (by rw [hc4]; rfl) (by decide) ?_
      refine q_aload_n 98 hX 0 dX11_houseIs_97 rfl rfl rfl ?_
      obtain ⟨hd16, hres⟩ := gd hres
      refine q_getD 101 hX ci11 lf_RX11_81 fD_0_10 dX11_houseIs_98 rfl ?_
      refine q_iload_n 102 hX 1 dX11_houseIs_101 rfl rfl rfl ?_
      obtain ⟨r18, S7, hk17, hres⟩ := ob hres
      refine q_callVi 105 (st := []) (As := [.int x1]) hX (cX8_wholeView9 hX.dj hd16 hk17) cv_RX11_223 ci8 (oB_T hd16) rfl (by decide) rfl (Nat.le_of_ble_eq_true rfl) dX11_houseIs_102 rfl ?_
      exact q_iret hX (eqi hq hres) dX11_houseIs_105
    have hres := it_f hc4 hres
    have hn4 := ne_ti (k := 4) hc4 (by decide)
    refine q_tabOut 106 hX dX11_houseIs_14 (by omega) (by decide) ?_
    refine q_iconst 107 hX dX11_houseIs_106 rfl kI_m1 ?_
    exact q_iret hX (eqi hq hres) dX11_houseIs_107
  · have hres := it_t hc hres
    refine q_iconst 12 hX dX11_houseIs_11 rfl kI_m1 ?_
    exact q_iret hX (eqi hq hres) dX11_houseIs_12
theorem cX11_houseIs9 {l : Launch} {w : WD} (hj : Dj w 0 55) {rr : Int32 × St} {S : St} {x1 : Int32} {x2 : Int32} (hres : fX11_houseIs S x1 x2 = some rr) : Ct l yX11_houseIs cX11_houseIs 3 (some .int) 2 w 0 55 [.ref (w.1 0), .int x1, .int x2] S (some (.int rr.1), rr.2) := by
  refine Ct.of (lv := [(0, .ref (w.1 0)), (1, .int x1), (2, .int x2)]) hj (by decide +kernel) (Nat.le_of_ble_eq_true rfl) rfl ?_
  rintro X rfl rfl hq hX
  exact wfX11_houseIs hX hq hres
def fX11_rotaIs (S : St) (x1 : Int32) : Option (Int32 × St) :=
  bi (fX11_isTurn S x1) fun r2 S1 => if r2 = 0 then (if x1 = (100 : Int32) then (bi (fX4_way S1) fun r4 S2 => some (r4, S2)) else (if x1 = (101 : Int32) then (bi (fX4_way S1) fun r6 S3 => bi (fX4_wayBack S3) fun r8 S4 => some ((r6 + r8), S4)) else (if x1 = (102 : Int32) then (if isT (S1.2.2 0) then bi (fX4_thingsSeen (S1.2.2 0) S1) fun r11 S5 => some (r11, S5) else none) else (some ((-1 : Int32), S1))))) else (bi (fX4_holder S1 x1) fun r13 S6 => bi (fX11_orNoneAtAll S6 r13) fun r15 S7 => some (r15, S7))
theorem wfX11_rotaIs {X : CX} (hX : Ok RX11 cX11_rotaIs (some .int) 0 55 2 X) {rr : Int32 × St} (hq : rs X = (some (.int rr.1), rr.2)) {S : St} {x1 : Int32} (hres : fX11_rotaIs S x1 = some rr) : Wat 0 55 3 2 X 0 [(0, .ref (ad X 0)), (1, .int x1)] [] S := by
  unfold fX11_rotaIs at hres
  refine q_iload_n 1 hX 1 dX11_rotaIs_0 rfl rfl rfl ?_
  obtain ⟨r2, S1, hk1, hres⟩ := ob hres
  refine q_callSi 4 (st := []) (As := [.int x1]) hX (cX11_isTurn9 hX.dj hk1) cs_RX11_102 rfl (by decide) rfl (Nat.le_of_ble_eq_true rfl) dX11_rotaIs_1 rfl ?_
  refine q_if_eq 7 hX 19 dX11_rotaIs_4 rfl (by decide) (fun hc => ?_) (fun hc => ?_)
  · have hres := it_t hc hres
    refine q_iload_n 20 hX 1 dX11_rotaIs_19 rfl rfl rfl ?_
    by_cases hc100 : x1 = (100 : Int32)
    · have hres := it_t hc100 hres
      refine q_tabIn 48 hX dX11_rotaIs_20 (by rw [hc100]; decide) (by rw [hc100]; decide) (by rw [hc100]; rfl) (by decide) ?_
      refine q_aload_n 49 hX 0 dX11_rotaIs_48 rfl rfl rfl ?_
      refine q_getR 52 hX ci11 lf_RX11_47 fR_0_4 dX11_rotaIs_49 rfl ?_
      obtain ⟨r4, S2, hk3, hres⟩ := ob hres
      refine q_callVi 55 (st := []) (As := []) hX (cX4_way9 hX.dj hk3) cv_RX11_229 ci4 oB_8 rfl (by decide) rfl (Nat.le_of_ble_eq_true rfl) dX11_rotaIs_52 rfl ?_
      exact q_iret hX (eqi hq hres) dX11_rotaIs_55
    have hres := it_f hc100 hres
    have hn100 := ne_ti (k := 100) hc100 (by decide)
    by_cases hc101 : x1 = (101 : Int32)
    · have hres := it_t hc101 hres
      refine q_tabIn 56 hX dX11_rotaIs_20 (by rw [hc101]; decide) (by rw [hc101]; decide) (by rw [hc101]; rfl) (by decide) ?_
      refine q_aload_n 57 hX 0 dX11_rotaIs_56 rfl rfl rfl ?_
      refine q_getR 60 hX ci11 lf_RX11_47 fR_0_4 dX11_rotaIs_57 rfl ?_
      obtain ⟨r6, S3, hk5, hres⟩ := ob hres
      refine q_callVi 63 (st := []) (As := []) hX (cX4_way9 hX.dj hk5) cv_RX11_229 ci4 oB_8 rfl (by decide) rfl (Nat.le_of_ble_eq_true rfl) dX11_rotaIs_60 rfl ?_
      refine q_aload_n 64 hX 0 dX11_rotaIs_63 rfl rfl rfl ?_
      refine q_getR 67 hX ci11 lf_RX11_47 fR_0_4 dX11_rotaIs_64 rfl ?_
      obtain ⟨r8, S4, hk7, hres⟩ := ob hres
      refine q_callVi 70 (st := [.int r6]) (As := []) hX (cX4_wayBack9 hX.dj hk7) cv_RX11_232 ci4 oB_8 rfl (by decide) rfl (Nat.le_of_ble_eq_true rfl) dX11_rotaIs_67 rfl ?_
      refine q_iadd 71 hX dX11_rotaIs_70 rfl ?_
      exact q_iret hX (eqi hq hres) dX11_rotaIs_71
    have hres := it_f hc101 hres
    have hn101 := ne_ti (k := 101) hc101 (by decide)
    by_cases hc102 : x1 = (102 : Int32)
    · have hres := it_t hc102 hres
      refine q_tabIn 72 hX dX11_rotaIs_20 (by rw [hc102]; decide) (by rw [hc102]; decide) (by rw [hc102]; rfl) (by decide) ?_
      refine q_aload_n 73 hX 0 dX11_rotaIs_72 rfl rfl rfl ?_
      refine q_getR 76 hX ci11 lf_RX11_47 fR_0_4 dX11_rotaIs_73 rfl ?_
      refine q_aload_n 77 hX 0 dX11_rotaIs_76 rfl rfl rfl ?_
      obtain ⟨hd9, hres⟩ := gd hres
      refine q_getD 80 hX ci11 lf_RX11_81 fD_0_10 dX11_rotaIs_77 rfl ?_
      obtain ⟨r11, S5, hk10, hres⟩ := ob hres
      refine q_callVi 83 (st := []) (As := [.ref (ad X (S1.2.2 0))]) hX (cX4_thingsSeen9 hX.dj hd9 hk10) cv_RX11_235 ci4 oB_8 rfl (by decide) rfl (Nat.le_of_ble_eq_true rfl) dX11_rotaIs_80 rfl ?_
      exact q_iret hX (eqi hq hres) dX11_rotaIs_83
    have hres := it_f hc102 hres
    have hn102 := ne_ti (k := 102) hc102 (by decide)
    refine q_tabOut 84 hX dX11_rotaIs_20 (by omega) (by decide) ?_
    refine q_iconst 85 hX dX11_rotaIs_84 rfl kI_m1 ?_
    exact q_iret hX (eqi hq hres) dX11_rotaIs_85
  · have hres := it_f hc hres
    refine q_aload_n 8 hX 0 dX11_rotaIs_7 rfl rfl rfl ?_
    refine q_getR 11 hX ci11 lf_RX11_47 fR_0_4 dX11_rotaIs_8 rfl ?_
    refine q_iload_n 12 hX 1 dX11_rotaIs_11 rfl rfl rfl ?_
    obtain ⟨r13, S6, hk12, hres⟩ := ob hres
    refine q_callVi 15 (st := []) (As := [.int x1]) hX (cX4_holder9 hX.dj hk12) cv_RX11_226 ci4 oB_8 rfl (by decide) rfl (Nat.le_of_ble_eq_true rfl) dX11_rotaIs_12 rfl ?_
    obtain ⟨r15, S7, hk14, hres⟩ := ob hres
    refine q_callSi 18 (st := []) (As := [.int r13]) hX (cX11_orNoneAtAll9 hX.dj hk14) cs_RX11_172 rfl (by decide) rfl (Nat.le_of_ble_eq_true rfl) dX11_rotaIs_15 rfl ?_
    exact q_iret hX (eqi hq hres) dX11_rotaIs_18
theorem cX11_rotaIs9 {l : Launch} {w : WD} (hj : Dj w 0 55) {rr : Int32 × St} {S : St} {x1 : Int32} (hres : fX11_rotaIs S x1 = some rr) : Ct l yX11_rotaIs cX11_rotaIs 2 (some .int) 3 w 0 55 [.ref (w.1 0), .int x1] S (some (.int rr.1), rr.2) := by
  refine Ct.of (lv := [(0, .ref (w.1 0)), (1, .int x1)]) hj (by decide +kernel) (Nat.le_of_ble_eq_true rfl) rfl ?_
  rintro X rfl rfl hq hX
  exact wfX11_rotaIs hX hq hres
def fX11_next (S : St) (x1 : Int32) (x2 : Int32) (x3 : Int32) : Option (Int32 × St) :=
  if isT (S.2.2 0) then bi (fX8_hasHouse (S.2.2 0) S x1) fun r3 S1 => if r3 = 0 then (some ((-1 : Int32), S1)) else (if isT (S1.2.2 0) then bi (fX8_hasThing (S1.2.2 0) S1 x2) fun r6 S2 => if r6 = 0 then (some ((-1 : Int32), S2)) else (bi (fX11_isTurn S2 x3) fun r8 S3 => if r8 = 0 then (some ((-1 : Int32), S3)) else (if isT (S3.2.2 0) then bi (fX4_turnsTill (S3.2.2 0) S3 x1 x2 x3) fun r11 S4 => some (r11, S4) else none)) else none) else none
theorem wfX11_next {X : CX} (hX : Ok RX11 cX11_next (some .int) 0 55 4 X) {rr : Int32 × St} (hq : rs X = (some (.int rr.1), rr.2)) {S : St} {x1 : Int32} {x2 : Int32} {x3 : Int32} (hres : fX11_next S x1 x2 x3 = some rr) : Wat 0 55 3 4 X 0 [(0, .ref (ad X 0)), (1, .int x1), (2, .int x2), (3, .int x3)] [] S := by
  unfold fX11_next at hres
  refine q_aload_n 1 hX 0 dX11_next_0 rfl rfl rfl ?_
  obtain ⟨hd1, hres⟩ := gd hres
  refine q_getD 4 hX ci11 lf_RX11_81 fD_0_10 dX11_next_1 rfl ?_
  refine q_iload_n 5 hX 1 dX11_next_4 rfl rfl rfl ?_
  obtain ⟨r3, S1, hk2, hres⟩ := ob hres
  refine q_callVi 8 (st := []) (As := [.int x1]) hX (cX8_hasHouse9 hX.dj hd1 hk2) cv_RX11_106 ci8 (oB_T hd1) rfl (by decide) rfl (Nat.le_of_ble_eq_true rfl) dX11_next_5 rfl ?_
  refine q_if_eq 11 hX 29 dX11_next_8 rfl (by decide) (fun hc => ?_) (fun hc => ?_)
  · have hres := it_t hc hres
    refine q_iconst 30 hX dX11_next_29 rfl kI_m1 ?_
    exact q_iret hX (eqi hq hres) dX11_next_30
  · have hres := it_f hc hres
    refine q_aload_n 12 hX 0 dX11_next_11 rfl rfl rfl ?_
    obtain ⟨hd4, hres⟩ := gd hres
    refine q_getD 15 hX ci11 lf_RX11_81 fD_0_10 dX11_next_12 rfl ?_
    refine q_iload_n 16 hX 2 dX11_next_15 rfl rfl rfl ?_
    obtain ⟨r6, S2, hk5, hres⟩ := ob hres
    refine q_callVi 19 (st := []) (As := [.int x2]) hX (cX8_hasThing9 hX.dj hd4 hk5) cv_RX11_239 ci8 (oB_T hd4) rfl (by decide) rfl (Nat.le_of_ble_eq_true rfl) dX11_next_16 rfl ?_
    refine q_if_eq 22 hX 29 dX11_next_19 rfl (by decide) (fun hc => ?_) (fun hc => ?_)
    · have hres := it_t hc hres
      refine q_iconst 30 hX dX11_next_29 rfl kI_m1 ?_
      exact q_iret hX (eqi hq hres) dX11_next_30
    · have hres := it_f hc hres
      refine q_iload_n 23 hX 3 dX11_next_22 rfl rfl rfl ?_
      obtain ⟨r8, S3, hk7, hres⟩ := ob hres
      refine q_callSi 26 (st := []) (As := [.int x3]) hX (cX11_isTurn9 hX.dj hk7) cs_RX11_102 rfl (by decide) rfl (Nat.le_of_ble_eq_true rfl) dX11_next_23 rfl ?_
      refine q_if_ne 29 hX 31 dX11_next_26 rfl (by decide) (fun hc => ?_) (fun hc => ?_)
      · have hres := it_f hc hres
        refine q_aload_n 32 hX 0 dX11_next_31 rfl rfl rfl ?_
        refine q_getR 35 hX ci11 lf_RX11_47 fR_0_4 dX11_next_32 rfl ?_
        refine q_aload_n 36 hX 0 dX11_next_35 rfl rfl rfl ?_
        obtain ⟨hd9, hres⟩ := gd hres
        refine q_getD 39 hX ci11 lf_RX11_81 fD_0_10 dX11_next_36 rfl ?_
        refine q_iload_n 40 hX 1 dX11_next_39 rfl rfl rfl ?_
        refine q_iload_n 41 hX 2 dX11_next_40 rfl rfl rfl ?_
        refine q_iload_n 42 hX 3 dX11_next_41 rfl rfl rfl ?_
        obtain ⟨r11, S4, hk10, hres⟩ := ob hres
        refine q_callVi 45 (st := []) (As := [.ref (ad X (S3.2.2 0)), .int x1, .int x2, .int x3]) hX (cX4_turnsTill9 hX.dj hd9 hk10) cv_RX11_242 ci4 oB_8 rfl (by decide) rfl (Nat.le_of_ble_eq_true rfl) dX11_next_42 rfl ?_
        exact q_iret hX (eqi hq hres) dX11_next_45
      · have hres := it_t hc hres
        refine q_iconst 30 hX dX11_next_29 rfl kI_m1 ?_
        exact q_iret hX (eqi hq hres) dX11_next_30
theorem cX11_next9 {l : Launch} {w : WD} (hj : Dj w 0 55) {rr : Int32 × St} {S : St} {x1 : Int32} {x2 : Int32} {x3 : Int32} (hres : fX11_next S x1 x2 x3 = some rr) : Ct l yX11_next cX11_next 4 (some .int) 3 w 0 55 [.ref (w.1 0), .int x1, .int x2, .int x3] S (some (.int rr.1), rr.2) := by
  refine Ct.of (lv := [(0, .ref (w.1 0)), (1, .int x1), (2, .int x2), (3, .int x3)]) hj (by decide +kernel) (Nat.le_of_ble_eq_true rfl) rfl ?_
  rintro X rfl rfl hq hX
  exact wfX11_next hX hq hres
def fX11_light (S : St) (x1 : Int32) (x2 : Int32) : Option (Int32 × St) :=
  if isT (S.2.2 0) then bi (fX8_hasHouse (S.2.2 0) S x1) fun r3 S1 => if r3 = 0 then (some ((-1 : Int32), S1)) else (if x2 < 0 then (some ((-1 : Int32), S1)) else (if x2 ≤ (1 : Int32) then (if isT (S1.2.2 0) then bi (fX8_litTurns (S1.2.2 0) S1 x1) fun r6 S2 => if x2 = 0 then (bi (fJ6_bitCount_0f7a4 S2 r6) fun r10 S4 => some (r10, S4)) else (bi (fX11_longestRun S2 r6) fun r8 S3 => some (r8, S3)) else none) else (some ((-1 : Int32), S1)))) else none
theorem wfX11_light {X : CX} (hX : Ok RX11 cX11_light (some .int) 0 55 4 X) {rr : Int32 × St} (hq : rs X = (some (.int rr.1), rr.2)) {S : St} {x1 : Int32} {x2 : Int32} (hres : fX11_light S x1 x2 = some rr) : Wat 0 55 3 4 X 0 [(0, .ref (ad X 0)), (1, .int x1), (2, .int x2)] [] S := by
  unfold fX11_light at hres
  refine q_aload_n 1 hX 0 dX11_light_0 rfl rfl rfl ?_
  obtain ⟨hd1, hres⟩ := gd hres
  refine q_getD 4 hX ci11 lf_RX11_81 fD_0_10 dX11_light_1 rfl ?_
  refine q_iload_n 5 hX 1 dX11_light_4 rfl rfl rfl ?_
  obtain ⟨r3, S1, hk2, hres⟩ := ob hres
  refine q_callVi 8 (st := []) (As := [.int x1]) hX (cX8_hasHouse9 hX.dj hd1 hk2) cv_RX11_106 ci8 (oB_T hd1) rfl (by decide) rfl (Nat.le_of_ble_eq_true rfl) dX11_light_5 rfl ?_
  refine q_if_eq 11 hX 20 dX11_light_8 rfl (by decide) (fun hc => ?_) (fun hc => ?_)
  · have hres := it_t hc hres
    refine q_iconst 21 hX dX11_light_20 rfl kI_m1 ?_
    exact q_iret hX (eqi hq hres) dX11_light_21
  · have hres := it_f hc hres
    refine q_iload_n 12 hX 2 dX11_light_11 rfl rfl rfl ?_
    refine q_if_lt 15 hX 20 dX11_light_12 rfl (by decide) (fun hc => ?_) (fun hc => ?_)
    · have hres := it_t hc hres
      refine q_iconst 21 hX dX11_light_20 rfl kI_m1 ?_
      exact q_iret hX (eqi hq hres) dX11_light_21
    · have hres := it_f hc hres
      refine q_iload_n 16 hX 2 dX11_light_15 rfl rfl rfl ?_
      refine q_iconst 17 hX dX11_light_16 rfl kI_1 ?_
      refine q_icmp_le 20 hX 22 dX11_light_17 rfl (by decide) (fun hc => ?_) (fun hc => ?_)
      · have hres := it_t hc hres
        refine q_aload_n 23 hX 0 dX11_light_22 rfl rfl rfl ?_
        obtain ⟨hd4, hres⟩ := gd hres
        refine q_getD 26 hX ci11 lf_RX11_81 fD_0_10 dX11_light_23 rfl ?_
        refine q_iload_n 27 hX 1 dX11_light_26 rfl rfl rfl ?_
        obtain ⟨r6, S2, hk5, hres⟩ := ob hres
        refine q_callVi 30 (st := []) (As := [.int x1]) hX (cX8_litTurns9 hX.dj hd4 hk5) cv_RX11_246 ci8 (oB_T hd4) rfl (by decide) rfl (Nat.le_of_ble_eq_true rfl) dX11_light_27 rfl ?_
        refine q_istore_n 31 (lv' := [(3, .int r6), (0, .ref (ad X 0)), (1, .int x1), (2, .int x2)]) hX dX11_light_30 rfl rfl (by decide) rfl ?_
        refine q_iload_n 32 hX 3 dX11_light_31 rfl rfl rfl ?_
        refine q_if_ne 35 hX 42 dX11_light_32 rfl (by decide) (fun hc => ?_) (fun hc => ?_)
        · have hres := it_f hc hres
          refine q_iload_n 43 hX 0 dX11_light_42 rfl rfl rfl ?_
          obtain ⟨r8, S3, hk7, hres⟩ := ob hres
          refine q_callSi 46 (st := []) (As := [.int r6]) hX (cX11_longestRun9 hX.dj hk7) cs_RX11_220 rfl (by decide) rfl (Nat.le_of_ble_eq_true rfl) dX11_light_43 rfl ?_
          exact q_iret hX (eqi hq hres) dX11_light_46
        · have hres := it_t hc hres
          refine q_iload_n 36 hX 0 dX11_light_35 rfl rfl rfl ?_
          obtain ⟨r10, S4, hk9, hres⟩ := ob hres
          refine q_callSi 39 (st := []) (As := [.int r6]) hX (cJ6_bitCount_0f7a49 hX.dj hk9) cs_RX11_201 rfl (by decide) rfl (Nat.le_of_ble_eq_true rfl) dX11_light_36 rfl ?_
          refine q_goto 46 hX dX11_light_39 (by decide) ?_
          exact q_iret hX (eqi hq hres) dX11_light_46
      · have hres := it_f hc hres
        refine q_iconst 21 hX dX11_light_20 rfl kI_m1 ?_
        exact q_iret hX (eqi hq hres) dX11_light_21
theorem cX11_light9 {l : Launch} {w : WD} (hj : Dj w 0 55) {rr : Int32 × St} {S : St} {x1 : Int32} {x2 : Int32} (hres : fX11_light S x1 x2 = some rr) : Ct l yX11_light cX11_light 4 (some .int) 3 w 0 55 [.ref (w.1 0), .int x1, .int x2] S (some (.int rr.1), rr.2) := by
  refine Ct.of (lv := [(0, .ref (w.1 0)), (1, .int x1), (2, .int x2)]) hj (by decide +kernel) (Nat.le_of_ble_eq_true rfl) rfl ?_
  rintro X rfl rfl hq hX
  exact wfX11_light hX hq hres
def fX11_seers (S : St) (x1 : Int32) : Option (Int32 × St) :=
  if isT (S.2.2 0) then bi (fX8_hasThing (S.2.2 0) S x1) fun r3 S1 => if r3 = 0 then (some ((-1 : Int32), S1)) else (if isT (S1.2.2 0) then bi (fX8_watchers (S1.2.2 0) S1 x1) fun r6 S2 => some (r6, S2) else none) else none
theorem wfX11_seers {X : CX} (hX : Ok RX11 cX11_seers (some .int) 0 55 2 X) {rr : Int32 × St} (hq : rs X = (some (.int rr.1), rr.2)) {S : St} {x1 : Int32} (hres : fX11_seers S x1 = some rr) : Wat 0 55 3 2 X 0 [(0, .ref (ad X 0)), (1, .int x1)] [] S := by
  unfold fX11_seers at hres
  refine q_aload_n 1 hX 0 dX11_seers_0 rfl rfl rfl ?_
  obtain ⟨hd1, hres⟩ := gd hres
  refine q_getD 4 hX ci11 lf_RX11_81 fD_0_10 dX11_seers_1 rfl ?_
  refine q_iload_n 5 hX 1 dX11_seers_4 rfl rfl rfl ?_
  obtain ⟨r3, S1, hk2, hres⟩ := ob hres
  refine q_callVi 8 (st := []) (As := [.int x1]) hX (cX8_hasThing9 hX.dj hd1 hk2) cv_RX11_239 ci8 (oB_T hd1) rfl (by decide) rfl (Nat.le_of_ble_eq_true rfl) dX11_seers_5 rfl ?_
  refine q_if_eq 11 hX 22 dX11_seers_8 rfl (by decide) (fun hc => ?_) (fun hc => ?_)
  · have hres := it_t hc hres
    refine q_iconst 23 hX dX11_seers_22 rfl kI_m1 ?_
    exact q_iret hX (eqi hq hres) dX11_seers_23
  · have hres := it_f hc hres
    refine q_aload_n 12 hX 0 dX11_seers_11 rfl rfl rfl ?_
    obtain ⟨hd4, hres⟩ := gd hres
    refine q_getD 15 hX ci11 lf_RX11_81 fD_0_10 dX11_seers_12 rfl ?_
    refine q_iload_n 16 hX 1 dX11_seers_15 rfl rfl rfl ?_
    obtain ⟨r6, S2, hk5, hres⟩ := ob hres
    refine q_callVi 19 (st := []) (As := [.int x1]) hX (cX8_watchers9 hX.dj hd4 hk5) cv_RX11_249 ci8 (oB_T hd4) rfl (by decide) rfl (Nat.le_of_ble_eq_true rfl) dX11_seers_16 rfl ?_
    refine q_goto 23 hX dX11_seers_19 (by decide) ?_
    exact q_iret hX (eqi hq hres) dX11_seers_23
theorem cX11_seers9 {l : Launch} {w : WD} (hj : Dj w 0 55) {rr : Int32 × St} {S : St} {x1 : Int32} (hres : fX11_seers S x1 = some rr) : Ct l yX11_seers cX11_seers 2 (some .int) 3 w 0 55 [.ref (w.1 0), .int x1] S (some (.int rr.1), rr.2) := by
  refine Ct.of (lv := [(0, .ref (w.1 0)), (1, .int x1)]) hj (by decide +kernel) (Nat.le_of_ble_eq_true rfl) rfl ?_
  rintro X rfl rfl hq hX
  exact wfX11_seers hX hq hres
def fX11_clearest (S : St) (x1 : Int32) : Option (Int32 × St) :=
  if x1 < 0 then (some ((-1 : Int32), S)) else (if x1 ≤ (1 : Int32) then (if isT (S.2.2 0) then bi (fX8_clearestTurn (S.2.2 0) S) fun r3 S1 => if x1 = 0 then (some (r3, S1)) else (if isT (S1.2.2 0) then bi (fX8_twosIn (S1.2.2 0) S1 r3) fun r6 S2 => some (r6, S2) else none) else none) else (some ((-1 : Int32), S)))
theorem wfX11_clearest {X : CX} (hX : Ok RX11 cX11_clearest (some .int) 0 55 3 X) {rr : Int32 × St} (hq : rs X = (some (.int rr.1), rr.2)) {S : St} {x1 : Int32} (hres : fX11_clearest S x1 = some rr) : Wat 0 55 4 3 X 0 [(0, .ref (ad X 0)), (1, .int x1)] [] S := by
  unfold fX11_clearest at hres
  refine q_iload_n 1 hX 1 dX11_clearest_0 rfl rfl rfl ?_
  refine q_if_lt 4 hX 9 dX11_clearest_1 rfl (by decide) (fun hc => ?_) (fun hc => ?_)
  · have hres := it_t hc hres
    refine q_iconst 10 hX dX11_clearest_9 rfl kI_m1 ?_
    exact q_iret hX (eqi hq hres) dX11_clearest_10
  · have hres := it_f hc hres
    refine q_iload_n 5 hX 1 dX11_clearest_4 rfl rfl rfl ?_
    refine q_iconst 6 hX dX11_clearest_5 rfl kI_1 ?_
    refine q_icmp_le 9 hX 11 dX11_clearest_6 rfl (by decide) (fun hc => ?_) (fun hc => ?_)
    · have hres := it_t hc hres
      refine q_aload_n 12 hX 0 dX11_clearest_11 rfl rfl rfl ?_
      obtain ⟨hd1, hres⟩ := gd hres
      refine q_getD 15 hX ci11 lf_RX11_81 fD_0_10 dX11_clearest_12 rfl ?_
      obtain ⟨r3, S1, hk2, hres⟩ := ob hres
      refine q_callVi 18 (st := []) (As := []) hX (cX8_clearestTurn9 hX.dj hd1 hk2) cv_RX11_252 ci8 (oB_T hd1) rfl (by decide) rfl (Nat.le_of_ble_eq_true rfl) dX11_clearest_15 rfl ?_
      refine q_istore_n 19 (lv' := [(2, .int r3), (0, .ref (ad X 0)), (1, .int x1)]) hX dX11_clearest_18 rfl rfl (by decide) rfl ?_
      refine q_iload_n 20 hX 2 dX11_clearest_19 rfl rfl rfl ?_
      refine q_if_ne 23 hX 27 dX11_clearest_20 rfl (by decide) (fun hc => ?_) (fun hc => ?_)
      · have hres := it_f hc hres
        refine q_aload_n 28 hX 1 dX11_clearest_27 rfl rfl rfl ?_
        obtain ⟨hd4, hres⟩ := gd hres
        refine q_getD 31 hX ci11 lf_RX11_81 fD_0_10 dX11_clearest_28 rfl ?_
        refine q_iload_n 32 hX 0 dX11_clearest_31 rfl rfl rfl ?_
        obtain ⟨r6, S2, hk5, hres⟩ := ob hres
        refine q_callVi 35 (st := []) (As := [.int r3]) hX (cX8_twosIn9 hX.dj hd4 hk5) cv_RX11_255 ci8 (oB_T hd4) rfl (by decide) rfl (Nat.le_of_ble_eq_true rfl) dX11_clearest_32 rfl ?_
        exact q_iret hX (eqi hq hres) dX11_clearest_35
      · have hres := it_t hc hres
        refine q_iload_n 24 hX 0 dX11_clearest_23 rfl rfl rfl ?_
        refine q_goto 35 hX dX11_clearest_24 (by decide) ?_
        exact q_iret hX (eqi hq hres) dX11_clearest_35
    · have hres := it_f hc hres
      refine q_iconst 10 hX dX11_clearest_9 rfl kI_m1 ?_
      exact q_iret hX (eqi hq hres) dX11_clearest_10
theorem cX11_clearest9 {l : Launch} {w : WD} (hj : Dj w 0 55) {rr : Int32 × St} {S : St} {x1 : Int32} (hres : fX11_clearest S x1 = some rr) : Ct l yX11_clearest cX11_clearest 3 (some .int) 4 w 0 55 [.ref (w.1 0), .int x1] S (some (.int rr.1), rr.2) := by
  refine Ct.of (lv := [(0, .ref (w.1 0)), (1, .int x1)]) hj (by decide +kernel) (Nat.le_of_ble_eq_true rfl) rfl ?_
  rintro X rfl rfl hq hX
  exact wfX11_clearest hX hq hres
def fX11_whoHad (S : St) (x1 : Int32) (x2 : Int32) : Option (Int32 × St) :=
  bi (fX11_isTurn S x1) fun r2 S1 => if r2 = 0 then (some ((-1 : Int32), S1)) else (if x2 < 0 then (some ((-1 : Int32), S1)) else (if x2 ≤ (65535 : Int32) then (if isT (S1.2.2 0) then bi (fX8_housesThatSeeJust (S1.2.2 0) S1 x2 x1) fun r5 S2 => some (r5, S2) else none) else (some ((-1 : Int32), S1))))
theorem wfX11_whoHad {X : CX} (hX : Ok RX11 cX11_whoHad (some .int) 0 55 3 X) {rr : Int32 × St} (hq : rs X = (some (.int rr.1), rr.2)) {S : St} {x1 : Int32} {x2 : Int32} (hres : fX11_whoHad S x1 x2 = some rr) : Wat 0 55 3 3 X 0 [(0, .ref (ad X 0)), (1, .int x1), (2, .int x2)] [] S := by
  unfold fX11_whoHad at hres
  refine q_iload_n 1 hX 1 dX11_whoHad_0 rfl rfl rfl ?_
  obtain ⟨r2, S1, hk1, hres⟩ := ob hres
  refine q_callSi 4 (st := []) (As := [.int x1]) hX (cX11_isTurn9 hX.dj hk1) cs_RX11_102 rfl (by decide) rfl (Nat.le_of_ble_eq_true rfl) dX11_whoHad_1 rfl ?_
  refine q_if_eq 7 hX 17 dX11_whoHad_4 rfl (by decide) (fun hc => ?_) (fun hc => ?_)
  · have hres := it_t hc hres
    refine q_iconst 18 hX dX11_whoHad_17 rfl kI_m1 ?_
    exact q_iret hX (eqi hq hres) dX11_whoHad_18
  · have hres := it_f hc hres
    refine q_iload_n 8 hX 2 dX11_whoHad_7 rfl rfl rfl ?_
    refine q_if_lt 11 hX 17 dX11_whoHad_8 rfl (by decide) (fun hc => ?_) (fun hc => ?_)
    · have hres := it_t hc hres
      refine q_iconst 18 hX dX11_whoHad_17 rfl kI_m1 ?_
      exact q_iret hX (eqi hq hres) dX11_whoHad_18
    · have hres := it_f hc hres
      refine q_iload_n 12 hX 2 dX11_whoHad_11 rfl rfl rfl ?_
      refine q_ldc 14 hX dX11_whoHad_12 rfl gw537 ?_
      refine q_icmp_le 17 hX 19 dX11_whoHad_14 rfl (by decide) (fun hc => ?_) (fun hc => ?_)
      · have hres := it_t hc hres
        refine q_aload_n 20 hX 0 dX11_whoHad_19 rfl rfl rfl ?_
        obtain ⟨hd3, hres⟩ := gd hres
        refine q_getD 23 hX ci11 lf_RX11_81 fD_0_10 dX11_whoHad_20 rfl ?_
        refine q_iload_n 24 hX 2 dX11_whoHad_23 rfl rfl rfl ?_
        refine q_iload_n 25 hX 1 dX11_whoHad_24 rfl rfl rfl ?_
        obtain ⟨r5, S2, hk4, hres⟩ := ob hres
        refine q_callVi 28 (st := []) (As := [.int x2, .int x1]) hX (cX8_housesThatSeeJust9 hX.dj hd3 hk4) cv_RX11_258 ci8 (oB_T hd3) rfl (by decide) rfl (Nat.le_of_ble_eq_true rfl) dX11_whoHad_25 rfl ?_
        exact q_iret hX (eqi hq hres) dX11_whoHad_28
      · have hres := it_f hc hres
        refine q_iconst 18 hX dX11_whoHad_17 rfl kI_m1 ?_
        exact q_iret hX (eqi hq hres) dX11_whoHad_18
theorem cX11_whoHad9 {l : Launch} {w : WD} (hj : Dj w 0 55) {rr : Int32 × St} {S : St} {x1 : Int32} {x2 : Int32} (hres : fX11_whoHad S x1 x2 = some rr) : Ct l yX11_whoHad cX11_whoHad 3 (some .int) 3 w 0 55 [.ref (w.1 0), .int x1, .int x2] S (some (.int rr.1), rr.2) := by
  refine Ct.of (lv := [(0, .ref (w.1 0)), (1, .int x1), (2, .int x2)]) hj (by decide +kernel) (Nat.le_of_ble_eq_true rfl) rfl ?_
  rintro X rfl rfl hq hX
  exact wfX11_whoHad hX hq hres
def fX11_second (S : St) (x1 : Int32) : Option (Int32 × St) :=
  if x1 < 0 then (some ((-1 : Int32), S)) else (if x1 ≤ (1 : Int32) then (if isT (S.2.2 0) then bi (fX8_fewestWatchers (S.2.2 0) S) fun r3 S1 => if x1 = 0 then (bi (fJ6_bitCount_0f7a4 S1 r3) fun r5 S2 => some (r5, S2)) else (some (r3, S1)) else none) else (some ((-1 : Int32), S)))
theorem wfX11_second {X : CX} (hX : Ok RX11 cX11_second (some .int) 0 55 3 X) {rr : Int32 × St} (hq : rs X = (some (.int rr.1), rr.2)) {S : St} {x1 : Int32} (hres : fX11_second S x1 = some rr) : Wat 0 55 25 3 X 0 [(0, .ref (ad X 0)), (1, .int x1)] [] S := by
  unfold fX11_second at hres
  refine q_iload_n 1 hX 1 dX11_second_0 rfl rfl rfl ?_
  refine q_if_lt 4 hX 9 dX11_second_1 rfl (by decide) (fun hc => ?_) (fun hc => ?_)
  · have hres := it_t hc hres
    refine q_iconst 10 hX dX11_second_9 rfl kI_m1 ?_
    exact q_iret hX (eqi hq hres) dX11_second_10
  · have hres := it_f hc hres
    refine q_iload_n 5 hX 1 dX11_second_4 rfl rfl rfl ?_
    refine q_iconst 6 hX dX11_second_5 rfl kI_1 ?_
    refine q_icmp_le 9 hX 11 dX11_second_6 rfl (by decide) (fun hc => ?_) (fun hc => ?_)
    · have hres := it_t hc hres
      refine q_aload_n 12 hX 0 dX11_second_11 rfl rfl rfl ?_
      obtain ⟨hd1, hres⟩ := gd hres
      refine q_getD 15 hX ci11 lf_RX11_81 fD_0_10 dX11_second_12 rfl ?_
      obtain ⟨r3, S1, hk2, hres⟩ := ob hres
      refine q_callVi 18 (st := []) (As := []) hX (cX8_fewestWatchers9 hX.dj hd1 hk2) cv_RX11_261 ci8 (oB_T hd1) rfl (by decide) rfl (Nat.le_of_ble_eq_true rfl) dX11_second_15 rfl ?_
      refine q_istore_n 19 (lv' := [(2, .int r3), (0, .ref (ad X 0)), (1, .int x1)]) hX dX11_second_18 rfl rfl (by decide) rfl ?_
      refine q_iload_n 20 hX 2 dX11_second_19 rfl rfl rfl ?_
      refine q_if_ne 23 hX 30 dX11_second_20 rfl (by decide) (fun hc => ?_) (fun hc => ?_)
      · have hres := it_f hc hres
        refine q_iload_n 31 hX 0 dX11_second_30 rfl rfl rfl ?_
        exact q_iret hX (eqi hq hres) dX11_second_31
      · have hres := it_t hc hres
        refine q_iload_n 24 hX 0 dX11_second_23 rfl rfl rfl ?_
        obtain ⟨r5, S2, hk4, hres⟩ := ob hres
        refine q_callSi 27 (st := []) (As := [.int r3]) hX (cJ6_bitCount_0f7a49 hX.dj hk4) cs_RX11_201 rfl (by decide) rfl (Nat.le_of_ble_eq_true rfl) dX11_second_24 rfl ?_
        refine q_goto 31 hX dX11_second_27 (by decide) ?_
        exact q_iret hX (eqi hq hres) dX11_second_31
    · have hres := it_f hc hres
      refine q_iconst 10 hX dX11_second_9 rfl kI_m1 ?_
      exact q_iret hX (eqi hq hres) dX11_second_10
theorem cX11_second9 {l : Launch} {w : WD} (hj : Dj w 0 55) {rr : Int32 × St} {S : St} {x1 : Int32} (hres : fX11_second S x1 = some rr) : Ct l yX11_second cX11_second 3 (some .int) 25 w 0 55 [.ref (w.1 0), .int x1] S (some (.int rr.1), rr.2) := by
  refine Ct.of (lv := [(0, .ref (w.1 0)), (1, .int x1)]) hj (by decide +kernel) (Nat.le_of_ble_eq_true rfl) rfl ?_
  rintro X rfl rfl hq hX
  exact wfX11_second hX hq hres
def fX11_ifSwapped_26 (S : St) : Option (Int32 × St) :=
  some ((-1 : Int32), S)
theorem wfX11_ifSwapped_26 {X : CX} (hX : Ok RX11 cX11_ifSwapped (some .int) 0 55 3 X) {rr : Int32 × St} (hq : rs X = (some (.int rr.1), rr.2)) {S : St} (hres : fX11_ifSwapped_26 S = some rr) : Wat 0 55 4 3 X 26 [] [] S := by
  unfold fX11_ifSwapped_26 at hres
  refine q_iconst 27 hX dX11_ifSwapped_26 rfl kI_m1 ?_
  exact q_iret hX (eqi hq hres) dX11_ifSwapped_27
def fX11_ifSwapped (S : St) (x1 : Int32) (x2 : Int32) : Option (Int32 × St) :=
  bi (fX11_isTurn S x1) fun r2 S1 => if r2 = 0 then (fX11_ifSwapped_26 S1) else (bi (fX11_isTurn S1 x2) fun r4 S2 => if r4 = 0 then (fX11_ifSwapped_26 S2) else (bi (fX4_wayIfSwapped S2 x1 x2) fun r6 S3 => some (r6, S3)))
theorem wfX11_ifSwapped {X : CX} (hX : Ok RX11 cX11_ifSwapped (some .int) 0 55 3 X) {rr : Int32 × St} (hq : rs X = (some (.int rr.1), rr.2)) {S : St} {x1 : Int32} {x2 : Int32} (hres : fX11_ifSwapped S x1 x2 = some rr) : Wat 0 55 4 3 X 0 [(0, .ref (ad X 0)), (1, .int x1), (2, .int x2)] [] S := by
  unfold fX11_ifSwapped at hres
  refine q_iload_n 1 hX 1 dX11_ifSwapped_0 rfl rfl rfl ?_
  obtain ⟨r2, S1, hk1, hres⟩ := ob hres
  refine q_callSi 4 (st := []) (As := [.int x1]) hX (cX11_isTurn9 hX.dj hk1) cs_RX11_102 rfl (by decide) rfl (Nat.le_of_ble_eq_true rfl) dX11_ifSwapped_1 rfl ?_
  refine q_if_eq 7 hX 26 dX11_ifSwapped_4 rfl (by decide) (fun hc => ?_) (fun hc => ?_)
  · have hres := it_t hc hres
    exact q_sub [] rfl (wfX11_ifSwapped_26 hX hq hres)
  · have hres := it_f hc hres
    refine q_iload_n 8 hX 2 dX11_ifSwapped_7 rfl rfl rfl ?_
    obtain ⟨r4, S2, hk3, hres⟩ := ob hres
    refine q_callSi 11 (st := []) (As := [.int x2]) hX (cX11_isTurn9 hX.dj hk3) cs_RX11_102 rfl (by decide) rfl (Nat.le_of_ble_eq_true rfl) dX11_ifSwapped_8 rfl ?_
    refine q_if_eq 14 hX 26 dX11_ifSwapped_11 rfl (by decide) (fun hc => ?_) (fun hc => ?_)
    · have hres := it_t hc hres
      exact q_sub [] rfl (wfX11_ifSwapped_26 hX hq hres)
    · have hres := it_f hc hres
      refine q_aload_n 15 hX 0 dX11_ifSwapped_14 rfl rfl rfl ?_
      refine q_getR 18 hX ci11 lf_RX11_47 fR_0_4 dX11_ifSwapped_15 rfl ?_
      refine q_iload_n 19 hX 1 dX11_ifSwapped_18 rfl rfl rfl ?_
      refine q_iload_n 20 hX 2 dX11_ifSwapped_19 rfl rfl rfl ?_
      obtain ⟨r6, S3, hk5, hres⟩ := ob hres
      refine q_callVi 23 (st := []) (As := [.int x1, .int x2]) hX (cX4_wayIfSwapped9 hX.dj hk5) cv_RX11_264 ci4 oB_8 rfl (by decide) rfl (Nat.le_of_ble_eq_true rfl) dX11_ifSwapped_20 rfl ?_
      refine q_goto 27 hX dX11_ifSwapped_23 (by decide) ?_
      exact q_iret hX (eqi hq hres) dX11_ifSwapped_27
theorem cX11_ifSwapped9 {l : Launch} {w : WD} (hj : Dj w 0 55) {rr : Int32 × St} {S : St} {x1 : Int32} {x2 : Int32} (hres : fX11_ifSwapped S x1 x2 = some rr) : Ct l yX11_ifSwapped cX11_ifSwapped 3 (some .int) 4 w 0 55 [.ref (w.1 0), .int x1, .int x2] S (some (.int rr.1), rr.2) := by
  refine Ct.of (lv := [(0, .ref (w.1 0)), (1, .int x1), (2, .int x2)]) hj (by decide +kernel) (Nat.le_of_ble_eq_true rfl) rfl ?_
  rintro X rfl rfl hq hX
  exact wfX11_ifSwapped hX hq hres
def fX11_spread (S : St) : Option (Int32 × St) :=
  if isT (S.2.2 0) then bi (fX4_spreadAmong (S.2.2 0) S) fun r3 S1 => some (r3, S1) else none
theorem wfX11_spread {X : CX} (hX : Ok RX11 cX11_spread (some .int) 0 55 1 X) {rr : Int32 × St} (hq : rs X = (some (.int rr.1), rr.2)) {S : St} (hres : fX11_spread S = some rr) : Wat 0 55 2 1 X 0 [(0, .ref (ad X 0))] [] S := by
  unfold fX11_spread at hres
  refine q_aload_n 1 hX 0 dX11_spread_0 rfl rfl rfl ?_
  refine q_getR 4 hX ci11 lf_RX11_47 fR_0_4 dX11_spread_1 rfl ?_
  refine q_aload_n 5 hX 0 dX11_spread_4 rfl rfl rfl ?_
  obtain ⟨hd1, hres⟩ := gd hres
  refine q_getD 8 hX ci11 lf_RX11_81 fD_0_10 dX11_spread_5 rfl ?_
  obtain ⟨r3, S1, hk2, hres⟩ := ob hres
  refine q_callVi 11 (st := []) (As := [.ref (ad X (S.2.2 0))]) hX (cX4_spreadAmong9 hX.dj hd1 hk2) cv_RX11_267 ci4 oB_8 rfl (by decide) rfl (Nat.le_of_ble_eq_true rfl) dX11_spread_8 rfl ?_
  exact q_iret hX (eqi hq hres) dX11_spread_11
theorem cX11_spread9 {l : Launch} {w : WD} (hj : Dj w 0 55) {rr : Int32 × St} {S : St} (hres : fX11_spread S = some rr) : Ct l yX11_spread cX11_spread 1 (some .int) 2 w 0 55 [.ref (w.1 0)] S (some (.int rr.1), rr.2) := by
  refine Ct.of (lv := [(0, .ref (w.1 0))]) hj (by decide +kernel) (Nat.le_of_ble_eq_true rfl) rfl ?_
  rintro X rfl rfl hq hX
  exact wfX11_spread hX hq hres
def fX11_readers_33 (S : St) : Option (Int32 × St) :=
  some ((-1 : Int32), S)
theorem wfX11_readers_33 {X : CX} (hX : Ok RX11 cX11_readers (some .int) 0 55 3 X) {rr : Int32 × St} (hq : rs X = (some (.int rr.1), rr.2)) {S : St} (hres : fX11_readers_33 S = some rr) : Wat 0 55 3 3 X 33 [] [] S := by
  unfold fX11_readers_33 at hres
  refine q_iconst 34 hX dX11_readers_33 rfl kI_m1 ?_
  exact q_iret hX (eqi hq hres) dX11_readers_34
def fX11_readers (S : St) (x1 : Int32) (x2 : Int32) : Option (Int32 × St) :=
  bi (fX11_isTurn S x1) fun r2 S1 => if r2 = 0 then (fX11_readers_33 S1) else (if x2 < 0 then (fX11_readers_33 S1) else (if (12 : Int32) < x2 then (fX11_readers_33 S1) else (if isT (S1.2.2 0) then bi (fX4_readBy (S1.2.2 0) S1 x1 x2) fun r5 S2 => some (r5, S2) else none)))
theorem wfX11_readers {X : CX} (hX : Ok RX11 cX11_readers (some .int) 0 55 3 X) {rr : Int32 × St} (hq : rs X = (some (.int rr.1), rr.2)) {S : St} {x1 : Int32} {x2 : Int32} (hres : fX11_readers S x1 x2 = some rr) : Wat 0 55 3 3 X 0 [(0, .ref (ad X 0)), (1, .int x1), (2, .int x2)] [] S := by
  unfold fX11_readers at hres
  refine q_iload_n 1 hX 1 dX11_readers_0 rfl rfl rfl ?_
  obtain ⟨r2, S1, hk1, hres⟩ := ob hres
  refine q_callSi 4 (st := []) (As := [.int x1]) hX (cX11_isTurn9 hX.dj hk1) cs_RX11_102 rfl (by decide) rfl (Nat.le_of_ble_eq_true rfl) dX11_readers_1 rfl ?_
  refine q_if_eq 7 hX 33 dX11_readers_4 rfl (by decide) (fun hc => ?_) (fun hc => ?_)
  · have hres := it_t hc hres
    exact q_sub [] rfl (wfX11_readers_33 hX hq hres)
  · have hres := it_f hc hres
    refine q_iload_n 8 hX 2 dX11_readers_7 rfl rfl rfl ?_
    refine q_if_lt 11 hX 33 dX11_readers_8 rfl (by decide) (fun hc => ?_) (fun hc => ?_)
    · have hres := it_t hc hres
      exact q_sub [] rfl (wfX11_readers_33 hX hq hres)
    · have hres := it_f hc hres
      refine q_iload_n 12 hX 2 dX11_readers_11 rfl rfl rfl ?_
      refine q_bipush 14 hX dX11_readers_12 rfl kB_12 ?_
      refine q_icmp_gt 17 hX 33 dX11_readers_14 rfl (by decide) (fun hc => ?_) (fun hc => ?_)
      · have hres := it_t hc hres
        exact q_sub [] rfl (wfX11_readers_33 hX hq hres)
      · have hres := it_f hc hres
        refine q_aload_n 18 hX 0 dX11_readers_17 rfl rfl rfl ?_
        refine q_getR 21 hX ci11 lf_RX11_47 fR_0_4 dX11_readers_18 rfl ?_
        refine q_aload_n 22 hX 0 dX11_readers_21 rfl rfl rfl ?_
        obtain ⟨hd3, hres⟩ := gd hres
        refine q_getD 25 hX ci11 lf_RX11_81 fD_0_10 dX11_readers_22 rfl ?_
        refine q_iload_n 26 hX 1 dX11_readers_25 rfl rfl rfl ?_
        refine q_iload_n 27 hX 2 dX11_readers_26 rfl rfl rfl ?_
        obtain ⟨r5, S2, hk4, hres⟩ := ob hres
        refine q_callVi 30 (st := []) (As := [.ref (ad X (S1.2.2 0)), .int x1, .int x2]) hX (cX4_readBy9 hX.dj hd3 hk4) cv_RX11_270 ci4 oB_8 rfl (by decide) rfl (Nat.le_of_ble_eq_true rfl) dX11_readers_27 rfl ?_
        refine q_goto 34 hX dX11_readers_30 (by decide) ?_
        exact q_iret hX (eqi hq hres) dX11_readers_34
theorem cX11_readers9 {l : Launch} {w : WD} (hj : Dj w 0 55) {rr : Int32 × St} {S : St} {x1 : Int32} {x2 : Int32} (hres : fX11_readers S x1 x2 = some rr) : Ct l yX11_readers cX11_readers 3 (some .int) 3 w 0 55 [.ref (w.1 0), .int x1, .int x2] S (some (.int rr.1), rr.2) := by
  refine Ct.of (lv := [(0, .ref (w.1 0)), (1, .int x1), (2, .int x2)]) hj (by decide +kernel) (Nat.le_of_ble_eq_true rfl) rfl ?_
  rintro X rfl rfl hq hX
  exact wfX11_readers hX hq hres
def fX11_bestBreath (S : St) (x1 : Int32) (x2 : Int32) : Option (Int32 × St) :=
  if isT (S.2.2 0) then bi (fX8_hasHouse (S.2.2 0) S x1) fun r3 S1 => if r3 = 0 then (some ((-1 : Int32), S1)) else (if x2 < 0 then (some ((-1 : Int32), S1)) else (if x2 ≤ (1 : Int32) then (if isT (S1.2.2 0) then bi (fX4_bestTurnToWrite (S1.2.2 0) S1 x1) fun r6 S2 => if x2 = 0 then (some (r6, S2)) else (bi (fX11_isTurn S2 r6) fun r8 S3 => if r8 = 0 then (some ((0 : Int32), S3)) else (if isT (S3.2.2 0) then bi (fX4_othersWhoRead (S3.2.2 0) S3 r6 x1) fun r11 S4 => some (r11, S4) else none)) else none) else (some ((-1 : Int32), S1)))) else none
theorem wfX11_bestBreath {X : CX} (hX : Ok RX11 cX11_bestBreath (some .int) 0 55 4 X) {rr : Int32 × St} (hq : rs X = (some (.int rr.1), rr.2)) {S : St} {x1 : Int32} {x2 : Int32} (hres : fX11_bestBreath S x1 x2 = some rr) : Wat 0 55 5 4 X 0 [(0, .ref (ad X 0)), (1, .int x1), (2, .int x2)] [] S := by
  unfold fX11_bestBreath at hres
  refine q_aload_n 1 hX 0 dX11_bestBreath_0 rfl rfl rfl ?_
  obtain ⟨hd1, hres⟩ := gd hres
  refine q_getD 4 hX ci11 lf_RX11_81 fD_0_10 dX11_bestBreath_1 rfl ?_
  refine q_iload_n 5 hX 1 dX11_bestBreath_4 rfl rfl rfl ?_
  obtain ⟨r3, S1, hk2, hres⟩ := ob hres
  refine q_callVi 8 (st := []) (As := [.int x1]) hX (cX8_hasHouse9 hX.dj hd1 hk2) cv_RX11_106 ci8 (oB_T hd1) rfl (by decide) rfl (Nat.le_of_ble_eq_true rfl) dX11_bestBreath_5 rfl ?_
  refine q_if_eq 11 hX 20 dX11_bestBreath_8 rfl (by decide) (fun hc => ?_) (fun hc => ?_)
  · have hres := it_t hc hres
    refine q_iconst 21 hX dX11_bestBreath_20 rfl kI_m1 ?_
    exact q_iret hX (eqi hq hres) dX11_bestBreath_21
  · have hres := it_f hc hres
    refine q_iload_n 12 hX 2 dX11_bestBreath_11 rfl rfl rfl ?_
    refine q_if_lt 15 hX 20 dX11_bestBreath_12 rfl (by decide) (fun hc => ?_) (fun hc => ?_)
    · have hres := it_t hc hres
      refine q_iconst 21 hX dX11_bestBreath_20 rfl kI_m1 ?_
      exact q_iret hX (eqi hq hres) dX11_bestBreath_21
    · have hres := it_f hc hres
      refine q_iload_n 16 hX 2 dX11_bestBreath_15 rfl rfl rfl ?_
      refine q_iconst 17 hX dX11_bestBreath_16 rfl kI_1 ?_
      refine q_icmp_le 20 hX 22 dX11_bestBreath_17 rfl (by decide) (fun hc => ?_) (fun hc => ?_)
      · have hres := it_t hc hres
        refine q_aload_n 23 hX 0 dX11_bestBreath_22 rfl rfl rfl ?_
        refine q_getR 26 hX ci11 lf_RX11_47 fR_0_4 dX11_bestBreath_23 rfl ?_
        refine q_aload_n 27 hX 0 dX11_bestBreath_26 rfl rfl rfl ?_
        obtain ⟨hd4, hres⟩ := gd hres
        refine q_getD 30 hX ci11 lf_RX11_81 fD_0_10 dX11_bestBreath_27 rfl ?_
        refine q_iload_n 31 hX 1 dX11_bestBreath_30 rfl rfl rfl ?_
        obtain ⟨r6, S2, hk5, hres⟩ := ob hres
        refine q_callVi 34 (st := []) (As := [.ref (ad X (S1.2.2 0)), .int x1]) hX (cX4_bestTurnToWrite9 hX.dj hd4 hk5) cv_RX11_274 ci4 oB_8 rfl (by decide) rfl (Nat.le_of_ble_eq_true rfl) dX11_bestBreath_31 rfl ?_
        refine q_istore_n 35 (lv' := [(3, .int r6), (0, .ref (ad X 0)), (1, .int x1), (2, .int x2)]) hX dX11_bestBreath_34 rfl rfl (by decide) rfl ?_
        refine q_iload_n 36 hX 3 dX11_bestBreath_35 rfl rfl rfl ?_
        refine q_if_ne 39 hX 41 dX11_bestBreath_36 rfl (by decide) (fun hc => ?_) (fun hc => ?_)
        · have hres := it_f hc hres
          refine q_iload_n 42 hX 0 dX11_bestBreath_41 rfl rfl rfl ?_
          obtain ⟨r8, S3, hk7, hres⟩ := ob hres
          refine q_callSi 45 (st := []) (As := [.int r6]) hX (cX11_isTurn9 hX.dj hk7) cs_RX11_102 rfl (by decide) rfl (Nat.le_of_ble_eq_true rfl) dX11_bestBreath_42 rfl ?_
          refine q_if_eq 48 hX 64 dX11_bestBreath_45 rfl (by decide) (fun hc => ?_) (fun hc => ?_)
          · have hres := it_t hc hres
            refine q_iconst 65 hX dX11_bestBreath_64 rfl kI_0 ?_
            exact q_iret hX (eqi hq hres) dX11_bestBreath_65
          · have hres := it_f hc hres
            refine q_aload_n 49 hX 1 dX11_bestBreath_48 rfl rfl rfl ?_
            refine q_getR 52 hX ci11 lf_RX11_47 fR_0_4 dX11_bestBreath_49 rfl ?_
            refine q_aload_n 53 hX 1 dX11_bestBreath_52 rfl rfl rfl ?_
            obtain ⟨hd9, hres⟩ := gd hres
            refine q_getD 56 hX ci11 lf_RX11_81 fD_0_10 dX11_bestBreath_53 rfl ?_
            refine q_iload_n 57 hX 0 dX11_bestBreath_56 rfl rfl rfl ?_
            refine q_iload_n 58 hX 2 dX11_bestBreath_57 rfl rfl rfl ?_
            obtain ⟨r11, S4, hk10, hres⟩ := ob hres
            refine q_callVi 61 (st := []) (As := [.ref (ad X (S3.2.2 0)), .int r6, .int x1]) hX (cX4_othersWhoRead9 hX.dj hd9 hk10) cv_RX11_278 ci4 oB_8 rfl (by decide) rfl (Nat.le_of_ble_eq_true rfl) dX11_bestBreath_58 rfl ?_
            refine q_goto 65 hX dX11_bestBreath_61 (by decide) ?_
            exact q_iret hX (eqi hq hres) dX11_bestBreath_65
        · have hres := it_t hc hres
          refine q_iload_n 40 hX 0 dX11_bestBreath_39 rfl rfl rfl ?_
          exact q_iret hX (eqi hq hres) dX11_bestBreath_40
      · have hres := it_f hc hres
        refine q_iconst 21 hX dX11_bestBreath_20 rfl kI_m1 ?_
        exact q_iret hX (eqi hq hres) dX11_bestBreath_21
theorem cX11_bestBreath9 {l : Launch} {w : WD} (hj : Dj w 0 55) {rr : Int32 × St} {S : St} {x1 : Int32} {x2 : Int32} (hres : fX11_bestBreath S x1 x2 = some rr) : Ct l yX11_bestBreath cX11_bestBreath 4 (some .int) 5 w 0 55 [.ref (w.1 0), .int x1, .int x2] S (some (.int rr.1), rr.2) := by
  refine Ct.of (lv := [(0, .ref (w.1 0)), (1, .int x1), (2, .int x2)]) hj (by decide +kernel) (Nat.le_of_ble_eq_true rfl) rfl ?_
  rintro X rfl rfl hq hX
  exact wfX11_bestBreath hX hq hres
def fX11_shortest (S : St) (x1 : Int32) (x2 : Int32) : Option (Int32 × St) :=
  if x1 < (1 : Int32) then (some ((-1 : Int32), S)) else (if (6 : Int32) < x1 then (some ((-1 : Int32), S)) else (if x2 < 0 then (some ((-1 : Int32), S)) else (if (1 : Int32) < x2 then (some ((-1 : Int32), S)) else (bi (fX7_holds S ((2 : Int32) * x1)) fun r2 S1 => if r2 = 0 then (some ((-1 : Int32), S1)) else (if isT (S1.2.2 0) then bi (fX10_take (S1.2.2 0) S1 x1) fun r5 S2 => bv (fX7_clear S2) fun S3 => if r5 = 0 then (some ((-3 : Int32), S3)) else (if isT (S3.2.2 0) then bi (fX10_answer (S3.2.2 0) S3 x2) fun r9 S4 => some (r9, S4) else none) else none)))))
theorem wfX11_shortest {X : CX} (hX : Ok RX11 cX11_shortest (some .int) 0 55 4 X) {rr : Int32 × St} (hq : rs X = (some (.int rr.1), rr.2)) {S : St} {x1 : Int32} {x2 : Int32} (hres : fX11_shortest S x1 x2 = some rr) : Wat 0 55 4 4 X 0 [(0, .ref (ad X 0)), (1, .int x1), (2, .int x2)] [] S := by
  unfold fX11_shortest at hres
  refine q_iload_n 1 hX 1 dX11_shortest_0 rfl rfl rfl ?_
  refine q_iconst 2 hX dX11_shortest_1 rfl kI_1 ?_
  refine q_icmp_lt 5 hX 33 dX11_shortest_2 rfl (by decide) (fun hc => ?_) (fun hc => ?_)
  · have hres := it_t hc hres
    refine q_iconst 34 hX dX11_shortest_33 rfl kI_m1 ?_
    exact q_iret hX (eqi hq hres) dX11_shortest_34
  · have hres := it_f hc hres
    refine q_iload_n 6 hX 1 dX11_shortest_5 rfl rfl rfl ?_
    refine q_bipush 8 hX dX11_shortest_6 rfl kB_6 ?_
    refine q_icmp_gt 11 hX 33 dX11_shortest_8 rfl (by decide) (fun hc => ?_) (fun hc => ?_)
    · have hres := it_t hc hres
      refine q_iconst 34 hX dX11_shortest_33 rfl kI_m1 ?_
      exact q_iret hX (eqi hq hres) dX11_shortest_34
    · have hres := it_f hc hres
      refine q_iload_n 12 hX 2 dX11_shortest_11 rfl rfl rfl ?_
      refine q_if_lt 15 hX 33 dX11_shortest_12 rfl (by decide) (fun hc => ?_) (fun hc => ?_)
      · have hres := it_t hc hres
        refine q_iconst 34 hX dX11_shortest_33 rfl kI_m1 ?_
        exact q_iret hX (eqi hq hres) dX11_shortest_34
      · have hres := it_f hc hres
        refine q_iload_n 16 hX 2 dX11_shortest_15 rfl rfl rfl ?_
        refine q_iconst 17 hX dX11_shortest_16 rfl kI_1 ?_
        refine q_icmp_gt 20 hX 33 dX11_shortest_17 rfl (by decide) (fun hc => ?_) (fun hc => ?_)
        · have hres := it_t hc hres
          refine q_iconst 34 hX dX11_shortest_33 rfl kI_m1 ?_
          exact q_iret hX (eqi hq hres) dX11_shortest_34
        · have hres := it_f hc hres
          refine q_aload_n 21 hX 0 dX11_shortest_20 rfl rfl rfl ?_
          refine q_getR 24 hX ci11 lf_RX11_10 fR_0_0 dX11_shortest_21 rfl ?_
          refine q_iconst 25 hX dX11_shortest_24 rfl kI_2 ?_
          refine q_iload_n 26 hX 1 dX11_shortest_25 rfl rfl rfl ?_
          refine q_imul 27 hX dX11_shortest_26 rfl ?_
          obtain ⟨r2, S1, hk1, hres⟩ := ob hres
          refine q_callVi 30 (st := []) (As := [.int ((2 : Int32) * x1)]) hX (cX7_holds9 hX.dj hk1) cv_RX11_125 ci7 oB_1 rfl (by decide) rfl (Nat.le_of_ble_eq_true rfl) dX11_shortest_27 rfl ?_
          refine q_if_ne 33 hX 35 dX11_shortest_30 rfl (by decide) (fun hc => ?_) (fun hc => ?_)
          · have hres := it_f hc hres
            refine q_aload_n 36 hX 0 dX11_shortest_35 rfl rfl rfl ?_
            refine q_getR 39 hX ci11 lf_RX11_54 fR_0_5 dX11_shortest_36 rfl ?_
            refine q_aload_n 40 hX 0 dX11_shortest_39 rfl rfl rfl ?_
            refine q_getR 43 hX ci11 lf_RX11_10 fR_0_0 dX11_shortest_40 rfl ?_
            refine q_iload_n 44 hX 1 dX11_shortest_43 rfl rfl rfl ?_
            refine q_aload_n 45 hX 0 dX11_shortest_44 rfl rfl rfl ?_
            obtain ⟨hd3, hres⟩ := gd hres
            refine q_getD 48 hX ci11 lf_RX11_81 fD_0_10 dX11_shortest_45 rfl ?_
            obtain ⟨r5, S2, hk4, hres⟩ := ob hres
            refine q_callVi 51 (st := []) (As := [.ref (ad X 1), .int x1, .ref (ad X (S1.2.2 0))]) hX (cX10_take9 hX.dj hd3 hk4) cv_RX11_281 ci10 oB_10 rfl (by decide) rfl (Nat.le_of_ble_eq_true rfl) dX11_shortest_48 rfl ?_
            refine q_istore_n 52 (lv' := [(3, .int r5), (0, .ref (ad X 0)), (1, .int x1), (2, .int x2)]) hX dX11_shortest_51 rfl rfl (by decide) rfl ?_
            refine q_aload_n 53 hX 1 dX11_shortest_52 rfl rfl rfl ?_
            refine q_getR 56 hX ci11 lf_RX11_10 fR_0_0 dX11_shortest_53 rfl ?_
            obtain ⟨S3, hk6, hres⟩ := obv hres
            refine q_callVv 59 (st := []) (As := []) hX (cX7_clear9 hX.dj hk6) cv_RX11_132 ci7 oB_1 rfl (by decide) rfl (Nat.le_of_ble_eq_true rfl) dX11_shortest_56 rfl ?_
            refine q_iload_n 60 hX 0 dX11_shortest_59 rfl rfl rfl ?_
            refine q_if_eq 63 hX 78 dX11_shortest_60 rfl (by decide) (fun hc => ?_) (fun hc => ?_)
            · have hres := it_t hc hres
              refine q_bipush 80 hX dX11_shortest_78 rfl kB_m3 ?_
              exact q_iret hX (eqi hq hres) dX11_shortest_80
            · have hres := it_f hc hres
              refine q_aload_n 64 hX 1 dX11_shortest_63 rfl rfl rfl ?_
              refine q_getR 67 hX ci11 lf_RX11_54 fR_0_5 dX11_shortest_64 rfl ?_
              refine q_aload_n 68 hX 1 dX11_shortest_67 rfl rfl rfl ?_
              obtain ⟨hd7, hres⟩ := gd hres
              refine q_getD 71 hX ci11 lf_RX11_81 fD_0_10 dX11_shortest_68 rfl ?_
              refine q_iload_n 72 hX 3 dX11_shortest_71 rfl rfl rfl ?_
              obtain ⟨r9, S4, hk8, hres⟩ := ob hres
              refine q_callVi 75 (st := []) (As := [.ref (ad X (S3.2.2 0)), .int x2]) hX (cX10_answer9 hX.dj hd7 hk8) cv_RX11_285 ci10 oB_10 rfl (by decide) rfl (Nat.le_of_ble_eq_true rfl) dX11_shortest_72 rfl ?_
              refine q_goto 80 hX dX11_shortest_75 (by decide) ?_
              exact q_iret hX (eqi hq hres) dX11_shortest_80
          · have hres := it_t hc hres
            refine q_iconst 34 hX dX11_shortest_33 rfl kI_m1 ?_
            exact q_iret hX (eqi hq hres) dX11_shortest_34
theorem cX11_shortest9 {l : Launch} {w : WD} (hj : Dj w 0 55) {rr : Int32 × St} {S : St} {x1 : Int32} {x2 : Int32} (hres : fX11_shortest S x1 x2 = some rr) : Ct l yX11_shortest cX11_shortest 4 (some .int) 4 w 0 55 [.ref (w.1 0), .int x1, .int x2] S (some (.int rr.1), rr.2) := by
  refine Ct.of (lv := [(0, .ref (w.1 0)), (1, .int x1), (2, .int x2)]) hj (by decide +kernel) (Nat.le_of_ble_eq_true rfl) rfl ?_
  rintro X rfl rfl hq hX
  exact wfX11_shortest hX hq hres
def fX11_crack (S : St) (x1 : Int32) (x2 : Int32) : Option (Int32 × St) :=
  if x1 < (1 : Int32) then (some ((-1 : Int32), S)) else (if (12 : Int32) < x1 then (some ((-1 : Int32), S)) else (if x2 < 0 then (some ((-1 : Int32), S)) else (if (1 : Int32) < x2 then (some ((-1 : Int32), S)) else (bi (fX7_holds S ((2 : Int32) * x1)) fun r2 S1 => if r2 = 0 then (some ((-1 : Int32), S1)) else (bi (fX1_possibleCracks S1 x1) fun r4 S2 => bv (fX7_clear S2) fun S3 => if x2 = 0 then (some (r4, S3)) else (if 0 ≤ r4 then (bi (fX4_holdersOf S3 r4) fun r7 S4 => some (r7, S4)) else (some (r4, S3))))))))
theorem wfX11_crack {X : CX} (hX : Ok RX11 cX11_crack (some .int) 0 55 4 X) {rr : Int32 × St} (hq : rs X = (some (.int rr.1), rr.2)) {S : St} {x1 : Int32} {x2 : Int32} (hres : fX11_crack S x1 x2 = some rr) : Wat 0 55 2 4 X 0 [(0, .ref (ad X 0)), (1, .int x1), (2, .int x2)] [] S := by
  unfold fX11_crack at hres
  refine q_iload_n 1 hX 1 dX11_crack_0 rfl rfl rfl ?_
  refine q_iconst 2 hX dX11_crack_1 rfl kI_1 ?_
  refine q_icmp_lt 5 hX 33 dX11_crack_2 rfl (by decide) (fun hc => ?_) (fun hc => ?_)
  · have hres := it_t hc hres
    refine q_iconst 34 hX dX11_crack_33 rfl kI_m1 ?_
    exact q_iret hX (eqi hq hres) dX11_crack_34
  · have hres := it_f hc hres
    refine q_iload_n 6 hX 1 dX11_crack_5 rfl rfl rfl ?_
    refine q_bipush 8 hX dX11_crack_6 rfl kB_12 ?_
    refine q_icmp_gt 11 hX 33 dX11_crack_8 rfl (by decide) (fun hc => ?_) (fun hc => ?_)
    · have hres := it_t hc hres
      refine q_iconst 34 hX dX11_crack_33 rfl kI_m1 ?_
      exact q_iret hX (eqi hq hres) dX11_crack_34
    · have hres := it_f hc hres
      refine q_iload_n 12 hX 2 dX11_crack_11 rfl rfl rfl ?_
      refine q_if_lt 15 hX 33 dX11_crack_12 rfl (by decide) (fun hc => ?_) (fun hc => ?_)
      · have hres := it_t hc hres
        refine q_iconst 34 hX dX11_crack_33 rfl kI_m1 ?_
        exact q_iret hX (eqi hq hres) dX11_crack_34
      · have hres := it_f hc hres
        refine q_iload_n 16 hX 2 dX11_crack_15 rfl rfl rfl ?_
        refine q_iconst 17 hX dX11_crack_16 rfl kI_1 ?_
        refine q_icmp_gt 20 hX 33 dX11_crack_17 rfl (by decide) (fun hc => ?_) (fun hc => ?_)
        · have hres := it_t hc hres
          refine q_iconst 34 hX dX11_crack_33 rfl kI_m1 ?_
          exact q_iret hX (eqi hq hres) dX11_crack_34
        · have hres := it_f hc hres
          refine q_aload_n 21 hX 0 dX11_crack_20 rfl rfl rfl ?_
          refine q_getR 24 hX ci11 lf_RX11_10 fR_0_0 dX11_crack_21 rfl ?_
          refine q_iconst 25 hX dX11_crack_24 rfl kI_2 ?_
          refine q_iload_n 26 hX 1 dX11_crack_25 rfl rfl rfl ?_
          refine q_imul 27 hX dX11_crack_26 rfl ?_
          obtain ⟨r2, S1, hk1, hres⟩ := ob hres
          refine q_callVi 30 (st := []) (As := [.int ((2 : Int32) * x1)]) hX (cX7_holds9 hX.dj hk1) cv_RX11_125 ci7 oB_1 rfl (by decide) rfl (Nat.le_of_ble_eq_true rfl) dX11_crack_27 rfl ?_
          refine q_if_ne 33 hX 35 dX11_crack_30 rfl (by decide) (fun hc => ?_) (fun hc => ?_)
          · have hres := it_f hc hres
            refine q_aload_n 36 hX 0 dX11_crack_35 rfl rfl rfl ?_
            refine q_getR 39 hX ci11 lf_RX11_61 fR_0_6 dX11_crack_36 rfl ?_
            refine q_iload_n 40 hX 1 dX11_crack_39 rfl rfl rfl ?_
            obtain ⟨r4, S2, hk3, hres⟩ := ob hres
            refine q_callVi 43 (st := []) (As := [.int x1]) hX (cX1_possibleCracks9 hX.dj hk3) cv_RX11_288 ci1 oB_15 rfl (by decide) rfl (Nat.le_of_ble_eq_true rfl) dX11_crack_40 rfl ?_
            refine q_istore_n 44 (lv' := [(3, .int r4), (0, .ref (ad X 0)), (1, .int x1), (2, .int x2)]) hX dX11_crack_43 rfl rfl (by decide) rfl ?_
            refine q_aload_n 45 hX 1 dX11_crack_44 rfl rfl rfl ?_
            refine q_getR 48 hX ci11 lf_RX11_10 fR_0_0 dX11_crack_45 rfl ?_
            obtain ⟨S3, hk5, hres⟩ := obv hres
            refine q_callVv 51 (st := []) (As := []) hX (cX7_clear9 hX.dj hk5) cv_RX11_132 ci7 oB_1 rfl (by decide) rfl (Nat.le_of_ble_eq_true rfl) dX11_crack_48 rfl ?_
            refine q_iload_n 52 hX 3 dX11_crack_51 rfl rfl rfl ?_
            refine q_if_eq 55 hX 59 dX11_crack_52 rfl (by decide) (fun hc => ?_) (fun hc => ?_)
            · have hres := it_t hc hres
              refine q_iload_n 60 hX 0 dX11_crack_59 rfl rfl rfl ?_
              refine q_goto 71 hX dX11_crack_60 (by decide) ?_
              exact q_iret hX (eqi hq hres) dX11_crack_71
            · have hres := it_f hc hres
              refine q_iload_n 56 hX 0 dX11_crack_55 rfl rfl rfl ?_
              refine q_if_ge 59 hX 63 dX11_crack_56 rfl (by decide) (fun hc => ?_) (fun hc => ?_)
              · have hres := it_t hc hres
                refine q_aload_n 64 hX 1 dX11_crack_63 rfl rfl rfl ?_
                refine q_getR 67 hX ci11 lf_RX11_47 fR_0_4 dX11_crack_64 rfl ?_
                refine q_iload_n 68 hX 0 dX11_crack_67 rfl rfl rfl ?_
                obtain ⟨r7, S4, hk6, hres⟩ := ob hres
                refine q_callVi 71 (st := []) (As := [.int r4]) hX (cX4_holdersOf9 hX.dj hk6) cv_RX11_291 ci4 oB_8 rfl (by decide) rfl (Nat.le_of_ble_eq_true rfl) dX11_crack_68 rfl ?_
                exact q_iret hX (eqi hq hres) dX11_crack_71
              · have hres := it_f hc hres
                refine q_iload_n 60 hX 0 dX11_crack_59 rfl rfl rfl ?_
                refine q_goto 71 hX dX11_crack_60 (by decide) ?_
                exact q_iret hX (eqi hq hres) dX11_crack_71
          · have hres := it_t hc hres
            refine q_iconst 34 hX dX11_crack_33 rfl kI_m1 ?_
            exact q_iret hX (eqi hq hres) dX11_crack_34
theorem cX11_crack9 {l : Launch} {w : WD} (hj : Dj w 0 55) {rr : Int32 × St} {S : St} {x1 : Int32} {x2 : Int32} (hres : fX11_crack S x1 x2 = some rr) : Ct l yX11_crack cX11_crack 4 (some .int) 2 w 0 55 [.ref (w.1 0), .int x1, .int x2] S (some (.int rr.1), rr.2) := by
  refine Ct.of (lv := [(0, .ref (w.1 0)), (1, .int x1), (2, .int x2)]) hj (by decide +kernel) (Nat.le_of_ble_eq_true rfl) rfl ?_
  rintro X rfl rfl hq hX
  exact wfX11_crack hX hq hres
def fX11_halves (S : St) (x1 : Int32) : Option (Int32 × St) :=
  if x1 < (2 : Int32) then (some ((-1 : Int32), S)) else (if (12 : Int32) < x1 then (some ((-1 : Int32), S)) else (bi (fX7_holds S x1) fun r2 S1 => if r2 = 0 then (some ((-1 : Int32), S1)) else (bi (fX1_firstShare S1 x1) fun r4 S2 => bv (fX7_clear S2) fun S3 => some (r4, S3))))
theorem wfX11_halves {X : CX} (hX : Ok RX11 cX11_halves (some .int) 0 55 3 X) {rr : Int32 × St} (hq : rs X = (some (.int rr.1), rr.2)) {S : St} {x1 : Int32} (hres : fX11_halves S x1 = some rr) : Wat 0 55 2 3 X 0 [(0, .ref (ad X 0)), (1, .int x1)] [] S := by
  unfold fX11_halves at hres
  refine q_iload_n 1 hX 1 dX11_halves_0 rfl rfl rfl ?_
  refine q_iconst 2 hX dX11_halves_1 rfl kI_2 ?_
  refine q_icmp_lt 5 hX 22 dX11_halves_2 rfl (by decide) (fun hc => ?_) (fun hc => ?_)
  · have hres := it_t hc hres
    refine q_iconst 23 hX dX11_halves_22 rfl kI_m1 ?_
    exact q_iret hX (eqi hq hres) dX11_halves_23
  · have hres := it_f hc hres
    refine q_iload_n 6 hX 1 dX11_halves_5 rfl rfl rfl ?_
    refine q_bipush 8 hX dX11_halves_6 rfl kB_12 ?_
    refine q_icmp_gt 11 hX 22 dX11_halves_8 rfl (by decide) (fun hc => ?_) (fun hc => ?_)
    · have hres := it_t hc hres
      refine q_iconst 23 hX dX11_halves_22 rfl kI_m1 ?_
      exact q_iret hX (eqi hq hres) dX11_halves_23
    · have hres := it_f hc hres
      refine q_aload_n 12 hX 0 dX11_halves_11 rfl rfl rfl ?_
      refine q_getR 15 hX ci11 lf_RX11_10 fR_0_0 dX11_halves_12 rfl ?_
      refine q_iload_n 16 hX 1 dX11_halves_15 rfl rfl rfl ?_
      obtain ⟨r2, S1, hk1, hres⟩ := ob hres
      refine q_callVi 19 (st := []) (As := [.int x1]) hX (cX7_holds9 hX.dj hk1) cv_RX11_125 ci7 oB_1 rfl (by decide) rfl (Nat.le_of_ble_eq_true rfl) dX11_halves_16 rfl ?_
      refine q_if_ne 22 hX 24 dX11_halves_19 rfl (by decide) (fun hc => ?_) (fun hc => ?_)
      · have hres := it_f hc hres
        refine q_aload_n 25 hX 0 dX11_halves_24 rfl rfl rfl ?_
        refine q_getR 28 hX ci11 lf_RX11_61 fR_0_6 dX11_halves_25 rfl ?_
        refine q_iload_n 29 hX 1 dX11_halves_28 rfl rfl rfl ?_
        obtain ⟨r4, S2, hk3, hres⟩ := ob hres
        refine q_callVi 32 (st := []) (As := [.int x1]) hX (cX1_firstShare9 hX.dj hk3) cv_RX11_294 ci1 oB_15 rfl (by decide) rfl (Nat.le_of_ble_eq_true rfl) dX11_halves_29 rfl ?_
        refine q_istore_n 33 (lv' := [(2, .int r4), (0, .ref (ad X 0)), (1, .int x1)]) hX dX11_halves_32 rfl rfl (by decide) rfl ?_
        refine q_aload_n 34 hX 1 dX11_halves_33 rfl rfl rfl ?_
        refine q_getR 37 hX ci11 lf_RX11_10 fR_0_0 dX11_halves_34 rfl ?_
        obtain ⟨S3, hk5, hres⟩ := obv hres
        refine q_callVv 40 (st := []) (As := []) hX (cX7_clear9 hX.dj hk5) cv_RX11_132 ci7 oB_1 rfl (by decide) rfl (Nat.le_of_ble_eq_true rfl) dX11_halves_37 rfl ?_
        refine q_iload_n 41 hX 0 dX11_halves_40 rfl rfl rfl ?_
        exact q_iret hX (eqi hq hres) dX11_halves_41
      · have hres := it_t hc hres
        refine q_iconst 23 hX dX11_halves_22 rfl kI_m1 ?_
        exact q_iret hX (eqi hq hres) dX11_halves_23
theorem cX11_halves9 {l : Launch} {w : WD} (hj : Dj w 0 55) {rr : Int32 × St} {S : St} {x1 : Int32} (hres : fX11_halves S x1 = some rr) : Ct l yX11_halves cX11_halves 3 (some .int) 2 w 0 55 [.ref (w.1 0), .int x1] S (some (.int rr.1), rr.2) := by
  refine Ct.of (lv := [(0, .ref (w.1 0)), (1, .int x1)]) hj (by decide +kernel) (Nat.le_of_ble_eq_true rfl) rfl ?_
  rintro X rfl rfl hq hX
  exact wfX11_halves hX hq hres
def fX11_swaps_58 (S : St) (s0 : Int32) : Option (Int32 × St) :=
  bv (fX7_clear S) fun S1 => some (s0, S1)
theorem wfX11_swaps_58 {X : CX} (hX : Ok RX11 cX11_swaps (some .int) 0 55 4 X) {rr : Int32 × St} (hq : rs X = (some (.int rr.1), rr.2)) {S : St} {s0 : Int32} (hres : fX11_swaps_58 S s0 = some rr) : Wat 0 55 4 4 X 58 [(0, .ref (ad X 0))] [.int s0] S := by
  unfold fX11_swaps_58 at hres
  refine q_istore_n 59 (lv' := [(3, .int s0), (0, .ref (ad X 0))]) hX dX11_swaps_58 rfl rfl (by decide) rfl ?_
  refine q_aload_n 60 hX 1 dX11_swaps_59 rfl rfl rfl ?_
  refine q_getR 63 hX ci11 lf_RX11_10 fR_0_0 dX11_swaps_60 rfl ?_
  obtain ⟨S1, hk1, hres⟩ := obv hres
  refine q_callVv 66 (st := []) (As := []) hX (cX7_clear9 hX.dj hk1) cv_RX11_132 ci7 oB_1 rfl (by decide) rfl (Nat.le_of_ble_eq_true rfl) dX11_swaps_63 rfl ?_
  refine q_iload_n 67 hX 0 dX11_swaps_66 rfl rfl rfl ?_
  exact q_iret hX (eqi hq hres) dX11_swaps_67
def fX11_swaps (S : St) (x1 : Int32) (x2 : Int32) : Option (Int32 × St) :=
  if x1 < (2 : Int32) then (some ((-1 : Int32), S)) else (if (8 : Int32) < x1 then (some ((-1 : Int32), S)) else (if x2 < 0 then (some ((-1 : Int32), S)) else (if (1 : Int32) < x2 then (some ((-1 : Int32), S)) else (bi (fX7_holds S (x1 * x1)) fun r2 S1 => if r2 = 0 then (some ((-1 : Int32), S1)) else (if x2 = 0 then (bi (fX1_willingTwos S1 x1) fun r6 S3 => fX11_swaps_58 S3 r6) else (bi (fX1_mostSwapsAtOnce S1 x1) fun r4 S2 => fX11_swaps_58 S2 r4))))))
theorem wfX11_swaps {X : CX} (hX : Ok RX11 cX11_swaps (some .int) 0 55 4 X) {rr : Int32 × St} (hq : rs X = (some (.int rr.1), rr.2)) {S : St} {x1 : Int32} {x2 : Int32} (hres : fX11_swaps S x1 x2 = some rr) : Wat 0 55 4 4 X 0 [(0, .ref (ad X 0)), (1, .int x1), (2, .int x2)] [] S := by
  unfold fX11_swaps at hres
  refine q_iload_n 1 hX 1 dX11_swaps_0 rfl rfl rfl ?_
  refine q_iconst 2 hX dX11_swaps_1 rfl kI_2 ?_
  refine q_icmp_lt 5 hX 33 dX11_swaps_2 rfl (by decide) (fun hc => ?_) (fun hc => ?_)
  · have hres := it_t hc hres
    refine q_iconst 34 hX dX11_swaps_33 rfl kI_m1 ?_
    exact q_iret hX (eqi hq hres) dX11_swaps_34
  · have hres := it_f hc hres
    refine q_iload_n 6 hX 1 dX11_swaps_5 rfl rfl rfl ?_
    refine q_bipush 8 hX dX11_swaps_6 rfl kB_8 ?_
    refine q_icmp_gt 11 hX 33 dX11_swaps_8 rfl (by decide) (fun hc => ?_) (fun hc => ?_)
    · have hres := it_t hc hres
      refine q_iconst 34 hX dX11_swaps_33 rfl kI_m1 ?_
      exact q_iret hX (eqi hq hres) dX11_swaps_34
    · have hres := it_f hc hres
      refine q_iload_n 12 hX 2 dX11_swaps_11 rfl rfl rfl ?_
      refine q_if_lt 15 hX 33 dX11_swaps_12 rfl (by decide) (fun hc => ?_) (fun hc => ?_)
      · have hres := it_t hc hres
        refine q_iconst 34 hX dX11_swaps_33 rfl kI_m1 ?_
        exact q_iret hX (eqi hq hres) dX11_swaps_34
      · have hres := it_f hc hres
        refine q_iload_n 16 hX 2 dX11_swaps_15 rfl rfl rfl ?_
        refine q_iconst 17 hX dX11_swaps_16 rfl kI_1 ?_
        refine q_icmp_gt 20 hX 33 dX11_swaps_17 rfl (by decide) (fun hc => ?_) (fun hc => ?_)
        · have hres := it_t hc hres
          refine q_iconst 34 hX dX11_swaps_33 rfl kI_m1 ?_
          exact q_iret hX (eqi hq hres) dX11_swaps_34
        · have hres := it_f hc hres
          refine q_aload_n 21 hX 0 dX11_swaps_20 rfl rfl rfl ?_
          refine q_getR 24 hX ci11 lf_RX11_10 fR_0_0 dX11_swaps_21 rfl ?_
          refine q_iload_n 25 hX 1 dX11_swaps_24 rfl rfl rfl ?_
          refine q_iload_n 26 hX 1 dX11_swaps_25 rfl rfl rfl ?_
          refine q_imul 27 hX dX11_swaps_26 rfl ?_
          obtain ⟨r2, S1, hk1, hres⟩ := ob hres
          refine q_callVi 30 (st := []) (As := [.int (x1 * x1)]) hX (cX7_holds9 hX.dj hk1) cv_RX11_125 ci7 oB_1 rfl (by decide) rfl (Nat.le_of_ble_eq_true rfl) dX11_swaps_27 rfl ?_
          refine q_if_ne 33 hX 35 dX11_swaps_30 rfl (by decide) (fun hc => ?_) (fun hc => ?_)
          · have hres := it_f hc hres
            refine q_iload_n 36 hX 2 dX11_swaps_35 rfl rfl rfl ?_
            refine q_if_ne 39 hX 50 dX11_swaps_36 rfl (by decide) (fun hc => ?_) (fun hc => ?_)
            · have hres := it_f hc hres
              refine q_aload_n 51 hX 0 dX11_swaps_50 rfl rfl rfl ?_
              refine q_getR 54 hX ci11 lf_RX11_61 fR_0_6 dX11_swaps_51 rfl ?_
              refine q_iload_n 55 hX 1 dX11_swaps_54 rfl rfl rfl ?_
              obtain ⟨r4, S2, hk3, hres⟩ := ob hres
              refine q_callVi 58 (st := []) (As := [.int x1]) hX (cX1_mostSwapsAtOnce9 hX.dj hk3) cv_RX11_300 ci1 oB_15 rfl (by decide) rfl (Nat.le_of_ble_eq_true rfl) dX11_swaps_55 rfl ?_
              exact q_sub [0] rfl (wfX11_swaps_58 hX hq hres)
            · have hres := it_t hc hres
              refine q_aload_n 40 hX 0 dX11_swaps_39 rfl rfl rfl ?_
              refine q_getR 43 hX ci11 lf_RX11_61 fR_0_6 dX11_swaps_40 rfl ?_
              refine q_iload_n 44 hX 1 dX11_swaps_43 rfl rfl rfl ?_
              obtain ⟨r6, S3, hk5, hres⟩ := ob hres
              refine q_callVi 47 (st := []) (As := [.int x1]) hX (cX1_willingTwos9 hX.dj hk5) cv_RX11_297 ci1 oB_15 rfl (by decide) rfl (Nat.le_of_ble_eq_true rfl) dX11_swaps_44 rfl ?_
              refine q_goto 58 hX dX11_swaps_47 (by decide) ?_
              exact q_sub [0] rfl (wfX11_swaps_58 hX hq hres)
          · have hres := it_t hc hres
            refine q_iconst 34 hX dX11_swaps_33 rfl kI_m1 ?_
            exact q_iret hX (eqi hq hres) dX11_swaps_34
theorem cX11_swaps9 {l : Launch} {w : WD} (hj : Dj w 0 55) {rr : Int32 × St} {S : St} {x1 : Int32} {x2 : Int32} (hres : fX11_swaps S x1 x2 = some rr) : Ct l yX11_swaps cX11_swaps 4 (some .int) 4 w 0 55 [.ref (w.1 0), .int x1, .int x2] S (some (.int rr.1), rr.2) := by
  refine Ct.of (lv := [(0, .ref (w.1 0)), (1, .int x1), (2, .int x2)]) hj (by decide +kernel) (Nat.le_of_ble_eq_true rfl) rfl ?_
  rintro X rfl rfl hq hX
  exact wfX11_swaps hX hq hres
def fX11_sale_71 (S : St) (s0 : Int32) : Option (Int32 × St) :=
  bv (fX7_clear S) fun S1 => some (s0, S1)
theorem wfX11_sale_71 {X : CX} (hX : Ok RX11 cX11_sale (some .int) 0 55 5 X) {rr : Int32 × St} (hq : rs X = (some (.int rr.1), rr.2)) {S : St} {s0 : Int32} (hres : fX11_sale_71 S s0 = some rr) : Wat 0 55 4 5 X 71 [(0, .ref (ad X 0))] [.int s0] S := by
  unfold fX11_sale_71 at hres
  refine q_istore 73 (lv' := [(4, .int s0), (0, .ref (ad X 0))]) hX dX11_sale_71 rfl (by decide) rfl ?_
  refine q_aload_n 74 hX 1 dX11_sale_73 rfl rfl rfl ?_
  refine q_getR 77 hX ci11 lf_RX11_10 fR_0_0 dX11_sale_74 rfl ?_
  obtain ⟨S1, hk1, hres⟩ := obv hres
  refine q_callVv 80 (st := []) (As := []) hX (cX7_clear9 hX.dj hk1) cv_RX11_132 ci7 oB_1 rfl (by decide) rfl (Nat.le_of_ble_eq_true rfl) dX11_sale_77 rfl ?_
  refine q_iload 82 hX 0 dX11_sale_80 rfl rfl ?_
  exact q_iret hX (eqi hq hres) dX11_sale_82
def fX11_sale_43 (S : St) (x1 : Int32) (x2 : Int32) : Option (Int32 × St) :=
  bi (fX1_sell S x1) fun r2 S1 => if x2 = (100 : Int32) then (fX11_sale_71 S1 r2) else (bi (fX1_buyerOf S1 x2 x1) fun r4 S2 => fX11_sale_71 S2 r4)
theorem wfX11_sale_43 {X : CX} (hX : Ok RX11 cX11_sale (some .int) 0 55 5 X) {rr : Int32 × St} (hq : rs X = (some (.int rr.1), rr.2)) {S : St} {x1 : Int32} {x2 : Int32} (hres : fX11_sale_43 S x1 x2 = some rr) : Wat 0 55 4 5 X 43 [(0, .ref (ad X 0)), (1, .int x1), (2, .int x2)] [] S := by
  unfold fX11_sale_43 at hres
  refine q_aload_n 44 hX 0 dX11_sale_43 rfl rfl rfl ?_
  refine q_getR 47 hX ci11 lf_RX11_61 fR_0_6 dX11_sale_44 rfl ?_
  refine q_iload_n 48 hX 1 dX11_sale_47 rfl rfl rfl ?_
  obtain ⟨r2, S1, hk1, hres⟩ := ob hres
  refine q_callVi 51 (st := []) (As := [.int x1]) hX (cX1_sell9 hX.dj hk1) cv_RX11_303 ci1 oB_15 rfl (by decide) rfl (Nat.le_of_ble_eq_true rfl) dX11_sale_48 rfl ?_
  refine q_istore_n 52 (lv' := [(3, .int r2), (0, .ref (ad X 0)), (1, .int x1), (2, .int x2)]) hX dX11_sale_51 rfl rfl (by decide) rfl ?_
  refine q_iload_n 53 hX 3 dX11_sale_52 rfl rfl rfl ?_
  refine q_bipush 55 hX dX11_sale_53 rfl kB_100 ?_
  refine q_icmp_ne 58 hX 62 dX11_sale_55 rfl (by decide) (fun hc => ?_) (fun hc => ?_)
  · have hres := it_f hc hres
    refine q_aload_n 63 hX 1 dX11_sale_62 rfl rfl rfl ?_
    refine q_getR 66 hX ci11 lf_RX11_61 fR_0_6 dX11_sale_63 rfl ?_
    refine q_iload_n 67 hX 3 dX11_sale_66 rfl rfl rfl ?_
    refine q_iload_n 68 hX 2 dX11_sale_67 rfl rfl rfl ?_
    obtain ⟨r4, S2, hk3, hres⟩ := ob hres
    refine q_callVi 71 (st := []) (As := [.int x2, .int x1]) hX (cX1_buyerOf9 hX.dj hk3) cv_RX11_306 ci1 oB_15 rfl (by decide) rfl (Nat.le_of_ble_eq_true rfl) dX11_sale_68 rfl ?_
    exact q_sub [1] rfl (wfX11_sale_71 hX hq hres)
  · have hres := it_t hc hres
    refine q_iload_n 59 hX 0 dX11_sale_58 rfl rfl rfl ?_
    refine q_goto 71 hX dX11_sale_59 (by decide) ?_
    exact q_sub [1] rfl (wfX11_sale_71 hX hq hres)
def fX11_sale (S : St) (x1 : Int32) (x2 : Int32) : Option (Int32 × St) :=
  if x1 < (2 : Int32) then (some ((-1 : Int32), S)) else (if (8 : Int32) < x1 then (some ((-1 : Int32), S)) else (bi (fX7_holds S (x1 * x1)) fun r2 S1 => if r2 = 0 then (some ((-1 : Int32), S1)) else (if x2 = (100 : Int32) then (fX11_sale_43 S1 x1 x2) else (if x2 < 0 then (some ((-1 : Int32), S1)) else (if x2 < x1 then (fX11_sale_43 S1 x1 x2) else (some ((-1 : Int32), S1)))))))
theorem wfX11_sale {X : CX} (hX : Ok RX11 cX11_sale (some .int) 0 55 5 X) {rr : Int32 × St} (hq : rs X = (some (.int rr.1), rr.2)) {S : St} {x1 : Int32} {x2 : Int32} (hres : fX11_sale S x1 x2 = some rr) : Wat 0 55 4 5 X 0 [(0, .ref (ad X 0)), (1, .int x1), (2, .int x2)] [] S := by
  unfold fX11_sale at hres
  refine q_iload_n 1 hX 1 dX11_sale_0 rfl rfl rfl ?_
  refine q_iconst 2 hX dX11_sale_1 rfl kI_2 ?_
  refine q_icmp_lt 5 hX 24 dX11_sale_2 rfl (by decide) (fun hc => ?_) (fun hc => ?_)
  · have hres := it_t hc hres
    refine q_iconst 25 hX dX11_sale_24 rfl kI_m1 ?_
    exact q_iret hX (eqi hq hres) dX11_sale_25
  · have hres := it_f hc hres
    refine q_iload_n 6 hX 1 dX11_sale_5 rfl rfl rfl ?_
    refine q_bipush 8 hX dX11_sale_6 rfl kB_8 ?_
    refine q_icmp_gt 11 hX 24 dX11_sale_8 rfl (by decide) (fun hc => ?_) (fun hc => ?_)
    · have hres := it_t hc hres
      refine q_iconst 25 hX dX11_sale_24 rfl kI_m1 ?_
      exact q_iret hX (eqi hq hres) dX11_sale_25
    · have hres := it_f hc hres
      refine q_aload_n 12 hX 0 dX11_sale_11 rfl rfl rfl ?_
      refine q_getR 15 hX ci11 lf_RX11_10 fR_0_0 dX11_sale_12 rfl ?_
      refine q_iload_n 16 hX 1 dX11_sale_15 rfl rfl rfl ?_
      refine q_iload_n 17 hX 1 dX11_sale_16 rfl rfl rfl ?_
      refine q_imul 18 hX dX11_sale_17 rfl ?_
      obtain ⟨r2, S1, hk1, hres⟩ := ob hres
      refine q_callVi 21 (st := []) (As := [.int (x1 * x1)]) hX (cX7_holds9 hX.dj hk1) cv_RX11_125 ci7 oB_1 rfl (by decide) rfl (Nat.le_of_ble_eq_true rfl) dX11_sale_18 rfl ?_
      refine q_if_ne 24 hX 26 dX11_sale_21 rfl (by decide) (fun hc => ?_) (fun hc => ?_)
      · have hres := it_f hc hres
        refine q_iload_n 27 hX 2 dX11_sale_26 rfl rfl rfl ?_
        refine q_bipush 29 hX dX11_sale_27 rfl kB_100 ?_
        refine q_icmp_eq 32 hX 43 dX11_sale_29 rfl (by decide) (fun hc => ?_) (fun hc => ?_)
        · have hres := it_t hc hres
          exact q_sub [0, 1, 2] rfl (wfX11_sale_43 hX hq hres)
        · have hres := it_f hc hres
          refine q_iload_n 33 hX 2 dX11_sale_32 rfl rfl rfl ?_
          refine q_if_lt 36 hX 41 dX11_sale_33 rfl (by decide) (fun hc => ?_) (fun hc => ?_)
          · have hres := it_t hc hres
            refine q_iconst 42 hX dX11_sale_41 rfl kI_m1 ?_
            exact q_iret hX (eqi hq hres) dX11_sale_42
          · have hres := it_f hc hres
            refine q_iload_n 37 hX 2 dX11_sale_36 rfl rfl rfl ?_
            refine q_iload_n 38 hX 1 dX11_sale_37 rfl rfl rfl ?_
            refine q_icmp_lt 41 hX 43 dX11_sale_38 rfl (by decide) (fun hc => ?_) (fun hc => ?_)
            · have hres := it_t hc hres
              exact q_sub [0, 1, 2] rfl (wfX11_sale_43 hX hq hres)
            · have hres := it_f hc hres
              refine q_iconst 42 hX dX11_sale_41 rfl kI_m1 ?_
              exact q_iret hX (eqi hq hres) dX11_sale_42
      · have hres := it_t hc hres
        refine q_iconst 25 hX dX11_sale_24 rfl kI_m1 ?_
        exact q_iret hX (eqi hq hres) dX11_sale_25
theorem cX11_sale9 {l : Launch} {w : WD} (hj : Dj w 0 55) {rr : Int32 × St} {S : St} {x1 : Int32} {x2 : Int32} (hres : fX11_sale S x1 x2 = some rr) : Ct l yX11_sale cX11_sale 5 (some .int) 4 w 0 55 [.ref (w.1 0), .int x1, .int x2] S (some (.int rr.1), rr.2) := by
  refine Ct.of (lv := [(0, .ref (w.1 0)), (1, .int x1), (2, .int x2)]) hj (by decide +kernel) (Nat.le_of_ble_eq_true rfl) rfl ?_
  rintro X rfl rfl hq hX
  exact wfX11_sale hX hq hres
def fX11_rotas (S : St) (x1 : Int32) : Option (Int64 × St) :=
  bi (fX1_rotasOf S x1) fun r2 S1 => some (r2, S1)
theorem wfX11_rotas {X : CX} (hX : Ok RX11 cX11_rotas (some .long) 0 55 2 X) {rr : Int64 × St} (hq : rs X = (some (.long rr.1), rr.2)) {S : St} {x1 : Int32} (hres : fX11_rotas S x1 = some rr) : Wat 0 55 1 2 X 0 [(0, .ref (ad X 0)), (1, .int x1)] [] S := by
  unfold fX11_rotas at hres
  refine q_aload_n 1 hX 0 dX11_rotas_0 rfl rfl rfl ?_
  refine q_getR 4 hX ci11 lf_RX11_61 fR_0_6 dX11_rotas_1 rfl ?_
  refine q_iload_n 5 hX 1 dX11_rotas_4 rfl rfl rfl ?_
  obtain ⟨r2, S1, hk1, hres⟩ := ob hres
  refine q_callVl 8 (st := []) (As := [.int x1]) hX (cX1_rotasOf9 hX.dj hk1) cv_RX11_309 ci1 oB_15 rfl (by decide) rfl (Nat.le_of_ble_eq_true rfl) dX11_rotas_5 rfl ?_
  exact q_lret hX (eql hq hres) dX11_rotas_8
theorem cX11_rotas9 {l : Launch} {w : WD} (hj : Dj w 0 55) {rr : Int64 × St} {S : St} {x1 : Int32} (hres : fX11_rotas S x1 = some rr) : Ct l yX11_rotas cX11_rotas 2 (some .long) 1 w 0 55 [.ref (w.1 0), .int x1] S (some (.long rr.1), rr.2) := by
  refine Ct.of (lv := [(0, .ref (w.1 0)), (1, .int x1)]) hj (by decide +kernel) (Nat.le_of_ble_eq_true rfl) rfl ?_
  rintro X rfl rfl hq hX
  exact wfX11_rotas hX hq hres
def fX11_panes (S : St) (x1 : Int32) (x2 : Int32) : Option (Int32 × St) :=
  if x1 < (1 : Int32) then (some ((-1 : Int32), S)) else (if (6 : Int32) < x1 then (some ((-1 : Int32), S)) else (if x2 < (1 : Int32) then (some ((-1 : Int32), S)) else (if (6 : Int32) < x2 then (some ((-1 : Int32), S)) else (bi (fX7_holds S x1) fun r2 S1 => if r2 = 0 then (some ((-1 : Int32), S1)) else (bi (fX1_greatestPane S1 x1 x2) fun r4 S2 => bv (fX7_clear S2) fun S3 => some (r4, S3))))))
theorem wfX11_panes {X : CX} (hX : Ok RX11 cX11_panes (some .int) 0 55 4 X) {rr : Int32 × St} (hq : rs X = (some (.int rr.1), rr.2)) {S : St} {x1 : Int32} {x2 : Int32} (hres : fX11_panes S x1 x2 = some rr) : Wat 0 55 3 4 X 0 [(0, .ref (ad X 0)), (1, .int x1), (2, .int x2)] [] S := by
  unfold fX11_panes at hres
  refine q_iload_n 1 hX 1 dX11_panes_0 rfl rfl rfl ?_
  refine q_iconst 2 hX dX11_panes_1 rfl kI_1 ?_
  refine q_icmp_lt 5 hX 33 dX11_panes_2 rfl (by decide) (fun hc => ?_) (fun hc => ?_)
  · have hres := it_t hc hres
    refine q_iconst 34 hX dX11_panes_33 rfl kI_m1 ?_
    exact q_iret hX (eqi hq hres) dX11_panes_34
  · have hres := it_f hc hres
    refine q_iload_n 6 hX 1 dX11_panes_5 rfl rfl rfl ?_
    refine q_bipush 8 hX dX11_panes_6 rfl kB_6 ?_
    refine q_icmp_gt 11 hX 33 dX11_panes_8 rfl (by decide) (fun hc => ?_) (fun hc => ?_)
    · have hres := it_t hc hres
      refine q_iconst 34 hX dX11_panes_33 rfl kI_m1 ?_
      exact q_iret hX (eqi hq hres) dX11_panes_34
    · have hres := it_f hc hres
      refine q_iload_n 12 hX 2 dX11_panes_11 rfl rfl rfl ?_
      refine q_iconst 13 hX dX11_panes_12 rfl kI_1 ?_
      refine q_icmp_lt 16 hX 33 dX11_panes_13 rfl (by decide) (fun hc => ?_) (fun hc => ?_)
      · have hres := it_t hc hres
        refine q_iconst 34 hX dX11_panes_33 rfl kI_m1 ?_
        exact q_iret hX (eqi hq hres) dX11_panes_34
      · have hres := it_f hc hres
        refine q_iload_n 17 hX 2 dX11_panes_16 rfl rfl rfl ?_
        refine q_bipush 19 hX dX11_panes_17 rfl kB_6 ?_
        refine q_icmp_gt 22 hX 33 dX11_panes_19 rfl (by decide) (fun hc => ?_) (fun hc => ?_)
        · have hres := it_t hc hres
          refine q_iconst 34 hX dX11_panes_33 rfl kI_m1 ?_
          exact q_iret hX (eqi hq hres) dX11_panes_34
        · have hres := it_f hc hres
          refine q_aload_n 23 hX 0 dX11_panes_22 rfl rfl rfl ?_
          refine q_getR 26 hX ci11 lf_RX11_10 fR_0_0 dX11_panes_23 rfl ?_
          refine q_iload_n 27 hX 1 dX11_panes_26 rfl rfl rfl ?_
          obtain ⟨r2, S1, hk1, hres⟩ := ob hres
          refine q_callVi 30 (st := []) (As := [.int x1]) hX (cX7_holds9 hX.dj hk1) cv_RX11_125 ci7 oB_1 rfl (by decide) rfl (Nat.le_of_ble_eq_true rfl) dX11_panes_27 rfl ?_
          refine q_if_ne 33 hX 35 dX11_panes_30 rfl (by decide) (fun hc => ?_) (fun hc => ?_)
          · have hres := it_f hc hres
            refine q_aload_n 36 hX 0 dX11_panes_35 rfl rfl rfl ?_
            refine q_getR 39 hX ci11 lf_RX11_61 fR_0_6 dX11_panes_36 rfl ?_
            refine q_iload_n 40 hX 1 dX11_panes_39 rfl rfl rfl ?_
            refine q_iload_n 41 hX 2 dX11_panes_40 rfl rfl rfl ?_
            obtain ⟨r4, S2, hk3, hres⟩ := ob hres
            refine q_callVi 44 (st := []) (As := [.int x1, .int x2]) hX (cX1_greatestPane9 hX.dj hk3) cv_RX11_313 ci1 oB_15 rfl (by decide) rfl (Nat.le_of_ble_eq_true rfl) dX11_panes_41 rfl ?_
            refine q_istore_n 45 (lv' := [(3, .int r4), (0, .ref (ad X 0)), (1, .int x1), (2, .int x2)]) hX dX11_panes_44 rfl rfl (by decide) rfl ?_
            refine q_aload_n 46 hX 1 dX11_panes_45 rfl rfl rfl ?_
            refine q_getR 49 hX ci11 lf_RX11_10 fR_0_0 dX11_panes_46 rfl ?_
            obtain ⟨S3, hk5, hres⟩ := obv hres
            refine q_callVv 52 (st := []) (As := []) hX (cX7_clear9 hX.dj hk5) cv_RX11_132 ci7 oB_1 rfl (by decide) rfl (Nat.le_of_ble_eq_true rfl) dX11_panes_49 rfl ?_
            refine q_iload_n 53 hX 0 dX11_panes_52 rfl rfl rfl ?_
            exact q_iret hX (eqi hq hres) dX11_panes_53
          · have hres := it_t hc hres
            refine q_iconst 34 hX dX11_panes_33 rfl kI_m1 ?_
            exact q_iret hX (eqi hq hres) dX11_panes_34
theorem cX11_panes9 {l : Launch} {w : WD} (hj : Dj w 0 55) {rr : Int32 × St} {S : St} {x1 : Int32} {x2 : Int32} (hres : fX11_panes S x1 x2 = some rr) : Ct l yX11_panes cX11_panes 4 (some .int) 3 w 0 55 [.ref (w.1 0), .int x1, .int x2] S (some (.int rr.1), rr.2) := by
  refine Ct.of (lv := [(0, .ref (w.1 0)), (1, .int x1), (2, .int x2)]) hj (by decide +kernel) (Nat.le_of_ble_eq_true rfl) rfl ?_
  rintro X rfl rfl hq hX
  exact wfX11_panes hX hq hres
def fX11_keepIt_58 (S : St) (s0 : Int32) : Option (Int32 × St) :=
  bv (fX7_clear S) fun S1 => some (s0, S1)
theorem wfX11_keepIt_58 {X : CX} (hX : Ok RX11 cX11_keepIt (some .int) 0 55 4 X) {rr : Int32 × St} (hq : rs X = (some (.int rr.1), rr.2)) {S : St} {s0 : Int32} (hres : fX11_keepIt_58 S s0 = some rr) : Wat 0 55 3 4 X 58 [(0, .ref (ad X 0))] [.int s0] S := by
  unfold fX11_keepIt_58 at hres
  refine q_istore_n 59 (lv' := [(3, .int s0), (0, .ref (ad X 0))]) hX dX11_keepIt_58 rfl rfl (by decide) rfl ?_
  refine q_aload_n 60 hX 1 dX11_keepIt_59 rfl rfl rfl ?_
  refine q_getR 63 hX ci11 lf_RX11_10 fR_0_0 dX11_keepIt_60 rfl ?_
  obtain ⟨S1, hk1, hres⟩ := obv hres
  refine q_callVv 66 (st := []) (As := []) hX (cX7_clear9 hX.dj hk1) cv_RX11_132 ci7 oB_1 rfl (by decide) rfl (Nat.le_of_ble_eq_true rfl) dX11_keepIt_63 rfl ?_
  refine q_iload_n 67 hX 0 dX11_keepIt_66 rfl rfl rfl ?_
  exact q_iret hX (eqi hq hres) dX11_keepIt_67
def fX11_keepIt (S : St) (x1 : Int32) (x2 : Int32) : Option (Int32 × St) :=
  if x1 < (1 : Int32) then (some ((-1 : Int32), S)) else (if (20 : Int32) < x1 then (some ((-1 : Int32), S)) else (if x2 < (-1 : Int32) then (some ((-1 : Int32), S)) else (if x1 ≤ x2 then (some ((-1 : Int32), S)) else (bi (fX7_holds S x1) fun r2 S1 => if r2 = 0 then (some ((-1 : Int32), S1)) else (if 0 ≤ x2 then (bi (fX1_hadByLettingGo S1 x2 x1) fun r4 S2 => fX11_keepIt_58 S2 r4) else (bi (fX1_bestToLetGo S1 x1) fun r6 S3 => fX11_keepIt_58 S3 r6))))))
theorem wfX11_keepIt {X : CX} (hX : Ok RX11 cX11_keepIt (some .int) 0 55 4 X) {rr : Int32 × St} (hq : rs X = (some (.int rr.1), rr.2)) {S : St} {x1 : Int32} {x2 : Int32} (hres : fX11_keepIt S x1 x2 = some rr) : Wat 0 55 3 4 X 0 [(0, .ref (ad X 0)), (1, .int x1), (2, .int x2)] [] S := by
  unfold fX11_keepIt at hres
  refine q_iload_n 1 hX 1 dX11_keepIt_0 rfl rfl rfl ?_
  refine q_iconst 2 hX dX11_keepIt_1 rfl kI_1 ?_
  refine q_icmp_lt 5 hX 32 dX11_keepIt_2 rfl (by decide) (fun hc => ?_) (fun hc => ?_)
  · have hres := it_t hc hres
    refine q_iconst 33 hX dX11_keepIt_32 rfl kI_m1 ?_
    exact q_iret hX (eqi hq hres) dX11_keepIt_33
  · have hres := it_f hc hres
    refine q_iload_n 6 hX 1 dX11_keepIt_5 rfl rfl rfl ?_
    refine q_bipush 8 hX dX11_keepIt_6 rfl kB_20 ?_
    refine q_icmp_gt 11 hX 32 dX11_keepIt_8 rfl (by decide) (fun hc => ?_) (fun hc => ?_)
    · have hres := it_t hc hres
      refine q_iconst 33 hX dX11_keepIt_32 rfl kI_m1 ?_
      exact q_iret hX (eqi hq hres) dX11_keepIt_33
    · have hres := it_f hc hres
      refine q_iload_n 12 hX 2 dX11_keepIt_11 rfl rfl rfl ?_
      refine q_iconst 13 hX dX11_keepIt_12 rfl kI_m1 ?_
      refine q_icmp_lt 16 hX 32 dX11_keepIt_13 rfl (by decide) (fun hc => ?_) (fun hc => ?_)
      · have hres := it_t hc hres
        refine q_iconst 33 hX dX11_keepIt_32 rfl kI_m1 ?_
        exact q_iret hX (eqi hq hres) dX11_keepIt_33
      · have hres := it_f hc hres
        refine q_iload_n 17 hX 2 dX11_keepIt_16 rfl rfl rfl ?_
        refine q_iload_n 18 hX 1 dX11_keepIt_17 rfl rfl rfl ?_
        refine q_icmp_ge 21 hX 32 dX11_keepIt_18 rfl (by decide) (fun hc => ?_) (fun hc => ?_)
        · have hres := it_t hc hres
          refine q_iconst 33 hX dX11_keepIt_32 rfl kI_m1 ?_
          exact q_iret hX (eqi hq hres) dX11_keepIt_33
        · have hres := it_f hc hres
          refine q_aload_n 22 hX 0 dX11_keepIt_21 rfl rfl rfl ?_
          refine q_getR 25 hX ci11 lf_RX11_10 fR_0_0 dX11_keepIt_22 rfl ?_
          refine q_iload_n 26 hX 1 dX11_keepIt_25 rfl rfl rfl ?_
          obtain ⟨r2, S1, hk1, hres⟩ := ob hres
          refine q_callVi 29 (st := []) (As := [.int x1]) hX (cX7_holds9 hX.dj hk1) cv_RX11_125 ci7 oB_1 rfl (by decide) rfl (Nat.le_of_ble_eq_true rfl) dX11_keepIt_26 rfl ?_
          refine q_if_ne 32 hX 34 dX11_keepIt_29 rfl (by decide) (fun hc => ?_) (fun hc => ?_)
          · have hres := it_f hc hres
            refine q_iload_n 35 hX 2 dX11_keepIt_34 rfl rfl rfl ?_
            refine q_if_ge 38 hX 49 dX11_keepIt_35 rfl (by decide) (fun hc => ?_) (fun hc => ?_)
            · have hres := it_t hc hres
              refine q_aload_n 50 hX 0 dX11_keepIt_49 rfl rfl rfl ?_
              refine q_getR 53 hX ci11 lf_RX11_61 fR_0_6 dX11_keepIt_50 rfl ?_
              refine q_iload_n 54 hX 2 dX11_keepIt_53 rfl rfl rfl ?_
              refine q_iload_n 55 hX 1 dX11_keepIt_54 rfl rfl rfl ?_
              obtain ⟨r4, S2, hk3, hres⟩ := ob hres
              refine q_callVi 58 (st := []) (As := [.int x2, .int x1]) hX (cX1_hadByLettingGo9 hX.dj hk3) cv_RX11_319 ci1 oB_15 rfl (by decide) rfl (Nat.le_of_ble_eq_true rfl) dX11_keepIt_55 rfl ?_
              exact q_sub [0] rfl (wfX11_keepIt_58 hX hq hres)
            · have hres := it_f hc hres
              refine q_aload_n 39 hX 0 dX11_keepIt_38 rfl rfl rfl ?_
              refine q_getR 42 hX ci11 lf_RX11_61 fR_0_6 dX11_keepIt_39 rfl ?_
              refine q_iload_n 43 hX 1 dX11_keepIt_42 rfl rfl rfl ?_
              obtain ⟨r6, S3, hk5, hres⟩ := ob hres
              refine q_callVi 46 (st := []) (As := [.int x1]) hX (cX1_bestToLetGo9 hX.dj hk5) cv_RX11_316 ci1 oB_15 rfl (by decide) rfl (Nat.le_of_ble_eq_true rfl) dX11_keepIt_43 rfl ?_
              refine q_goto 58 hX dX11_keepIt_46 (by decide) ?_
              exact q_sub [0] rfl (wfX11_keepIt_58 hX hq hres)
          · have hres := it_t hc hres
            refine q_iconst 33 hX dX11_keepIt_32 rfl kI_m1 ?_
            exact q_iret hX (eqi hq hres) dX11_keepIt_33
theorem cX11_keepIt9 {l : Launch} {w : WD} (hj : Dj w 0 55) {rr : Int32 × St} {S : St} {x1 : Int32} {x2 : Int32} (hres : fX11_keepIt S x1 x2 = some rr) : Ct l yX11_keepIt cX11_keepIt 4 (some .int) 3 w 0 55 [.ref (w.1 0), .int x1, .int x2] S (some (.int rr.1), rr.2) := by
  refine Ct.of (lv := [(0, .ref (w.1 0)), (1, .int x1), (2, .int x2)]) hj (by decide +kernel) (Nat.le_of_ble_eq_true rfl) rfl ?_
  rintro X rfl rfl hq hX
  exact wfX11_keepIt hX hq hres
