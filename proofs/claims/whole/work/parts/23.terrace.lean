def fX11_isTurn_14 (S : St) : Option (Int32 × St) :=
  some ((0 : Int32), S)
theorem wfX11_isTurn_14 {X : CX} (hX : Ok RX11 cX11_isTurn (some .boolean) 0 55 1 X) {rr : Int32 × St} (hq : rs X = (some (.int rr.1), rr.2)) {S : St} (hres : fX11_isTurn_14 S = some rr) : Wat 0 55 0 1 X 14 [] [] S := by
  unfold fX11_isTurn_14 at hres
  refine q_iconst 15 hX dX11_isTurn_14 rfl kI_0 ?_
  exact q_zret hX (by decide) (eqi hq hres) dX11_isTurn_15
def fX11_isTurn (S : St) (x0 : Int32) : Option (Int32 × St) :=
  if x0 < 0 then (fX11_isTurn_14 S) else (if (12 : Int32) ≤ x0 then (fX11_isTurn_14 S) else (some ((1 : Int32), S)))
theorem wfX11_isTurn {X : CX} (hX : Ok RX11 cX11_isTurn (some .boolean) 0 55 1 X) {rr : Int32 × St} (hq : rs X = (some (.int rr.1), rr.2)) {S : St} {x0 : Int32} (hres : fX11_isTurn S x0 = some rr) : Wat 0 55 0 1 X 0 [(0, .int x0)] [] S := by
  unfold fX11_isTurn at hres
  refine q_iload_n 1 hX 0 dX11_isTurn_0 rfl rfl rfl ?_
  refine q_if_lt 4 hX 14 dX11_isTurn_1 rfl (by decide) (fun hc => ?_) (fun hc => ?_)
  · have hres := it_t hc hres
    exact q_sub [] rfl (wfX11_isTurn_14 hX hq hres)
  · have hres := it_f hc hres
    refine q_iload_n 5 hX 0 dX11_isTurn_4 rfl rfl rfl ?_
    refine q_bipush 7 hX dX11_isTurn_5 rfl kB_12 ?_
    refine q_icmp_ge 10 hX 14 dX11_isTurn_7 rfl (by decide) (fun hc => ?_) (fun hc => ?_)
    · have hres := it_t hc hres
      exact q_sub [] rfl (wfX11_isTurn_14 hX hq hres)
    · have hres := it_f hc hres
      refine q_iconst 11 hX dX11_isTurn_10 rfl kI_1 ?_
      refine q_goto 15 hX dX11_isTurn_11 (by decide) ?_
      exact q_zret hX (by decide) (eqi hq hres) dX11_isTurn_15
theorem cX11_isTurn9 {l : Launch} {w : WD} (hj : Dj w 0 55) {rr : Int32 × St} {S : St} {x0 : Int32} (hres : fX11_isTurn S x0 = some rr) : Ct l yX11_isTurn cX11_isTurn 1 (some .boolean) 0 w 0 55 [.int x0] S (some (.int rr.1), rr.2) := by
  refine Ct.of (lv := [(0, .int x0)]) hj (by decide +kernel) (Nat.le_of_ble_eq_true rfl) rfl ?_
  rintro X rfl rfl hq hX
  exact wfX11_isTurn hX hq hres
def fX8_clear (o0 : Nat) (S : St) : Option (St) :=
  bS (pI S o0 7 (0 : Int32)) fun S1 => bS (pI S1 o0 8 (0 : Int32)) fun S2 => some S2
theorem wfX8_clear {X : CX} (hX : Ok RX8 cX8_clear none 0 55 1 X) {o0 : Nat} (ho0 : isT o0) {rr : St} (hq : rs X = (none, rr)) {S : St} (hres : fX8_clear o0 S = some rr) : Wat 0 55 0 1 X 0 [(0, .ref (ad X o0))] [] S := by
  unfold fX8_clear at hres
  refine q_aload_n 1 hX 0 dX8_clear_0 rfl rfl rfl ?_
  refine q_iconst 2 hX dX8_clear_1 rfl kI_0 ?_
  refine q_putI 5 hX ci8 lf_RX8_33 (fI_T_7 ho0) (nar_i rfl) dX8_clear_2 rfl ?_
  refine q_bS hres (fun S1 _ hres => ?_)
  refine q_aload_n 6 hX 0 dX8_clear_5 rfl rfl rfl ?_
  refine q_iconst 7 hX dX8_clear_6 rfl kI_0 ?_
  refine q_putI 10 hX ci8 lf_RX8_37 (fI_T_8 ho0) (nar_i rfl) dX8_clear_7 rfl ?_
  refine q_bS hres (fun S2 _ hres => ?_)
  exact q_vret hX (eqv hq hres) dX8_clear_10
theorem cX8_clear9 {l : Launch} {w : WD} (hj : Dj w 0 55) {o0 : Nat} (ho0 : isT o0) {rr : St} {S : St} (hres : fX8_clear o0 S = some rr) : Ct l yX8_clear cX8_clear 1 none 0 w 0 55 [.ref (w.1 o0)] S (none, rr) := by
  refine Ct.of (lv := [(0, .ref (w.1 o0))]) hj (by decide +kernel) (Nat.le_of_ble_eq_true rfl) rfl ?_
  rintro X rfl rfl hq hX
  exact wfX8_clear hX ho0 hq hres
def fX8_hasHouse_26 (o0 : Nat) (S : St) : Option (Int32 × St) :=
  some ((0 : Int32), S)
theorem wfX8_hasHouse_26 {X : CX} (hX : Ok RX8 cX8_hasHouse (some .boolean) 0 55 2 X) {o0 : Nat} (ho0 : isT o0) {rr : Int32 × St} (hq : rs X = (some (.int rr.1), rr.2)) {S : St} (hres : fX8_hasHouse_26 o0 S = some rr) : Wat 0 55 0 2 X 26 [] [] S := by
  unfold fX8_hasHouse_26 at hres
  refine q_iconst 27 hX dX8_hasHouse_26 rfl kI_0 ?_
  exact q_zret hX (by decide) (eqi hq hres) dX8_hasHouse_27
def fX8_hasHouse (o0 : Nat) (S : St) (x1 : Int32) : Option (Int32 × St) :=
  if x1 < 0 then (fX8_hasHouse_26 o0 S) else (if (16 : Int32) ≤ x1 then (fX8_hasHouse_26 o0 S) else (if (((S.1 o0 7) >>> (x1 &&& 31)) &&& (1 : Int32)) = (1 : Int32) then (some ((1 : Int32), S)) else (fX8_hasHouse_26 o0 S)))
theorem wfX8_hasHouse {X : CX} (hX : Ok RX8 cX8_hasHouse (some .boolean) 0 55 2 X) {o0 : Nat} (ho0 : isT o0) {rr : Int32 × St} (hq : rs X = (some (.int rr.1), rr.2)) {S : St} {x1 : Int32} (hres : fX8_hasHouse o0 S x1 = some rr) : Wat 0 55 0 2 X 0 [(0, .ref (ad X o0)), (1, .int x1)] [] S := by
  unfold fX8_hasHouse at hres
  refine q_iload_n 1 hX 1 dX8_hasHouse_0 rfl rfl rfl ?_
  refine q_if_lt 4 hX 26 dX8_hasHouse_1 rfl (by decide) (fun hc => ?_) (fun hc => ?_)
  · have hres := it_t hc hres
    exact q_sub [] rfl (wfX8_hasHouse_26 hX ho0 hq hres)
  · have hres := it_f hc hres
    refine q_iload_n 5 hX 1 dX8_hasHouse_4 rfl rfl rfl ?_
    refine q_bipush 7 hX dX8_hasHouse_5 rfl kB_16 ?_
    refine q_icmp_ge 10 hX 26 dX8_hasHouse_7 rfl (by decide) (fun hc => ?_) (fun hc => ?_)
    · have hres := it_t hc hres
      exact q_sub [] rfl (wfX8_hasHouse_26 hX ho0 hq hres)
    · have hres := it_f hc hres
      refine q_aload_n 11 hX 0 dX8_hasHouse_10 rfl rfl rfl ?_
      refine q_getI 14 hX ci8 lf_RX8_33 (fI_T_7 ho0) dX8_hasHouse_11 rfl ?_
      refine q_iload_n 15 hX 1 dX8_hasHouse_14 rfl rfl rfl ?_
      refine q_ishr 16 hX dX8_hasHouse_15 rfl ?_
      refine q_iconst 17 hX dX8_hasHouse_16 rfl kI_1 ?_
      refine q_iand 18 hX dX8_hasHouse_17 rfl ?_
      refine q_iconst 19 hX dX8_hasHouse_18 rfl kI_1 ?_
      refine q_icmp_ne 22 hX 26 dX8_hasHouse_19 rfl (by decide) (fun hc => ?_) (fun hc => ?_)
      · have hres := it_f hc hres
        exact q_sub [] rfl (wfX8_hasHouse_26 hX ho0 hq hres)
      · have hres := it_t hc hres
        refine q_iconst 23 hX dX8_hasHouse_22 rfl kI_1 ?_
        refine q_goto 27 hX dX8_hasHouse_23 (by decide) ?_
        exact q_zret hX (by decide) (eqi hq hres) dX8_hasHouse_27
theorem cX8_hasHouse9 {l : Launch} {w : WD} (hj : Dj w 0 55) {o0 : Nat} (ho0 : isT o0) {rr : Int32 × St} {S : St} {x1 : Int32} (hres : fX8_hasHouse o0 S x1 = some rr) : Ct l yX8_hasHouse cX8_hasHouse 2 (some .boolean) 0 w 0 55 [.ref (w.1 o0), .int x1] S (some (.int rr.1), rr.2) := by
  refine Ct.of (lv := [(0, .ref (w.1 o0)), (1, .int x1)]) hj (by decide +kernel) (Nat.le_of_ble_eq_true rfl) rfl ?_
  rintro X rfl rfl hq hX
  exact wfX8_hasHouse hX ho0 hq hres
def fX8_hasThing_26 (o0 : Nat) (S : St) : Option (Int32 × St) :=
  some ((0 : Int32), S)
theorem wfX8_hasThing_26 {X : CX} (hX : Ok RX8 cX8_hasThing (some .boolean) 0 55 2 X) {o0 : Nat} (ho0 : isT o0) {rr : Int32 × St} (hq : rs X = (some (.int rr.1), rr.2)) {S : St} (hres : fX8_hasThing_26 o0 S = some rr) : Wat 0 55 0 2 X 26 [] [] S := by
  unfold fX8_hasThing_26 at hres
  refine q_iconst 27 hX dX8_hasThing_26 rfl kI_0 ?_
  exact q_zret hX (by decide) (eqi hq hres) dX8_hasThing_27
def fX8_hasThing (o0 : Nat) (S : St) (x1 : Int32) : Option (Int32 × St) :=
  if x1 < 0 then (fX8_hasThing_26 o0 S) else (if (16 : Int32) ≤ x1 then (fX8_hasThing_26 o0 S) else (if (((S.1 o0 8) >>> (x1 &&& 31)) &&& (1 : Int32)) = (1 : Int32) then (some ((1 : Int32), S)) else (fX8_hasThing_26 o0 S)))
theorem wfX8_hasThing {X : CX} (hX : Ok RX8 cX8_hasThing (some .boolean) 0 55 2 X) {o0 : Nat} (ho0 : isT o0) {rr : Int32 × St} (hq : rs X = (some (.int rr.1), rr.2)) {S : St} {x1 : Int32} (hres : fX8_hasThing o0 S x1 = some rr) : Wat 0 55 0 2 X 0 [(0, .ref (ad X o0)), (1, .int x1)] [] S := by
  unfold fX8_hasThing at hres
  refine q_iload_n 1 hX 1 dX8_hasThing_0 rfl rfl rfl ?_
  refine q_if_lt 4 hX 26 dX8_hasThing_1 rfl (by decide) (fun hc => ?_) (fun hc => ?_)
  · have hres := it_t hc hres
    exact q_sub [] rfl (wfX8_hasThing_26 hX ho0 hq hres)
  · have hres := it_f hc hres
    refine q_iload_n 5 hX 1 dX8_hasThing_4 rfl rfl rfl ?_
    refine q_bipush 7 hX dX8_hasThing_5 rfl kB_16 ?_
    refine q_icmp_ge 10 hX 26 dX8_hasThing_7 rfl (by decide) (fun hc => ?_) (fun hc => ?_)
    · have hres := it_t hc hres
      exact q_sub [] rfl (wfX8_hasThing_26 hX ho0 hq hres)
    · have hres := it_f hc hres
      refine q_aload_n 11 hX 0 dX8_hasThing_10 rfl rfl rfl ?_
      refine q_getI 14 hX ci8 lf_RX8_37 (fI_T_8 ho0) dX8_hasThing_11 rfl ?_
      refine q_iload_n 15 hX 1 dX8_hasThing_14 rfl rfl rfl ?_
      refine q_ishr 16 hX dX8_hasThing_15 rfl ?_
      refine q_iconst 17 hX dX8_hasThing_16 rfl kI_1 ?_
      refine q_iand 18 hX dX8_hasThing_17 rfl ?_
      refine q_iconst 19 hX dX8_hasThing_18 rfl kI_1 ?_
      refine q_icmp_ne 22 hX 26 dX8_hasThing_19 rfl (by decide) (fun hc => ?_) (fun hc => ?_)
      · have hres := it_f hc hres
        exact q_sub [] rfl (wfX8_hasThing_26 hX ho0 hq hres)
      · have hres := it_t hc hres
        refine q_iconst 23 hX dX8_hasThing_22 rfl kI_1 ?_
        refine q_goto 27 hX dX8_hasThing_23 (by decide) ?_
        exact q_zret hX (by decide) (eqi hq hres) dX8_hasThing_27
theorem cX8_hasThing9 {l : Launch} {w : WD} (hj : Dj w 0 55) {o0 : Nat} (ho0 : isT o0) {rr : Int32 × St} {S : St} {x1 : Int32} (hres : fX8_hasThing o0 S x1 = some rr) : Ct l yX8_hasThing cX8_hasThing 2 (some .boolean) 0 w 0 55 [.ref (w.1 o0), .int x1] S (some (.int rr.1), rr.2) := by
  refine Ct.of (lv := [(0, .ref (w.1 o0)), (1, .int x1)]) hj (by decide +kernel) (Nat.le_of_ble_eq_true rfl) rfl ?_
  rintro X rfl rfl hq hX
  exact wfX8_hasThing hX ho0 hq hres
def fX8_addHouse (o0 : Nat) (S : St) (x1 : Int32) (x2 : Int32) : Option (St) :=
  if x1 < 0 then (some S) else (if (16 : Int32) ≤ x1 then (some S) else (bS (pI S o0 7 ((S.1 o0 7) ||| ((1 : Int32) <<< (x1 &&& 31)))) fun S1 => if inb x1 16 = true then bS (pI S1 (o0 + 1) (x1.toNatClampNeg) x2) fun S2 => some S2 else none))
theorem wfX8_addHouse {X : CX} (hX : Ok RX8 cX8_addHouse none 0 55 3 X) {o0 : Nat} (ho0 : isT o0) {rr : St} (hq : rs X = (none, rr)) {S : St} {x1 : Int32} {x2 : Int32} (hres : fX8_addHouse o0 S x1 x2 = some rr) : Wat 0 55 0 3 X 0 [(0, .ref (ad X o0)), (1, .int x1), (2, .int x2)] [] S := by
  unfold fX8_addHouse at hres
  refine q_iload_n 1 hX 1 dX8_addHouse_0 rfl rfl rfl ?_
  refine q_if_lt 4 hX 29 dX8_addHouse_1 rfl (by decide) (fun hc => ?_) (fun hc => ?_)
  · have hres := it_t hc hres
    exact q_vret hX (eqv hq hres) dX8_addHouse_29
  · have hres := it_f hc hres
    refine q_iload_n 5 hX 1 dX8_addHouse_4 rfl rfl rfl ?_
    refine q_bipush 7 hX dX8_addHouse_5 rfl kB_16 ?_
    refine q_icmp_ge 10 hX 29 dX8_addHouse_7 rfl (by decide) (fun hc => ?_) (fun hc => ?_)
    · have hres := it_t hc hres
      exact q_vret hX (eqv hq hres) dX8_addHouse_29
    · have hres := it_f hc hres
      refine q_aload_n 11 hX 0 dX8_addHouse_10 rfl rfl rfl ?_
      refine q_dup 12 hX dX8_addHouse_11 rfl rfl ?_
      refine q_getI 15 hX ci8 lf_RX8_33 (fI_T_7 ho0) dX8_addHouse_12 rfl ?_
      refine q_iconst 16 hX dX8_addHouse_15 rfl kI_1 ?_
      refine q_iload_n 17 hX 1 dX8_addHouse_16 rfl rfl rfl ?_
      refine q_ishl 18 hX dX8_addHouse_17 rfl ?_
      refine q_ior 19 hX dX8_addHouse_18 rfl ?_
      refine q_putI 22 hX ci8 lf_RX8_33 (fI_T_7 ho0) (nar_i rfl) dX8_addHouse_19 rfl ?_
      refine q_bS hres (fun S1 _ hres => ?_)
      refine q_aload_n 23 hX 0 dX8_addHouse_22 rfl rfl rfl ?_
      refine q_getR 26 hX ci8 lf_RX8_9 (fR_T_0 ho0) dX8_addHouse_23 rfl ?_
      refine q_iload_n 27 hX 1 dX8_addHouse_26 rfl rfl rfl ?_
      refine q_iload_n 28 hX 2 dX8_addHouse_27 rfl rfl rfl ?_
      obtain ⟨hb1, hres⟩ := gd hres
      refine q_iast 29 hX rfl (aF_T_1 ho0) hb1 dX8_addHouse_28 rfl ?_
      refine q_bS hres (fun S2 _ hres => ?_)
      exact q_vret hX (eqv hq hres) dX8_addHouse_29
theorem cX8_addHouse9 {l : Launch} {w : WD} (hj : Dj w 0 55) {o0 : Nat} (ho0 : isT o0) {rr : St} {S : St} {x1 : Int32} {x2 : Int32} (hres : fX8_addHouse o0 S x1 x2 = some rr) : Ct l yX8_addHouse cX8_addHouse 3 none 0 w 0 55 [.ref (w.1 o0), .int x1, .int x2] S (none, rr) := by
  refine Ct.of (lv := [(0, .ref (w.1 o0)), (1, .int x1), (2, .int x2)]) hj (by decide +kernel) (Nat.le_of_ble_eq_true rfl) rfl ?_
  rintro X rfl rfl hq hX
  exact wfX8_addHouse hX ho0 hq hres
def fX8_addThing (o0 : Nat) (S : St) (x1 : Int32) (x2 : Int32) (x3 : Int32) (x4 : Int32) : Option (St) :=
  if x1 < 0 then (some S) else (if (16 : Int32) ≤ x1 then (some S) else (bS (pI S o0 8 ((S.1 o0 8) ||| ((1 : Int32) <<< (x1 &&& 31)))) fun S1 => if inb x1 16 = true then bS (pI S1 (o0 + 2) (x1.toNatClampNeg) x2) fun S2 => if inb x1 16 = true then bS (pI S2 (o0 + 3) (x1.toNatClampNeg) x3) fun S3 => if inb x1 16 = true then bS (pI S3 (o0 + 4) (x1.toNatClampNeg) x4) fun S4 => some S4 else none else none else none))
theorem wfX8_addThing {X : CX} (hX : Ok RX8 cX8_addThing none 0 55 5 X) {o0 : Nat} (ho0 : isT o0) {rr : St} (hq : rs X = (none, rr)) {S : St} {x1 : Int32} {x2 : Int32} {x3 : Int32} {x4 : Int32} (hres : fX8_addThing o0 S x1 x2 x3 x4 = some rr) : Wat 0 55 0 5 X 0 [(0, .ref (ad X o0)), (1, .int x1), (2, .int x2), (3, .int x3), (4, .int x4)] [] S := by
  unfold fX8_addThing at hres
  refine q_iload_n 1 hX 1 dX8_addThing_0 rfl rfl rfl ?_
  refine q_if_lt 4 hX 44 dX8_addThing_1 rfl (by decide) (fun hc => ?_) (fun hc => ?_)
  · have hres := it_t hc hres
    exact q_vret hX (eqv hq hres) dX8_addThing_44
  · have hres := it_f hc hres
    refine q_iload_n 5 hX 1 dX8_addThing_4 rfl rfl rfl ?_
    refine q_bipush 7 hX dX8_addThing_5 rfl kB_16 ?_
    refine q_icmp_ge 10 hX 44 dX8_addThing_7 rfl (by decide) (fun hc => ?_) (fun hc => ?_)
    · have hres := it_t hc hres
      exact q_vret hX (eqv hq hres) dX8_addThing_44
    · have hres := it_f hc hres
      refine q_aload_n 11 hX 0 dX8_addThing_10 rfl rfl rfl ?_
      refine q_dup 12 hX dX8_addThing_11 rfl rfl ?_
      refine q_getI 15 hX ci8 lf_RX8_37 (fI_T_8 ho0) dX8_addThing_12 rfl ?_
      refine q_iconst 16 hX dX8_addThing_15 rfl kI_1 ?_
      refine q_iload_n 17 hX 1 dX8_addThing_16 rfl rfl rfl ?_
      refine q_ishl 18 hX dX8_addThing_17 rfl ?_
      refine q_ior 19 hX dX8_addThing_18 rfl ?_
      refine q_putI 22 hX ci8 lf_RX8_37 (fI_T_8 ho0) (nar_i rfl) dX8_addThing_19 rfl ?_
      refine q_bS hres (fun S1 _ hres => ?_)
      refine q_aload_n 23 hX 0 dX8_addThing_22 rfl rfl rfl ?_
      refine q_getR 26 hX ci8 lf_RX8_15 (fR_T_1 ho0) dX8_addThing_23 rfl ?_
      refine q_iload_n 27 hX 1 dX8_addThing_26 rfl rfl rfl ?_
      refine q_iload_n 28 hX 2 dX8_addThing_27 rfl rfl rfl ?_
      obtain ⟨hb1, hres⟩ := gd hres
      refine q_iast 29 hX rfl (aF_T_2 ho0) hb1 dX8_addThing_28 rfl ?_
      refine q_bS hres (fun S2 _ hres => ?_)
      refine q_aload_n 30 hX 0 dX8_addThing_29 rfl rfl rfl ?_
      refine q_getR 33 hX ci8 lf_RX8_18 (fR_T_2 ho0) dX8_addThing_30 rfl ?_
      refine q_iload_n 34 hX 1 dX8_addThing_33 rfl rfl rfl ?_
      refine q_iload_n 35 hX 3 dX8_addThing_34 rfl rfl rfl ?_
      obtain ⟨hb2, hres⟩ := gd hres
      refine q_iast 36 hX rfl (aF_T_3 ho0) hb2 dX8_addThing_35 rfl ?_
      refine q_bS hres (fun S3 _ hres => ?_)
      refine q_aload_n 37 hX 0 dX8_addThing_36 rfl rfl rfl ?_
      refine q_getR 40 hX ci8 lf_RX8_21 (fR_T_3 ho0) dX8_addThing_37 rfl ?_
      refine q_iload_n 41 hX 1 dX8_addThing_40 rfl rfl rfl ?_
      refine q_iload 43 hX 4 dX8_addThing_41 rfl rfl ?_
      obtain ⟨hb3, hres⟩ := gd hres
      refine q_iast 44 hX rfl (aF_T_4 ho0) hb3 dX8_addThing_43 rfl ?_
      refine q_bS hres (fun S4 _ hres => ?_)
      exact q_vret hX (eqv hq hres) dX8_addThing_44
theorem cX8_addThing9 {l : Launch} {w : WD} (hj : Dj w 0 55) {o0 : Nat} (ho0 : isT o0) {rr : St} {S : St} {x1 : Int32} {x2 : Int32} {x3 : Int32} {x4 : Int32} (hres : fX8_addThing o0 S x1 x2 x3 x4 = some rr) : Ct l yX8_addThing cX8_addThing 5 none 0 w 0 55 [.ref (w.1 o0), .int x1, .int x2, .int x3, .int x4] S (none, rr) := by
  refine Ct.of (lv := [(0, .ref (w.1 o0)), (1, .int x1), (2, .int x2), (3, .int x3), (4, .int x4)]) hj (by decide +kernel) (Nat.le_of_ble_eq_true rfl) rfl ?_
  rintro X rfl rfl hq hX
  exact wfX8_addThing hX ho0 hq hres
def fX8_isBefore (o0 : Nat) (S : St) (x1 : Int32) (x2 : Int32) : Option (Int32 × St) :=
  if inb x1 16 = true then if inb x2 16 = true then bV ((if 0 ≤ ((S.1 (o0 + 1) (x1.toNatClampNeg)) - (S.1 (o0 + 2) (x2.toNatClampNeg))) then ((S.1 (o0 + 1) (x1.toNatClampNeg)) - (S.1 (o0 + 2) (x2.toNatClampNeg))) else 0 - ((S.1 (o0 + 1) (x1.toNatClampNeg)) - (S.1 (o0 + 2) (x2.toNatClampNeg))))) fun v3 => if v3 ≤ (1 : Int32) then (some ((1 : Int32), S)) else (if v3 = (11 : Int32) then (some ((1 : Int32), S)) else (some ((0 : Int32), S))) else none else none
theorem wfX8_isBefore {X : CX} (hX : Ok RX8 cX8_isBefore (some .boolean) 0 55 4 X) {o0 : Nat} (ho0 : isT o0) {rr : Int32 × St} (hq : rs X = (some (.int rr.1), rr.2)) {S : St} {x1 : Int32} {x2 : Int32} (hres : fX8_isBefore o0 S x1 x2 = some rr) : Wat 0 55 1 4 X 0 [(0, .ref (ad X o0)), (1, .int x1), (2, .int x2)] [] S := by
  unfold fX8_isBefore at hres
  refine q_aload_n 1 hX 0 dX8_isBefore_0 rfl rfl rfl ?_
  refine q_getR 4 hX ci8 lf_RX8_9 (fR_T_0 ho0) dX8_isBefore_1 rfl ?_
  refine q_iload_n 5 hX 1 dX8_isBefore_4 rfl rfl rfl ?_
  obtain ⟨hb1, hres⟩ := gd hres
  refine q_iald 6 hX rfl (aF_T_1 ho0) hb1 dX8_isBefore_5 rfl ?_
  refine q_aload_n 7 hX 0 dX8_isBefore_6 rfl rfl rfl ?_
  refine q_getR 10 hX ci8 lf_RX8_15 (fR_T_1 ho0) dX8_isBefore_7 rfl ?_
  refine q_iload_n 11 hX 2 dX8_isBefore_10 rfl rfl rfl ?_
  obtain ⟨hb2, hres⟩ := gd hres
  refine q_iald 12 hX rfl (aF_T_2 ho0) hb2 dX8_isBefore_11 rfl ?_
  refine q_isub 13 hX dX8_isBefore_12 rfl ?_
  refine q_abs 16 hX mw_RX8_61 (by decide) (Nat.le_of_ble_eq_true rfl) dX8_isBefore_13 rfl ?_
  refine q_istoreB_n 17 (lv0 := [(0, .ref (ad X o0)), (1, .int x1), (2, .int x2)]) hX dX8_isBefore_16 rfl rfl (by decide) rfl hres (fun v3 hres => ?_)
  refine q_iload_n 18 hX 0 dX8_isBefore_17 rfl rfl rfl ?_
  refine q_iconst 19 hX dX8_isBefore_18 rfl kI_1 ?_
  refine q_icmp_le 22 hX 28 dX8_isBefore_19 rfl (by decide) (fun hc => ?_) (fun hc => ?_)
  · have hres := it_t hc hres
    refine q_iconst 29 hX dX8_isBefore_28 rfl kI_1 ?_
    refine q_goto 33 hX dX8_isBefore_29 (by decide) ?_
    exact q_zret hX (by decide) (eqi hq hres) dX8_isBefore_33
  · have hres := it_f hc hres
    refine q_iload_n 23 hX 0 dX8_isBefore_22 rfl rfl rfl ?_
    refine q_bipush 25 hX dX8_isBefore_23 rfl kB_11 ?_
    refine q_icmp_ne 28 hX 32 dX8_isBefore_25 rfl (by decide) (fun hc => ?_) (fun hc => ?_)
    · have hres := it_f hc hres
      refine q_iconst 33 hX dX8_isBefore_32 rfl kI_0 ?_
      exact q_zret hX (by decide) (eqi hq hres) dX8_isBefore_33
    · have hres := it_t hc hres
      refine q_iconst 29 hX dX8_isBefore_28 rfl kI_1 ?_
      refine q_goto 33 hX dX8_isBefore_29 (by decide) ?_
      exact q_zret hX (by decide) (eqi hq hres) dX8_isBefore_33
theorem cX8_isBefore9 {l : Launch} {w : WD} (hj : Dj w 0 55) {o0 : Nat} (ho0 : isT o0) {rr : Int32 × St} {S : St} {x1 : Int32} {x2 : Int32} (hres : fX8_isBefore o0 S x1 x2 = some rr) : Ct l yX8_isBefore cX8_isBefore 4 (some .boolean) 1 w 0 55 [.ref (w.1 o0), .int x1, .int x2] S (some (.int rr.1), rr.2) := by
  refine Ct.of (lv := [(0, .ref (w.1 o0)), (1, .int x1), (2, .int x2)]) hj (by decide +kernel) (Nat.le_of_ble_eq_true rfl) rfl ?_
  rintro X rfl rfl hq hX
  exact wfX8_isBefore hX ho0 hq hres
def bX8_thingsBefore_4 (o0 : Nat) (rc4 : St → Int32 → Int32 → Int32 → Option (Int32 × St)) (S : St) (x1 : Int32) (x2 : Int32) (x3 : Int32) : Option (Int32 × St) :=
  if (16 : Int32) ≤ x3 then (some (x2, S)) else (bi (fX8_hasThing o0 S x3) fun r2 S1 => if r2 = 0 then (bV (x3 + (1 : Int32)) fun v3 => rc4 S1 x1 x2 v3) else (bi (fX8_isBefore o0 S1 x1 x3) fun r5 S2 => if r5 = 0 then (bV (x3 + (1 : Int32)) fun v6 => rc4 S2 x1 x2 v6) else (bV ((x2 ||| ((1 : Int32) <<< (x3 &&& 31)))) fun v7 => bV (x3 + (1 : Int32)) fun v8 => rc4 S2 x1 v7 v8)))
theorem wbX8_thingsBefore_4 {X : CX} (hX : Ok RX8 cX8_thingsBefore (some .int) 0 55 4 X) {o0 : Nat} (ho0 : isT o0) {rr : Int32 × St} (hq : rs X = (some (.int rr.1), rr.2)) {rc4 : St → Int32 → Int32 → Int32 → Option (Int32 × St)} (hrc4 : ∀ (S : St) (x1 : Int32) (x2 : Int32) (x3 : Int32), rc4 S x1 x2 x3 = some rr → Wat 0 55 2 4 X 4 [(0, .ref (ad X o0)), (1, .int x1), (2, .int x2), (3, .int x3)] [] S) {S : St} {x1 : Int32} {x2 : Int32} {x3 : Int32} (hres : bX8_thingsBefore_4 o0 rc4 S x1 x2 x3 = some rr) : Wat 0 55 2 4 X 4 [(0, .ref (ad X o0)), (1, .int x1), (2, .int x2), (3, .int x3)] [] S := by
  unfold bX8_thingsBefore_4 at hres
  refine q_iload_n 5 hX 3 dX8_thingsBefore_4 rfl rfl rfl ?_
  refine q_bipush 7 hX dX8_thingsBefore_5 rfl kB_16 ?_
  refine q_icmp_ge 10 hX 39 dX8_thingsBefore_7 rfl (by decide) (fun hc => ?_) (fun hc => ?_)
  · have hres := it_t hc hres
    refine q_iload_n 40 hX 2 dX8_thingsBefore_39 rfl rfl rfl ?_
    exact q_iret hX (eqi hq hres) dX8_thingsBefore_40
  · have hres := it_f hc hres
    refine q_aload_n 11 hX 0 dX8_thingsBefore_10 rfl rfl rfl ?_
    refine q_iload_n 12 hX 3 dX8_thingsBefore_11 rfl rfl rfl ?_
    obtain ⟨r2, S1, hk1, hres⟩ := ob hres
    refine q_callVi 15 (st := []) (As := [.int x3]) hX (cX8_hasThing9 hX.dj ho0 hk1) cv_RX8_51 ci8 (oB_T ho0) rfl (by decide) rfl (Nat.le_of_ble_eq_true rfl) dX8_thingsBefore_12 rfl ?_
    refine q_if_eq 18 hX 33 dX8_thingsBefore_15 rfl (by decide) (fun hc => ?_) (fun hc => ?_)
    · have hres := it_t hc hres
      refine q_iincB 36 3 (lv0 := [(0, .ref (ad X o0)), (1, .int x1), (2, .int x2)]) hX dX8_thingsBefore_33 rfl rfl kI_1 (by decide) rfl hres (fun v3 hres => ?_)
      refine q_goto 4 hX dX8_thingsBefore_36 (by decide) ?_
      exact q_sub [1, 2, 3, 0] rfl (hrc4 _ _ _ _ hres)
    · have hres := it_f hc hres
      refine q_aload_n 19 hX 0 dX8_thingsBefore_18 rfl rfl rfl ?_
      refine q_iload_n 20 hX 1 dX8_thingsBefore_19 rfl rfl rfl ?_
      refine q_iload_n 21 hX 3 dX8_thingsBefore_20 rfl rfl rfl ?_
      obtain ⟨r5, S2, hk4, hres⟩ := ob hres
      refine q_callVi 24 (st := []) (As := [.int x1, .int x3]) hX (cX8_isBefore9 hX.dj ho0 hk4) cv_RX8_54 ci8 (oB_T ho0) rfl (by decide) rfl (Nat.le_of_ble_eq_true rfl) dX8_thingsBefore_21 rfl ?_
      refine q_if_eq 27 hX 33 dX8_thingsBefore_24 rfl (by decide) (fun hc => ?_) (fun hc => ?_)
      · have hres := it_t hc hres
        refine q_iincB 36 3 (lv0 := [(0, .ref (ad X o0)), (1, .int x1), (2, .int x2)]) hX dX8_thingsBefore_33 rfl rfl kI_1 (by decide) rfl hres (fun v6 hres => ?_)
        refine q_goto 4 hX dX8_thingsBefore_36 (by decide) ?_
        exact q_sub [1, 2, 3, 0] rfl (hrc4 _ _ _ _ hres)
      · have hres := it_f hc hres
        refine q_iload_n 28 hX 2 dX8_thingsBefore_27 rfl rfl rfl ?_
        refine q_iconst 29 hX dX8_thingsBefore_28 rfl kI_1 ?_
        refine q_iload_n 30 hX 3 dX8_thingsBefore_29 rfl rfl rfl ?_
        refine q_ishl 31 hX dX8_thingsBefore_30 rfl ?_
        refine q_ior 32 hX dX8_thingsBefore_31 rfl ?_
        refine q_istoreB_n 33 (lv0 := [(0, .ref (ad X o0)), (1, .int x1), (3, .int x3)]) hX dX8_thingsBefore_32 rfl rfl (by decide) rfl hres (fun v7 hres => ?_)
        refine q_iincB 36 3 (lv0 := [(2, .int v7), (0, .ref (ad X o0)), (1, .int x1)]) hX dX8_thingsBefore_33 rfl rfl kI_1 (by decide) rfl hres (fun v8 hres => ?_)
        refine q_goto 4 hX dX8_thingsBefore_36 (by decide) ?_
        exact q_sub [2, 3, 1, 0] rfl (hrc4 _ _ _ _ hres)
def fX8_thingsBefore_4 (o0 : Nat) : Nat → St → Int32 → Int32 → Int32 → Option (Int32 × St)
  | 0 => fun _ _ _ _ => none
  | k + 1 => fun S x1 x2 x3 => bX8_thingsBefore_4 o0 (fX8_thingsBefore_4 o0 k) S x1 x2 x3
theorem wfX8_thingsBefore_4 {X : CX} (hX : Ok RX8 cX8_thingsBefore (some .int) 0 55 4 X) {o0 : Nat} (ho0 : isT o0) {rr : Int32 × St} (hq : rs X = (some (.int rr.1), rr.2)) (k : Nat) : ∀ (S : St) (x1 : Int32) (x2 : Int32) (x3 : Int32), fX8_thingsBefore_4 o0 k S x1 x2 x3 = some rr → Wat 0 55 2 4 X 4 [(0, .ref (ad X o0)), (1, .int x1), (2, .int x2), (3, .int x3)] [] S := by
  induction k with
  | zero => intro S x1 x2 x3 hres; exact absurd hres (by simp [fX8_thingsBefore_4])
  | succ k ih => intro S x1 x2 x3 hres; exact wbX8_thingsBefore_4 hX ho0 hq ih hres
def fX8_thingsBefore (o0 : Nat) (S : St) (x1 : Int32) : Option (Int32 × St) :=
  fX8_thingsBefore_4 o0 100 S x1 (0 : Int32) (0 : Int32)
theorem wfX8_thingsBefore {X : CX} (hX : Ok RX8 cX8_thingsBefore (some .int) 0 55 4 X) {o0 : Nat} (ho0 : isT o0) {rr : Int32 × St} (hq : rs X = (some (.int rr.1), rr.2)) {S : St} {x1 : Int32} (hres : fX8_thingsBefore o0 S x1 = some rr) : Wat 0 55 2 4 X 0 [(0, .ref (ad X o0)), (1, .int x1)] [] S := by
  unfold fX8_thingsBefore at hres
  refine q_iconst 1 hX dX8_thingsBefore_0 rfl kI_0 ?_
  refine q_istore_n 2 (lv' := [(2, .int (0 : Int32)), (0, .ref (ad X o0)), (1, .int x1)]) hX dX8_thingsBefore_1 rfl rfl (by decide) rfl ?_
  refine q_iconst 3 hX dX8_thingsBefore_2 rfl kI_0 ?_
  refine q_istore_n 4 (lv' := [(3, .int (0 : Int32)), (2, .int (0 : Int32)), (0, .ref (ad X o0)), (1, .int x1)]) hX dX8_thingsBefore_3 rfl rfl (by decide) rfl ?_
  exact q_sub [2, 3, 1, 0] rfl (wfX8_thingsBefore_4 hX ho0 hq _ _ _ _ _ hres)
theorem cX8_thingsBefore9 {l : Launch} {w : WD} (hj : Dj w 0 55) {o0 : Nat} (ho0 : isT o0) {rr : Int32 × St} {S : St} {x1 : Int32} (hres : fX8_thingsBefore o0 S x1 = some rr) : Ct l yX8_thingsBefore cX8_thingsBefore 4 (some .int) 2 w 0 55 [.ref (w.1 o0), .int x1] S (some (.int rr.1), rr.2) := by
  refine Ct.of (lv := [(0, .ref (w.1 o0)), (1, .int x1)]) hj (by decide +kernel) (Nat.le_of_ble_eq_true rfl) rfl ?_
  rintro X rfl rfl hq hX
  exact wfX8_thingsBefore hX ho0 hq hres
def fX8_isThere_31 (o0 : Nat) (S : St) (x1 : Int32) (x3 : Int32) (s0 : Int32) : Option (Int32 × St) :=
  if inb x1 16 = true then if inb x1 16 = true then if (S.1 (o0 + 4) (x1.toNatClampNeg)) < (S.1 (o0 + 3) (x1.toNatClampNeg)) then (if x3 = 0 then (if s0 = 0 then (some ((0 : Int32), S)) else (some ((1 : Int32), S))) else (some ((1 : Int32), S))) else (if x3 = 0 then (some ((0 : Int32), S)) else (if s0 = 0 then (some ((0 : Int32), S)) else (some ((1 : Int32), S)))) else none else none
theorem wfX8_isThere_31 {X : CX} (hX : Ok RX8 cX8_isThere (some .boolean) 0 55 5 X) {o0 : Nat} (ho0 : isT o0) {rr : Int32 × St} (hq : rs X = (some (.int rr.1), rr.2)) {S : St} {x1 : Int32} {x3 : Int32} {s0 : Int32} (hres : fX8_isThere_31 o0 S x1 x3 s0 = some rr) : Wat 0 55 0 5 X 31 [(0, .ref (ad X o0)), (1, .int x1), (3, .int x3)] [.int s0] S := by
  unfold fX8_isThere_31 at hres
  refine q_istore 33 (lv' := [(4, .int s0), (0, .ref (ad X o0)), (1, .int x1), (3, .int x3)]) hX dX8_isThere_31 rfl (by decide) rfl ?_
  refine q_aload_n 34 hX 1 dX8_isThere_33 rfl rfl rfl ?_
  refine q_getR 37 hX ci8 lf_RX8_18 (fR_T_2 ho0) dX8_isThere_34 rfl ?_
  refine q_iload_n 38 hX 2 dX8_isThere_37 rfl rfl rfl ?_
  obtain ⟨hb1, hres⟩ := gd hres
  refine q_iald 39 hX rfl (aF_T_3 ho0) hb1 dX8_isThere_38 rfl ?_
  refine q_aload_n 40 hX 1 dX8_isThere_39 rfl rfl rfl ?_
  refine q_getR 43 hX ci8 lf_RX8_21 (fR_T_3 ho0) dX8_isThere_40 rfl ?_
  refine q_iload_n 44 hX 2 dX8_isThere_43 rfl rfl rfl ?_
  obtain ⟨hb2, hres⟩ := gd hres
  refine q_iald 45 hX rfl (aF_T_4 ho0) hb2 dX8_isThere_44 rfl ?_
  refine q_icmp_gt 48 hX 65 dX8_isThere_45 rfl (by decide) (fun hc => ?_) (fun hc => ?_)
  · have hres := it_t hc hres
    refine q_iload_n 66 hX 3 dX8_isThere_65 rfl rfl rfl ?_
    refine q_if_ne 69 hX 74 dX8_isThere_66 rfl (by decide) (fun hc => ?_) (fun hc => ?_)
    · have hres := it_f hc hres
      refine q_iconst 75 hX dX8_isThere_74 rfl kI_1 ?_
      refine q_goto 79 hX dX8_isThere_75 (by decide) ?_
      exact q_zret hX (by decide) (eqi hq hres) dX8_isThere_79
    · have hres := it_t hc hres
      refine q_iload 71 hX 0 dX8_isThere_69 rfl rfl ?_
      refine q_if_eq 74 hX 78 dX8_isThere_71 rfl (by decide) (fun hc => ?_) (fun hc => ?_)
      · have hres := it_t hc hres
        refine q_iconst 79 hX dX8_isThere_78 rfl kI_0 ?_
        exact q_zret hX (by decide) (eqi hq hres) dX8_isThere_79
      · have hres := it_f hc hres
        refine q_iconst 75 hX dX8_isThere_74 rfl kI_1 ?_
        refine q_goto 79 hX dX8_isThere_75 (by decide) ?_
        exact q_zret hX (by decide) (eqi hq hres) dX8_isThere_79
  · have hres := it_f hc hres
    refine q_iload_n 49 hX 3 dX8_isThere_48 rfl rfl rfl ?_
    refine q_if_eq 52 hX 61 dX8_isThere_49 rfl (by decide) (fun hc => ?_) (fun hc => ?_)
    · have hres := it_t hc hres
      refine q_iconst 62 hX dX8_isThere_61 rfl kI_0 ?_
      refine q_goto 79 hX dX8_isThere_62 (by decide) ?_
      exact q_zret hX (by decide) (eqi hq hres) dX8_isThere_79
    · have hres := it_f hc hres
      refine q_iload 54 hX 0 dX8_isThere_52 rfl rfl ?_
      refine q_if_eq 57 hX 61 dX8_isThere_54 rfl (by decide) (fun hc => ?_) (fun hc => ?_)
      · have hres := it_t hc hres
        refine q_iconst 62 hX dX8_isThere_61 rfl kI_0 ?_
        refine q_goto 79 hX dX8_isThere_62 (by decide) ?_
        exact q_zret hX (by decide) (eqi hq hres) dX8_isThere_79
      · have hres := it_f hc hres
        refine q_iconst 58 hX dX8_isThere_57 rfl kI_1 ?_
        refine q_goto 79 hX dX8_isThere_58 (by decide) ?_
        exact q_zret hX (by decide) (eqi hq hres) dX8_isThere_79
def fX8_isThere_15 (o0 : Nat) (S : St) (x1 : Int32) (x2 : Int32) (s0 : Int32) : Option (Int32 × St) :=
  if inb x1 16 = true then if (S.1 (o0 + 4) (x1.toNatClampNeg)) < x2 then (fX8_isThere_31 o0 S x1 s0 (0 : Int32)) else (fX8_isThere_31 o0 S x1 s0 (1 : Int32)) else none
theorem wfX8_isThere_15 {X : CX} (hX : Ok RX8 cX8_isThere (some .boolean) 0 55 5 X) {o0 : Nat} (ho0 : isT o0) {rr : Int32 × St} (hq : rs X = (some (.int rr.1), rr.2)) {S : St} {x1 : Int32} {x2 : Int32} {s0 : Int32} (hres : fX8_isThere_15 o0 S x1 x2 s0 = some rr) : Wat 0 55 0 5 X 15 [(0, .ref (ad X o0)), (1, .int x1), (2, .int x2)] [.int s0] S := by
  unfold fX8_isThere_15 at hres
  refine q_istore_n 16 (lv' := [(3, .int s0), (0, .ref (ad X o0)), (1, .int x1), (2, .int x2)]) hX dX8_isThere_15 rfl rfl (by decide) rfl ?_
  refine q_iload_n 17 hX 3 dX8_isThere_16 rfl rfl rfl ?_
  refine q_aload_n 18 hX 1 dX8_isThere_17 rfl rfl rfl ?_
  refine q_getR 21 hX ci8 lf_RX8_21 (fR_T_3 ho0) dX8_isThere_18 rfl ?_
  refine q_iload_n 22 hX 2 dX8_isThere_21 rfl rfl rfl ?_
  obtain ⟨hb1, hres⟩ := gd hres
  refine q_iald 23 hX rfl (aF_T_4 ho0) hb1 dX8_isThere_22 rfl ?_
  refine q_icmp_gt 26 hX 30 dX8_isThere_23 rfl (by decide) (fun hc => ?_) (fun hc => ?_)
  · have hres := it_t hc hres
    refine q_iconst 31 hX dX8_isThere_30 rfl kI_0 ?_
    exact q_sub [1, 2, 0] rfl (wfX8_isThere_31 hX ho0 hq hres)
  · have hres := it_f hc hres
    refine q_iconst 27 hX dX8_isThere_26 rfl kI_1 ?_
    refine q_goto 31 hX dX8_isThere_27 (by decide) ?_
    exact q_sub [1, 2, 0] rfl (wfX8_isThere_31 hX ho0 hq hres)
def fX8_isThere (o0 : Nat) (S : St) (x1 : Int32) (x2 : Int32) : Option (Int32 × St) :=
  if inb x1 16 = true then if x2 < (S.1 (o0 + 3) (x1.toNatClampNeg)) then (fX8_isThere_15 o0 S x1 x2 (0 : Int32)) else (fX8_isThere_15 o0 S x1 x2 (1 : Int32)) else none
theorem wfX8_isThere {X : CX} (hX : Ok RX8 cX8_isThere (some .boolean) 0 55 5 X) {o0 : Nat} (ho0 : isT o0) {rr : Int32 × St} (hq : rs X = (some (.int rr.1), rr.2)) {S : St} {x1 : Int32} {x2 : Int32} (hres : fX8_isThere o0 S x1 x2 = some rr) : Wat 0 55 0 5 X 0 [(0, .ref (ad X o0)), (1, .int x1), (2, .int x2)] [] S := by
  unfold fX8_isThere at hres
  refine q_aload_n 1 hX 0 dX8_isThere_0 rfl rfl rfl ?_
  refine q_getR 4 hX ci8 lf_RX8_18 (fR_T_2 ho0) dX8_isThere_1 rfl ?_
  refine q_iload_n 5 hX 1 dX8_isThere_4 rfl rfl rfl ?_
  obtain ⟨hb1, hres⟩ := gd hres
  refine q_iald 6 hX rfl (aF_T_3 ho0) hb1 dX8_isThere_5 rfl ?_
  refine q_iload_n 7 hX 2 dX8_isThere_6 rfl rfl rfl ?_
  refine q_icmp_gt 10 hX 14 dX8_isThere_7 rfl (by decide) (fun hc => ?_) (fun hc => ?_)
  · have hres := it_t hc hres
    refine q_iconst 15 hX dX8_isThere_14 rfl kI_0 ?_
    exact q_sub [0, 1, 2] rfl (wfX8_isThere_15 hX ho0 hq hres)
  · have hres := it_f hc hres
    refine q_iconst 11 hX dX8_isThere_10 rfl kI_1 ?_
    refine q_goto 15 hX dX8_isThere_11 (by decide) ?_
    exact q_sub [0, 1, 2] rfl (wfX8_isThere_15 hX ho0 hq hres)
theorem cX8_isThere9 {l : Launch} {w : WD} (hj : Dj w 0 55) {o0 : Nat} (ho0 : isT o0) {rr : Int32 × St} {S : St} {x1 : Int32} {x2 : Int32} (hres : fX8_isThere o0 S x1 x2 = some rr) : Ct l yX8_isThere cX8_isThere 5 (some .boolean) 0 w 0 55 [.ref (w.1 o0), .int x1, .int x2] S (some (.int rr.1), rr.2) := by
  refine Ct.of (lv := [(0, .ref (w.1 o0)), (1, .int x1), (2, .int x2)]) hj (by decide +kernel) (Nat.le_of_ble_eq_true rfl) rfl ?_
  rintro X rfl rfl hq hX
  exact wfX8_isThere hX ho0 hq hres
def bX8_thingsThere_4 (o0 : Nat) (rc4 : St → Int32 → Int32 → Int32 → Option (Int32 × St)) (S : St) (x1 : Int32) (x2 : Int32) (x3 : Int32) : Option (Int32 × St) :=
  if (16 : Int32) ≤ x3 then (some (x2, S)) else (bi (fX8_hasThing o0 S x3) fun r2 S1 => if r2 = 0 then (bV (x3 + (1 : Int32)) fun v3 => rc4 S1 x1 x2 v3) else (bi (fX8_isThere o0 S1 x3 x1) fun r5 S2 => if r5 = 0 then (bV (x3 + (1 : Int32)) fun v6 => rc4 S2 x1 x2 v6) else (bV ((x2 ||| ((1 : Int32) <<< (x3 &&& 31)))) fun v7 => bV (x3 + (1 : Int32)) fun v8 => rc4 S2 x1 v7 v8)))
theorem wbX8_thingsThere_4 {X : CX} (hX : Ok RX8 cX8_thingsThere (some .int) 0 55 4 X) {o0 : Nat} (ho0 : isT o0) {rr : Int32 × St} (hq : rs X = (some (.int rr.1), rr.2)) {rc4 : St → Int32 → Int32 → Int32 → Option (Int32 × St)} (hrc4 : ∀ (S : St) (x1 : Int32) (x2 : Int32) (x3 : Int32), rc4 S x1 x2 x3 = some rr → Wat 0 55 1 4 X 4 [(0, .ref (ad X o0)), (1, .int x1), (2, .int x2), (3, .int x3)] [] S) {S : St} {x1 : Int32} {x2 : Int32} {x3 : Int32} (hres : bX8_thingsThere_4 o0 rc4 S x1 x2 x3 = some rr) : Wat 0 55 1 4 X 4 [(0, .ref (ad X o0)), (1, .int x1), (2, .int x2), (3, .int x3)] [] S := by
  unfold bX8_thingsThere_4 at hres
  refine q_iload_n 5 hX 3 dX8_thingsThere_4 rfl rfl rfl ?_
  refine q_bipush 7 hX dX8_thingsThere_5 rfl kB_16 ?_
  refine q_icmp_ge 10 hX 39 dX8_thingsThere_7 rfl (by decide) (fun hc => ?_) (fun hc => ?_)
  · have hres := it_t hc hres
    refine q_iload_n 40 hX 2 dX8_thingsThere_39 rfl rfl rfl ?_
    exact q_iret hX (eqi hq hres) dX8_thingsThere_40
  · have hres := it_f hc hres
    refine q_aload_n 11 hX 0 dX8_thingsThere_10 rfl rfl rfl ?_
    refine q_iload_n 12 hX 3 dX8_thingsThere_11 rfl rfl rfl ?_
    obtain ⟨r2, S1, hk1, hres⟩ := ob hres
    refine q_callVi 15 (st := []) (As := [.int x3]) hX (cX8_hasThing9 hX.dj ho0 hk1) cv_RX8_51 ci8 (oB_T ho0) rfl (by decide) rfl (Nat.le_of_ble_eq_true rfl) dX8_thingsThere_12 rfl ?_
    refine q_if_eq 18 hX 33 dX8_thingsThere_15 rfl (by decide) (fun hc => ?_) (fun hc => ?_)
    · have hres := it_t hc hres
      refine q_iincB 36 3 (lv0 := [(0, .ref (ad X o0)), (1, .int x1), (2, .int x2)]) hX dX8_thingsThere_33 rfl rfl kI_1 (by decide) rfl hres (fun v3 hres => ?_)
      refine q_goto 4 hX dX8_thingsThere_36 (by decide) ?_
      exact q_sub [1, 2, 3, 0] rfl (hrc4 _ _ _ _ hres)
    · have hres := it_f hc hres
      refine q_aload_n 19 hX 0 dX8_thingsThere_18 rfl rfl rfl ?_
      refine q_iload_n 20 hX 3 dX8_thingsThere_19 rfl rfl rfl ?_
      refine q_iload_n 21 hX 1 dX8_thingsThere_20 rfl rfl rfl ?_
      obtain ⟨r5, S2, hk4, hres⟩ := ob hres
      refine q_callVi 24 (st := []) (As := [.int x3, .int x1]) hX (cX8_isThere9 hX.dj ho0 hk4) cv_RX8_58 ci8 (oB_T ho0) rfl (by decide) rfl (Nat.le_of_ble_eq_true rfl) dX8_thingsThere_21 rfl ?_
      refine q_if_eq 27 hX 33 dX8_thingsThere_24 rfl (by decide) (fun hc => ?_) (fun hc => ?_)
      · have hres := it_t hc hres
        refine q_iincB 36 3 (lv0 := [(0, .ref (ad X o0)), (1, .int x1), (2, .int x2)]) hX dX8_thingsThere_33 rfl rfl kI_1 (by decide) rfl hres (fun v6 hres => ?_)
        refine q_goto 4 hX dX8_thingsThere_36 (by decide) ?_
        exact q_sub [1, 2, 3, 0] rfl (hrc4 _ _ _ _ hres)
      · have hres := it_f hc hres
        refine q_iload_n 28 hX 2 dX8_thingsThere_27 rfl rfl rfl ?_
        refine q_iconst 29 hX dX8_thingsThere_28 rfl kI_1 ?_
        refine q_iload_n 30 hX 3 dX8_thingsThere_29 rfl rfl rfl ?_
        refine q_ishl 31 hX dX8_thingsThere_30 rfl ?_
        refine q_ior 32 hX dX8_thingsThere_31 rfl ?_
        refine q_istoreB_n 33 (lv0 := [(0, .ref (ad X o0)), (1, .int x1), (3, .int x3)]) hX dX8_thingsThere_32 rfl rfl (by decide) rfl hres (fun v7 hres => ?_)
        refine q_iincB 36 3 (lv0 := [(2, .int v7), (0, .ref (ad X o0)), (1, .int x1)]) hX dX8_thingsThere_33 rfl rfl kI_1 (by decide) rfl hres (fun v8 hres => ?_)
        refine q_goto 4 hX dX8_thingsThere_36 (by decide) ?_
        exact q_sub [2, 3, 1, 0] rfl (hrc4 _ _ _ _ hres)
def fX8_thingsThere_4 (o0 : Nat) : Nat → St → Int32 → Int32 → Int32 → Option (Int32 × St)
  | 0 => fun _ _ _ _ => none
  | k + 1 => fun S x1 x2 x3 => bX8_thingsThere_4 o0 (fX8_thingsThere_4 o0 k) S x1 x2 x3
theorem wfX8_thingsThere_4 {X : CX} (hX : Ok RX8 cX8_thingsThere (some .int) 0 55 4 X) {o0 : Nat} (ho0 : isT o0) {rr : Int32 × St} (hq : rs X = (some (.int rr.1), rr.2)) (k : Nat) : ∀ (S : St) (x1 : Int32) (x2 : Int32) (x3 : Int32), fX8_thingsThere_4 o0 k S x1 x2 x3 = some rr → Wat 0 55 1 4 X 4 [(0, .ref (ad X o0)), (1, .int x1), (2, .int x2), (3, .int x3)] [] S := by
  induction k with
  | zero => intro S x1 x2 x3 hres; exact absurd hres (by simp [fX8_thingsThere_4])
  | succ k ih => intro S x1 x2 x3 hres; exact wbX8_thingsThere_4 hX ho0 hq ih hres
def fX8_thingsThere (o0 : Nat) (S : St) (x1 : Int32) : Option (Int32 × St) :=
  fX8_thingsThere_4 o0 100 S x1 (0 : Int32) (0 : Int32)
theorem wfX8_thingsThere {X : CX} (hX : Ok RX8 cX8_thingsThere (some .int) 0 55 4 X) {o0 : Nat} (ho0 : isT o0) {rr : Int32 × St} (hq : rs X = (some (.int rr.1), rr.2)) {S : St} {x1 : Int32} (hres : fX8_thingsThere o0 S x1 = some rr) : Wat 0 55 1 4 X 0 [(0, .ref (ad X o0)), (1, .int x1)] [] S := by
  unfold fX8_thingsThere at hres
  refine q_iconst 1 hX dX8_thingsThere_0 rfl kI_0 ?_
  refine q_istore_n 2 (lv' := [(2, .int (0 : Int32)), (0, .ref (ad X o0)), (1, .int x1)]) hX dX8_thingsThere_1 rfl rfl (by decide) rfl ?_
  refine q_iconst 3 hX dX8_thingsThere_2 rfl kI_0 ?_
  refine q_istore_n 4 (lv' := [(3, .int (0 : Int32)), (2, .int (0 : Int32)), (0, .ref (ad X o0)), (1, .int x1)]) hX dX8_thingsThere_3 rfl rfl (by decide) rfl ?_
  exact q_sub [2, 3, 1, 0] rfl (wfX8_thingsThere_4 hX ho0 hq _ _ _ _ _ hres)
theorem cX8_thingsThere9 {l : Launch} {w : WD} (hj : Dj w 0 55) {o0 : Nat} (ho0 : isT o0) {rr : Int32 × St} {S : St} {x1 : Int32} (hres : fX8_thingsThere o0 S x1 = some rr) : Ct l yX8_thingsThere cX8_thingsThere 4 (some .int) 1 w 0 55 [.ref (w.1 o0), .int x1] S (some (.int rr.1), rr.2) := by
  refine Ct.of (lv := [(0, .ref (w.1 o0)), (1, .int x1)]) hj (by decide +kernel) (Nat.le_of_ble_eq_true rfl) rfl ?_
  rintro X rfl rfl hq hX
  exact wfX8_thingsThere hX ho0 hq hres
def bX8_lookAround_53 (o0 : Nat) (rc39 : St → Int32 → Option (St)) (rc53 : St → Int32 → Int32 → Int32 → Option (St)) (S : St) (x1 : Int32) (x2 : Int32) (x3 : Int32) : Option (St) :=
  if (16 : Int32) ≤ x3 then (bV (x1 + (1 : Int32)) fun v1 => rc39 S v1) else (if inb x3 16 = true then if inb ((x3 * (12 : Int32)) + x1) 192 = true then bS (pI S (o0 + 5) (((x3 * (12 : Int32)) + x1).toNatClampNeg) ((S.1 (o0 + 6) (x3.toNatClampNeg)) &&& x2)) fun S1 => bV (x3 + (1 : Int32)) fun v4 => rc53 S1 x1 x2 v4 else none else none)
theorem wbX8_lookAround_53 {X : CX} (hX : Ok RX8 cX8_lookAround none 0 55 4 X) {o0 : Nat} (ho0 : isT o0) {rr : St} (hq : rs X = (none, rr)) {rc39 : St → Int32 → Option (St)} (hrc39 : ∀ (S : St) (x1 : Int32), rc39 S x1 = some rr → Wat 0 55 3 4 X 39 [(0, .ref (ad X o0)), (1, .int x1)] [] S) {rc53 : St → Int32 → Int32 → Int32 → Option (St)} (hrc53 : ∀ (S : St) (x1 : Int32) (x2 : Int32) (x3 : Int32), rc53 S x1 x2 x3 = some rr → Wat 0 55 3 4 X 53 [(0, .ref (ad X o0)), (1, .int x1), (2, .int x2), (3, .int x3)] [] S) {S : St} {x1 : Int32} {x2 : Int32} {x3 : Int32} (hres : bX8_lookAround_53 o0 rc39 rc53 S x1 x2 x3 = some rr) : Wat 0 55 3 4 X 53 [(0, .ref (ad X o0)), (1, .int x1), (2, .int x2), (3, .int x3)] [] S := by
  unfold bX8_lookAround_53 at hres
  refine q_iload_n 54 hX 3 dX8_lookAround_53 rfl rfl rfl ?_
  refine q_bipush 56 hX dX8_lookAround_54 rfl kB_16 ?_
  refine q_icmp_ge 59 hX 84 dX8_lookAround_56 rfl (by decide) (fun hc => ?_) (fun hc => ?_)
  · have hres := it_t hc hres
    refine q_iincB 87 1 (lv0 := [(0, .ref (ad X o0)), (2, .int x2), (3, .int x3)]) hX dX8_lookAround_84 rfl rfl kI_1 (by decide) rfl hres (fun v1 hres => ?_)
    refine q_goto 39 hX dX8_lookAround_87 (by decide) ?_
    exact q_sub [1, 0] rfl (hrc39 _ _ hres)
  · have hres := it_f hc hres
    refine q_aload_n 60 hX 0 dX8_lookAround_59 rfl rfl rfl ?_
    refine q_getR 63 hX ci8 lf_RX8_24 (fR_T_4 ho0) dX8_lookAround_60 rfl ?_
    refine q_iload_n 64 hX 3 dX8_lookAround_63 rfl rfl rfl ?_
    refine q_bipush 66 hX dX8_lookAround_64 rfl kB_12 ?_
    refine q_imul 67 hX dX8_lookAround_66 rfl ?_
    refine q_iload_n 68 hX 1 dX8_lookAround_67 rfl rfl rfl ?_
    refine q_iadd 69 hX dX8_lookAround_68 rfl ?_
    refine q_aload_n 70 hX 0 dX8_lookAround_69 rfl rfl rfl ?_
    refine q_getR 73 hX ci8 lf_RX8_27 (fR_T_5 ho0) dX8_lookAround_70 rfl ?_
    refine q_iload_n 74 hX 3 dX8_lookAround_73 rfl rfl rfl ?_
    obtain ⟨hb2, hres⟩ := gd hres
    refine q_iald 75 hX rfl (aF_T_6 ho0) hb2 dX8_lookAround_74 rfl ?_
    refine q_iload_n 76 hX 2 dX8_lookAround_75 rfl rfl rfl ?_
    refine q_iand 77 hX dX8_lookAround_76 rfl ?_
    obtain ⟨hb3, hres⟩ := gd hres
    refine q_iast 78 hX rfl (aF_T_5 ho0) hb3 dX8_lookAround_77 rfl ?_
    refine q_bS hres (fun S1 _ hres => ?_)
    refine q_iincB 81 3 (lv0 := [(0, .ref (ad X o0)), (1, .int x1), (2, .int x2)]) hX dX8_lookAround_78 rfl rfl kI_1 (by decide) rfl hres (fun v4 hres => ?_)
    refine q_goto 53 hX dX8_lookAround_81 (by decide) ?_
    exact q_sub [1, 2, 3, 0] rfl (hrc53 _ _ _ _ hres)
def fX8_lookAround_53 (o0 : Nat) (rc39 : St → Int32 → Option (St)) : Nat → St → Int32 → Int32 → Int32 → Option (St)
  | 0 => fun _ _ _ _ => none
  | k + 1 => fun S x1 x2 x3 => bX8_lookAround_53 o0 rc39 (fX8_lookAround_53 o0 rc39 k) S x1 x2 x3
theorem wfX8_lookAround_53 {X : CX} (hX : Ok RX8 cX8_lookAround none 0 55 4 X) {o0 : Nat} (ho0 : isT o0) {rr : St} (hq : rs X = (none, rr)) {rc39 : St → Int32 → Option (St)} (hrc39 : ∀ (S : St) (x1 : Int32), rc39 S x1 = some rr → Wat 0 55 3 4 X 39 [(0, .ref (ad X o0)), (1, .int x1)] [] S) (k : Nat) : ∀ (S : St) (x1 : Int32) (x2 : Int32) (x3 : Int32), fX8_lookAround_53 o0 rc39 k S x1 x2 x3 = some rr → Wat 0 55 3 4 X 53 [(0, .ref (ad X o0)), (1, .int x1), (2, .int x2), (3, .int x3)] [] S := by
  induction k with
  | zero => intro S x1 x2 x3 hres; exact absurd hres (by simp [fX8_lookAround_53])
  | succ k ih => intro S x1 x2 x3 hres; exact wbX8_lookAround_53 hX ho0 hq hrc39 ih hres
def bX8_lookAround_39 (o0 : Nat) (rc39 : St → Int32 → Option (St)) (S : St) (x1 : Int32) : Option (St) :=
  if (12 : Int32) ≤ x1 then (some S) else (bi (fX8_thingsThere o0 S x1) fun r2 S1 => fX8_lookAround_53 o0 rc39 100 S1 x1 r2 (0 : Int32))
theorem wbX8_lookAround_39 {X : CX} (hX : Ok RX8 cX8_lookAround none 0 55 4 X) {o0 : Nat} (ho0 : isT o0) {rr : St} (hq : rs X = (none, rr)) {rc39 : St → Int32 → Option (St)} (hrc39 : ∀ (S : St) (x1 : Int32), rc39 S x1 = some rr → Wat 0 55 3 4 X 39 [(0, .ref (ad X o0)), (1, .int x1)] [] S) {S : St} {x1 : Int32} (hres : bX8_lookAround_39 o0 rc39 S x1 = some rr) : Wat 0 55 3 4 X 39 [(0, .ref (ad X o0)), (1, .int x1)] [] S := by
  unfold bX8_lookAround_39 at hres
  refine q_iload_n 40 hX 1 dX8_lookAround_39 rfl rfl rfl ?_
  refine q_bipush 42 hX dX8_lookAround_40 rfl kB_12 ?_
  refine q_icmp_ge 45 hX 90 dX8_lookAround_42 rfl (by decide) (fun hc => ?_) (fun hc => ?_)
  · have hres := it_t hc hres
    exact q_vret hX (eqv hq hres) dX8_lookAround_90
  · have hres := it_f hc hres
    refine q_aload_n 46 hX 0 dX8_lookAround_45 rfl rfl rfl ?_
    refine q_iload_n 47 hX 1 dX8_lookAround_46 rfl rfl rfl ?_
    obtain ⟨r2, S1, hk1, hres⟩ := ob hres
    refine q_callVi 50 (st := []) (As := [.int x1]) hX (cX8_thingsThere9 hX.dj ho0 hk1) cv_RX8_48 ci8 (oB_T ho0) rfl (by decide) rfl (Nat.le_of_ble_eq_true rfl) dX8_lookAround_47 rfl ?_
    refine q_istore_n 51 (lv' := [(2, .int r2), (0, .ref (ad X o0)), (1, .int x1)]) hX dX8_lookAround_50 rfl rfl (by decide) rfl ?_
    refine q_iconst 52 hX dX8_lookAround_51 rfl kI_0 ?_
    refine q_istore_n 53 (lv' := [(3, .int (0 : Int32)), (2, .int r2), (0, .ref (ad X o0)), (1, .int x1)]) hX dX8_lookAround_52 rfl rfl (by decide) rfl ?_
    exact q_sub [2, 3, 1, 0] rfl (wfX8_lookAround_53 hX ho0 hq hrc39 _ _ _ _ _ hres)
def fX8_lookAround_39 (o0 : Nat) : Nat → St → Int32 → Option (St)
  | 0 => fun _ _ => none
  | k + 1 => fun S x1 => bX8_lookAround_39 o0 (fX8_lookAround_39 o0 k) S x1
theorem wfX8_lookAround_39 {X : CX} (hX : Ok RX8 cX8_lookAround none 0 55 4 X) {o0 : Nat} (ho0 : isT o0) {rr : St} (hq : rs X = (none, rr)) (k : Nat) : ∀ (S : St) (x1 : Int32), fX8_lookAround_39 o0 k S x1 = some rr → Wat 0 55 3 4 X 39 [(0, .ref (ad X o0)), (1, .int x1)] [] S := by
  induction k with
  | zero => intro S x1 hres; exact absurd hres (by simp [fX8_lookAround_39])
  | succ k ih => intro S x1 hres; exact wbX8_lookAround_39 hX ho0 hq ih hres
def bX8_lookAround_2 (o0 : Nat) (rc2 : St → Int32 → Option (St)) (S : St) (x1 : Int32) : Option (St) :=
  if (16 : Int32) ≤ x1 then (fX8_lookAround_39 o0 100 S (0 : Int32)) else (bi (fX8_hasHouse o0 S x1) fun r2 S1 => if r2 = 0 then (if inb x1 16 = true then bS (pI S1 (o0 + 6) (x1.toNatClampNeg) (0 : Int32)) fun S2 => bV (x1 + (1 : Int32)) fun v4 => rc2 S2 v4 else none) else (bi (fX8_thingsBefore o0 S1 x1) fun r6 S3 => if inb x1 16 = true then bS (pI S3 (o0 + 6) (x1.toNatClampNeg) r6) fun S4 => bV (x1 + (1 : Int32)) fun v8 => rc2 S4 v8 else none))
theorem wbX8_lookAround_2 {X : CX} (hX : Ok RX8 cX8_lookAround none 0 55 4 X) {o0 : Nat} (ho0 : isT o0) {rr : St} (hq : rs X = (none, rr)) {rc2 : St → Int32 → Option (St)} (hrc2 : ∀ (S : St) (x1 : Int32), rc2 S x1 = some rr → Wat 0 55 3 4 X 2 [(0, .ref (ad X o0)), (1, .int x1)] [] S) {S : St} {x1 : Int32} (hres : bX8_lookAround_2 o0 rc2 S x1 = some rr) : Wat 0 55 3 4 X 2 [(0, .ref (ad X o0)), (1, .int x1)] [] S := by
  unfold bX8_lookAround_2 at hres
  refine q_iload_n 3 hX 1 dX8_lookAround_2 rfl rfl rfl ?_
  refine q_bipush 5 hX dX8_lookAround_3 rfl kB_16 ?_
  refine q_icmp_ge 8 hX 37 dX8_lookAround_5 rfl (by decide) (fun hc => ?_) (fun hc => ?_)
  · have hres := it_t hc hres
    refine q_iconst 38 hX dX8_lookAround_37 rfl kI_0 ?_
    refine q_istore_n 39 (lv' := [(1, .int (0 : Int32)), (0, .ref (ad X o0))]) hX dX8_lookAround_38 rfl rfl (by decide) rfl ?_
    exact q_sub [1, 0] rfl (wfX8_lookAround_39 hX ho0 hq _ _ _ hres)
  · have hres := it_f hc hres
    refine q_aload_n 9 hX 0 dX8_lookAround_8 rfl rfl rfl ?_
    refine q_getR 12 hX ci8 lf_RX8_27 (fR_T_5 ho0) dX8_lookAround_9 rfl ?_
    refine q_iload_n 13 hX 1 dX8_lookAround_12 rfl rfl rfl ?_
    refine q_aload_n 14 hX 0 dX8_lookAround_13 rfl rfl rfl ?_
    refine q_iload_n 15 hX 1 dX8_lookAround_14 rfl rfl rfl ?_
    obtain ⟨r2, S1, hk1, hres⟩ := ob hres
    refine q_callVi 18 (st := [.int x1, .ref (ad X (o0 + 6))]) (As := [.int x1]) hX (cX8_hasHouse9 hX.dj ho0 hk1) cv_RX8_40 ci8 (oB_T ho0) rfl (by decide) rfl (Nat.le_of_ble_eq_true rfl) dX8_lookAround_15 rfl ?_
    refine q_if_eq 21 hX 29 dX8_lookAround_18 rfl (by decide) (fun hc => ?_) (fun hc => ?_)
    · have hres := it_t hc hres
      refine q_iconst 30 hX dX8_lookAround_29 rfl kI_0 ?_
      obtain ⟨hb3, hres⟩ := gd hres
      refine q_iast 31 hX rfl (aF_T_6 ho0) hb3 dX8_lookAround_30 rfl ?_
      refine q_bS hres (fun S2 _ hres => ?_)
      refine q_iincB 34 1 (lv0 := [(0, .ref (ad X o0))]) hX dX8_lookAround_31 rfl rfl kI_1 (by decide) rfl hres (fun v4 hres => ?_)
      refine q_goto 2 hX dX8_lookAround_34 (by decide) ?_
      exact q_sub [1, 0] rfl (hrc2 _ _ hres)
    · have hres := it_f hc hres
      refine q_aload_n 22 hX 0 dX8_lookAround_21 rfl rfl rfl ?_
      refine q_iload_n 23 hX 1 dX8_lookAround_22 rfl rfl rfl ?_
      obtain ⟨r6, S3, hk5, hres⟩ := ob hres
      refine q_callVi 26 (st := [.int x1, .ref (ad X (o0 + 6))]) (As := [.int x1]) hX (cX8_thingsBefore9 hX.dj ho0 hk5) cv_RX8_44 ci8 (oB_T ho0) rfl (by decide) rfl (Nat.le_of_ble_eq_true rfl) dX8_lookAround_23 rfl ?_
      refine q_goto 30 hX dX8_lookAround_26 (by decide) ?_
      obtain ⟨hb7, hres⟩ := gd hres
      refine q_iast 31 hX rfl (aF_T_6 ho0) hb7 dX8_lookAround_30 rfl ?_
      refine q_bS hres (fun S4 _ hres => ?_)
      refine q_iincB 34 1 (lv0 := [(0, .ref (ad X o0))]) hX dX8_lookAround_31 rfl rfl kI_1 (by decide) rfl hres (fun v8 hres => ?_)
      refine q_goto 2 hX dX8_lookAround_34 (by decide) ?_
      exact q_sub [1, 0] rfl (hrc2 _ _ hres)
def fX8_lookAround_2 (o0 : Nat) : Nat → St → Int32 → Option (St)
  | 0 => fun _ _ => none
  | k + 1 => fun S x1 => bX8_lookAround_2 o0 (fX8_lookAround_2 o0 k) S x1
theorem wfX8_lookAround_2 {X : CX} (hX : Ok RX8 cX8_lookAround none 0 55 4 X) {o0 : Nat} (ho0 : isT o0) {rr : St} (hq : rs X = (none, rr)) (k : Nat) : ∀ (S : St) (x1 : Int32), fX8_lookAround_2 o0 k S x1 = some rr → Wat 0 55 3 4 X 2 [(0, .ref (ad X o0)), (1, .int x1)] [] S := by
  induction k with
  | zero => intro S x1 hres; exact absurd hres (by simp [fX8_lookAround_2])
  | succ k ih => intro S x1 hres; exact wbX8_lookAround_2 hX ho0 hq ih hres
def fX8_lookAround (o0 : Nat) (S : St) : Option (St) :=
  fX8_lookAround_2 o0 100 S (0 : Int32)
theorem wfX8_lookAround {X : CX} (hX : Ok RX8 cX8_lookAround none 0 55 4 X) {o0 : Nat} (ho0 : isT o0) {rr : St} (hq : rs X = (none, rr)) {S : St} (hres : fX8_lookAround o0 S = some rr) : Wat 0 55 3 4 X 0 [(0, .ref (ad X o0))] [] S := by
  unfold fX8_lookAround at hres
  refine q_iconst 1 hX dX8_lookAround_0 rfl kI_0 ?_
  refine q_istore_n 2 (lv' := [(1, .int (0 : Int32)), (0, .ref (ad X o0))]) hX dX8_lookAround_1 rfl rfl (by decide) rfl ?_
  exact q_sub [1, 0] rfl (wfX8_lookAround_2 hX ho0 hq _ _ _ hres)
theorem cX8_lookAround9 {l : Launch} {w : WD} (hj : Dj w 0 55) {o0 : Nat} (ho0 : isT o0) {rr : St} {S : St} (hres : fX8_lookAround o0 S = some rr) : Ct l yX8_lookAround cX8_lookAround 4 none 3 w 0 55 [.ref (w.1 o0)] S (none, rr) := by
  refine Ct.of (lv := [(0, .ref (w.1 o0))]) hj (by decide +kernel) (Nat.le_of_ble_eq_true rfl) rfl ?_
  rintro X rfl rfl hq hX
  exact wfX8_lookAround hX ho0 hq hres
def fX8_view_29 (o0 : Nat) (S : St) : Option (Int32 × St) :=
  some ((0 : Int32), S)
theorem wfX8_view_29 {X : CX} (hX : Ok RX8 cX8_view (some .int) 0 55 3 X) {o0 : Nat} (ho0 : isT o0) {rr : Int32 × St} (hq : rs X = (some (.int rr.1), rr.2)) {S : St} (hres : fX8_view_29 o0 S = some rr) : Wat 0 55 1 3 X 29 [] [] S := by
  unfold fX8_view_29 at hres
  refine q_iconst 30 hX dX8_view_29 rfl kI_0 ?_
  exact q_iret hX (eqi hq hres) dX8_view_30
def fX8_view (o0 : Nat) (S : St) (x1 : Int32) (x2 : Int32) : Option (Int32 × St) :=
  bi (fX8_hasHouse o0 S x1) fun r2 S1 => if r2 = 0 then (fX8_view_29 o0 S1) else (bi (fX11_isTurn S1 x2) fun r4 S2 => if r4 = 0 then (fX8_view_29 o0 S2) else (if inb ((x1 * (12 : Int32)) + x2) 192 = true then some ((S2.1 (o0 + 5) (((x1 * (12 : Int32)) + x2).toNatClampNeg)), S2) else none))
theorem wfX8_view {X : CX} (hX : Ok RX8 cX8_view (some .int) 0 55 3 X) {o0 : Nat} (ho0 : isT o0) {rr : Int32 × St} (hq : rs X = (some (.int rr.1), rr.2)) {S : St} {x1 : Int32} {x2 : Int32} (hres : fX8_view o0 S x1 x2 = some rr) : Wat 0 55 1 3 X 0 [(0, .ref (ad X o0)), (1, .int x1), (2, .int x2)] [] S := by
  unfold fX8_view at hres
  refine q_aload_n 1 hX 0 dX8_view_0 rfl rfl rfl ?_
  refine q_iload_n 2 hX 1 dX8_view_1 rfl rfl rfl ?_
  obtain ⟨r2, S1, hk1, hres⟩ := ob hres
  refine q_callVi 5 (st := []) (As := [.int x1]) hX (cX8_hasHouse9 hX.dj ho0 hk1) cv_RX8_40 ci8 (oB_T ho0) rfl (by decide) rfl (Nat.le_of_ble_eq_true rfl) dX8_view_2 rfl ?_
  refine q_if_eq 8 hX 29 dX8_view_5 rfl (by decide) (fun hc => ?_) (fun hc => ?_)
  · have hres := it_t hc hres
    exact q_sub [] rfl (wfX8_view_29 hX ho0 hq hres)
  · have hres := it_f hc hres
    refine q_iload_n 9 hX 2 dX8_view_8 rfl rfl rfl ?_
    obtain ⟨r4, S2, hk3, hres⟩ := ob hres
    refine q_callSi 12 (st := []) (As := [.int x2]) hX (cX11_isTurn9 hX.dj hk3) cs_RX8_66 rfl (by decide) rfl (Nat.le_of_ble_eq_true rfl) dX8_view_9 rfl ?_
    refine q_if_eq 15 hX 29 dX8_view_12 rfl (by decide) (fun hc => ?_) (fun hc => ?_)
    · have hres := it_t hc hres
      exact q_sub [] rfl (wfX8_view_29 hX ho0 hq hres)
    · have hres := it_f hc hres
      refine q_aload_n 16 hX 0 dX8_view_15 rfl rfl rfl ?_
      refine q_getR 19 hX ci8 lf_RX8_24 (fR_T_4 ho0) dX8_view_16 rfl ?_
      refine q_iload_n 20 hX 1 dX8_view_19 rfl rfl rfl ?_
      refine q_bipush 22 hX dX8_view_20 rfl kB_12 ?_
      refine q_imul 23 hX dX8_view_22 rfl ?_
      refine q_iload_n 24 hX 2 dX8_view_23 rfl rfl rfl ?_
      refine q_iadd 25 hX dX8_view_24 rfl ?_
      obtain ⟨hb5, hres⟩ := gd hres
      refine q_iald 26 hX rfl (aF_T_5 ho0) hb5 dX8_view_25 rfl ?_
      refine q_goto 30 hX dX8_view_26 (by decide) ?_
      exact q_iret hX (eqi hq hres) dX8_view_30
theorem cX8_view9 {l : Launch} {w : WD} (hj : Dj w 0 55) {o0 : Nat} (ho0 : isT o0) {rr : Int32 × St} {S : St} {x1 : Int32} {x2 : Int32} (hres : fX8_view o0 S x1 x2 = some rr) : Ct l yX8_view cX8_view 3 (some .int) 1 w 0 55 [.ref (w.1 o0), .int x1, .int x2] S (some (.int rr.1), rr.2) := by
  refine Ct.of (lv := [(0, .ref (w.1 o0)), (1, .int x1), (2, .int x2)]) hj (by decide +kernel) (Nat.le_of_ble_eq_true rfl) rfl ?_
  rintro X rfl rfl hq hX
  exact wfX8_view hX ho0 hq hres
def fX8_wholeView (o0 : Nat) (S : St) (x1 : Int32) : Option (Int32 × St) :=
  bi (fX8_hasHouse o0 S x1) fun r2 S1 => if r2 = 0 then (some ((0 : Int32), S1)) else (if inb x1 16 = true then some ((S1.1 (o0 + 6) (x1.toNatClampNeg)), S1) else none)
theorem wfX8_wholeView {X : CX} (hX : Ok RX8 cX8_wholeView (some .int) 0 55 2 X) {o0 : Nat} (ho0 : isT o0) {rr : Int32 × St} (hq : rs X = (some (.int rr.1), rr.2)) {S : St} {x1 : Int32} (hres : fX8_wholeView o0 S x1 = some rr) : Wat 0 55 1 2 X 0 [(0, .ref (ad X o0)), (1, .int x1)] [] S := by
  unfold fX8_wholeView at hres
  refine q_aload_n 1 hX 0 dX8_wholeView_0 rfl rfl rfl ?_
  refine q_iload_n 2 hX 1 dX8_wholeView_1 rfl rfl rfl ?_
  obtain ⟨r2, S1, hk1, hres⟩ := ob hres
  refine q_callVi 5 (st := []) (As := [.int x1]) hX (cX8_hasHouse9 hX.dj ho0 hk1) cv_RX8_40 ci8 (oB_T ho0) rfl (by decide) rfl (Nat.le_of_ble_eq_true rfl) dX8_wholeView_2 rfl ?_
  refine q_if_eq 8 hX 17 dX8_wholeView_5 rfl (by decide) (fun hc => ?_) (fun hc => ?_)
  · have hres := it_t hc hres
    refine q_iconst 18 hX dX8_wholeView_17 rfl kI_0 ?_
    exact q_iret hX (eqi hq hres) dX8_wholeView_18
  · have hres := it_f hc hres
    refine q_aload_n 9 hX 0 dX8_wholeView_8 rfl rfl rfl ?_
    refine q_getR 12 hX ci8 lf_RX8_27 (fR_T_5 ho0) dX8_wholeView_9 rfl ?_
    refine q_iload_n 13 hX 1 dX8_wholeView_12 rfl rfl rfl ?_
    obtain ⟨hb3, hres⟩ := gd hres
    refine q_iald 14 hX rfl (aF_T_6 ho0) hb3 dX8_wholeView_13 rfl ?_
    refine q_goto 18 hX dX8_wholeView_14 (by decide) ?_
    exact q_iret hX (eqi hq hres) dX8_wholeView_18
theorem cX8_wholeView9 {l : Launch} {w : WD} (hj : Dj w 0 55) {o0 : Nat} (ho0 : isT o0) {rr : Int32 × St} {S : St} {x1 : Int32} (hres : fX8_wholeView o0 S x1 = some rr) : Ct l yX8_wholeView cX8_wholeView 2 (some .int) 1 w 0 55 [.ref (w.1 o0), .int x1] S (some (.int rr.1), rr.2) := by
  refine Ct.of (lv := [(0, .ref (w.1 o0)), (1, .int x1)]) hj (by decide +kernel) (Nat.le_of_ble_eq_true rfl) rfl ?_
  rintro X rfl rfl hq hX
  exact wfX8_wholeView hX ho0 hq hres
def bX8_litTurns_4 (o0 : Nat) (rc4 : St → Int32 → Int32 → Int32 → Option (Int32 × St)) (S : St) (x1 : Int32) (x2 : Int32) (x3 : Int32) : Option (Int32 × St) :=
  if (12 : Int32) ≤ x3 then (some (x2, S)) else (bi (fX8_view o0 S x1 x3) fun r2 S1 => if r2 = 0 then (bV (x3 + (1 : Int32)) fun v3 => rc4 S1 x1 x2 v3) else (bV ((x2 ||| ((1 : Int32) <<< (x3 &&& 31)))) fun v4 => bV (x3 + (1 : Int32)) fun v5 => rc4 S1 x1 v4 v5))
theorem wbX8_litTurns_4 {X : CX} (hX : Ok RX8 cX8_litTurns (some .int) 0 55 4 X) {o0 : Nat} (ho0 : isT o0) {rr : Int32 × St} (hq : rs X = (some (.int rr.1), rr.2)) {rc4 : St → Int32 → Int32 → Int32 → Option (Int32 × St)} (hrc4 : ∀ (S : St) (x1 : Int32) (x2 : Int32) (x3 : Int32), rc4 S x1 x2 x3 = some rr → Wat 0 55 2 4 X 4 [(0, .ref (ad X o0)), (1, .int x1), (2, .int x2), (3, .int x3)] [] S) {S : St} {x1 : Int32} {x2 : Int32} {x3 : Int32} (hres : bX8_litTurns_4 o0 rc4 S x1 x2 x3 = some rr) : Wat 0 55 2 4 X 4 [(0, .ref (ad X o0)), (1, .int x1), (2, .int x2), (3, .int x3)] [] S := by
  unfold bX8_litTurns_4 at hres
  refine q_iload_n 5 hX 3 dX8_litTurns_4 rfl rfl rfl ?_
  refine q_bipush 7 hX dX8_litTurns_5 rfl kB_12 ?_
  refine q_icmp_ge 10 hX 31 dX8_litTurns_7 rfl (by decide) (fun hc => ?_) (fun hc => ?_)
  · have hres := it_t hc hres
    refine q_iload_n 32 hX 2 dX8_litTurns_31 rfl rfl rfl ?_
    exact q_iret hX (eqi hq hres) dX8_litTurns_32
  · have hres := it_f hc hres
    refine q_aload_n 11 hX 0 dX8_litTurns_10 rfl rfl rfl ?_
    refine q_iload_n 12 hX 1 dX8_litTurns_11 rfl rfl rfl ?_
    refine q_iload_n 13 hX 3 dX8_litTurns_12 rfl rfl rfl ?_
    obtain ⟨r2, S1, hk1, hres⟩ := ob hres
    refine q_callVi 16 (st := []) (As := [.int x1, .int x3]) hX (cX8_view9 hX.dj ho0 hk1) cv_RX8_69 ci8 (oB_T ho0) rfl (by decide) rfl (Nat.le_of_ble_eq_true rfl) dX8_litTurns_13 rfl ?_
    refine q_if_eq 19 hX 25 dX8_litTurns_16 rfl (by decide) (fun hc => ?_) (fun hc => ?_)
    · have hres := it_t hc hres
      refine q_iincB 28 3 (lv0 := [(0, .ref (ad X o0)), (1, .int x1), (2, .int x2)]) hX dX8_litTurns_25 rfl rfl kI_1 (by decide) rfl hres (fun v3 hres => ?_)
      refine q_goto 4 hX dX8_litTurns_28 (by decide) ?_
      exact q_sub [1, 2, 3, 0] rfl (hrc4 _ _ _ _ hres)
    · have hres := it_f hc hres
      refine q_iload_n 20 hX 2 dX8_litTurns_19 rfl rfl rfl ?_
      refine q_iconst 21 hX dX8_litTurns_20 rfl kI_1 ?_
      refine q_iload_n 22 hX 3 dX8_litTurns_21 rfl rfl rfl ?_
      refine q_ishl 23 hX dX8_litTurns_22 rfl ?_
      refine q_ior 24 hX dX8_litTurns_23 rfl ?_
      refine q_istoreB_n 25 (lv0 := [(0, .ref (ad X o0)), (1, .int x1), (3, .int x3)]) hX dX8_litTurns_24 rfl rfl (by decide) rfl hres (fun v4 hres => ?_)
      refine q_iincB 28 3 (lv0 := [(2, .int v4), (0, .ref (ad X o0)), (1, .int x1)]) hX dX8_litTurns_25 rfl rfl kI_1 (by decide) rfl hres (fun v5 hres => ?_)
      refine q_goto 4 hX dX8_litTurns_28 (by decide) ?_
      exact q_sub [2, 3, 1, 0] rfl (hrc4 _ _ _ _ hres)
def fX8_litTurns_4 (o0 : Nat) : Nat → St → Int32 → Int32 → Int32 → Option (Int32 × St)
  | 0 => fun _ _ _ _ => none
  | k + 1 => fun S x1 x2 x3 => bX8_litTurns_4 o0 (fX8_litTurns_4 o0 k) S x1 x2 x3
theorem wfX8_litTurns_4 {X : CX} (hX : Ok RX8 cX8_litTurns (some .int) 0 55 4 X) {o0 : Nat} (ho0 : isT o0) {rr : Int32 × St} (hq : rs X = (some (.int rr.1), rr.2)) (k : Nat) : ∀ (S : St) (x1 : Int32) (x2 : Int32) (x3 : Int32), fX8_litTurns_4 o0 k S x1 x2 x3 = some rr → Wat 0 55 2 4 X 4 [(0, .ref (ad X o0)), (1, .int x1), (2, .int x2), (3, .int x3)] [] S := by
  induction k with
  | zero => intro S x1 x2 x3 hres; exact absurd hres (by simp [fX8_litTurns_4])
  | succ k ih => intro S x1 x2 x3 hres; exact wbX8_litTurns_4 hX ho0 hq ih hres
def fX8_litTurns (o0 : Nat) (S : St) (x1 : Int32) : Option (Int32 × St) :=
  fX8_litTurns_4 o0 100 S x1 (0 : Int32) (0 : Int32)
theorem wfX8_litTurns {X : CX} (hX : Ok RX8 cX8_litTurns (some .int) 0 55 4 X) {o0 : Nat} (ho0 : isT o0) {rr : Int32 × St} (hq : rs X = (some (.int rr.1), rr.2)) {S : St} {x1 : Int32} (hres : fX8_litTurns o0 S x1 = some rr) : Wat 0 55 2 4 X 0 [(0, .ref (ad X o0)), (1, .int x1)] [] S := by
  unfold fX8_litTurns at hres
  refine q_iconst 1 hX dX8_litTurns_0 rfl kI_0 ?_
  refine q_istore_n 2 (lv' := [(2, .int (0 : Int32)), (0, .ref (ad X o0)), (1, .int x1)]) hX dX8_litTurns_1 rfl rfl (by decide) rfl ?_
  refine q_iconst 3 hX dX8_litTurns_2 rfl kI_0 ?_
  refine q_istore_n 4 (lv' := [(3, .int (0 : Int32)), (2, .int (0 : Int32)), (0, .ref (ad X o0)), (1, .int x1)]) hX dX8_litTurns_3 rfl rfl (by decide) rfl ?_
  exact q_sub [2, 3, 1, 0] rfl (wfX8_litTurns_4 hX ho0 hq _ _ _ _ _ hres)
theorem cX8_litTurns9 {l : Launch} {w : WD} (hj : Dj w 0 55) {o0 : Nat} (ho0 : isT o0) {rr : Int32 × St} {S : St} {x1 : Int32} (hres : fX8_litTurns o0 S x1 = some rr) : Ct l yX8_litTurns cX8_litTurns 4 (some .int) 2 w 0 55 [.ref (w.1 o0), .int x1] S (some (.int rr.1), rr.2) := by
  refine Ct.of (lv := [(0, .ref (w.1 o0)), (1, .int x1)]) hj (by decide +kernel) (Nat.le_of_ble_eq_true rfl) rfl ?_
  rintro X rfl rfl hq hX
  exact wfX8_litTurns hX ho0 hq hres
def bX8_watchers_4 (o0 : Nat) (rc4 : St → Int32 → Int32 → Int32 → Option (Int32 × St)) (S : St) (x1 : Int32) (x2 : Int32) (x3 : Int32) : Option (Int32 × St) :=
  if (16 : Int32) ≤ x3 then (some (x2, S)) else (bi (fX8_wholeView o0 S x3) fun r2 S1 => if ((r2 >>> (x1 &&& 31)) &&& (1 : Int32)) = (1 : Int32) then (bV ((x2 ||| ((1 : Int32) <<< (x3 &&& 31)))) fun v4 => bV (x3 + (1 : Int32)) fun v5 => rc4 S1 x1 v4 v5) else (bV (x3 + (1 : Int32)) fun v3 => rc4 S1 x1 x2 v3))
theorem wbX8_watchers_4 {X : CX} (hX : Ok RX8 cX8_watchers (some .int) 0 55 4 X) {o0 : Nat} (ho0 : isT o0) {rr : Int32 × St} (hq : rs X = (some (.int rr.1), rr.2)) {rc4 : St → Int32 → Int32 → Int32 → Option (Int32 × St)} (hrc4 : ∀ (S : St) (x1 : Int32) (x2 : Int32) (x3 : Int32), rc4 S x1 x2 x3 = some rr → Wat 0 55 2 4 X 4 [(0, .ref (ad X o0)), (1, .int x1), (2, .int x2), (3, .int x3)] [] S) {S : St} {x1 : Int32} {x2 : Int32} {x3 : Int32} (hres : bX8_watchers_4 o0 rc4 S x1 x2 x3 = some rr) : Wat 0 55 2 4 X 4 [(0, .ref (ad X o0)), (1, .int x1), (2, .int x2), (3, .int x3)] [] S := by
  unfold bX8_watchers_4 at hres
  refine q_iload_n 5 hX 3 dX8_watchers_4 rfl rfl rfl ?_
  refine q_bipush 7 hX dX8_watchers_5 rfl kB_16 ?_
  refine q_icmp_ge 10 hX 35 dX8_watchers_7 rfl (by decide) (fun hc => ?_) (fun hc => ?_)
  · have hres := it_t hc hres
    refine q_iload_n 36 hX 2 dX8_watchers_35 rfl rfl rfl ?_
    exact q_iret hX (eqi hq hres) dX8_watchers_36
  · have hres := it_f hc hres
    refine q_aload_n 11 hX 0 dX8_watchers_10 rfl rfl rfl ?_
    refine q_iload_n 12 hX 3 dX8_watchers_11 rfl rfl rfl ?_
    obtain ⟨r2, S1, hk1, hres⟩ := ob hres
    refine q_callVi 15 (st := []) (As := [.int x3]) hX (cX8_wholeView9 hX.dj ho0 hk1) cv_RX8_73 ci8 (oB_T ho0) rfl (by decide) rfl (Nat.le_of_ble_eq_true rfl) dX8_watchers_12 rfl ?_
    refine q_iload_n 16 hX 1 dX8_watchers_15 rfl rfl rfl ?_
    refine q_ishr 17 hX dX8_watchers_16 rfl ?_
    refine q_iconst 18 hX dX8_watchers_17 rfl kI_1 ?_
    refine q_iand 19 hX dX8_watchers_18 rfl ?_
    refine q_iconst 20 hX dX8_watchers_19 rfl kI_1 ?_
    refine q_icmp_ne 23 hX 29 dX8_watchers_20 rfl (by decide) (fun hc => ?_) (fun hc => ?_)
    · have hres := it_f hc hres
      refine q_iincB 32 3 (lv0 := [(0, .ref (ad X o0)), (1, .int x1), (2, .int x2)]) hX dX8_watchers_29 rfl rfl kI_1 (by decide) rfl hres (fun v3 hres => ?_)
      refine q_goto 4 hX dX8_watchers_32 (by decide) ?_
      exact q_sub [1, 2, 3, 0] rfl (hrc4 _ _ _ _ hres)
    · have hres := it_t hc hres
      refine q_iload_n 24 hX 2 dX8_watchers_23 rfl rfl rfl ?_
      refine q_iconst 25 hX dX8_watchers_24 rfl kI_1 ?_
      refine q_iload_n 26 hX 3 dX8_watchers_25 rfl rfl rfl ?_
      refine q_ishl 27 hX dX8_watchers_26 rfl ?_
      refine q_ior 28 hX dX8_watchers_27 rfl ?_
      refine q_istoreB_n 29 (lv0 := [(0, .ref (ad X o0)), (1, .int x1), (3, .int x3)]) hX dX8_watchers_28 rfl rfl (by decide) rfl hres (fun v4 hres => ?_)
      refine q_iincB 32 3 (lv0 := [(2, .int v4), (0, .ref (ad X o0)), (1, .int x1)]) hX dX8_watchers_29 rfl rfl kI_1 (by decide) rfl hres (fun v5 hres => ?_)
      refine q_goto 4 hX dX8_watchers_32 (by decide) ?_
      exact q_sub [2, 3, 1, 0] rfl (hrc4 _ _ _ _ hres)
def fX8_watchers_4 (o0 : Nat) : Nat → St → Int32 → Int32 → Int32 → Option (Int32 × St)
  | 0 => fun _ _ _ _ => none
  | k + 1 => fun S x1 x2 x3 => bX8_watchers_4 o0 (fX8_watchers_4 o0 k) S x1 x2 x3
theorem wfX8_watchers_4 {X : CX} (hX : Ok RX8 cX8_watchers (some .int) 0 55 4 X) {o0 : Nat} (ho0 : isT o0) {rr : Int32 × St} (hq : rs X = (some (.int rr.1), rr.2)) (k : Nat) : ∀ (S : St) (x1 : Int32) (x2 : Int32) (x3 : Int32), fX8_watchers_4 o0 k S x1 x2 x3 = some rr → Wat 0 55 2 4 X 4 [(0, .ref (ad X o0)), (1, .int x1), (2, .int x2), (3, .int x3)] [] S := by
  induction k with
  | zero => intro S x1 x2 x3 hres; exact absurd hres (by simp [fX8_watchers_4])
  | succ k ih => intro S x1 x2 x3 hres; exact wbX8_watchers_4 hX ho0 hq ih hres
def fX8_watchers (o0 : Nat) (S : St) (x1 : Int32) : Option (Int32 × St) :=
  fX8_watchers_4 o0 100 S x1 (0 : Int32) (0 : Int32)
theorem wfX8_watchers {X : CX} (hX : Ok RX8 cX8_watchers (some .int) 0 55 4 X) {o0 : Nat} (ho0 : isT o0) {rr : Int32 × St} (hq : rs X = (some (.int rr.1), rr.2)) {S : St} {x1 : Int32} (hres : fX8_watchers o0 S x1 = some rr) : Wat 0 55 2 4 X 0 [(0, .ref (ad X o0)), (1, .int x1)] [] S := by
  unfold fX8_watchers at hres
  refine q_iconst 1 hX dX8_watchers_0 rfl kI_0 ?_
  refine q_istore_n 2 (lv' := [(2, .int (0 : Int32)), (0, .ref (ad X o0)), (1, .int x1)]) hX dX8_watchers_1 rfl rfl (by decide) rfl ?_
  refine q_iconst 3 hX dX8_watchers_2 rfl kI_0 ?_
  refine q_istore_n 4 (lv' := [(3, .int (0 : Int32)), (2, .int (0 : Int32)), (0, .ref (ad X o0)), (1, .int x1)]) hX dX8_watchers_3 rfl rfl (by decide) rfl ?_
  exact q_sub [2, 3, 1, 0] rfl (wfX8_watchers_4 hX ho0 hq _ _ _ _ _ hres)
theorem cX8_watchers9 {l : Launch} {w : WD} (hj : Dj w 0 55) {o0 : Nat} (ho0 : isT o0) {rr : Int32 × St} {S : St} {x1 : Int32} (hres : fX8_watchers o0 S x1 = some rr) : Ct l yX8_watchers cX8_watchers 4 (some .int) 2 w 0 55 [.ref (w.1 o0), .int x1] S (some (.int rr.1), rr.2) := by
  refine Ct.of (lv := [(0, .ref (w.1 o0)), (1, .int x1)]) hj (by decide +kernel) (Nat.le_of_ble_eq_true rfl) rfl ?_
  rintro X rfl rfl hq hX
  exact wfX8_watchers hX ho0 hq hres
def bX8_twosIn_4 (o0 : Nat) (rc4 : St → Int32 → Int32 → Int32 → Option (Int32 × St)) (S : St) (x1 : Int32) (x2 : Int32) (x3 : Int32) : Option (Int32 × St) :=
  if (16 : Int32) ≤ x3 then (some (x2, S)) else (bi (fX8_view o0 S x3 x1) fun r2 S1 => bi (fJ6_bitCount_0f7a4 S1 r2) fun r4 S2 => bV ((x2 + r4)) fun v5 => bV (x3 + (1 : Int32)) fun v6 => rc4 S2 x1 v5 v6)
theorem wbX8_twosIn_4 {X : CX} (hX : Ok RX8 cX8_twosIn (some .int) 0 55 4 X) {o0 : Nat} (ho0 : isT o0) {rr : Int32 × St} (hq : rs X = (some (.int rr.1), rr.2)) {rc4 : St → Int32 → Int32 → Int32 → Option (Int32 × St)} (hrc4 : ∀ (S : St) (x1 : Int32) (x2 : Int32) (x3 : Int32), rc4 S x1 x2 x3 = some rr → Wat 0 55 2 4 X 4 [(0, .ref (ad X o0)), (1, .int x1), (2, .int x2), (3, .int x3)] [] S) {S : St} {x1 : Int32} {x2 : Int32} {x3 : Int32} (hres : bX8_twosIn_4 o0 rc4 S x1 x2 x3 = some rr) : Wat 0 55 2 4 X 4 [(0, .ref (ad X o0)), (1, .int x1), (2, .int x2), (3, .int x3)] [] S := by
  unfold bX8_twosIn_4 at hres
  refine q_iload_n 5 hX 3 dX8_twosIn_4 rfl rfl rfl ?_
  refine q_bipush 7 hX dX8_twosIn_5 rfl kB_16 ?_
  refine q_icmp_ge 10 hX 28 dX8_twosIn_7 rfl (by decide) (fun hc => ?_) (fun hc => ?_)
  · have hres := it_t hc hres
    refine q_iload_n 29 hX 2 dX8_twosIn_28 rfl rfl rfl ?_
    exact q_iret hX (eqi hq hres) dX8_twosIn_29
  · have hres := it_f hc hres
    refine q_iload_n 11 hX 2 dX8_twosIn_10 rfl rfl rfl ?_
    refine q_aload_n 12 hX 0 dX8_twosIn_11 rfl rfl rfl ?_
    refine q_iload_n 13 hX 3 dX8_twosIn_12 rfl rfl rfl ?_
    refine q_iload_n 14 hX 1 dX8_twosIn_13 rfl rfl rfl ?_
    obtain ⟨r2, S1, hk1, hres⟩ := ob hres
    refine q_callVi 17 (st := [.int x2]) (As := [.int x3, .int x1]) hX (cX8_view9 hX.dj ho0 hk1) cv_RX8_69 ci8 (oB_T ho0) rfl (by decide) rfl (Nat.le_of_ble_eq_true rfl) dX8_twosIn_14 rfl ?_
    obtain ⟨r4, S2, hk3, hres⟩ := ob hres
    refine q_callSi 20 (st := [.int x2]) (As := [.int r2]) hX (cJ6_bitCount_0f7a49 hX.dj hk3) cs_RX8_76 rfl (by decide) rfl (Nat.le_of_ble_eq_true rfl) dX8_twosIn_17 rfl ?_
    refine q_iadd 21 hX dX8_twosIn_20 rfl ?_
    refine q_istoreB_n 22 (lv0 := [(0, .ref (ad X o0)), (1, .int x1), (3, .int x3)]) hX dX8_twosIn_21 rfl rfl (by decide) rfl hres (fun v5 hres => ?_)
    refine q_iincB 25 3 (lv0 := [(2, .int v5), (0, .ref (ad X o0)), (1, .int x1)]) hX dX8_twosIn_22 rfl rfl kI_1 (by decide) rfl hres (fun v6 hres => ?_)
    refine q_goto 4 hX dX8_twosIn_25 (by decide) ?_
    exact q_sub [2, 3, 1, 0] rfl (hrc4 _ _ _ _ hres)
def fX8_twosIn_4 (o0 : Nat) : Nat → St → Int32 → Int32 → Int32 → Option (Int32 × St)
  | 0 => fun _ _ _ _ => none
  | k + 1 => fun S x1 x2 x3 => bX8_twosIn_4 o0 (fX8_twosIn_4 o0 k) S x1 x2 x3
theorem wfX8_twosIn_4 {X : CX} (hX : Ok RX8 cX8_twosIn (some .int) 0 55 4 X) {o0 : Nat} (ho0 : isT o0) {rr : Int32 × St} (hq : rs X = (some (.int rr.1), rr.2)) (k : Nat) : ∀ (S : St) (x1 : Int32) (x2 : Int32) (x3 : Int32), fX8_twosIn_4 o0 k S x1 x2 x3 = some rr → Wat 0 55 2 4 X 4 [(0, .ref (ad X o0)), (1, .int x1), (2, .int x2), (3, .int x3)] [] S := by
  induction k with
  | zero => intro S x1 x2 x3 hres; exact absurd hres (by simp [fX8_twosIn_4])
  | succ k ih => intro S x1 x2 x3 hres; exact wbX8_twosIn_4 hX ho0 hq ih hres
def fX8_twosIn (o0 : Nat) (S : St) (x1 : Int32) : Option (Int32 × St) :=
  fX8_twosIn_4 o0 100 S x1 (0 : Int32) (0 : Int32)
theorem wfX8_twosIn {X : CX} (hX : Ok RX8 cX8_twosIn (some .int) 0 55 4 X) {o0 : Nat} (ho0 : isT o0) {rr : Int32 × St} (hq : rs X = (some (.int rr.1), rr.2)) {S : St} {x1 : Int32} (hres : fX8_twosIn o0 S x1 = some rr) : Wat 0 55 2 4 X 0 [(0, .ref (ad X o0)), (1, .int x1)] [] S := by
  unfold fX8_twosIn at hres
  refine q_iconst 1 hX dX8_twosIn_0 rfl kI_0 ?_
  refine q_istore_n 2 (lv' := [(2, .int (0 : Int32)), (0, .ref (ad X o0)), (1, .int x1)]) hX dX8_twosIn_1 rfl rfl (by decide) rfl ?_
  refine q_iconst 3 hX dX8_twosIn_2 rfl kI_0 ?_
  refine q_istore_n 4 (lv' := [(3, .int (0 : Int32)), (2, .int (0 : Int32)), (0, .ref (ad X o0)), (1, .int x1)]) hX dX8_twosIn_3 rfl rfl (by decide) rfl ?_
  exact q_sub [2, 3, 1, 0] rfl (wfX8_twosIn_4 hX ho0 hq _ _ _ _ _ hres)
theorem cX8_twosIn9 {l : Launch} {w : WD} (hj : Dj w 0 55) {o0 : Nat} (ho0 : isT o0) {rr : Int32 × St} {S : St} {x1 : Int32} (hres : fX8_twosIn o0 S x1 = some rr) : Ct l yX8_twosIn cX8_twosIn 4 (some .int) 2 w 0 55 [.ref (w.1 o0), .int x1] S (some (.int rr.1), rr.2) := by
  refine Ct.of (lv := [(0, .ref (w.1 o0)), (1, .int x1)]) hj (by decide +kernel) (Nat.le_of_ble_eq_true rfl) rfl ?_
  rintro X rfl rfl hq hX
  exact wfX8_twosIn hX ho0 hq hres
def bX8_clearestTurn_6 (o0 : Nat) (rc6 : St → Int32 → Int32 → Int32 → Option (Int32 × St)) (S : St) (x1 : Int32) (x2 : Int32) (x3 : Int32) : Option (Int32 × St) :=
  if (12 : Int32) ≤ x3 then (some (x1, S)) else (bi (fX8_twosIn o0 S x3) fun r2 S1 => if r2 ≤ x2 then (bV (x3 + (1 : Int32)) fun v3 => rc6 S1 x1 x2 v3) else (bV (x3 + (1 : Int32)) fun v4 => rc6 S1 x3 r2 v4))
theorem wbX8_clearestTurn_6 {X : CX} (hX : Ok RX8 cX8_clearestTurn (some .int) 0 55 5 X) {o0 : Nat} (ho0 : isT o0) {rr : Int32 × St} (hq : rs X = (some (.int rr.1), rr.2)) {rc6 : St → Int32 → Int32 → Int32 → Option (Int32 × St)} (hrc6 : ∀ (S : St) (x1 : Int32) (x2 : Int32) (x3 : Int32), rc6 S x1 x2 x3 = some rr → Wat 0 55 3 5 X 6 [(0, .ref (ad X o0)), (1, .int x1), (2, .int x2), (3, .int x3)] [] S) {S : St} {x1 : Int32} {x2 : Int32} {x3 : Int32} (hres : bX8_clearestTurn_6 o0 rc6 S x1 x2 x3 = some rr) : Wat 0 55 3 5 X 6 [(0, .ref (ad X o0)), (1, .int x1), (2, .int x2), (3, .int x3)] [] S := by
  unfold bX8_clearestTurn_6 at hres
  refine q_iload_n 7 hX 3 dX8_clearestTurn_6 rfl rfl rfl ?_
  refine q_bipush 9 hX dX8_clearestTurn_7 rfl kB_12 ?_
  refine q_icmp_ge 12 hX 36 dX8_clearestTurn_9 rfl (by decide) (fun hc => ?_) (fun hc => ?_)
  · have hres := it_t hc hres
    refine q_iload_n 37 hX 1 dX8_clearestTurn_36 rfl rfl rfl ?_
    exact q_iret hX (eqi hq hres) dX8_clearestTurn_37
  · have hres := it_f hc hres
    refine q_aload_n 13 hX 0 dX8_clearestTurn_12 rfl rfl rfl ?_
    refine q_iload_n 14 hX 3 dX8_clearestTurn_13 rfl rfl rfl ?_
    obtain ⟨r2, S1, hk1, hres⟩ := ob hres
    refine q_callVi 17 (st := []) (As := [.int x3]) hX (cX8_twosIn9 hX.dj ho0 hk1) cv_RX8_81 ci8 (oB_T ho0) rfl (by decide) rfl (Nat.le_of_ble_eq_true rfl) dX8_clearestTurn_14 rfl ?_
    refine q_istore 19 (lv' := [(4, .int r2), (0, .ref (ad X o0)), (1, .int x1), (2, .int x2), (3, .int x3)]) hX dX8_clearestTurn_17 rfl (by decide) rfl ?_
    refine q_iload 21 hX 0 dX8_clearestTurn_19 rfl rfl ?_
    refine q_iload_n 22 hX 3 dX8_clearestTurn_21 rfl rfl rfl ?_
    refine q_icmp_le 25 hX 30 dX8_clearestTurn_22 rfl (by decide) (fun hc => ?_) (fun hc => ?_)
    · have hres := it_t hc hres
      refine q_iincB 33 4 (lv0 := [(4, .int r2), (0, .ref (ad X o0)), (1, .int x1), (2, .int x2)]) hX dX8_clearestTurn_30 rfl rfl kI_1 (by decide) rfl hres (fun v3 hres => ?_)
      refine q_goto 6 hX dX8_clearestTurn_33 (by decide) ?_
      exact q_sub [2, 3, 4, 0] rfl (hrc6 _ _ _ _ hres)
    · have hres := it_f hc hres
      refine q_iload 27 hX 0 dX8_clearestTurn_25 rfl rfl ?_
      refine q_istore_n 28 (lv' := [(2, .int r2), (4, .int r2), (0, .ref (ad X o0)), (1, .int x1), (3, .int x3)]) hX dX8_clearestTurn_27 rfl rfl (by decide) rfl ?_
      refine q_iload_n 29 hX 4 dX8_clearestTurn_28 rfl rfl rfl ?_
      refine q_istore_n 30 (lv' := [(1, .int x3), (2, .int r2), (4, .int r2), (0, .ref (ad X o0)), (3, .int x3)]) hX dX8_clearestTurn_29 rfl rfl (by decide) rfl ?_
      refine q_iincB 33 4 (lv0 := [(1, .int x3), (2, .int r2), (4, .int r2), (0, .ref (ad X o0))]) hX dX8_clearestTurn_30 rfl rfl kI_1 (by decide) rfl hres (fun v4 hres => ?_)
      refine q_goto 6 hX dX8_clearestTurn_33 (by decide) ?_
      exact q_sub [4, 1, 2, 0] rfl (hrc6 _ _ _ _ hres)
def fX8_clearestTurn_6 (o0 : Nat) : Nat → St → Int32 → Int32 → Int32 → Option (Int32 × St)
  | 0 => fun _ _ _ _ => none
  | k + 1 => fun S x1 x2 x3 => bX8_clearestTurn_6 o0 (fX8_clearestTurn_6 o0 k) S x1 x2 x3
theorem wfX8_clearestTurn_6 {X : CX} (hX : Ok RX8 cX8_clearestTurn (some .int) 0 55 5 X) {o0 : Nat} (ho0 : isT o0) {rr : Int32 × St} (hq : rs X = (some (.int rr.1), rr.2)) (k : Nat) : ∀ (S : St) (x1 : Int32) (x2 : Int32) (x3 : Int32), fX8_clearestTurn_6 o0 k S x1 x2 x3 = some rr → Wat 0 55 3 5 X 6 [(0, .ref (ad X o0)), (1, .int x1), (2, .int x2), (3, .int x3)] [] S := by
  induction k with
  | zero => intro S x1 x2 x3 hres; exact absurd hres (by simp [fX8_clearestTurn_6])
  | succ k ih => intro S x1 x2 x3 hres; exact wbX8_clearestTurn_6 hX ho0 hq ih hres
def fX8_clearestTurn (o0 : Nat) (S : St) : Option (Int32 × St) :=
  fX8_clearestTurn_6 o0 100 S (0 : Int32) (0 : Int32) (0 : Int32)
theorem wfX8_clearestTurn {X : CX} (hX : Ok RX8 cX8_clearestTurn (some .int) 0 55 5 X) {o0 : Nat} (ho0 : isT o0) {rr : Int32 × St} (hq : rs X = (some (.int rr.1), rr.2)) {S : St} (hres : fX8_clearestTurn o0 S = some rr) : Wat 0 55 3 5 X 0 [(0, .ref (ad X o0))] [] S := by
  unfold fX8_clearestTurn at hres
  refine q_iconst 1 hX dX8_clearestTurn_0 rfl kI_0 ?_
  refine q_istore_n 2 (lv' := [(1, .int (0 : Int32)), (0, .ref (ad X o0))]) hX dX8_clearestTurn_1 rfl rfl (by decide) rfl ?_
  refine q_iconst 3 hX dX8_clearestTurn_2 rfl kI_0 ?_
  refine q_istore_n 4 (lv' := [(2, .int (0 : Int32)), (1, .int (0 : Int32)), (0, .ref (ad X o0))]) hX dX8_clearestTurn_3 rfl rfl (by decide) rfl ?_
  refine q_iconst 5 hX dX8_clearestTurn_4 rfl kI_0 ?_
  refine q_istore_n 6 (lv' := [(3, .int (0 : Int32)), (2, .int (0 : Int32)), (1, .int (0 : Int32)), (0, .ref (ad X o0))]) hX dX8_clearestTurn_5 rfl rfl (by decide) rfl ?_
  exact q_sub [3, 2, 1, 0] rfl (wfX8_clearestTurn_6 hX ho0 hq _ _ _ _ _ hres)
theorem cX8_clearestTurn9 {l : Launch} {w : WD} (hj : Dj w 0 55) {o0 : Nat} (ho0 : isT o0) {rr : Int32 × St} {S : St} (hres : fX8_clearestTurn o0 S = some rr) : Ct l yX8_clearestTurn cX8_clearestTurn 5 (some .int) 3 w 0 55 [.ref (w.1 o0)] S (some (.int rr.1), rr.2) := by
  refine Ct.of (lv := [(0, .ref (w.1 o0))]) hj (by decide +kernel) (Nat.le_of_ble_eq_true rfl) rfl ?_
  rintro X rfl rfl hq hX
  exact wfX8_clearestTurn hX ho0 hq hres
def bX8_housesThatSeeJust_5 (o0 : Nat) (rc5 : St → Int32 → Int32 → Int32 → Int32 → Option (Int32 × St)) (S : St) (x1 : Int32) (x2 : Int32) (x3 : Int32) (x4 : Int32) : Option (Int32 × St) :=
  if (16 : Int32) ≤ x4 then (some (x3, S)) else (bi (fX8_hasHouse o0 S x4) fun r2 S1 => if r2 = 0 then (bV (x4 + (1 : Int32)) fun v3 => rc5 S1 x1 x2 x3 v3) else (bi (fX8_view o0 S1 x4 x2) fun r5 S2 => if r5 = x1 then (bV ((x3 ||| ((1 : Int32) <<< (x4 &&& 31)))) fun v7 => bV (x4 + (1 : Int32)) fun v8 => rc5 S2 x1 x2 v7 v8) else (bV (x4 + (1 : Int32)) fun v6 => rc5 S2 x1 x2 x3 v6)))
theorem wbX8_housesThatSeeJust_5 {X : CX} (hX : Ok RX8 cX8_housesThatSeeJust (some .int) 0 55 5 X) {o0 : Nat} (ho0 : isT o0) {rr : Int32 × St} (hq : rs X = (some (.int rr.1), rr.2)) {rc5 : St → Int32 → Int32 → Int32 → Int32 → Option (Int32 × St)} (hrc5 : ∀ (S : St) (x1 : Int32) (x2 : Int32) (x3 : Int32) (x4 : Int32), rc5 S x1 x2 x3 x4 = some rr → Wat 0 55 2 5 X 5 [(0, .ref (ad X o0)), (1, .int x1), (2, .int x2), (3, .int x3), (4, .int x4)] [] S) {S : St} {x1 : Int32} {x2 : Int32} {x3 : Int32} {x4 : Int32} (hres : bX8_housesThatSeeJust_5 o0 rc5 S x1 x2 x3 x4 = some rr) : Wat 0 55 2 5 X 5 [(0, .ref (ad X o0)), (1, .int x1), (2, .int x2), (3, .int x3), (4, .int x4)] [] S := by
  unfold bX8_housesThatSeeJust_5 at hres
  refine q_iload 7 hX 4 dX8_housesThatSeeJust_5 rfl rfl ?_
  refine q_bipush 9 hX dX8_housesThatSeeJust_7 rfl kB_16 ?_
  refine q_icmp_ge 12 hX 45 dX8_housesThatSeeJust_9 rfl (by decide) (fun hc => ?_) (fun hc => ?_)
  · have hres := it_t hc hres
    refine q_iload_n 46 hX 3 dX8_housesThatSeeJust_45 rfl rfl rfl ?_
    exact q_iret hX (eqi hq hres) dX8_housesThatSeeJust_46
  · have hres := it_f hc hres
    refine q_aload_n 13 hX 0 dX8_housesThatSeeJust_12 rfl rfl rfl ?_
    refine q_iload 15 hX 4 dX8_housesThatSeeJust_13 rfl rfl ?_
    obtain ⟨r2, S1, hk1, hres⟩ := ob hres
    refine q_callVi 18 (st := []) (As := [.int x4]) hX (cX8_hasHouse9 hX.dj ho0 hk1) cv_RX8_40 ci8 (oB_T ho0) rfl (by decide) rfl (Nat.le_of_ble_eq_true rfl) dX8_housesThatSeeJust_15 rfl ?_
    refine q_if_eq 21 hX 39 dX8_housesThatSeeJust_18 rfl (by decide) (fun hc => ?_) (fun hc => ?_)
    · have hres := it_t hc hres
      refine q_iincB 42 4 (lv0 := [(0, .ref (ad X o0)), (1, .int x1), (2, .int x2), (3, .int x3)]) hX dX8_housesThatSeeJust_39 rfl rfl kI_1 (by decide) rfl hres (fun v3 hres => ?_)
      refine q_goto 5 hX dX8_housesThatSeeJust_42 (by decide) ?_
      exact q_sub [1, 2, 3, 4, 0] rfl (hrc5 _ _ _ _ _ hres)
    · have hres := it_f hc hres
      refine q_aload_n 22 hX 0 dX8_housesThatSeeJust_21 rfl rfl rfl ?_
      refine q_iload 24 hX 4 dX8_housesThatSeeJust_22 rfl rfl ?_
      refine q_iload_n 25 hX 2 dX8_housesThatSeeJust_24 rfl rfl rfl ?_
      obtain ⟨r5, S2, hk4, hres⟩ := ob hres
      refine q_callVi 28 (st := []) (As := [.int x4, .int x2]) hX (cX8_view9 hX.dj ho0 hk4) cv_RX8_69 ci8 (oB_T ho0) rfl (by decide) rfl (Nat.le_of_ble_eq_true rfl) dX8_housesThatSeeJust_25 rfl ?_
      refine q_iload_n 29 hX 1 dX8_housesThatSeeJust_28 rfl rfl rfl ?_
      refine q_icmp_ne 32 hX 39 dX8_housesThatSeeJust_29 rfl (by decide) (fun hc => ?_) (fun hc => ?_)
      · have hres := it_f hc hres
        refine q_iincB 42 4 (lv0 := [(0, .ref (ad X o0)), (1, .int x1), (2, .int x2), (3, .int x3)]) hX dX8_housesThatSeeJust_39 rfl rfl kI_1 (by decide) rfl hres (fun v6 hres => ?_)
        refine q_goto 5 hX dX8_housesThatSeeJust_42 (by decide) ?_
        exact q_sub [1, 2, 3, 4, 0] rfl (hrc5 _ _ _ _ _ hres)
      · have hres := it_t hc hres
        refine q_iload_n 33 hX 3 dX8_housesThatSeeJust_32 rfl rfl rfl ?_
        refine q_iconst 34 hX dX8_housesThatSeeJust_33 rfl kI_1 ?_
        refine q_iload 36 hX 4 dX8_housesThatSeeJust_34 rfl rfl ?_
        refine q_ishl 37 hX dX8_housesThatSeeJust_36 rfl ?_
        refine q_ior 38 hX dX8_housesThatSeeJust_37 rfl ?_
        refine q_istoreB_n 39 (lv0 := [(0, .ref (ad X o0)), (1, .int x1), (2, .int x2), (4, .int x4)]) hX dX8_housesThatSeeJust_38 rfl rfl (by decide) rfl hres (fun v7 hres => ?_)
        refine q_iincB 42 4 (lv0 := [(3, .int v7), (0, .ref (ad X o0)), (1, .int x1), (2, .int x2)]) hX dX8_housesThatSeeJust_39 rfl rfl kI_1 (by decide) rfl hres (fun v8 hres => ?_)
        refine q_goto 5 hX dX8_housesThatSeeJust_42 (by decide) ?_
        exact q_sub [2, 3, 4, 1, 0] rfl (hrc5 _ _ _ _ _ hres)
def fX8_housesThatSeeJust_5 (o0 : Nat) : Nat → St → Int32 → Int32 → Int32 → Int32 → Option (Int32 × St)
  | 0 => fun _ _ _ _ _ => none
  | k + 1 => fun S x1 x2 x3 x4 => bX8_housesThatSeeJust_5 o0 (fX8_housesThatSeeJust_5 o0 k) S x1 x2 x3 x4
theorem wfX8_housesThatSeeJust_5 {X : CX} (hX : Ok RX8 cX8_housesThatSeeJust (some .int) 0 55 5 X) {o0 : Nat} (ho0 : isT o0) {rr : Int32 × St} (hq : rs X = (some (.int rr.1), rr.2)) (k : Nat) : ∀ (S : St) (x1 : Int32) (x2 : Int32) (x3 : Int32) (x4 : Int32), fX8_housesThatSeeJust_5 o0 k S x1 x2 x3 x4 = some rr → Wat 0 55 2 5 X 5 [(0, .ref (ad X o0)), (1, .int x1), (2, .int x2), (3, .int x3), (4, .int x4)] [] S := by
  induction k with
  | zero => intro S x1 x2 x3 x4 hres; exact absurd hres (by simp [fX8_housesThatSeeJust_5])
  | succ k ih => intro S x1 x2 x3 x4 hres; exact wbX8_housesThatSeeJust_5 hX ho0 hq ih hres
def fX8_housesThatSeeJust (o0 : Nat) (S : St) (x1 : Int32) (x2 : Int32) : Option (Int32 × St) :=
  fX8_housesThatSeeJust_5 o0 100 S x1 x2 (0 : Int32) (0 : Int32)
theorem wfX8_housesThatSeeJust {X : CX} (hX : Ok RX8 cX8_housesThatSeeJust (some .int) 0 55 5 X) {o0 : Nat} (ho0 : isT o0) {rr : Int32 × St} (hq : rs X = (some (.int rr.1), rr.2)) {S : St} {x1 : Int32} {x2 : Int32} (hres : fX8_housesThatSeeJust o0 S x1 x2 = some rr) : Wat 0 55 2 5 X 0 [(0, .ref (ad X o0)), (1, .int x1), (2, .int x2)] [] S := by
  unfold fX8_housesThatSeeJust at hres
  refine q_iconst 1 hX dX8_housesThatSeeJust_0 rfl kI_0 ?_
  refine q_istore_n 2 (lv' := [(3, .int (0 : Int32)), (0, .ref (ad X o0)), (1, .int x1), (2, .int x2)]) hX dX8_housesThatSeeJust_1 rfl rfl (by decide) rfl ?_
  refine q_iconst 3 hX dX8_housesThatSeeJust_2 rfl kI_0 ?_
  refine q_istore 5 (lv' := [(4, .int (0 : Int32)), (3, .int (0 : Int32)), (0, .ref (ad X o0)), (1, .int x1), (2, .int x2)]) hX dX8_housesThatSeeJust_3 rfl (by decide) rfl ?_
  exact q_sub [2, 3, 4, 1, 0] rfl (wfX8_housesThatSeeJust_5 hX ho0 hq _ _ _ _ _ _ hres)
theorem cX8_housesThatSeeJust9 {l : Launch} {w : WD} (hj : Dj w 0 55) {o0 : Nat} (ho0 : isT o0) {rr : Int32 × St} {S : St} {x1 : Int32} {x2 : Int32} (hres : fX8_housesThatSeeJust o0 S x1 x2 = some rr) : Ct l yX8_housesThatSeeJust cX8_housesThatSeeJust 5 (some .int) 2 w 0 55 [.ref (w.1 o0), .int x1, .int x2] S (some (.int rr.1), rr.2) := by
  refine Ct.of (lv := [(0, .ref (w.1 o0)), (1, .int x1), (2, .int x2)]) hj (by decide +kernel) (Nat.le_of_ble_eq_true rfl) rfl ?_
  rintro X rfl rfl hq hX
  exact wfX8_housesThatSeeJust hX ho0 hq hres
def fX8_gatherCandidates_68 (o0 : Nat) (rc4 : St → Int32 → Int32 → Option (Int32 × St)) (S : St) (x1 : Int32) (x2 : Int32) (x3 : Int32) : Option (Int32 × St) :=
  if x3 = 0 then (bV (x2 + (1 : Int32)) fun v1 => rc4 S x1 v1) else (if inb x1 16 = true then bS (pI S (o0 + 7) (x1.toNatClampNeg) x2) fun S1 => bV (x1 + (1 : Int32)) fun v3 => bV (x2 + (1 : Int32)) fun v4 => rc4 S1 v3 v4 else none)
theorem wfX8_gatherCandidates_68 {X : CX} (hX : Ok RX8 cX8_gatherCandidates (some .int) 0 55 5 X) {o0 : Nat} (ho0 : isT o0) {rr : Int32 × St} (hq : rs X = (some (.int rr.1), rr.2)) {rc4 : St → Int32 → Int32 → Option (Int32 × St)} (hrc4 : ∀ (S : St) (x1 : Int32) (x2 : Int32), rc4 S x1 x2 = some rr → Wat 0 55 2 5 X 4 [(0, .ref (ad X o0)), (1, .int x1), (2, .int x2)] [] S) {S : St} {x1 : Int32} {x2 : Int32} {x3 : Int32} (hres : fX8_gatherCandidates_68 o0 rc4 S x1 x2 x3 = some rr) : Wat 0 55 2 5 X 68 [(0, .ref (ad X o0)), (1, .int x1), (2, .int x2), (3, .int x3)] [] S := by
  unfold fX8_gatherCandidates_68 at hres
  refine q_iload_n 69 hX 3 dX8_gatherCandidates_68 rfl rfl rfl ?_
  refine q_if_eq 72 hX 82 dX8_gatherCandidates_69 rfl (by decide) (fun hc => ?_) (fun hc => ?_)
  · have hres := it_t hc hres
    refine q_iincB 85 2 (lv0 := [(0, .ref (ad X o0)), (1, .int x1), (3, .int x3)]) hX dX8_gatherCandidates_82 rfl rfl kI_1 (by decide) rfl hres (fun v1 hres => ?_)
    refine q_goto 4 hX dX8_gatherCandidates_85 (by decide) ?_
    exact q_sub [1, 2, 0] rfl (hrc4 _ _ _ hres)
  · have hres := it_f hc hres
    refine q_aload_n 73 hX 0 dX8_gatherCandidates_72 rfl rfl rfl ?_
    refine q_getR 76 hX ci8 lf_RX8_30 (fR_T_6 ho0) dX8_gatherCandidates_73 rfl ?_
    refine q_iload_n 77 hX 1 dX8_gatherCandidates_76 rfl rfl rfl ?_
    refine q_iload_n 78 hX 2 dX8_gatherCandidates_77 rfl rfl rfl ?_
    obtain ⟨hb2, hres⟩ := gd hres
    refine q_iast 79 hX rfl (aF_T_7 ho0) hb2 dX8_gatherCandidates_78 rfl ?_
    refine q_bS hres (fun S1 _ hres => ?_)
    refine q_iincB 82 1 (lv0 := [(0, .ref (ad X o0)), (2, .int x2), (3, .int x3)]) hX dX8_gatherCandidates_79 rfl rfl kI_1 (by decide) rfl hres (fun v3 hres => ?_)
    refine q_iincB 85 2 (lv0 := [(1, .int v3), (0, .ref (ad X o0)), (3, .int x3)]) hX dX8_gatherCandidates_82 rfl rfl kI_1 (by decide) rfl hres (fun v4 hres => ?_)
    refine q_goto 4 hX dX8_gatherCandidates_85 (by decide) ?_
    exact q_sub [2, 1, 0] rfl (hrc4 _ _ _ hres)
def bX8_gatherCandidates_27 (o0 : Nat) (rc4 : St → Int32 → Int32 → Option (Int32 × St)) (rc27 : St → Int32 → Int32 → Int32 → Int32 → Option (Int32 × St)) (S : St) (x1 : Int32) (x2 : Int32) (x3 : Int32) (x4 : Int32) : Option (Int32 × St) :=
  if x1 ≤ x4 then (fX8_gatherCandidates_68 o0 rc4 S x1 x2 x3) else (if x3 = 0 then (fX8_gatherCandidates_68 o0 rc4 S x1 x2 x3) else (if inb x4 16 = true then bi (fX8_wholeView o0 S (S.1 (o0 + 7) (x4.toNatClampNeg))) fun r3 S1 => bi (fX8_wholeView o0 S1 x2) fun r5 S2 => if r3 = r5 then (bV (x4 + (1 : Int32)) fun v6 => rc27 S2 x1 x2 (0 : Int32) v6) else (bV (x4 + (1 : Int32)) fun v7 => rc27 S2 x1 x2 (1 : Int32) v7) else none))
theorem wbX8_gatherCandidates_27 {X : CX} (hX : Ok RX8 cX8_gatherCandidates (some .int) 0 55 5 X) {o0 : Nat} (ho0 : isT o0) {rr : Int32 × St} (hq : rs X = (some (.int rr.1), rr.2)) {rc4 : St → Int32 → Int32 → Option (Int32 × St)} (hrc4 : ∀ (S : St) (x1 : Int32) (x2 : Int32), rc4 S x1 x2 = some rr → Wat 0 55 2 5 X 4 [(0, .ref (ad X o0)), (1, .int x1), (2, .int x2)] [] S) {rc27 : St → Int32 → Int32 → Int32 → Int32 → Option (Int32 × St)} (hrc27 : ∀ (S : St) (x1 : Int32) (x2 : Int32) (x3 : Int32) (x4 : Int32), rc27 S x1 x2 x3 x4 = some rr → Wat 0 55 2 5 X 27 [(0, .ref (ad X o0)), (1, .int x1), (2, .int x2), (3, .int x3), (4, .int x4)] [] S) {S : St} {x1 : Int32} {x2 : Int32} {x3 : Int32} {x4 : Int32} (hres : bX8_gatherCandidates_27 o0 rc4 rc27 S x1 x2 x3 x4 = some rr) : Wat 0 55 2 5 X 27 [(0, .ref (ad X o0)), (1, .int x1), (2, .int x2), (3, .int x3), (4, .int x4)] [] S := by
  unfold bX8_gatherCandidates_27 at hres
  refine q_iload 29 hX 4 dX8_gatherCandidates_27 rfl rfl ?_
  refine q_iload_n 30 hX 1 dX8_gatherCandidates_29 rfl rfl rfl ?_
  refine q_icmp_ge 33 hX 68 dX8_gatherCandidates_30 rfl (by decide) (fun hc => ?_) (fun hc => ?_)
  · have hres := it_t hc hres
    exact q_sub [0, 1, 2, 3] rfl (wfX8_gatherCandidates_68 hX ho0 hq hrc4 hres)
  · have hres := it_f hc hres
    refine q_iload_n 34 hX 3 dX8_gatherCandidates_33 rfl rfl rfl ?_
    refine q_if_eq 37 hX 68 dX8_gatherCandidates_34 rfl (by decide) (fun hc => ?_) (fun hc => ?_)
    · have hres := it_t hc hres
      exact q_sub [0, 1, 2, 3] rfl (wfX8_gatherCandidates_68 hX ho0 hq hrc4 hres)
    · have hres := it_f hc hres
      refine q_aload_n 38 hX 0 dX8_gatherCandidates_37 rfl rfl rfl ?_
      refine q_aload_n 39 hX 0 dX8_gatherCandidates_38 rfl rfl rfl ?_
      refine q_getR 42 hX ci8 lf_RX8_30 (fR_T_6 ho0) dX8_gatherCandidates_39 rfl ?_
      refine q_iload 44 hX 4 dX8_gatherCandidates_42 rfl rfl ?_
      obtain ⟨hb1, hres⟩ := gd hres
      refine q_iald 45 hX rfl (aF_T_7 ho0) hb1 dX8_gatherCandidates_44 rfl ?_
      obtain ⟨r3, S1, hk2, hres⟩ := ob hres
      refine q_callVi 48 (st := []) (As := [.int (S.1 (o0 + 7) (x4.toNatClampNeg))]) hX (cX8_wholeView9 hX.dj ho0 hk2) cv_RX8_73 ci8 (oB_T ho0) rfl (by decide) rfl (Nat.le_of_ble_eq_true rfl) dX8_gatherCandidates_45 rfl ?_
      refine q_aload_n 49 hX 0 dX8_gatherCandidates_48 rfl rfl rfl ?_
      refine q_iload_n 50 hX 2 dX8_gatherCandidates_49 rfl rfl rfl ?_
      obtain ⟨r5, S2, hk4, hres⟩ := ob hres
      refine q_callVi 53 (st := [.int r3]) (As := [.int x2]) hX (cX8_wholeView9 hX.dj ho0 hk4) cv_RX8_73 ci8 (oB_T ho0) rfl (by decide) rfl (Nat.le_of_ble_eq_true rfl) dX8_gatherCandidates_50 rfl ?_
      refine q_icmp_eq 56 hX 60 dX8_gatherCandidates_53 rfl (by decide) (fun hc => ?_) (fun hc => ?_)
      · have hres := it_t hc hres
        refine q_iconst 61 hX dX8_gatherCandidates_60 rfl kI_0 ?_
        refine q_istore_n 62 (lv' := [(3, .int (0 : Int32)), (0, .ref (ad X o0)), (1, .int x1), (2, .int x2), (4, .int x4)]) hX dX8_gatherCandidates_61 rfl rfl (by decide) rfl ?_
        refine q_iincB 65 4 (lv0 := [(3, .int (0 : Int32)), (0, .ref (ad X o0)), (1, .int x1), (2, .int x2)]) hX dX8_gatherCandidates_62 rfl rfl kI_1 (by decide) rfl hres (fun v6 hres => ?_)
        refine q_goto 27 hX dX8_gatherCandidates_65 (by decide) ?_
        exact q_sub [2, 3, 4, 1, 0] rfl (hrc27 _ _ _ _ _ hres)
      · have hres := it_f hc hres
        refine q_iconst 57 hX dX8_gatherCandidates_56 rfl kI_1 ?_
        refine q_goto 61 hX dX8_gatherCandidates_57 (by decide) ?_
        refine q_istore_n 62 (lv' := [(3, .int (1 : Int32)), (0, .ref (ad X o0)), (1, .int x1), (2, .int x2), (4, .int x4)]) hX dX8_gatherCandidates_61 rfl rfl (by decide) rfl ?_
        refine q_iincB 65 4 (lv0 := [(3, .int (1 : Int32)), (0, .ref (ad X o0)), (1, .int x1), (2, .int x2)]) hX dX8_gatherCandidates_62 rfl rfl kI_1 (by decide) rfl hres (fun v7 hres => ?_)
        refine q_goto 27 hX dX8_gatherCandidates_65 (by decide) ?_
        exact q_sub [2, 3, 4, 1, 0] rfl (hrc27 _ _ _ _ _ hres)
def fX8_gatherCandidates_27 (o0 : Nat) (rc4 : St → Int32 → Int32 → Option (Int32 × St)) : Nat → St → Int32 → Int32 → Int32 → Int32 → Option (Int32 × St)
  | 0 => fun _ _ _ _ _ => none
  | k + 1 => fun S x1 x2 x3 x4 => bX8_gatherCandidates_27 o0 rc4 (fX8_gatherCandidates_27 o0 rc4 k) S x1 x2 x3 x4
theorem wfX8_gatherCandidates_27 {X : CX} (hX : Ok RX8 cX8_gatherCandidates (some .int) 0 55 5 X) {o0 : Nat} (ho0 : isT o0) {rr : Int32 × St} (hq : rs X = (some (.int rr.1), rr.2)) {rc4 : St → Int32 → Int32 → Option (Int32 × St)} (hrc4 : ∀ (S : St) (x1 : Int32) (x2 : Int32), rc4 S x1 x2 = some rr → Wat 0 55 2 5 X 4 [(0, .ref (ad X o0)), (1, .int x1), (2, .int x2)] [] S) (k : Nat) : ∀ (S : St) (x1 : Int32) (x2 : Int32) (x3 : Int32) (x4 : Int32), fX8_gatherCandidates_27 o0 rc4 k S x1 x2 x3 x4 = some rr → Wat 0 55 2 5 X 27 [(0, .ref (ad X o0)), (1, .int x1), (2, .int x2), (3, .int x3), (4, .int x4)] [] S := by
  induction k with
  | zero => intro S x1 x2 x3 x4 hres; exact absurd hres (by simp [fX8_gatherCandidates_27])
  | succ k ih => intro S x1 x2 x3 x4 hres; exact wbX8_gatherCandidates_27 hX ho0 hq hrc4 ih hres
def bX8_gatherCandidates_4 (o0 : Nat) (rc4 : St → Int32 → Int32 → Option (Int32 × St)) (S : St) (x1 : Int32) (x2 : Int32) : Option (Int32 × St) :=
  if (16 : Int32) ≤ x2 then (some (x1, S)) else (bi (fX8_wholeView o0 S x2) fun r2 S1 => if r2 = 0 then (fX8_gatherCandidates_27 o0 rc4 100 S1 x1 x2 (0 : Int32) (0 : Int32)) else (fX8_gatherCandidates_27 o0 rc4 100 S1 x1 x2 (1 : Int32) (0 : Int32)))
theorem wbX8_gatherCandidates_4 {X : CX} (hX : Ok RX8 cX8_gatherCandidates (some .int) 0 55 5 X) {o0 : Nat} (ho0 : isT o0) {rr : Int32 × St} (hq : rs X = (some (.int rr.1), rr.2)) {rc4 : St → Int32 → Int32 → Option (Int32 × St)} (hrc4 : ∀ (S : St) (x1 : Int32) (x2 : Int32), rc4 S x1 x2 = some rr → Wat 0 55 2 5 X 4 [(0, .ref (ad X o0)), (1, .int x1), (2, .int x2)] [] S) {S : St} {x1 : Int32} {x2 : Int32} (hres : bX8_gatherCandidates_4 o0 rc4 S x1 x2 = some rr) : Wat 0 55 2 5 X 4 [(0, .ref (ad X o0)), (1, .int x1), (2, .int x2)] [] S := by
  unfold bX8_gatherCandidates_4 at hres
  refine q_iload_n 5 hX 2 dX8_gatherCandidates_4 rfl rfl rfl ?_
  refine q_bipush 7 hX dX8_gatherCandidates_5 rfl kB_16 ?_
  refine q_icmp_ge 10 hX 88 dX8_gatherCandidates_7 rfl (by decide) (fun hc => ?_) (fun hc => ?_)
  · have hres := it_t hc hres
    refine q_iload_n 89 hX 1 dX8_gatherCandidates_88 rfl rfl rfl ?_
    exact q_iret hX (eqi hq hres) dX8_gatherCandidates_89
  · have hres := it_f hc hres
    refine q_aload_n 11 hX 0 dX8_gatherCandidates_10 rfl rfl rfl ?_
    refine q_iload_n 12 hX 2 dX8_gatherCandidates_11 rfl rfl rfl ?_
    obtain ⟨r2, S1, hk1, hres⟩ := ob hres
    refine q_callVi 15 (st := []) (As := [.int x2]) hX (cX8_wholeView9 hX.dj ho0 hk1) cv_RX8_73 ci8 (oB_T ho0) rfl (by decide) rfl (Nat.le_of_ble_eq_true rfl) dX8_gatherCandidates_12 rfl ?_
    refine q_if_eq 18 hX 22 dX8_gatherCandidates_15 rfl (by decide) (fun hc => ?_) (fun hc => ?_)
    · have hres := it_t hc hres
      refine q_iconst 23 hX dX8_gatherCandidates_22 rfl kI_0 ?_
      refine q_istore_n 24 (lv' := [(3, .int (0 : Int32)), (0, .ref (ad X o0)), (1, .int x1), (2, .int x2)]) hX dX8_gatherCandidates_23 rfl rfl (by decide) rfl ?_
      refine q_iconst 25 hX dX8_gatherCandidates_24 rfl kI_0 ?_
      refine q_istore 27 (lv' := [(4, .int (0 : Int32)), (3, .int (0 : Int32)), (0, .ref (ad X o0)), (1, .int x1), (2, .int x2)]) hX dX8_gatherCandidates_25 rfl (by decide) rfl ?_
      exact q_sub [2, 3, 4, 1, 0] rfl (wfX8_gatherCandidates_27 hX ho0 hq hrc4 _ _ _ _ _ _ hres)
    · have hres := it_f hc hres
      refine q_iconst 19 hX dX8_gatherCandidates_18 rfl kI_1 ?_
      refine q_goto 23 hX dX8_gatherCandidates_19 (by decide) ?_
      refine q_istore_n 24 (lv' := [(3, .int (1 : Int32)), (0, .ref (ad X o0)), (1, .int x1), (2, .int x2)]) hX dX8_gatherCandidates_23 rfl rfl (by decide) rfl ?_
      refine q_iconst 25 hX dX8_gatherCandidates_24 rfl kI_0 ?_
      refine q_istore 27 (lv' := [(4, .int (0 : Int32)), (3, .int (1 : Int32)), (0, .ref (ad X o0)), (1, .int x1), (2, .int x2)]) hX dX8_gatherCandidates_25 rfl (by decide) rfl ?_
      exact q_sub [2, 3, 4, 1, 0] rfl (wfX8_gatherCandidates_27 hX ho0 hq hrc4 _ _ _ _ _ _ hres)
def fX8_gatherCandidates_4 (o0 : Nat) : Nat → St → Int32 → Int32 → Option (Int32 × St)
  | 0 => fun _ _ _ => none
  | k + 1 => fun S x1 x2 => bX8_gatherCandidates_4 o0 (fX8_gatherCandidates_4 o0 k) S x1 x2
theorem wfX8_gatherCandidates_4 {X : CX} (hX : Ok RX8 cX8_gatherCandidates (some .int) 0 55 5 X) {o0 : Nat} (ho0 : isT o0) {rr : Int32 × St} (hq : rs X = (some (.int rr.1), rr.2)) (k : Nat) : ∀ (S : St) (x1 : Int32) (x2 : Int32), fX8_gatherCandidates_4 o0 k S x1 x2 = some rr → Wat 0 55 2 5 X 4 [(0, .ref (ad X o0)), (1, .int x1), (2, .int x2)] [] S := by
  induction k with
  | zero => intro S x1 x2 hres; exact absurd hres (by simp [fX8_gatherCandidates_4])
  | succ k ih => intro S x1 x2 hres; exact wbX8_gatherCandidates_4 hX ho0 hq ih hres
def fX8_gatherCandidates (o0 : Nat) (S : St) : Option (Int32 × St) :=
  fX8_gatherCandidates_4 o0 100 S (0 : Int32) (0 : Int32)
theorem wfX8_gatherCandidates {X : CX} (hX : Ok RX8 cX8_gatherCandidates (some .int) 0 55 5 X) {o0 : Nat} (ho0 : isT o0) {rr : Int32 × St} (hq : rs X = (some (.int rr.1), rr.2)) {S : St} (hres : fX8_gatherCandidates o0 S = some rr) : Wat 0 55 2 5 X 0 [(0, .ref (ad X o0))] [] S := by
  unfold fX8_gatherCandidates at hres
  refine q_iconst 1 hX dX8_gatherCandidates_0 rfl kI_0 ?_
  refine q_istore_n 2 (lv' := [(1, .int (0 : Int32)), (0, .ref (ad X o0))]) hX dX8_gatherCandidates_1 rfl rfl (by decide) rfl ?_
  refine q_iconst 3 hX dX8_gatherCandidates_2 rfl kI_0 ?_
  refine q_istore_n 4 (lv' := [(2, .int (0 : Int32)), (1, .int (0 : Int32)), (0, .ref (ad X o0))]) hX dX8_gatherCandidates_3 rfl rfl (by decide) rfl ?_
  exact q_sub [2, 1, 0] rfl (wfX8_gatherCandidates_4 hX ho0 hq _ _ _ _ hres)
theorem cX8_gatherCandidates9 {l : Launch} {w : WD} (hj : Dj w 0 55) {o0 : Nat} (ho0 : isT o0) {rr : Int32 × St} {S : St} (hres : fX8_gatherCandidates o0 S = some rr) : Ct l yX8_gatherCandidates cX8_gatherCandidates 5 (some .int) 2 w 0 55 [.ref (w.1 o0)] S (some (.int rr.1), rr.2) := by
  refine Ct.of (lv := [(0, .ref (w.1 o0))]) hj (by decide +kernel) (Nat.le_of_ble_eq_true rfl) rfl ?_
  rintro X rfl rfl hq hX
  exact wfX8_gatherCandidates hX ho0 hq hres
def fX8_leastWatchers (rg : Nat → St → Int32 → Int32 → Int32 → Option (Int32 × St)) (o0 : Nat) (S : St) (x1 : Int32) (x2 : Int32) (x3 : Int32) : Option (Int32 × St) :=
  if x3 = 0 then (some ((0 : Int32), S)) else (if x1 ≤ 0 then (some ((-1 : Int32), S)) else (if (16 : Int32) < x1 then (some ((-1 : Int32), S)) else (if 0 < x2 then (bi (rg o0 S (x1 - (1 : Int32)) x2 x3) fun r2 S1 => if r2 = (-1 : Int32) then (if inb (x1 - (1 : Int32)) 16 = true then bV ((S1.1 (o0 + 7) ((x1 - (1 : Int32)).toNatClampNeg))) fun v4 => bi (fX8_wholeView o0 S1 v4) fun r6 S2 => bi (rg o0 S2 (x1 - (1 : Int32)) (x2 - (1 : Int32)) (x3 &&& (r6 ^^^ (-1 : Int32)))) fun r8 S3 => if r8 = (-1 : Int32) then (some ((-1 : Int32), S3)) else (some ((r8 ||| ((1 : Int32) <<< (v4 &&& 31))), S3)) else none) else (some (r2, S1))) else (some ((-1 : Int32), S)))))
theorem wfX8_leastWatchers {X : CX} (hX : Ok RX8 cX8_leastWatchers (some .int) 0 55 7 X) {o0 : Nat} (ho0 : isT o0) {k9 : Nat} {rg : Nat → St → Int32 → Int32 → Int32 → Option (Int32 × St)} (hg0 : ∀ {o0 : Nat} (ho0 : isT o0) {rr : Int32 × St} {S : St} {x1 x2 x3 : Int32}, rg o0 S x1 x2 x3 = some rr → Ct X.1 yX8_leastWatchers cX8_leastWatchers 7 (some .int) (2 + k9) X.2.1 0 55 [.ref (X.2.1.1 o0), .int x1, .int x2, .int x3] S (some (.int rr.1), rr.2)) {rr : Int32 × St} (hq : rs X = (some (.int rr.1), rr.2)) {S : St} {x1 : Int32} {x2 : Int32} {x3 : Int32} (hres : fX8_leastWatchers rg o0 S x1 x2 x3 = some rr) : Wat 0 55 (2 + k9 + 1) 7 X 0 [(0, .ref (ad X o0)), (1, .int x1), (2, .int x2), (3, .int x3)] [] S := by
  unfold fX8_leastWatchers at hres
  refine q_iload_n 1 hX 3 dX8_leastWatchers_0 rfl rfl rfl ?_
  refine q_if_ne 4 hX 6 dX8_leastWatchers_1 rfl (by decide) (fun hc => ?_) (fun hc => ?_)
  · have hres := it_f hc hres
    refine q_iload_n 7 hX 1 dX8_leastWatchers_6 rfl rfl rfl ?_
    refine q_if_le 10 hX 20 dX8_leastWatchers_7 rfl (by decide) (fun hc => ?_) (fun hc => ?_)
    · have hres := it_t hc hres
      refine q_iconst 21 hX dX8_leastWatchers_20 rfl kI_m1 ?_
      exact q_iret hX (eqi hq hres) dX8_leastWatchers_21
    · have hres := it_f hc hres
      refine q_iload_n 11 hX 1 dX8_leastWatchers_10 rfl rfl rfl ?_
      refine q_bipush 13 hX dX8_leastWatchers_11 rfl kB_16 ?_
      refine q_icmp_gt 16 hX 20 dX8_leastWatchers_13 rfl (by decide) (fun hc => ?_) (fun hc => ?_)
      · have hres := it_t hc hres
        refine q_iconst 21 hX dX8_leastWatchers_20 rfl kI_m1 ?_
        exact q_iret hX (eqi hq hres) dX8_leastWatchers_21
      · have hres := it_f hc hres
        refine q_iload_n 17 hX 2 dX8_leastWatchers_16 rfl rfl rfl ?_
        refine q_if_gt 20 hX 22 dX8_leastWatchers_17 rfl (by decide) (fun hc => ?_) (fun hc => ?_)
        · have hres := it_t hc hres
          refine q_aload_n 23 hX 0 dX8_leastWatchers_22 rfl rfl rfl ?_
          refine q_iload_n 24 hX 1 dX8_leastWatchers_23 rfl rfl rfl ?_
          refine q_iconst 25 hX dX8_leastWatchers_24 rfl kI_1 ?_
          refine q_isub 26 hX dX8_leastWatchers_25 rfl ?_
          refine q_iload_n 27 hX 2 dX8_leastWatchers_26 rfl rfl rfl ?_
          refine q_iload_n 28 hX 3 dX8_leastWatchers_27 rfl rfl rfl ?_
          obtain ⟨r2, S1, hk1, hres⟩ := ob hres
          refine q_callVi 31 (st := []) (As := [.int (x1 - (1 : Int32)), .int x2, .int x3]) hX (hg0 ho0 hk1) cv_RX8_88 ci8 (oB_T ho0) rfl (by omega) rfl (Nat.le_of_ble_eq_true rfl) dX8_leastWatchers_28 rfl ?_
          refine q_istore 33 (lv' := [(4, .int r2), (0, .ref (ad X o0)), (1, .int x1), (2, .int x2), (3, .int x3)]) hX dX8_leastWatchers_31 rfl (by decide) rfl ?_
          refine q_iload 35 hX 0 dX8_leastWatchers_33 rfl rfl ?_
          refine q_iconst 36 hX dX8_leastWatchers_35 rfl kI_m1 ?_
          refine q_icmp_eq 39 hX 42 dX8_leastWatchers_36 rfl (by decide) (fun hc => ?_) (fun hc => ?_)
          · have hres := it_t hc hres
            refine q_aload_n 43 hX 1 dX8_leastWatchers_42 rfl rfl rfl ?_
            refine q_getR 46 hX ci8 lf_RX8_30 (fR_T_6 ho0) dX8_leastWatchers_43 rfl ?_
            refine q_iload_n 47 hX 2 dX8_leastWatchers_46 rfl rfl rfl ?_
            refine q_iconst 48 hX dX8_leastWatchers_47 rfl kI_1 ?_
            refine q_isub 49 hX dX8_leastWatchers_48 rfl ?_
            obtain ⟨hb3, hres⟩ := gd hres
            refine q_iald 50 hX rfl (aF_T_7 ho0) hb3 dX8_leastWatchers_49 rfl ?_
            refine q_istoreB 52 (lv0 := [(4, .int r2), (0, .ref (ad X o0)), (1, .int x1), (2, .int x2), (3, .int x3)]) hX dX8_leastWatchers_50 rfl (by decide) rfl hres (fun v4 hres => ?_)
            refine q_aload_n 53 hX 2 dX8_leastWatchers_52 rfl rfl rfl ?_
            refine q_iload_n 54 hX 3 dX8_leastWatchers_53 rfl rfl rfl ?_
            refine q_iconst 55 hX dX8_leastWatchers_54 rfl kI_1 ?_
            refine q_isub 56 hX dX8_leastWatchers_55 rfl ?_
            refine q_iload_n 57 hX 4 dX8_leastWatchers_56 rfl rfl rfl ?_
            refine q_iconst 58 hX dX8_leastWatchers_57 rfl kI_1 ?_
            refine q_isub 59 hX dX8_leastWatchers_58 rfl ?_
            refine q_iload_n 60 hX 5 dX8_leastWatchers_59 rfl rfl rfl ?_
            refine q_aload_n 61 hX 2 dX8_leastWatchers_60 rfl rfl rfl ?_
            refine q_iload 63 hX 0 dX8_leastWatchers_61 rfl rfl ?_
            obtain ⟨r6, S2, hk5, hres⟩ := ob hres
            refine q_callVi 66 (st := [.int x3, .int (x2 - (1 : Int32)), .int (x1 - (1 : Int32)), .ref (ad X o0)]) (As := [.int v4]) hX (cX8_wholeView9 hX.dj ho0 hk5) cv_RX8_73 ci8 (oB_T ho0) rfl (by omega) rfl (Nat.le_of_ble_eq_true rfl) dX8_leastWatchers_63 rfl ?_
            refine q_iconst 67 hX dX8_leastWatchers_66 rfl kI_m1 ?_
            refine q_ixor 68 hX dX8_leastWatchers_67 rfl ?_
            refine q_iand 69 hX dX8_leastWatchers_68 rfl ?_
            obtain ⟨r8, S3, hk7, hres⟩ := ob hres
            refine q_callVi 72 (st := []) (As := [.int (x1 - (1 : Int32)), .int (x2 - (1 : Int32)), .int (x3 &&& (r6 ^^^ (-1 : Int32)))]) hX (hg0 ho0 hk7) cv_RX8_88 ci8 (oB_T ho0) rfl (by omega) rfl (Nat.le_of_ble_eq_true rfl) dX8_leastWatchers_69 rfl ?_
            refine q_istore 74 (lv' := [(6, .int r8), (5, .int v4), (4, .int r2), (0, .ref (ad X o0)), (1, .int x1), (2, .int x2), (3, .int x3)]) hX dX8_leastWatchers_72 rfl (by decide) rfl ?_
            refine q_iload 76 hX 0 dX8_leastWatchers_74 rfl rfl ?_
            refine q_iconst 77 hX dX8_leastWatchers_76 rfl kI_m1 ?_
            refine q_icmp_ne 80 hX 84 dX8_leastWatchers_77 rfl (by decide) (fun hc => ?_) (fun hc => ?_)
            · have hres := it_f hc hres
              refine q_iload 86 hX 0 dX8_leastWatchers_84 rfl rfl ?_
              refine q_iconst 87 hX dX8_leastWatchers_86 rfl kI_1 ?_
              refine q_iload 89 hX 1 dX8_leastWatchers_87 rfl rfl ?_
              refine q_ishl 90 hX dX8_leastWatchers_89 rfl ?_
              refine q_ior 91 hX dX8_leastWatchers_90 rfl ?_
              exact q_iret hX (eqi hq hres) dX8_leastWatchers_91
            · have hres := it_t hc hres
              refine q_iconst 81 hX dX8_leastWatchers_80 rfl kI_m1 ?_
              refine q_goto 91 hX dX8_leastWatchers_81 (by decide) ?_
              exact q_iret hX (eqi hq hres) dX8_leastWatchers_91
          · have hres := it_f hc hres
            refine q_iload 41 hX 0 dX8_leastWatchers_39 rfl rfl ?_
            exact q_iret hX (eqi hq hres) dX8_leastWatchers_41
        · have hres := it_f hc hres
          refine q_iconst 21 hX dX8_leastWatchers_20 rfl kI_m1 ?_
          exact q_iret hX (eqi hq hres) dX8_leastWatchers_21
  · have hres := it_t hc hres
    refine q_iconst 5 hX dX8_leastWatchers_4 rfl kI_0 ?_
    exact q_iret hX (eqi hq hres) dX8_leastWatchers_5
def fLW : Nat → Nat → St → Int32 → Int32 → Int32 → Option (Int32 × St)
  | 0 => fun _ _ _ _ _ => none
  | k + 1 => fun o S x1 x2 x3 => fX8_leastWatchers (fLW k) o S x1 x2 x3
theorem cLW {l : Launch} {w : WD} (hj : Dj w 0 55) (k9 : Nat) : ∀ {o0 : Nat} (ho0 : isT o0) {rr : Int32 × St} {S : St} {x1 x2 x3 : Int32}, fLW k9 o0 S x1 x2 x3 = some rr → Ct l yX8_leastWatchers cX8_leastWatchers 7 (some .int) (2 + k9) w 0 55 [.ref (w.1 o0), .int x1, .int x2, .int x3] S (some (.int rr.1), rr.2) := by
  induction k9 with
  | zero => intro o0 ho0 rr S x1 x2 x3 h; exact absurd h (by simp [fLW])
  | succ k9 ih =>
    intro o0 ho0 rr S x1 x2 x3 hres
    refine Ct.of (lv := [(0, .ref (w.1 o0)), (1, .int x1), (2, .int x2), (3, .int x3)]) hj (by decide +kernel) (Nat.le_of_ble_eq_true rfl) rfl ?_
    rintro X rfl rfl hq hX
    exact wfX8_leastWatchers hX ho0 ih hq hres
theorem cX8_leastWatchers9 {l : Launch} {w : WD} (hj : Dj w 0 55) : ∀ {o0 : Nat} (ho0 : isT o0) {rr : Int32 × St} {S : St} {x1 x2 x3 : Int32}, fLW 20 o0 S x1 x2 x3 = some rr → Ct l yX8_leastWatchers cX8_leastWatchers 7 (some .int) 22 w 0 55 [.ref (w.1 o0), .int x1, .int x2, .int x3] S (some (.int rr.1), rr.2) := cLW hj 20
def fX8_fewestWatchers_64 (o0 : Nat) (S : St) (x3 : Int32) : Option (Int32 × St) :=
  some ((if x3 < (0 : Int32) then (0 : Int32) else x3), S)
theorem wfX8_fewestWatchers_64 {X : CX} (hX : Ok RX8 cX8_fewestWatchers (some .int) 0 55 5 X) {o0 : Nat} (ho0 : isT o0) {rr : Int32 × St} (hq : rs X = (some (.int rr.1), rr.2)) {S : St} {x3 : Int32} (hres : fX8_fewestWatchers_64 o0 S x3 = some rr) : Wat 0 55 24 5 X 64 [(3, .int x3)] [] S := by
  unfold fX8_fewestWatchers_64 at hres
  refine q_iload_n 65 hX 0 dX8_fewestWatchers_64 rfl rfl rfl ?_
  refine q_iconst 66 hX dX8_fewestWatchers_65 rfl kI_0 ?_
  refine q_max 69 hX mw_RX8_92 (by decide) (Nat.le_of_ble_eq_true rfl) dX8_fewestWatchers_66 rfl ?_
  exact q_iret hX (eqi hq hres) dX8_fewestWatchers_69
def bX8_fewestWatchers_38 (o0 : Nat) (rc38 : St → Int32 → Int32 → Int32 → Int32 → Option (Int32 × St)) (S : St) (x1 : Int32) (x2 : Int32) (x3 : Int32) (x4 : Int32) : Option (Int32 × St) :=
  if x1 < x4 then (fX8_fewestWatchers_64 o0 S x3) else (if x3 = (-1 : Int32) then (bi (fLW 20 o0 S x1 x4 x2) fun r2 S1 => bV (x4 + (1 : Int32)) fun v3 => rc38 S1 x1 x2 r2 v3) else (fX8_fewestWatchers_64 o0 S x3))
theorem wbX8_fewestWatchers_38 {X : CX} (hX : Ok RX8 cX8_fewestWatchers (some .int) 0 55 5 X) {o0 : Nat} (ho0 : isT o0) {rr : Int32 × St} (hq : rs X = (some (.int rr.1), rr.2)) {rc38 : St → Int32 → Int32 → Int32 → Int32 → Option (Int32 × St)} (hrc38 : ∀ (S : St) (x1 : Int32) (x2 : Int32) (x3 : Int32) (x4 : Int32), rc38 S x1 x2 x3 x4 = some rr → Wat 0 55 24 5 X 38 [(0, .ref (ad X o0)), (1, .int x1), (2, .int x2), (3, .int x3), (4, .int x4)] [] S) {S : St} {x1 : Int32} {x2 : Int32} {x3 : Int32} {x4 : Int32} (hres : bX8_fewestWatchers_38 o0 rc38 S x1 x2 x3 x4 = some rr) : Wat 0 55 24 5 X 38 [(0, .ref (ad X o0)), (1, .int x1), (2, .int x2), (3, .int x3), (4, .int x4)] [] S := by
  unfold bX8_fewestWatchers_38 at hres
  refine q_iload 40 hX 4 dX8_fewestWatchers_38 rfl rfl ?_
  refine q_iload_n 41 hX 1 dX8_fewestWatchers_40 rfl rfl rfl ?_
  refine q_icmp_gt 44 hX 64 dX8_fewestWatchers_41 rfl (by decide) (fun hc => ?_) (fun hc => ?_)
  · have hres := it_t hc hres
    exact q_sub [3] rfl (wfX8_fewestWatchers_64 hX ho0 hq hres)
  · have hres := it_f hc hres
    refine q_iload_n 45 hX 3 dX8_fewestWatchers_44 rfl rfl rfl ?_
    refine q_iconst 46 hX dX8_fewestWatchers_45 rfl kI_m1 ?_
    refine q_icmp_ne 49 hX 64 dX8_fewestWatchers_46 rfl (by decide) (fun hc => ?_) (fun hc => ?_)
    · have hres := it_f hc hres
      exact q_sub [3] rfl (wfX8_fewestWatchers_64 hX ho0 hq hres)
    · have hres := it_t hc hres
      refine q_aload_n 50 hX 0 dX8_fewestWatchers_49 rfl rfl rfl ?_
      refine q_iload_n 51 hX 1 dX8_fewestWatchers_50 rfl rfl rfl ?_
      refine q_iload 53 hX 4 dX8_fewestWatchers_51 rfl rfl ?_
      refine q_iload_n 54 hX 2 dX8_fewestWatchers_53 rfl rfl rfl ?_
      obtain ⟨r2, S1, hk1, hres⟩ := ob hres
      refine q_callVi 57 (st := []) (As := [.int x1, .int x4, .int x2]) hX (cX8_leastWatchers9 hX.dj ho0 hk1) cv_RX8_88 ci8 (oB_T ho0) rfl (by decide) rfl (Nat.le_of_ble_eq_true rfl) dX8_fewestWatchers_54 rfl ?_
      refine q_istore_n 58 (lv' := [(3, .int r2), (0, .ref (ad X o0)), (1, .int x1), (2, .int x2), (4, .int x4)]) hX dX8_fewestWatchers_57 rfl rfl (by decide) rfl ?_
      refine q_iincB 61 4 (lv0 := [(3, .int r2), (0, .ref (ad X o0)), (1, .int x1), (2, .int x2)]) hX dX8_fewestWatchers_58 rfl rfl kI_1 (by decide) rfl hres (fun v3 hres => ?_)
      refine q_goto 38 hX dX8_fewestWatchers_61 (by decide) ?_
      exact q_sub [2, 3, 4, 1, 0] rfl (hrc38 _ _ _ _ _ hres)
def fX8_fewestWatchers_38 (o0 : Nat) : Nat → St → Int32 → Int32 → Int32 → Int32 → Option (Int32 × St)
  | 0 => fun _ _ _ _ _ => none
  | k + 1 => fun S x1 x2 x3 x4 => bX8_fewestWatchers_38 o0 (fX8_fewestWatchers_38 o0 k) S x1 x2 x3 x4
theorem wfX8_fewestWatchers_38 {X : CX} (hX : Ok RX8 cX8_fewestWatchers (some .int) 0 55 5 X) {o0 : Nat} (ho0 : isT o0) {rr : Int32 × St} (hq : rs X = (some (.int rr.1), rr.2)) (k : Nat) : ∀ (S : St) (x1 : Int32) (x2 : Int32) (x3 : Int32) (x4 : Int32), fX8_fewestWatchers_38 o0 k S x1 x2 x3 x4 = some rr → Wat 0 55 24 5 X 38 [(0, .ref (ad X o0)), (1, .int x1), (2, .int x2), (3, .int x3), (4, .int x4)] [] S := by
  induction k with
  | zero => intro S x1 x2 x3 x4 hres; exact absurd hres (by simp [fX8_fewestWatchers_38])
  | succ k ih => intro S x1 x2 x3 x4 hres; exact wbX8_fewestWatchers_38 hX ho0 hq ih hres
def bX8_fewestWatchers_9 (o0 : Nat) (rc9 : St → Int32 → Int32 → Int32 → Option (Int32 × St)) (S : St) (x1 : Int32) (x2 : Int32) (x3 : Int32) : Option (Int32 × St) :=
  if x1 ≤ x3 then (fX8_fewestWatchers_38 o0 100 S x1 x2 (-1 : Int32) (0 : Int32)) else (if inb x3 16 = true then bi (fX8_wholeView o0 S (S.1 (o0 + 7) (x3.toNatClampNeg))) fun r3 S1 => bV ((x2 ||| r3)) fun v4 => bV (x3 + (1 : Int32)) fun v5 => rc9 S1 x1 v4 v5 else none)
theorem wbX8_fewestWatchers_9 {X : CX} (hX : Ok RX8 cX8_fewestWatchers (some .int) 0 55 5 X) {o0 : Nat} (ho0 : isT o0) {rr : Int32 × St} (hq : rs X = (some (.int rr.1), rr.2)) {rc9 : St → Int32 → Int32 → Int32 → Option (Int32 × St)} (hrc9 : ∀ (S : St) (x1 : Int32) (x2 : Int32) (x3 : Int32), rc9 S x1 x2 x3 = some rr → Wat 0 55 24 5 X 9 [(0, .ref (ad X o0)), (1, .int x1), (2, .int x2), (3, .int x3)] [] S) {S : St} {x1 : Int32} {x2 : Int32} {x3 : Int32} (hres : bX8_fewestWatchers_9 o0 rc9 S x1 x2 x3 = some rr) : Wat 0 55 24 5 X 9 [(0, .ref (ad X o0)), (1, .int x1), (2, .int x2), (3, .int x3)] [] S := by
  unfold bX8_fewestWatchers_9 at hres
  refine q_iload_n 10 hX 3 dX8_fewestWatchers_9 rfl rfl rfl ?_
  refine q_iload_n 11 hX 1 dX8_fewestWatchers_10 rfl rfl rfl ?_
  refine q_icmp_ge 14 hX 33 dX8_fewestWatchers_11 rfl (by decide) (fun hc => ?_) (fun hc => ?_)
  · have hres := it_t hc hres
    refine q_iconst 34 hX dX8_fewestWatchers_33 rfl kI_m1 ?_
    refine q_istore_n 35 (lv' := [(3, .int (-1 : Int32)), (0, .ref (ad X o0)), (1, .int x1), (2, .int x2)]) hX dX8_fewestWatchers_34 rfl rfl (by decide) rfl ?_
    refine q_iconst 36 hX dX8_fewestWatchers_35 rfl kI_0 ?_
    refine q_istore 38 (lv' := [(4, .int (0 : Int32)), (3, .int (-1 : Int32)), (0, .ref (ad X o0)), (1, .int x1), (2, .int x2)]) hX dX8_fewestWatchers_36 rfl (by decide) rfl ?_
    exact q_sub [2, 3, 4, 1, 0] rfl (wfX8_fewestWatchers_38 hX ho0 hq _ _ _ _ _ _ hres)
  · have hres := it_f hc hres
    refine q_iload_n 15 hX 2 dX8_fewestWatchers_14 rfl rfl rfl ?_
    refine q_aload_n 16 hX 0 dX8_fewestWatchers_15 rfl rfl rfl ?_
    refine q_aload_n 17 hX 0 dX8_fewestWatchers_16 rfl rfl rfl ?_
    refine q_getR 20 hX ci8 lf_RX8_30 (fR_T_6 ho0) dX8_fewestWatchers_17 rfl ?_
    refine q_iload_n 21 hX 3 dX8_fewestWatchers_20 rfl rfl rfl ?_
    obtain ⟨hb1, hres⟩ := gd hres
    refine q_iald 22 hX rfl (aF_T_7 ho0) hb1 dX8_fewestWatchers_21 rfl ?_
    obtain ⟨r3, S1, hk2, hres⟩ := ob hres
    refine q_callVi 25 (st := [.int x2]) (As := [.int (S.1 (o0 + 7) (x3.toNatClampNeg))]) hX (cX8_wholeView9 hX.dj ho0 hk2) cv_RX8_73 ci8 (oB_T ho0) rfl (by decide) rfl (Nat.le_of_ble_eq_true rfl) dX8_fewestWatchers_22 rfl ?_
    refine q_ior 26 hX dX8_fewestWatchers_25 rfl ?_
    refine q_istoreB_n 27 (lv0 := [(0, .ref (ad X o0)), (1, .int x1), (3, .int x3)]) hX dX8_fewestWatchers_26 rfl rfl (by decide) rfl hres (fun v4 hres => ?_)
    refine q_iincB 30 3 (lv0 := [(2, .int v4), (0, .ref (ad X o0)), (1, .int x1)]) hX dX8_fewestWatchers_27 rfl rfl kI_1 (by decide) rfl hres (fun v5 hres => ?_)
    refine q_goto 9 hX dX8_fewestWatchers_30 (by decide) ?_
    exact q_sub [2, 3, 1, 0] rfl (hrc9 _ _ _ _ hres)
def fX8_fewestWatchers_9 (o0 : Nat) : Nat → St → Int32 → Int32 → Int32 → Option (Int32 × St)
  | 0 => fun _ _ _ _ => none
  | k + 1 => fun S x1 x2 x3 => bX8_fewestWatchers_9 o0 (fX8_fewestWatchers_9 o0 k) S x1 x2 x3
theorem wfX8_fewestWatchers_9 {X : CX} (hX : Ok RX8 cX8_fewestWatchers (some .int) 0 55 5 X) {o0 : Nat} (ho0 : isT o0) {rr : Int32 × St} (hq : rs X = (some (.int rr.1), rr.2)) (k : Nat) : ∀ (S : St) (x1 : Int32) (x2 : Int32) (x3 : Int32), fX8_fewestWatchers_9 o0 k S x1 x2 x3 = some rr → Wat 0 55 24 5 X 9 [(0, .ref (ad X o0)), (1, .int x1), (2, .int x2), (3, .int x3)] [] S := by
  induction k with
  | zero => intro S x1 x2 x3 hres; exact absurd hres (by simp [fX8_fewestWatchers_9])
  | succ k ih => intro S x1 x2 x3 hres; exact wbX8_fewestWatchers_9 hX ho0 hq ih hres
def fX8_fewestWatchers (o0 : Nat) (S : St) : Option (Int32 × St) :=
  bi (fX8_gatherCandidates o0 S) fun r2 S1 => fX8_fewestWatchers_9 o0 100 S1 r2 (0 : Int32) (0 : Int32)
theorem wfX8_fewestWatchers {X : CX} (hX : Ok RX8 cX8_fewestWatchers (some .int) 0 55 5 X) {o0 : Nat} (ho0 : isT o0) {rr : Int32 × St} (hq : rs X = (some (.int rr.1), rr.2)) {S : St} (hres : fX8_fewestWatchers o0 S = some rr) : Wat 0 55 24 5 X 0 [(0, .ref (ad X o0))] [] S := by
  unfold fX8_fewestWatchers at hres
  refine q_aload_n 1 hX 0 dX8_fewestWatchers_0 rfl rfl rfl ?_
  obtain ⟨r2, S1, hk1, hres⟩ := ob hres
  refine q_callVi 4 (st := []) (As := []) hX (cX8_gatherCandidates9 hX.dj ho0 hk1) cv_RX8_84 ci8 (oB_T ho0) rfl (by decide) rfl (Nat.le_of_ble_eq_true rfl) dX8_fewestWatchers_1 rfl ?_
  refine q_istore_n 5 (lv' := [(1, .int r2), (0, .ref (ad X o0))]) hX dX8_fewestWatchers_4 rfl rfl (by decide) rfl ?_
  refine q_iconst 6 hX dX8_fewestWatchers_5 rfl kI_0 ?_
  refine q_istore_n 7 (lv' := [(2, .int (0 : Int32)), (1, .int r2), (0, .ref (ad X o0))]) hX dX8_fewestWatchers_6 rfl rfl (by decide) rfl ?_
  refine q_iconst 8 hX dX8_fewestWatchers_7 rfl kI_0 ?_
  refine q_istore_n 9 (lv' := [(3, .int (0 : Int32)), (2, .int (0 : Int32)), (1, .int r2), (0, .ref (ad X o0))]) hX dX8_fewestWatchers_8 rfl rfl (by decide) rfl ?_
  exact q_sub [3, 2, 1, 0] rfl (wfX8_fewestWatchers_9 hX ho0 hq _ _ _ _ _ hres)
theorem cX8_fewestWatchers9 {l : Launch} {w : WD} (hj : Dj w 0 55) {o0 : Nat} (ho0 : isT o0) {rr : Int32 × St} {S : St} (hres : fX8_fewestWatchers o0 S = some rr) : Ct l yX8_fewestWatchers cX8_fewestWatchers 5 (some .int) 24 w 0 55 [.ref (w.1 o0)] S (some (.int rr.1), rr.2) := by
  refine Ct.of (lv := [(0, .ref (w.1 o0))]) hj (by decide +kernel) (Nat.le_of_ble_eq_true rfl) rfl ?_
  rintro X rfl rfl hq hX
  exact wfX8_fewestWatchers hX ho0 hq hres
