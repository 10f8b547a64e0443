def fX2_clear (o0 : Nat) (S : St) : Option (St) :=
  bS (pI S o0 6 (0 : Int32)) fun S1 => bS (pI S1 o0 7 (0 : Int32)) fun S2 => some S2
theorem wfX2_clear {X : CX} (hX : Ok RX2 cX2_clear none 0 55 1 X) {o0 : Nat} (ho0 : isL o0) {rr : St} (hq : rs X = (none, rr)) {S : St} (hres : fX2_clear o0 S = some rr) : Wat 0 55 0 1 X 0 [(0, .ref (ad X o0))] [] S := by
  unfold fX2_clear at hres
  refine q_aload_n 1 hX 0 dX2_clear_0 rfl rfl rfl ?_
  refine q_iconst 2 hX dX2_clear_1 rfl kI_0 ?_
  refine q_putI 5 hX ci2 lf_RX2_30 (fI_L_6 ho0) (nar_i rfl) dX2_clear_2 rfl ?_
  refine q_bS hres (fun S1 _ hres => ?_)
  refine q_aload_n 6 hX 0 dX2_clear_5 rfl rfl rfl ?_
  refine q_iconst 7 hX dX2_clear_6 rfl kI_0 ?_
  refine q_putI 10 hX ci2 lf_RX2_34 (fI_L_7 ho0) (nar_i rfl) dX2_clear_7 rfl ?_
  refine q_bS hres (fun S2 _ hres => ?_)
  exact q_vret hX (eqv hq hres) dX2_clear_10
theorem cX2_clear9 {l : Launch} {w : WD} (hj : Dj w 0 55) {o0 : Nat} (ho0 : isL o0) {rr : St} {S : St} (hres : fX2_clear o0 S = some rr) : Ct l yX2_clear cX2_clear 1 none 0 w 0 55 [.ref (w.1 o0)] S (none, rr) := by
  refine Ct.of (lv := [(0, .ref (w.1 o0))]) hj (by decide +kernel) (Nat.le_of_ble_eq_true rfl) rfl ?_
  rintro X rfl rfl hq hX
  exact wfX2_clear hX ho0 hq hres
def fX2_addRule (o0 : Nat) (S : St) (x1 : Int32) (x2 : Int32) (x3 : Int32) : Option (St) :=
  if (16 : Int32) ≤ (S.1 o0 6) then (some S) else (if inb (S.1 o0 6) 16 = true then bS (pI S (o0 + 1) ((S.1 o0 6).toNatClampNeg) x1) fun S1 => if inb (S1.1 o0 6) 16 = true then bS (pI S1 (o0 + 2) ((S1.1 o0 6).toNatClampNeg) x2) fun S2 => if inb (S2.1 o0 6) 16 = true then bS (pI S2 (o0 + 3) ((S2.1 o0 6).toNatClampNeg) x3) fun S3 => bS (pI S3 o0 6 ((S3.1 o0 6) + (1 : Int32))) fun S4 => some S4 else none else none else none)
theorem wfX2_addRule {X : CX} (hX : Ok RX2 cX2_addRule none 0 55 4 X) {o0 : Nat} (ho0 : isL o0) {rr : St} (hq : rs X = (none, rr)) {S : St} {x1 : Int32} {x2 : Int32} {x3 : Int32} (hres : fX2_addRule o0 S x1 x2 x3 = some rr) : Wat 0 55 0 4 X 0 [(0, .ref (ad X o0)), (1, .int x1), (2, .int x2), (3, .int x3)] [] S := by
  unfold fX2_addRule at hres
  refine q_aload_n 1 hX 0 dX2_addRule_0 rfl rfl rfl ?_
  refine q_getI 4 hX ci2 lf_RX2_30 (fI_L_6 ho0) dX2_addRule_1 rfl ?_
  refine q_bipush 6 hX dX2_addRule_4 rfl kB_16 ?_
  refine q_icmp_ge 9 hX 49 dX2_addRule_6 rfl (by decide) (fun hc => ?_) (fun hc => ?_)
  · have hres := it_t hc hres
    exact q_vret hX (eqv hq hres) dX2_addRule_49
  · have hres := it_f hc hres
    refine q_aload_n 10 hX 0 dX2_addRule_9 rfl rfl rfl ?_
    refine q_getR 13 hX ci2 lf_RX2_11 (fR_L_0 ho0) dX2_addRule_10 rfl ?_
    refine q_aload_n 14 hX 0 dX2_addRule_13 rfl rfl rfl ?_
    refine q_getI 17 hX ci2 lf_RX2_30 (fI_L_6 ho0) dX2_addRule_14 rfl ?_
    refine q_iload_n 18 hX 1 dX2_addRule_17 rfl rfl rfl ?_
    obtain ⟨hb1, hres⟩ := gd hres
    refine q_iast 19 hX rfl (aF_L_1 ho0) hb1 dX2_addRule_18 rfl ?_
    refine q_bS hres (fun S1 _ hres => ?_)
    refine q_aload_n 20 hX 0 dX2_addRule_19 rfl rfl rfl ?_
    refine q_getR 23 hX ci2 lf_RX2_15 (fR_L_1 ho0) dX2_addRule_20 rfl ?_
    refine q_aload_n 24 hX 0 dX2_addRule_23 rfl rfl rfl ?_
    refine q_getI 27 hX ci2 lf_RX2_30 (fI_L_6 ho0) dX2_addRule_24 rfl ?_
    refine q_iload_n 28 hX 2 dX2_addRule_27 rfl rfl rfl ?_
    obtain ⟨hb2, hres⟩ := gd hres
    refine q_iast 29 hX rfl (aF_L_2 ho0) hb2 dX2_addRule_28 rfl ?_
    refine q_bS hres (fun S2 _ hres => ?_)
    refine q_aload_n 30 hX 0 dX2_addRule_29 rfl rfl rfl ?_
    refine q_getR 33 hX ci2 lf_RX2_18 (fR_L_2 ho0) dX2_addRule_30 rfl ?_
    refine q_aload_n 34 hX 0 dX2_addRule_33 rfl rfl rfl ?_
    refine q_getI 37 hX ci2 lf_RX2_30 (fI_L_6 ho0) dX2_addRule_34 rfl ?_
    refine q_iload_n 38 hX 3 dX2_addRule_37 rfl rfl rfl ?_
    obtain ⟨hb3, hres⟩ := gd hres
    refine q_iast 39 hX rfl (aF_L_3 ho0) hb3 dX2_addRule_38 rfl ?_
    refine q_bS hres (fun S3 _ hres => ?_)
    refine q_aload_n 40 hX 0 dX2_addRule_39 rfl rfl rfl ?_
    refine q_dup 41 hX dX2_addRule_40 rfl rfl ?_
    refine q_getI 44 hX ci2 lf_RX2_30 (fI_L_6 ho0) dX2_addRule_41 rfl ?_
    refine q_iconst 45 hX dX2_addRule_44 rfl kI_1 ?_
    refine q_iadd 46 hX dX2_addRule_45 rfl ?_
    refine q_putI 49 hX ci2 lf_RX2_30 (fI_L_6 ho0) (nar_i rfl) dX2_addRule_46 rfl ?_
    refine q_bS hres (fun S4 _ hres => ?_)
    exact q_vret hX (eqv hq hres) dX2_addRule_49
theorem cX2_addRule9 {l : Launch} {w : WD} (hj : Dj w 0 55) {o0 : Nat} (ho0 : isL o0) {rr : St} {S : St} {x1 : Int32} {x2 : Int32} {x3 : Int32} (hres : fX2_addRule o0 S x1 x2 x3 = some rr) : Ct l yX2_addRule cX2_addRule 4 none 0 w 0 55 [.ref (w.1 o0), .int x1, .int x2, .int x3] S (none, rr) := by
  refine Ct.of (lv := [(0, .ref (w.1 o0)), (1, .int x1), (2, .int x2), (3, .int x3)]) hj (by decide +kernel) (Nat.le_of_ble_eq_true rfl) rfl ?_
  rintro X rfl rfl hq hX
  exact wfX2_addRule hX ho0 hq hres
def fX2_addStep (o0 : Nat) (S : St) (x1 : Int32) (x2 : Int32) : Option (Int32 × St) :=
  bV ((S.1 o0 7)) fun v1 => if (288 : Int32) ≤ (S.1 o0 7) then (some (v1, S)) else (if inb (S.1 o0 7) 288 = true then bS (pI S (o0 + 4) ((S.1 o0 7).toNatClampNeg) ((x2 <<< ((4 : Int32) &&& 31)) ||| x1)) fun S1 => bS (pI S1 o0 7 ((S1.1 o0 7) + (1 : Int32))) fun S2 => some (v1, S2) else none)
theorem wfX2_addStep {X : CX} (hX : Ok RX2 cX2_addStep (some .int) 0 55 4 X) {o0 : Nat} (ho0 : isL o0) {rr : Int32 × St} (hq : rs X = (some (.int rr.1), rr.2)) {S : St} {x1 : Int32} {x2 : Int32} (hres : fX2_addStep o0 S x1 x2 = some rr) : Wat 0 55 0 4 X 0 [(0, .ref (ad X o0)), (1, .int x1), (2, .int x2)] [] S := by
  unfold fX2_addStep at hres
  refine q_aload_n 1 hX 0 dX2_addStep_0 rfl rfl rfl ?_
  refine q_getI 4 hX ci2 lf_RX2_34 (fI_L_7 ho0) dX2_addStep_1 rfl ?_
  refine q_istoreB_n 5 (lv0 := [(0, .ref (ad X o0)), (1, .int x1), (2, .int x2)]) hX dX2_addStep_4 rfl rfl (by decide) rfl hres (fun v1 hres => ?_)
  refine q_aload_n 6 hX 1 dX2_addStep_5 rfl rfl rfl ?_
  refine q_getI 9 hX ci2 lf_RX2_34 (fI_L_7 ho0) dX2_addStep_6 rfl ?_
  refine q_sipush 12 hX dX2_addStep_9 rfl kS_288 ?_
  refine q_icmp_ge 15 hX 39 dX2_addStep_12 rfl (by decide) (fun hc => ?_) (fun hc => ?_)
  · have hres := it_t hc hres
    refine q_iload_n 40 hX 0 dX2_addStep_39 rfl rfl rfl ?_
    exact q_iret hX (eqi hq hres) dX2_addStep_40
  · have hres := it_f hc hres
    refine q_aload_n 16 hX 1 dX2_addStep_15 rfl rfl rfl ?_
    refine q_getR 19 hX ci2 lf_RX2_21 (fR_L_3 ho0) dX2_addStep_16 rfl ?_
    refine q_aload_n 20 hX 1 dX2_addStep_19 rfl rfl rfl ?_
    refine q_getI 23 hX ci2 lf_RX2_34 (fI_L_7 ho0) dX2_addStep_20 rfl ?_
    refine q_iload_n 24 hX 3 dX2_addStep_23 rfl rfl rfl ?_
    refine q_iconst 25 hX dX2_addStep_24 rfl kI_4 ?_
    refine q_ishl 26 hX dX2_addStep_25 rfl ?_
    refine q_iload_n 27 hX 2 dX2_addStep_26 rfl rfl rfl ?_
    refine q_ior 28 hX dX2_addStep_27 rfl ?_
    obtain ⟨hb2, hres⟩ := gd hres
    refine q_iast 29 hX rfl (aF_L_4 ho0) hb2 dX2_addStep_28 rfl ?_
    refine q_bS hres (fun S1 _ hres => ?_)
    refine q_aload_n 30 hX 1 dX2_addStep_29 rfl rfl rfl ?_
    refine q_dup 31 hX dX2_addStep_30 rfl rfl ?_
    refine q_getI 34 hX ci2 lf_RX2_34 (fI_L_7 ho0) dX2_addStep_31 rfl ?_
    refine q_iconst 35 hX dX2_addStep_34 rfl kI_1 ?_
    refine q_iadd 36 hX dX2_addStep_35 rfl ?_
    refine q_putI 39 hX ci2 lf_RX2_34 (fI_L_7 ho0) (nar_i rfl) dX2_addStep_36 rfl ?_
    refine q_bS hres (fun S2 _ hres => ?_)
    refine q_iload_n 40 hX 0 dX2_addStep_39 rfl rfl rfl ?_
    exact q_iret hX (eqi hq hres) dX2_addStep_40
theorem cX2_addStep9 {l : Launch} {w : WD} (hj : Dj w 0 55) {o0 : Nat} (ho0 : isL o0) {rr : Int32 × St} {S : St} {x1 : Int32} {x2 : Int32} (hres : fX2_addStep o0 S x1 x2 = some rr) : Ct l yX2_addStep cX2_addStep 4 (some .int) 0 w 0 55 [.ref (w.1 o0), .int x1, .int x2] S (some (.int rr.1), rr.2) := by
  refine Ct.of (lv := [(0, .ref (w.1 o0)), (1, .int x1), (2, .int x2)]) hj (by decide +kernel) (Nat.le_of_ble_eq_true rfl) rfl ?_
  rintro X rfl rfl hq hX
  exact wfX2_addStep hX ho0 hq hres
def fX2_aimHere (o0 : Nat) (S : St) (x1 : Int32) : Option (St) :=
  if x1 < 0 then (some S) else (if (S.1 o0 7) ≤ x1 then (some S) else (if inb x1 288 = true then if inb x1 288 = true then bS (pI S (o0 + 4) (x1.toNatClampNeg) (((S.1 o0 7) <<< ((4 : Int32) &&& 31)) ||| ((S.1 (o0 + 4) (x1.toNatClampNeg)) &&& (15 : Int32)))) fun S1 => some S1 else none else none))
theorem wfX2_aimHere {X : CX} (hX : Ok RX2 cX2_aimHere none 0 55 2 X) {o0 : Nat} (ho0 : isL o0) {rr : St} (hq : rs X = (none, rr)) {S : St} {x1 : Int32} (hres : fX2_aimHere o0 S x1 = some rr) : Wat 0 55 0 2 X 0 [(0, .ref (ad X o0)), (1, .int x1)] [] S := by
  unfold fX2_aimHere at hres
  refine q_iload_n 1 hX 1 dX2_aimHere_0 rfl rfl rfl ?_
  refine q_if_lt 4 hX 34 dX2_aimHere_1 rfl (by decide) (fun hc => ?_) (fun hc => ?_)
  · have hres := it_t hc hres
    exact q_vret hX (eqv hq hres) dX2_aimHere_34
  · have hres := it_f hc hres
    refine q_iload_n 5 hX 1 dX2_aimHere_4 rfl rfl rfl ?_
    refine q_aload_n 6 hX 0 dX2_aimHere_5 rfl rfl rfl ?_
    refine q_getI 9 hX ci2 lf_RX2_34 (fI_L_7 ho0) dX2_aimHere_6 rfl ?_
    refine q_icmp_ge 12 hX 34 dX2_aimHere_9 rfl (by decide) (fun hc => ?_) (fun hc => ?_)
    · have hres := it_t hc hres
      exact q_vret hX (eqv hq hres) dX2_aimHere_34
    · have hres := it_f hc hres
      refine q_aload_n 13 hX 0 dX2_aimHere_12 rfl rfl rfl ?_
      refine q_getR 16 hX ci2 lf_RX2_21 (fR_L_3 ho0) dX2_aimHere_13 rfl ?_
      refine q_iload_n 17 hX 1 dX2_aimHere_16 rfl rfl rfl ?_
      refine q_aload_n 18 hX 0 dX2_aimHere_17 rfl rfl rfl ?_
      refine q_getI 21 hX ci2 lf_RX2_34 (fI_L_7 ho0) dX2_aimHere_18 rfl ?_
      refine q_iconst 22 hX dX2_aimHere_21 rfl kI_4 ?_
      refine q_ishl 23 hX dX2_aimHere_22 rfl ?_
      refine q_aload_n 24 hX 0 dX2_aimHere_23 rfl rfl rfl ?_
      refine q_getR 27 hX ci2 lf_RX2_21 (fR_L_3 ho0) dX2_aimHere_24 rfl ?_
      refine q_iload_n 28 hX 1 dX2_aimHere_27 rfl rfl rfl ?_
      obtain ⟨hb1, hres⟩ := gd hres
      refine q_iald 29 hX rfl (aF_L_4 ho0) hb1 dX2_aimHere_28 rfl ?_
      refine q_bipush 31 hX dX2_aimHere_29 rfl kB_15 ?_
      refine q_iand 32 hX dX2_aimHere_31 rfl ?_
      refine q_ior 33 hX dX2_aimHere_32 rfl ?_
      obtain ⟨hb2, hres⟩ := gd hres
      refine q_iast 34 hX rfl (aF_L_4 ho0) hb2 dX2_aimHere_33 rfl ?_
      refine q_bS hres (fun S1 _ hres => ?_)
      exact q_vret hX (eqv hq hres) dX2_aimHere_34
theorem cX2_aimHere9 {l : Launch} {w : WD} (hj : Dj w 0 55) {o0 : Nat} (ho0 : isL o0) {rr : St} {S : St} {x1 : Int32} (hres : fX2_aimHere o0 S x1 = some rr) : Ct l yX2_aimHere cX2_aimHere 2 none 0 w 0 55 [.ref (w.1 o0), .int x1] S (none, rr) := by
  refine Ct.of (lv := [(0, .ref (w.1 o0)), (1, .int x1)]) hj (by decide +kernel) (Nat.le_of_ble_eq_true rfl) rfl ?_
  rintro X rfl rfl hq hX
  exact wfX2_aimHere hX ho0 hq hres
def fX2_setLetter (o0 : Nat) (S : St) (x1 : Int32) (x2 : Int32) : Option (St) :=
  if x1 < 0 then (some S) else (if (9 : Int32) ≤ x1 then (some S) else (if inb x1 9 = true then bS (pI S (o0 + 5) (x1.toNatClampNeg) x2) fun S1 => some S1 else none))
theorem wfX2_setLetter {X : CX} (hX : Ok RX2 cX2_setLetter none 0 55 3 X) {o0 : Nat} (ho0 : isL o0) {rr : St} (hq : rs X = (none, rr)) {S : St} {x1 : Int32} {x2 : Int32} (hres : fX2_setLetter o0 S x1 x2 = some rr) : Wat 0 55 0 3 X 0 [(0, .ref (ad X o0)), (1, .int x1), (2, .int x2)] [] S := by
  unfold fX2_setLetter at hres
  refine q_iload_n 1 hX 1 dX2_setLetter_0 rfl rfl rfl ?_
  refine q_if_lt 4 hX 17 dX2_setLetter_1 rfl (by decide) (fun hc => ?_) (fun hc => ?_)
  · have hres := it_t hc hres
    exact q_vret hX (eqv hq hres) dX2_setLetter_17
  · have hres := it_f hc hres
    refine q_iload_n 5 hX 1 dX2_setLetter_4 rfl rfl rfl ?_
    refine q_bipush 7 hX dX2_setLetter_5 rfl kB_9 ?_
    refine q_icmp_ge 10 hX 17 dX2_setLetter_7 rfl (by decide) (fun hc => ?_) (fun hc => ?_)
    · have hres := it_t hc hres
      exact q_vret hX (eqv hq hres) dX2_setLetter_17
    · have hres := it_f hc hres
      refine q_aload_n 11 hX 0 dX2_setLetter_10 rfl rfl rfl ?_
      refine q_getR 14 hX ci2 lf_RX2_24 (fR_L_4 ho0) dX2_setLetter_11 rfl ?_
      refine q_iload_n 15 hX 1 dX2_setLetter_14 rfl rfl rfl ?_
      refine q_iload_n 16 hX 2 dX2_setLetter_15 rfl rfl rfl ?_
      obtain ⟨hb1, hres⟩ := gd hres
      refine q_iast 17 hX rfl (aF_L_5 ho0) hb1 dX2_setLetter_16 rfl ?_
      refine q_bS hres (fun S1 _ hres => ?_)
      exact q_vret hX (eqv hq hres) dX2_setLetter_17
theorem cX2_setLetter9 {l : Launch} {w : WD} (hj : Dj w 0 55) {o0 : Nat} (ho0 : isL o0) {rr : St} {S : St} {x1 : Int32} {x2 : Int32} (hres : fX2_setLetter o0 S x1 x2 = some rr) : Ct l yX2_setLetter cX2_setLetter 3 none 0 w 0 55 [.ref (w.1 o0), .int x1, .int x2] S (none, rr) := by
  refine Ct.of (lv := [(0, .ref (w.1 o0)), (1, .int x1), (2, .int x2)]) hj (by decide +kernel) (Nat.le_of_ble_eq_true rfl) rfl ?_
  rintro X rfl rfl hq hX
  exact wfX2_setLetter hX ho0 hq hres
def fX2_letterValue_19 (o0 : Nat) (S : St) : Option (Int32 × St) :=
  some ((0 : Int32), S)
theorem wfX2_letterValue_19 {X : CX} (hX : Ok RX2 cX2_letterValue (some .int) 0 55 2 X) {o0 : Nat} (ho0 : isL o0) {rr : Int32 × St} (hq : rs X = (some (.int rr.1), rr.2)) {S : St} (hres : fX2_letterValue_19 o0 S = some rr) : Wat 0 55 0 2 X 19 [] [] S := by
  unfold fX2_letterValue_19 at hres
  refine q_iconst 20 hX dX2_letterValue_19 rfl kI_0 ?_
  exact q_iret hX (eqi hq hres) dX2_letterValue_20
def fX2_letterValue (o0 : Nat) (S : St) (x1 : Int32) : Option (Int32 × St) :=
  if x1 < 0 then (fX2_letterValue_19 o0 S) else (if (9 : Int32) ≤ x1 then (fX2_letterValue_19 o0 S) else (if inb x1 9 = true then some ((S.1 (o0 + 5) (x1.toNatClampNeg)), S) else none))
theorem wfX2_letterValue {X : CX} (hX : Ok RX2 cX2_letterValue (some .int) 0 55 2 X) {o0 : Nat} (ho0 : isL o0) {rr : Int32 × St} (hq : rs X = (some (.int rr.1), rr.2)) {S : St} {x1 : Int32} (hres : fX2_letterValue o0 S x1 = some rr) : Wat 0 55 0 2 X 0 [(0, .ref (ad X o0)), (1, .int x1)] [] S := by
  unfold fX2_letterValue at hres
  refine q_iload_n 1 hX 1 dX2_letterValue_0 rfl rfl rfl ?_
  refine q_if_lt 4 hX 19 dX2_letterValue_1 rfl (by decide) (fun hc => ?_) (fun hc => ?_)
  · have hres := it_t hc hres
    exact q_sub [] rfl (wfX2_letterValue_19 hX ho0 hq hres)
  · have hres := it_f hc hres
    refine q_iload_n 5 hX 1 dX2_letterValue_4 rfl rfl rfl ?_
    refine q_bipush 7 hX dX2_letterValue_5 rfl kB_9 ?_
    refine q_icmp_ge 10 hX 19 dX2_letterValue_7 rfl (by decide) (fun hc => ?_) (fun hc => ?_)
    · have hres := it_t hc hres
      exact q_sub [] rfl (wfX2_letterValue_19 hX ho0 hq hres)
    · have hres := it_f hc hres
      refine q_aload_n 11 hX 0 dX2_letterValue_10 rfl rfl rfl ?_
      refine q_getR 14 hX ci2 lf_RX2_24 (fR_L_4 ho0) dX2_letterValue_11 rfl ?_
      refine q_iload_n 15 hX 1 dX2_letterValue_14 rfl rfl rfl ?_
      obtain ⟨hb1, hres⟩ := gd hres
      refine q_iald 16 hX rfl (aF_L_5 ho0) hb1 dX2_letterValue_15 rfl ?_
      refine q_goto 20 hX dX2_letterValue_16 (by decide) ?_
      exact q_iret hX (eqi hq hres) dX2_letterValue_20
theorem cX2_letterValue9 {l : Launch} {w : WD} (hj : Dj w 0 55) {o0 : Nat} (ho0 : isL o0) {rr : Int32 × St} {S : St} {x1 : Int32} (hres : fX2_letterValue o0 S x1 = some rr) : Ct l yX2_letterValue cX2_letterValue 2 (some .int) 0 w 0 55 [.ref (w.1 o0), .int x1] S (some (.int rr.1), rr.2) := by
  refine Ct.of (lv := [(0, .ref (w.1 o0)), (1, .int x1)]) hj (by decide +kernel) (Nat.le_of_ble_eq_true rfl) rfl ?_
  rintro X rfl rfl hq hX
  exact wfX2_letterValue hX ho0 hq hres
def fX2_reckon (o0 : Nat) (S : St) (x1 : Int32) (x2 : Int32) (x3 : Int32) : Option (Int32 × St) :=
  if x1 = (3 : Int32) then (some ((x2 + x3), S)) else (if x1 = (4 : Int32) then (some ((x2 - x3), S)) else (if x1 = (5 : Int32) then (some ((x2 * x3), S)) else (if x3 = 0 then (bS (pI S o0 10 (1 : Int32)) fun S1 => some ((0 : Int32), S1)) else (if x1 = (6 : Int32) then (if x3 = 0 then none else some ((x2 / x3), S)) else (if x3 = 0 then none else some ((x2 - x2 / x3 * x3), S))))))
theorem wfX2_reckon {X : CX} (hX : Ok RX2 cX2_reckon (some .int) 0 55 4 X) {o0 : Nat} (ho0 : isL o0) {rr : Int32 × St} (hq : rs X = (some (.int rr.1), rr.2)) {S : St} {x1 : Int32} {x2 : Int32} {x3 : Int32} (hres : fX2_reckon o0 S x1 x2 x3 = some rr) : Wat 0 55 0 4 X 0 [(0, .ref (ad X o0)), (1, .int x1), (2, .int x2), (3, .int x3)] [] S := by
  unfold fX2_reckon at hres
  refine q_iload_n 1 hX 1 dX2_reckon_0 rfl rfl rfl ?_
  refine q_iconst 2 hX dX2_reckon_1 rfl kI_3 ?_
  refine q_icmp_ne 5 hX 9 dX2_reckon_2 rfl (by decide) (fun hc => ?_) (fun hc => ?_)
  · have hres := it_f hc hres
    refine q_iload_n 10 hX 1 dX2_reckon_9 rfl rfl rfl ?_
    refine q_iconst 11 hX dX2_reckon_10 rfl kI_4 ?_
    refine q_icmp_ne 14 hX 18 dX2_reckon_11 rfl (by decide) (fun hc => ?_) (fun hc => ?_)
    · have hres := it_f hc hres
      refine q_iload_n 19 hX 1 dX2_reckon_18 rfl rfl rfl ?_
      refine q_iconst 20 hX dX2_reckon_19 rfl kI_5 ?_
      refine q_icmp_ne 23 hX 27 dX2_reckon_20 rfl (by decide) (fun hc => ?_) (fun hc => ?_)
      · have hres := it_f hc hres
        refine q_iload_n 28 hX 3 dX2_reckon_27 rfl rfl rfl ?_
        refine q_if_ne 31 hX 38 dX2_reckon_28 rfl (by decide) (fun hc => ?_) (fun hc => ?_)
        · have hres := it_f hc hres
          refine q_iload_n 39 hX 1 dX2_reckon_38 rfl rfl rfl ?_
          refine q_bipush 41 hX dX2_reckon_39 rfl kB_6 ?_
          refine q_icmp_ne 44 hX 50 dX2_reckon_41 rfl (by decide) (fun hc => ?_) (fun hc => ?_)
          · have hres := it_f hc hres
            refine q_iload_n 51 hX 2 dX2_reckon_50 rfl rfl rfl ?_
            refine q_iload_n 52 hX 3 dX2_reckon_51 rfl rfl rfl ?_
            obtain ⟨hn1, hres⟩ := gdn hres
            refine q_irem 53 hX dX2_reckon_52 rfl hn1 ?_
            exact q_iret hX (eqi hq hres) dX2_reckon_53
          · have hres := it_t hc hres
            refine q_iload_n 45 hX 2 dX2_reckon_44 rfl rfl rfl ?_
            refine q_iload_n 46 hX 3 dX2_reckon_45 rfl rfl rfl ?_
            obtain ⟨hn2, hres⟩ := gdn hres
            refine q_idiv 47 hX dX2_reckon_46 rfl hn2 ?_
            refine q_goto 53 hX dX2_reckon_47 (by decide) ?_
            exact q_iret hX (eqi hq hres) dX2_reckon_53
        · have hres := it_t hc hres
          refine q_aload_n 32 hX 0 dX2_reckon_31 rfl rfl rfl ?_
          refine q_iconst 33 hX dX2_reckon_32 rfl kI_1 ?_
          refine q_putI 36 hX ci2 lf_RX2_44 (fI_L_10 ho0) (nar_z rfl (by decide)) dX2_reckon_33 rfl ?_
          refine q_bS hres (fun S1 _ hres => ?_)
          refine q_iconst 37 hX dX2_reckon_36 rfl kI_0 ?_
          exact q_iret hX (eqi hq hres) dX2_reckon_37
      · have hres := it_t hc hres
        refine q_iload_n 24 hX 2 dX2_reckon_23 rfl rfl rfl ?_
        refine q_iload_n 25 hX 3 dX2_reckon_24 rfl rfl rfl ?_
        refine q_imul 26 hX dX2_reckon_25 rfl ?_
        exact q_iret hX (eqi hq hres) dX2_reckon_26
    · have hres := it_t hc hres
      refine q_iload_n 15 hX 2 dX2_reckon_14 rfl rfl rfl ?_
      refine q_iload_n 16 hX 3 dX2_reckon_15 rfl rfl rfl ?_
      refine q_isub 17 hX dX2_reckon_16 rfl ?_
      exact q_iret hX (eqi hq hres) dX2_reckon_17
  · have hres := it_t hc hres
    refine q_iload_n 6 hX 2 dX2_reckon_5 rfl rfl rfl ?_
    refine q_iload_n 7 hX 3 dX2_reckon_6 rfl rfl rfl ?_
    refine q_iadd 8 hX dX2_reckon_7 rfl ?_
    exact q_iret hX (eqi hq hres) dX2_reckon_8
theorem cX2_reckon9 {l : Launch} {w : WD} (hj : Dj w 0 55) {o0 : Nat} (ho0 : isL o0) {rr : Int32 × St} {S : St} {x1 : Int32} {x2 : Int32} {x3 : Int32} (hres : fX2_reckon o0 S x1 x2 x3 = some rr) : Ct l yX2_reckon cX2_reckon 4 (some .int) 0 w 0 55 [.ref (w.1 o0), .int x1, .int x2, .int x3] S (some (.int rr.1), rr.2) := by
  refine Ct.of (lv := [(0, .ref (w.1 o0)), (1, .int x1), (2, .int x2), (3, .int x3)]) hj (by decide +kernel) (Nat.le_of_ble_eq_true rfl) rfl ?_
  rintro X rfl rfl hq hX
  exact wfX2_reckon hX ho0 hq hres
def fX2_takeStep_66 (o0 : Nat) (S : St) (s1 : Int32) (s2 : Int32) : Option (St) :=
  if inb s1 32 = true then bS (pI S (o0 + 6) (s1.toNatClampNeg) s2) fun S1 => bS (pI S1 o0 8 ((S1.1 o0 8) + (1 : Int32))) fun S2 => some S2 else none
theorem wfX2_takeStep_66 {X : CX} (hX : Ok RX2 cX2_takeStep none 0 55 5 X) {o0 : Nat} (ho0 : isL o0) {rr : St} (hq : rs X = (none, rr)) {S : St} {s1 : Int32} {s2 : Int32} (hres : fX2_takeStep_66 o0 S s1 s2 = some rr) : Wat 0 55 1 5 X 66 [(0, .ref (ad X o0))] [.int s2, .int s1, .ref (ad X (o0 + 6))] S := by
  unfold fX2_takeStep_66 at hres
  obtain ⟨hb1, hres⟩ := gd hres
  refine q_iast 67 hX rfl (aF_L_6 ho0) hb1 dX2_takeStep_66 rfl ?_
  refine q_bS hres (fun S1 _ hres => ?_)
  refine q_aload_n 68 hX 0 dX2_takeStep_67 rfl rfl rfl ?_
  refine q_dup 69 hX dX2_takeStep_68 rfl rfl ?_
  refine q_getI 72 hX ci2 lf_RX2_37 (fI_L_8 ho0) dX2_takeStep_69 rfl ?_
  refine q_iconst 73 hX dX2_takeStep_72 rfl kI_1 ?_
  refine q_iadd 74 hX dX2_takeStep_73 rfl ?_
  refine q_putI 77 hX ci2 lf_RX2_37 (fI_L_8 ho0) (nar_i rfl) dX2_takeStep_74 rfl ?_
  refine q_bS hres (fun S2 _ hres => ?_)
  refine q_goto 214 hX dX2_takeStep_77 (by decide) ?_
  exact q_vret hX (eqv hq hres) dX2_takeStep_214
def fX2_takeStep_35 (o0 : Nat) (S : St) (x1 : Int32) (x2 : Int32) : Option (St) :=
  if (32 : Int32) ≤ (S.1 o0 8) then (some S) else (if x1 = (1 : Int32) then (fX2_takeStep_66 o0 S (S.1 o0 8) x2) else (bi (fX2_letterValue o0 S x2) fun r2 S1 => fX2_takeStep_66 o0 S1 (S.1 o0 8) r2))
theorem wfX2_takeStep_35 {X : CX} (hX : Ok RX2 cX2_takeStep none 0 55 5 X) {o0 : Nat} (ho0 : isL o0) {rr : St} (hq : rs X = (none, rr)) {S : St} {x1 : Int32} {x2 : Int32} (hres : fX2_takeStep_35 o0 S x1 x2 = some rr) : Wat 0 55 1 5 X 35 [(0, .ref (ad X o0)), (1, .int x1), (2, .int x2)] [] S := by
  unfold fX2_takeStep_35 at hres
  refine q_aload_n 36 hX 0 dX2_takeStep_35 rfl rfl rfl ?_
  refine q_getI 39 hX ci2 lf_RX2_37 (fI_L_8 ho0) dX2_takeStep_36 rfl ?_
  refine q_bipush 41 hX dX2_takeStep_39 rfl kB_32 ?_
  refine q_icmp_ge 44 hX 214 dX2_takeStep_41 rfl (by decide) (fun hc => ?_) (fun hc => ?_)
  · have hres := it_t hc hres
    exact q_vret hX (eqv hq hres) dX2_takeStep_214
  · have hres := it_f hc hres
    refine q_aload_n 45 hX 0 dX2_takeStep_44 rfl rfl rfl ?_
    refine q_getR 48 hX ci2 lf_RX2_27 (fR_L_5 ho0) dX2_takeStep_45 rfl ?_
    refine q_aload_n 49 hX 0 dX2_takeStep_48 rfl rfl rfl ?_
    refine q_getI 52 hX ci2 lf_RX2_37 (fI_L_8 ho0) dX2_takeStep_49 rfl ?_
    refine q_iload_n 53 hX 1 dX2_takeStep_52 rfl rfl rfl ?_
    refine q_iconst 54 hX dX2_takeStep_53 rfl kI_1 ?_
    refine q_icmp_ne 57 hX 61 dX2_takeStep_54 rfl (by decide) (fun hc => ?_) (fun hc => ?_)
    · have hres := it_f hc hres
      refine q_aload_n 62 hX 0 dX2_takeStep_61 rfl rfl rfl ?_
      refine q_iload_n 63 hX 2 dX2_takeStep_62 rfl rfl rfl ?_
      obtain ⟨r2, S1, hk1, hres⟩ := ob hres
      refine q_callVi 66 (st := [.int (S.1 o0 8), .ref (ad X (o0 + 6))]) (As := [.int x2]) hX (cX2_letterValue9 hX.dj ho0 hk1) cv_RX2_68 ci2 (oB_L ho0) rfl (by decide) rfl (Nat.le_of_ble_eq_true rfl) dX2_takeStep_63 rfl ?_
      exact q_sub [0] rfl (wfX2_takeStep_66 hX ho0 hq hres)
    · have hres := it_t hc hres
      refine q_iload_n 58 hX 2 dX2_takeStep_57 rfl rfl rfl ?_
      refine q_goto 66 hX dX2_takeStep_58 (by decide) ?_
      exact q_sub [0] rfl (wfX2_takeStep_66 hX ho0 hq hres)
def fX2_takeStep_211 (o0 : Nat) (S : St) (s1 : Int32) : Option (St) :=
  if s1 = 0 ∨ s1 = 1 then bS (pI S o0 9 s1) fun S1 => some S1 else none
theorem wfX2_takeStep_211 {X : CX} (hX : Ok RX2 cX2_takeStep none 0 55 5 X) {o0 : Nat} (ho0 : isL o0) {rr : St} (hq : rs X = (none, rr)) {S : St} {s1 : Int32} (hres : fX2_takeStep_211 o0 S s1 = some rr) : Wat 0 55 1 5 X 211 [] [.int s1, .ref (ad X o0)] S := by
  unfold fX2_takeStep_211 at hres
  obtain ⟨hz1, hres⟩ := gd hres
  refine q_putI 214 hX ci2 lf_RX2_40 (fI_L_9 ho0) (nar_z rfl hz1) dX2_takeStep_211 rfl ?_
  refine q_bS hres (fun S1 _ hres => ?_)
  exact q_vret hX (eqv hq hres) dX2_takeStep_214
def fX2_takeStep (o0 : Nat) (S : St) (x1 : Int32) (x2 : Int32) : Option (St) :=
  if x1 = (11 : Int32) then (if (S.1 o0 9) = 0 then (bS (pI S o0 9 (1 : Int32)) fun S6 => some S6) else (bS (pI S o0 9 (0 : Int32)) fun S5 => some S5)) else (if x1 = (1 : Int32) then (fX2_takeStep_35 o0 S x1 x2) else (if x1 = (2 : Int32) then (fX2_takeStep_35 o0 S x1 x2) else (if (S.1 o0 8) < (2 : Int32) then (some S) else (bS (pI S o0 8 ((S.1 o0 8) - (1 : Int32))) fun S1 => if inb ((S1.1 o0 8) - (1 : Int32)) 32 = true then bV ((S1.1 (o0 + 6) (((S1.1 o0 8) - (1 : Int32)).toNatClampNeg))) fun v2 => if inb (S1.1 o0 8) 32 = true then bV ((S1.1 (o0 + 6) ((S1.1 o0 8).toNatClampNeg))) fun v4 => if (8 : Int32) ≤ x1 then (bS (pI S1 o0 8 ((S1.1 o0 8) - (1 : Int32))) fun S2 => if x1 = (8 : Int32) then (if v4 ≤ v2 then (fX2_takeStep_211 o0 S2 (0 : Int32)) else (fX2_takeStep_211 o0 S2 (1 : Int32))) else (if x1 = (9 : Int32) then (if v2 ≤ v4 then (fX2_takeStep_211 o0 S2 (0 : Int32)) else (fX2_takeStep_211 o0 S2 (1 : Int32))) else (if v2 = v4 then (fX2_takeStep_211 o0 S2 (1 : Int32)) else (fX2_takeStep_211 o0 S2 (0 : Int32))))) else (bi (fX2_reckon o0 S1 x1 v2 v4) fun r6 S3 => if inb ((S1.1 o0 8) - (1 : Int32)) 32 = true then bS (pI S3 (o0 + 6) (((S1.1 o0 8) - (1 : Int32)).toNatClampNeg) r6) fun S4 => some S4 else none) else none else none))))
theorem wfX2_takeStep {X : CX} (hX : Ok RX2 cX2_takeStep none 0 55 5 X) {o0 : Nat} (ho0 : isL o0) {rr : St} (hq : rs X = (none, rr)) {S : St} {x1 : Int32} {x2 : Int32} (hres : fX2_takeStep o0 S x1 x2 = some rr) : Wat 0 55 1 5 X 0 [(0, .ref (ad X o0)), (1, .int x1), (2, .int x2)] [] S := by
  unfold fX2_takeStep at hres
  refine q_iload_n 1 hX 1 dX2_takeStep_0 rfl rfl rfl ?_
  refine q_bipush 3 hX dX2_takeStep_1 rfl kB_11 ?_
  refine q_icmp_ne 6 hX 25 dX2_takeStep_3 rfl (by decide) (fun hc => ?_) (fun hc => ?_)
  · have hres := it_f hc hres
    refine q_iload_n 26 hX 1 dX2_takeStep_25 rfl rfl rfl ?_
    refine q_iconst 27 hX dX2_takeStep_26 rfl kI_1 ?_
    refine q_icmp_eq 30 hX 35 dX2_takeStep_27 rfl (by decide) (fun hc => ?_) (fun hc => ?_)
    · have hres := it_t hc hres
      exact q_sub [0, 1, 2] rfl (wfX2_takeStep_35 hX ho0 hq hres)
    · have hres := it_f hc hres
      refine q_iload_n 31 hX 1 dX2_takeStep_30 rfl rfl rfl ?_
      refine q_iconst 32 hX dX2_takeStep_31 rfl kI_2 ?_
      refine q_icmp_ne 35 hX 80 dX2_takeStep_32 rfl (by decide) (fun hc => ?_) (fun hc => ?_)
      · have hres := it_f hc hres
        refine q_aload_n 81 hX 0 dX2_takeStep_80 rfl rfl rfl ?_
        refine q_getI 84 hX ci2 lf_RX2_37 (fI_L_8 ho0) dX2_takeStep_81 rfl ?_
        refine q_iconst 85 hX dX2_takeStep_84 rfl kI_2 ?_
        refine q_icmp_lt 88 hX 214 dX2_takeStep_85 rfl (by decide) (fun hc => ?_) (fun hc => ?_)
        · have hres := it_t hc hres
          exact q_vret hX (eqv hq hres) dX2_takeStep_214
        · have hres := it_f hc hres
          refine q_aload_n 89 hX 0 dX2_takeStep_88 rfl rfl rfl ?_
          refine q_dup 90 hX dX2_takeStep_89 rfl rfl ?_
          refine q_getI 93 hX ci2 lf_RX2_37 (fI_L_8 ho0) dX2_takeStep_90 rfl ?_
          refine q_iconst 94 hX dX2_takeStep_93 rfl kI_1 ?_
          refine q_isub 95 hX dX2_takeStep_94 rfl ?_
          refine q_putI 98 hX ci2 lf_RX2_37 (fI_L_8 ho0) (nar_i rfl) dX2_takeStep_95 rfl ?_
          refine q_bS hres (fun S1 _ hres => ?_)
          refine q_aload_n 99 hX 0 dX2_takeStep_98 rfl rfl rfl ?_
          refine q_getR 102 hX ci2 lf_RX2_27 (fR_L_5 ho0) dX2_takeStep_99 rfl ?_
          refine q_aload_n 103 hX 0 dX2_takeStep_102 rfl rfl rfl ?_
          refine q_getI 106 hX ci2 lf_RX2_37 (fI_L_8 ho0) dX2_takeStep_103 rfl ?_
          refine q_iconst 107 hX dX2_takeStep_106 rfl kI_1 ?_
          refine q_isub 108 hX dX2_takeStep_107 rfl ?_
          obtain ⟨hb1, hres⟩ := gd hres
          refine q_iald 109 hX rfl (aF_L_6 ho0) hb1 dX2_takeStep_108 rfl ?_
          refine q_istoreB_n 110 (lv0 := [(0, .ref (ad X o0)), (1, .int x1), (2, .int x2)]) hX dX2_takeStep_109 rfl rfl (by decide) rfl hres (fun v2 hres => ?_)
          refine q_aload_n 111 hX 1 dX2_takeStep_110 rfl rfl rfl ?_
          refine q_getR 114 hX ci2 lf_RX2_27 (fR_L_5 ho0) dX2_takeStep_111 rfl ?_
          refine q_aload_n 115 hX 1 dX2_takeStep_114 rfl rfl rfl ?_
          refine q_getI 118 hX ci2 lf_RX2_37 (fI_L_8 ho0) dX2_takeStep_115 rfl ?_
          obtain ⟨hb3, hres⟩ := gd hres
          refine q_iald 119 hX rfl (aF_L_6 ho0) hb3 dX2_takeStep_118 rfl ?_
          refine q_istoreB 121 (lv0 := [(3, .int v2), (0, .ref (ad X o0)), (1, .int x1), (2, .int x2)]) hX dX2_takeStep_119 rfl (by decide) rfl hres (fun v4 hres => ?_)
          refine q_iload_n 122 hX 3 dX2_takeStep_121 rfl rfl rfl ?_
          refine q_bipush 124 hX dX2_takeStep_122 rfl kB_8 ?_
          refine q_icmp_ge 127 hX 149 dX2_takeStep_124 rfl (by decide) (fun hc => ?_) (fun hc => ?_)
          · have hres := it_t hc hres
            refine q_aload_n 150 hX 2 dX2_takeStep_149 rfl rfl rfl ?_
            refine q_dup 151 hX dX2_takeStep_150 rfl rfl ?_
            refine q_getI 154 hX ci2 lf_RX2_37 (fI_L_8 ho0) dX2_takeStep_151 rfl ?_
            refine q_iconst 155 hX dX2_takeStep_154 rfl kI_1 ?_
            refine q_isub 156 hX dX2_takeStep_155 rfl ?_
            refine q_putI 159 hX ci2 lf_RX2_37 (fI_L_8 ho0) (nar_i rfl) dX2_takeStep_156 rfl ?_
            refine q_bS hres (fun S2 _ hres => ?_)
            refine q_aload_n 160 hX 2 dX2_takeStep_159 rfl rfl rfl ?_
            refine q_iload_n 161 hX 3 dX2_takeStep_160 rfl rfl rfl ?_
            refine q_bipush 163 hX dX2_takeStep_161 rfl kB_8 ?_
            refine q_icmp_ne 166 hX 180 dX2_takeStep_163 rfl (by decide) (fun hc => ?_) (fun hc => ?_)
            · have hres := it_f hc hres
              refine q_iload_n 181 hX 3 dX2_takeStep_180 rfl rfl rfl ?_
              refine q_bipush 183 hX dX2_takeStep_181 rfl kB_9 ?_
              refine q_icmp_ne 186 hX 200 dX2_takeStep_183 rfl (by decide) (fun hc => ?_) (fun hc => ?_)
              · have hres := it_f hc hres
                refine q_iload_n 201 hX 1 dX2_takeStep_200 rfl rfl rfl ?_
                refine q_iload 203 hX 0 dX2_takeStep_201 rfl rfl ?_
                refine q_icmp_ne 206 hX 210 dX2_takeStep_203 rfl (by decide) (fun hc => ?_) (fun hc => ?_)
                · have hres := it_f hc hres
                  refine q_iconst 211 hX dX2_takeStep_210 rfl kI_0 ?_
                  exact q_sub [] rfl (wfX2_takeStep_211 hX ho0 hq hres)
                · have hres := it_t hc hres
                  refine q_iconst 207 hX dX2_takeStep_206 rfl kI_1 ?_
                  refine q_goto 211 hX dX2_takeStep_207 (by decide) ?_
                  exact q_sub [] rfl (wfX2_takeStep_211 hX ho0 hq hres)
              · have hres := it_t hc hres
                refine q_iload_n 187 hX 1 dX2_takeStep_186 rfl rfl rfl ?_
                refine q_iload 189 hX 0 dX2_takeStep_187 rfl rfl ?_
                refine q_icmp_le 192 hX 196 dX2_takeStep_189 rfl (by decide) (fun hc => ?_) (fun hc => ?_)
                · have hres := it_t hc hres
                  refine q_iconst 197 hX dX2_takeStep_196 rfl kI_0 ?_
                  refine q_goto 211 hX dX2_takeStep_197 (by decide) ?_
                  exact q_sub [] rfl (wfX2_takeStep_211 hX ho0 hq hres)
                · have hres := it_f hc hres
                  refine q_iconst 193 hX dX2_takeStep_192 rfl kI_1 ?_
                  refine q_goto 211 hX dX2_takeStep_193 (by decide) ?_
                  exact q_sub [] rfl (wfX2_takeStep_211 hX ho0 hq hres)
            · have hres := it_t hc hres
              refine q_iload_n 167 hX 1 dX2_takeStep_166 rfl rfl rfl ?_
              refine q_iload 169 hX 0 dX2_takeStep_167 rfl rfl ?_
              refine q_icmp_ge 172 hX 176 dX2_takeStep_169 rfl (by decide) (fun hc => ?_) (fun hc => ?_)
              · have hres := it_t hc hres
                refine q_iconst 177 hX dX2_takeStep_176 rfl kI_0 ?_
                refine q_goto 211 hX dX2_takeStep_177 (by decide) ?_
                exact q_sub [] rfl (wfX2_takeStep_211 hX ho0 hq hres)
              · have hres := it_f hc hres
                refine q_iconst 173 hX dX2_takeStep_172 rfl kI_1 ?_
                refine q_goto 211 hX dX2_takeStep_173 (by decide) ?_
                exact q_sub [] rfl (wfX2_takeStep_211 hX ho0 hq hres)
          · have hres := it_f hc hres
            refine q_aload_n 128 hX 2 dX2_takeStep_127 rfl rfl rfl ?_
            refine q_getR 131 hX ci2 lf_RX2_27 (fR_L_5 ho0) dX2_takeStep_128 rfl ?_
            refine q_aload_n 132 hX 2 dX2_takeStep_131 rfl rfl rfl ?_
            refine q_getI 135 hX ci2 lf_RX2_37 (fI_L_8 ho0) dX2_takeStep_132 rfl ?_
            refine q_iconst 136 hX dX2_takeStep_135 rfl kI_1 ?_
            refine q_isub 137 hX dX2_takeStep_136 rfl ?_
            refine q_aload_n 138 hX 2 dX2_takeStep_137 rfl rfl rfl ?_
            refine q_iload_n 139 hX 3 dX2_takeStep_138 rfl rfl rfl ?_
            refine q_iload_n 140 hX 1 dX2_takeStep_139 rfl rfl rfl ?_
            refine q_iload 142 hX 0 dX2_takeStep_140 rfl rfl ?_
            obtain ⟨r6, S3, hk5, hres⟩ := ob hres
            refine q_callVi 145 (st := [.int ((S1.1 o0 8) - (1 : Int32)), .ref (ad X (o0 + 6))]) (As := [.int x1, .int v2, .int v4]) hX (cX2_reckon9 hX.dj ho0 hk5) cv_RX2_71 ci2 (oB_L ho0) rfl (by decide) rfl (Nat.le_of_ble_eq_true rfl) dX2_takeStep_142 rfl ?_
            obtain ⟨hb7, hres⟩ := gd hres
            refine q_iast 146 hX rfl (aF_L_6 ho0) hb7 dX2_takeStep_145 rfl ?_
            refine q_bS hres (fun S4 _ hres => ?_)
            refine q_goto 214 hX dX2_takeStep_146 (by decide) ?_
            exact q_vret hX (eqv hq hres) dX2_takeStep_214
      · have hres := it_t hc hres
        exact q_sub [0, 1, 2] rfl (wfX2_takeStep_35 hX ho0 hq hres)
  · have hres := it_t hc hres
    refine q_aload_n 7 hX 0 dX2_takeStep_6 rfl rfl rfl ?_
    refine q_aload_n 8 hX 0 dX2_takeStep_7 rfl rfl rfl ?_
    refine q_getI 11 hX ci2 lf_RX2_40 (fI_L_9 ho0) dX2_takeStep_8 rfl ?_
    refine q_if_ne 14 hX 18 dX2_takeStep_11 rfl (by decide) (fun hc => ?_) (fun hc => ?_)
    · have hres := it_f hc hres
      refine q_iconst 19 hX dX2_takeStep_18 rfl kI_0 ?_
      refine q_putI 22 hX ci2 lf_RX2_40 (fI_L_9 ho0) (nar_z rfl (by decide)) dX2_takeStep_19 rfl ?_
      refine q_bS hres (fun S5 _ hres => ?_)
      refine q_goto 214 hX dX2_takeStep_22 (by decide) ?_
      exact q_vret hX (eqv hq hres) dX2_takeStep_214
    · have hres := it_t hc hres
      refine q_iconst 15 hX dX2_takeStep_14 rfl kI_1 ?_
      refine q_goto 19 hX dX2_takeStep_15 (by decide) ?_
      refine q_putI 22 hX ci2 lf_RX2_40 (fI_L_9 ho0) (nar_z rfl (by decide)) dX2_takeStep_19 rfl ?_
      refine q_bS hres (fun S6 _ hres => ?_)
      refine q_goto 214 hX dX2_takeStep_22 (by decide) ?_
      exact q_vret hX (eqv hq hres) dX2_takeStep_214
theorem cX2_takeStep9 {l : Launch} {w : WD} (hj : Dj w 0 55) {o0 : Nat} (ho0 : isL o0) {rr : St} {S : St} {x1 : Int32} {x2 : Int32} (hres : fX2_takeStep o0 S x1 x2 = some rr) : Ct l yX2_takeStep cX2_takeStep 5 none 1 w 0 55 [.ref (w.1 o0), .int x1, .int x2] S (none, rr) := by
  refine Ct.of (lv := [(0, .ref (w.1 o0)), (1, .int x1), (2, .int x2)]) hj (by decide +kernel) (Nat.le_of_ble_eq_true rfl) rfl ?_
  rintro X rfl rfl hq hX
  exact wfX2_takeStep hX ho0 hq hres
def fX2_work_124 (o0 : Nat) (rc19 : St → Int32 → Int32 → Option (St)) (S : St) (x3 : Int32) (x4 : Int32) (x5 : Int32) (s0 : Int32) : Option (St) :=
  if (12 : Int32) ≤ x4 then (bV (x3 + (1 : Int32)) fun v1 => rc19 S s0 v1) else (bv (fX2_takeStep o0 S x4 x5) fun S1 => bV (x3 + (1 : Int32)) fun v3 => rc19 S1 s0 v3)
theorem wfX2_work_124 {X : CX} (hX : Ok RX2 cX2_work none 0 55 7 X) {o0 : Nat} (ho0 : isL o0) {rr : St} (hq : rs X = (none, rr)) {rc19 : St → Int32 → Int32 → Option (St)} (hrc19 : ∀ (S : St) (x2 : Int32) (x3 : Int32), rc19 S x2 x3 = some rr → Wat 0 55 2 7 X 19 [(0, .ref (ad X o0)), (2, .int x2), (3, .int x3)] [] S) {S : St} {x3 : Int32} {x4 : Int32} {x5 : Int32} {s0 : Int32} (hres : fX2_work_124 o0 rc19 S x3 x4 x5 s0 = some rr) : Wat 0 55 2 7 X 124 [(0, .ref (ad X o0)), (3, .int x3), (4, .int x4), (5, .int x5)] [.int s0] S := by
  unfold fX2_work_124 at hres
  refine q_istore_n 125 (lv' := [(2, .int s0), (0, .ref (ad X o0)), (3, .int x3), (4, .int x4), (5, .int x5)]) hX dX2_work_124 rfl rfl (by decide) rfl ?_
  refine q_iload 127 hX 3 dX2_work_125 rfl rfl ?_
  refine q_bipush 129 hX dX2_work_127 rfl kB_12 ?_
  refine q_icmp_ge 132 hX 140 dX2_work_129 rfl (by decide) (fun hc => ?_) (fun hc => ?_)
  · have hres := it_t hc hres
    refine q_iincB 143 2 (lv0 := [(2, .int s0), (0, .ref (ad X o0)), (4, .int x4), (5, .int x5)]) hX dX2_work_140 rfl rfl kI_1 (by decide) rfl hres (fun v1 hres => ?_)
    refine q_goto 19 hX dX2_work_143 (by decide) ?_
    exact q_sub [2, 1, 0] rfl (hrc19 _ _ _ hres)
  · have hres := it_f hc hres
    refine q_aload_n 133 hX 1 dX2_work_132 rfl rfl rfl ?_
    refine q_iload 135 hX 3 dX2_work_133 rfl rfl ?_
    refine q_iload 137 hX 4 dX2_work_135 rfl rfl ?_
    obtain ⟨S1, hk2, hres⟩ := obv hres
    refine q_callVv 140 (st := []) (As := [.int x4, .int x5]) hX (cX2_takeStep9 hX.dj ho0 hk2) cv_RX2_64 ci2 (oB_L ho0) rfl (by decide) rfl (Nat.le_of_ble_eq_true rfl) dX2_work_137 rfl ?_
    refine q_iincB 143 2 (lv0 := [(2, .int s0), (0, .ref (ad X o0)), (4, .int x4), (5, .int x5)]) hX dX2_work_140 rfl rfl kI_1 (by decide) rfl hres (fun v3 hres => ?_)
    refine q_goto 19 hX dX2_work_143 (by decide) ?_
    exact q_sub [2, 1, 0] rfl (hrc19 _ _ _ hres)
def fX2_work_109 (o0 : Nat) (rc19 : St → Int32 → Int32 → Option (St)) (S : St) (x2 : Int32) (x3 : Int32) (x4 : Int32) (x5 : Int32) (s0 : Int32) : Option (St) :=
  if s0 = 0 then (fX2_work_124 o0 rc19 S x3 x4 x5 (x2 + (1 : Int32))) else (fX2_work_124 o0 rc19 S x3 x4 x5 x5)
theorem wfX2_work_109 {X : CX} (hX : Ok RX2 cX2_work none 0 55 7 X) {o0 : Nat} (ho0 : isL o0) {rr : St} (hq : rs X = (none, rr)) {rc19 : St → Int32 → Int32 → Option (St)} (hrc19 : ∀ (S : St) (x2 : Int32) (x3 : Int32), rc19 S x2 x3 = some rr → Wat 0 55 2 7 X 19 [(0, .ref (ad X o0)), (2, .int x2), (3, .int x3)] [] S) {S : St} {x2 : Int32} {x3 : Int32} {x4 : Int32} {x5 : Int32} {s0 : Int32} (hres : fX2_work_109 o0 rc19 S x2 x3 x4 x5 s0 = some rr) : Wat 0 55 2 7 X 109 [(0, .ref (ad X o0)), (2, .int x2), (3, .int x3), (4, .int x4), (5, .int x5)] [.int s0] S := by
  unfold fX2_work_109 at hres
  refine q_istore 111 (lv' := [(6, .int s0), (0, .ref (ad X o0)), (2, .int x2), (3, .int x3), (4, .int x4), (5, .int x5)]) hX dX2_work_109 rfl (by decide) rfl ?_
  refine q_iload 113 hX 0 dX2_work_111 rfl rfl ?_
  refine q_if_eq 116 hX 121 dX2_work_113 rfl (by decide) (fun hc => ?_) (fun hc => ?_)
  · have hres := it_t hc hres
    refine q_iload_n 122 hX 2 dX2_work_121 rfl rfl rfl ?_
    refine q_iconst 123 hX dX2_work_122 rfl kI_1 ?_
    refine q_iadd 124 hX dX2_work_123 rfl ?_
    exact q_sub [1, 3, 4, 5] rfl (wfX2_work_124 hX ho0 hq hrc19 hres)
  · have hres := it_f hc hres
    refine q_iload 118 hX 5 dX2_work_116 rfl rfl ?_
    refine q_goto 124 hX dX2_work_118 (by decide) ?_
    exact q_sub [1, 3, 4, 5] rfl (wfX2_work_124 hX ho0 hq hrc19 hres)
def fX2_work_108 (o0 : Nat) (rc19 : St → Int32 → Int32 → Option (St)) (S : St) (x2 : Int32) (x3 : Int32) (x4 : Int32) (x5 : Int32) : Option (St) :=
  fX2_work_109 o0 rc19 S x2 x3 x4 x5 (0 : Int32)
theorem wfX2_work_108 {X : CX} (hX : Ok RX2 cX2_work none 0 55 7 X) {o0 : Nat} (ho0 : isL o0) {rr : St} (hq : rs X = (none, rr)) {rc19 : St → Int32 → Int32 → Option (St)} (hrc19 : ∀ (S : St) (x2 : Int32) (x3 : Int32), rc19 S x2 x3 = some rr → Wat 0 55 2 7 X 19 [(0, .ref (ad X o0)), (2, .int x2), (3, .int x3)] [] S) {S : St} {x2 : Int32} {x3 : Int32} {x4 : Int32} {x5 : Int32} (hres : fX2_work_108 o0 rc19 S x2 x3 x4 x5 = some rr) : Wat 0 55 2 7 X 108 [(0, .ref (ad X o0)), (2, .int x2), (3, .int x3), (4, .int x4), (5, .int x5)] [] S := by
  unfold fX2_work_108 at hres
  refine q_iconst 109 hX dX2_work_108 rfl kI_0 ?_
  exact q_sub [0, 1, 2, 3, 4] rfl (wfX2_work_109 hX ho0 hq hrc19 hres)
def fX2_work_90 (o0 : Nat) (rc19 : St → Int32 → Int32 → Option (St)) (S : St) (x2 : Int32) (x3 : Int32) (x4 : Int32) (x5 : Int32) : Option (St) :=
  if x4 = (13 : Int32) then (if (S.1 o0 9) = 0 then (fX2_work_109 o0 rc19 S x2 x3 x4 x5 (1 : Int32)) else (fX2_work_108 o0 rc19 S x2 x3 x4 x5)) else (fX2_work_108 o0 rc19 S x2 x3 x4 x5)
theorem wfX2_work_90 {X : CX} (hX : Ok RX2 cX2_work none 0 55 7 X) {o0 : Nat} (ho0 : isL o0) {rr : St} (hq : rs X = (none, rr)) {rc19 : St → Int32 → Int32 → Option (St)} (hrc19 : ∀ (S : St) (x2 : Int32) (x3 : Int32), rc19 S x2 x3 = some rr → Wat 0 55 2 7 X 19 [(0, .ref (ad X o0)), (2, .int x2), (3, .int x3)] [] S) {S : St} {x2 : Int32} {x3 : Int32} {x4 : Int32} {x5 : Int32} (hres : fX2_work_90 o0 rc19 S x2 x3 x4 x5 = some rr) : Wat 0 55 2 7 X 90 [(0, .ref (ad X o0)), (2, .int x2), (3, .int x3), (4, .int x4), (5, .int x5)] [] S := by
  unfold fX2_work_90 at hres
  refine q_iload 92 hX 3 dX2_work_90 rfl rfl ?_
  refine q_bipush 94 hX dX2_work_92 rfl kB_13 ?_
  refine q_icmp_ne 97 hX 108 dX2_work_94 rfl (by decide) (fun hc => ?_) (fun hc => ?_)
  · have hres := it_f hc hres
    exact q_sub [0, 1, 2, 3, 4] rfl (wfX2_work_108 hX ho0 hq hrc19 hres)
  · have hres := it_t hc hres
    refine q_aload_n 98 hX 0 dX2_work_97 rfl rfl rfl ?_
    refine q_getI 101 hX ci2 lf_RX2_40 (fI_L_9 ho0) dX2_work_98 rfl ?_
    refine q_if_ne 104 hX 108 dX2_work_101 rfl (by decide) (fun hc => ?_) (fun hc => ?_)
    · have hres := it_f hc hres
      exact q_sub [0, 1, 2, 3, 4] rfl (wfX2_work_108 hX ho0 hq hrc19 hres)
    · have hres := it_t hc hres
      refine q_iconst 105 hX dX2_work_104 rfl kI_1 ?_
      refine q_goto 109 hX dX2_work_105 (by decide) ?_
      exact q_sub [0, 1, 2, 3, 4] rfl (wfX2_work_109 hX ho0 hq hrc19 hres)
def bX2_work_19 (o0 : Nat) (rc19 : St → Int32 → Int32 → Option (St)) (S : St) (x2 : Int32) (x3 : Int32) : Option (St) :=
  if (288 : Int32) ≤ x3 then (some S) else (if (S.1 o0 10) = 0 then (if x2 < 0 then (some S) else (if (S.1 o0 7) ≤ x2 then (some S) else (if inb x2 288 = true then if (S.1 (o0 + 4) (x2.toNatClampNeg)) = 0 then (some S) else (if inb x2 288 = true then bV (((S.1 (o0 + 4) (x2.toNatClampNeg)) &&& (15 : Int32))) fun v3 => if inb x2 288 = true then bV (((S.1 (o0 + 4) (x2.toNatClampNeg)) >>> ((4 : Int32) &&& 31))) fun v5 => if v3 = (12 : Int32) then (if (S.1 o0 9) = 0 then (fX2_work_90 o0 rc19 S x2 x3 v3 v5) else (fX2_work_109 o0 rc19 S x2 x3 v3 v5 (1 : Int32))) else (fX2_work_90 o0 rc19 S x2 x3 v3 v5) else none else none) else none))) else (some S))
theorem wbX2_work_19 {X : CX} (hX : Ok RX2 cX2_work none 0 55 7 X) {o0 : Nat} (ho0 : isL o0) {rr : St} (hq : rs X = (none, rr)) {rc19 : St → Int32 → Int32 → Option (St)} (hrc19 : ∀ (S : St) (x2 : Int32) (x3 : Int32), rc19 S x2 x3 = some rr → Wat 0 55 2 7 X 19 [(0, .ref (ad X o0)), (2, .int x2), (3, .int x3)] [] S) {S : St} {x2 : Int32} {x3 : Int32} (hres : bX2_work_19 o0 rc19 S x2 x3 = some rr) : Wat 0 55 2 7 X 19 [(0, .ref (ad X o0)), (2, .int x2), (3, .int x3)] [] S := by
  unfold bX2_work_19 at hres
  refine q_iload_n 20 hX 2 dX2_work_19 rfl rfl rfl ?_
  refine q_sipush 23 hX dX2_work_20 rfl kS_288 ?_
  refine q_icmp_ge 26 hX 146 dX2_work_23 rfl (by decide) (fun hc => ?_) (fun hc => ?_)
  · have hres := it_t hc hres
    exact q_vret hX (eqv hq hres) dX2_work_146
  · have hres := it_f hc hres
    refine q_aload_n 27 hX 0 dX2_work_26 rfl rfl rfl ?_
    refine q_getI 30 hX ci2 lf_RX2_44 (fI_L_10 ho0) dX2_work_27 rfl ?_
    refine q_if_ne 33 hX 146 dX2_work_30 rfl (by decide) (fun hc => ?_) (fun hc => ?_)
    · have hres := it_f hc hres
      exact q_vret hX (eqv hq hres) dX2_work_146
    · have hres := it_t hc hres
      refine q_iload_n 34 hX 1 dX2_work_33 rfl rfl rfl ?_
      refine q_if_lt 37 hX 54 dX2_work_34 rfl (by decide) (fun hc => ?_) (fun hc => ?_)
      · have hres := it_t hc hres
        exact q_vret hX (eqv hq hres) dX2_work_54
      · have hres := it_f hc hres
        refine q_iload_n 38 hX 1 dX2_work_37 rfl rfl rfl ?_
        refine q_aload_n 39 hX 0 dX2_work_38 rfl rfl rfl ?_
        refine q_getI 42 hX ci2 lf_RX2_34 (fI_L_7 ho0) dX2_work_39 rfl ?_
        refine q_icmp_ge 45 hX 54 dX2_work_42 rfl (by decide) (fun hc => ?_) (fun hc => ?_)
        · have hres := it_t hc hres
          exact q_vret hX (eqv hq hres) dX2_work_54
        · have hres := it_f hc hres
          refine q_aload_n 46 hX 0 dX2_work_45 rfl rfl rfl ?_
          refine q_getR 49 hX ci2 lf_RX2_21 (fR_L_3 ho0) dX2_work_46 rfl ?_
          refine q_iload_n 50 hX 1 dX2_work_49 rfl rfl rfl ?_
          obtain ⟨hb1, hres⟩ := gd hres
          refine q_iald 51 hX rfl (aF_L_4 ho0) hb1 dX2_work_50 rfl ?_
          refine q_if_ne 54 hX 55 dX2_work_51 rfl (by decide) (fun hc => ?_) (fun hc => ?_)
          · have hres := it_f hc hres
            refine q_aload_n 56 hX 0 dX2_work_55 rfl rfl rfl ?_
            refine q_getR 59 hX ci2 lf_RX2_21 (fR_L_3 ho0) dX2_work_56 rfl ?_
            refine q_iload_n 60 hX 1 dX2_work_59 rfl rfl rfl ?_
            obtain ⟨hb2, hres⟩ := gd hres
            refine q_iald 61 hX rfl (aF_L_4 ho0) hb2 dX2_work_60 rfl ?_
            refine q_bipush 63 hX dX2_work_61 rfl kB_15 ?_
            refine q_iand 64 hX dX2_work_63 rfl ?_
            refine q_istoreB 66 (lv0 := [(0, .ref (ad X o0)), (2, .int x2), (3, .int x3)]) hX dX2_work_64 rfl (by decide) rfl hres (fun v3 hres => ?_)
            refine q_aload_n 67 hX 1 dX2_work_66 rfl rfl rfl ?_
            refine q_getR 70 hX ci2 lf_RX2_21 (fR_L_3 ho0) dX2_work_67 rfl ?_
            refine q_iload_n 71 hX 2 dX2_work_70 rfl rfl rfl ?_
            obtain ⟨hb4, hres⟩ := gd hres
            refine q_iald 72 hX rfl (aF_L_4 ho0) hb4 dX2_work_71 rfl ?_
            refine q_iconst 73 hX dX2_work_72 rfl kI_4 ?_
            refine q_ishr 74 hX dX2_work_73 rfl ?_
            refine q_istoreB 76 (lv0 := [(4, .int v3), (0, .ref (ad X o0)), (2, .int x2), (3, .int x3)]) hX dX2_work_74 rfl (by decide) rfl hres (fun v5 hres => ?_)
            refine q_iload 78 hX 1 dX2_work_76 rfl rfl ?_
            refine q_bipush 80 hX dX2_work_78 rfl kB_12 ?_
            refine q_icmp_ne 83 hX 90 dX2_work_80 rfl (by decide) (fun hc => ?_) (fun hc => ?_)
            · have hres := it_f hc hres
              exact q_sub [2, 3, 4, 1, 0] rfl (wfX2_work_90 hX ho0 hq hrc19 hres)
            · have hres := it_t hc hres
              refine q_aload_n 84 hX 2 dX2_work_83 rfl rfl rfl ?_
              refine q_getI 87 hX ci2 lf_RX2_40 (fI_L_9 ho0) dX2_work_84 rfl ?_
              refine q_if_ne 90 hX 104 dX2_work_87 rfl (by decide) (fun hc => ?_) (fun hc => ?_)
              · have hres := it_f hc hres
                refine q_iconst 105 hX dX2_work_104 rfl kI_1 ?_
                refine q_goto 109 hX dX2_work_105 (by decide) ?_
                exact q_sub [2, 3, 4, 1, 0] rfl (wfX2_work_109 hX ho0 hq hrc19 hres)
              · have hres := it_t hc hres
                exact q_sub [2, 3, 4, 1, 0] rfl (wfX2_work_90 hX ho0 hq hrc19 hres)
          · have hres := it_t hc hres
            exact q_vret hX (eqv hq hres) dX2_work_54
def fX2_work_19 (o0 : Nat) : Nat → St → Int32 → Int32 → Option (St)
  | 0 => fun _ _ _ => none
  | k + 1 => fun S x2 x3 => bX2_work_19 o0 (fX2_work_19 o0 k) S x2 x3
theorem wfX2_work_19 {X : CX} (hX : Ok RX2 cX2_work none 0 55 7 X) {o0 : Nat} (ho0 : isL o0) {rr : St} (hq : rs X = (none, rr)) (k : Nat) : ∀ (S : St) (x2 : Int32) (x3 : Int32), fX2_work_19 o0 k S x2 x3 = some rr → Wat 0 55 2 7 X 19 [(0, .ref (ad X o0)), (2, .int x2), (3, .int x3)] [] S := by
  induction k with
  | zero => intro S x2 x3 hres; exact absurd hres (by simp [fX2_work_19])
  | succ k ih => intro S x2 x3 hres; exact wbX2_work_19 hX ho0 hq ih hres
def fX2_work (o0 : Nat) (S : St) (x1 : Int32) : Option (St) :=
  bS (pI S o0 8 (0 : Int32)) fun S1 => bS (pI S1 o0 9 (0 : Int32)) fun S2 => bS (pI S2 o0 10 (0 : Int32)) fun S3 => fX2_work_19 o0 300 S3 x1 (0 : Int32)
theorem wfX2_work {X : CX} (hX : Ok RX2 cX2_work none 0 55 7 X) {o0 : Nat} (ho0 : isL o0) {rr : St} (hq : rs X = (none, rr)) {S : St} {x1 : Int32} (hres : fX2_work o0 S x1 = some rr) : Wat 0 55 2 7 X 0 [(0, .ref (ad X o0)), (1, .int x1)] [] S := by
  unfold fX2_work at hres
  refine q_aload_n 1 hX 0 dX2_work_0 rfl rfl rfl ?_
  refine q_iconst 2 hX dX2_work_1 rfl kI_0 ?_
  refine q_putI 5 hX ci2 lf_RX2_37 (fI_L_8 ho0) (nar_i rfl) dX2_work_2 rfl ?_
  refine q_bS hres (fun S1 _ hres => ?_)
  refine q_aload_n 6 hX 0 dX2_work_5 rfl rfl rfl ?_
  refine q_iconst 7 hX dX2_work_6 rfl kI_0 ?_
  refine q_putI 10 hX ci2 lf_RX2_40 (fI_L_9 ho0) (nar_z rfl (by decide)) dX2_work_7 rfl ?_
  refine q_bS hres (fun S2 _ hres => ?_)
  refine q_aload_n 11 hX 0 dX2_work_10 rfl rfl rfl ?_
  refine q_iconst 12 hX dX2_work_11 rfl kI_0 ?_
  refine q_putI 15 hX ci2 lf_RX2_44 (fI_L_10 ho0) (nar_z rfl (by decide)) dX2_work_12 rfl ?_
  refine q_bS hres (fun S3 _ hres => ?_)
  refine q_iload_n 16 hX 1 dX2_work_15 rfl rfl rfl ?_
  refine q_istore_n 17 (lv' := [(2, .int x1), (0, .ref (ad X o0)), (1, .int x1)]) hX dX2_work_16 rfl rfl (by decide) rfl ?_
  refine q_iconst 18 hX dX2_work_17 rfl kI_0 ?_
  refine q_istore_n 19 (lv' := [(3, .int (0 : Int32)), (2, .int x1), (0, .ref (ad X o0)), (1, .int x1)]) hX dX2_work_18 rfl rfl (by decide) rfl ?_
  exact q_sub [2, 1, 0] rfl (wfX2_work_19 hX ho0 hq _ _ _ _ hres)
theorem cX2_work9 {l : Launch} {w : WD} (hj : Dj w 0 55) {o0 : Nat} (ho0 : isL o0) {rr : St} {S : St} {x1 : Int32} (hres : fX2_work o0 S x1 = some rr) : Ct l yX2_work cX2_work 7 none 2 w 0 55 [.ref (w.1 o0), .int x1] S (none, rr) := by
  refine Ct.of (lv := [(0, .ref (w.1 o0)), (1, .int x1)]) hj (by decide +kernel) (Nat.le_of_ble_eq_true rfl) rfl ?_
  rintro X rfl rfl hq hX
  exact wfX2_work hX ho0 hq hres
def bX2_firstRule_2 (o0 : Nat) (rc2 : St → Int32 → Int32 → Option (Int32 × St)) (S : St) (x1 : Int32) (x2 : Int32) : Option (Int32 × St) :=
  if (S.1 o0 6) ≤ x2 then (some ((-1 : Int32), S)) else (if inb x2 16 = true then if (S.1 (o0 + 1) (x2.toNatClampNeg)) = x1 then (if inb x2 16 = true then bv (fX2_work o0 S (S.1 (o0 + 3) (x2.toNatClampNeg))) fun S1 => if (S1.1 o0 9) = 0 then (bV (x2 + (1 : Int32)) fun v5 => rc2 S1 x1 v5) else (if (S1.1 o0 10) = 0 then (some (x2, S1)) else (bV (x2 + (1 : Int32)) fun v6 => rc2 S1 x1 v6)) else none) else (bV (x2 + (1 : Int32)) fun v2 => rc2 S x1 v2) else none)
theorem wbX2_firstRule_2 {X : CX} (hX : Ok RX2 cX2_firstRule (some .int) 0 55 3 X) {o0 : Nat} (ho0 : isL o0) {rr : Int32 × St} (hq : rs X = (some (.int rr.1), rr.2)) {rc2 : St → Int32 → Int32 → Option (Int32 × St)} (hrc2 : ∀ (S : St) (x1 : Int32) (x2 : Int32), rc2 S x1 x2 = some rr → Wat 0 55 3 3 X 2 [(0, .ref (ad X o0)), (1, .int x1), (2, .int x2)] [] S) {S : St} {x1 : Int32} {x2 : Int32} (hres : bX2_firstRule_2 o0 rc2 S x1 x2 = some rr) : Wat 0 55 3 3 X 2 [(0, .ref (ad X o0)), (1, .int x1), (2, .int x2)] [] S := by
  unfold bX2_firstRule_2 at hres
  refine q_iload_n 3 hX 2 dX2_firstRule_2 rfl rfl rfl ?_
  refine q_aload_n 4 hX 0 dX2_firstRule_3 rfl rfl rfl ?_
  refine q_getI 7 hX ci2 lf_RX2_30 (fI_L_6 ho0) dX2_firstRule_4 rfl ?_
  refine q_icmp_ge 10 hX 52 dX2_firstRule_7 rfl (by decide) (fun hc => ?_) (fun hc => ?_)
  · have hres := it_t hc hres
    refine q_iconst 53 hX dX2_firstRule_52 rfl kI_m1 ?_
    exact q_iret hX (eqi hq hres) dX2_firstRule_53
  · have hres := it_f hc hres
    refine q_aload_n 11 hX 0 dX2_firstRule_10 rfl rfl rfl ?_
    refine q_getR 14 hX ci2 lf_RX2_11 (fR_L_0 ho0) dX2_firstRule_11 rfl ?_
    refine q_iload_n 15 hX 2 dX2_firstRule_14 rfl rfl rfl ?_
    obtain ⟨hb1, hres⟩ := gd hres
    refine q_iald 16 hX rfl (aF_L_1 ho0) hb1 dX2_firstRule_15 rfl ?_
    refine q_iload_n 17 hX 1 dX2_firstRule_16 rfl rfl rfl ?_
    refine q_icmp_ne 20 hX 46 dX2_firstRule_17 rfl (by decide) (fun hc => ?_) (fun hc => ?_)
    · have hres := it_f hc hres
      refine q_iincB 49 2 (lv0 := [(0, .ref (ad X o0)), (1, .int x1)]) hX dX2_firstRule_46 rfl rfl kI_1 (by decide) rfl hres (fun v2 hres => ?_)
      refine q_goto 2 hX dX2_firstRule_49 (by decide) ?_
      exact q_sub [1, 2, 0] rfl (hrc2 _ _ _ hres)
    · have hres := it_t hc hres
      refine q_aload_n 21 hX 0 dX2_firstRule_20 rfl rfl rfl ?_
      refine q_aload_n 22 hX 0 dX2_firstRule_21 rfl rfl rfl ?_
      refine q_getR 25 hX ci2 lf_RX2_18 (fR_L_2 ho0) dX2_firstRule_22 rfl ?_
      refine q_iload_n 26 hX 2 dX2_firstRule_25 rfl rfl rfl ?_
      obtain ⟨hb3, hres⟩ := gd hres
      refine q_iald 27 hX rfl (aF_L_3 ho0) hb3 dX2_firstRule_26 rfl ?_
      obtain ⟨S1, hk4, hres⟩ := obv hres
      refine q_callVv 30 (st := []) (As := [.int (S.1 (o0 + 3) (x2.toNatClampNeg))]) hX (cX2_work9 hX.dj ho0 hk4) cv_RX2_51 ci2 (oB_L ho0) rfl (by decide) rfl (Nat.le_of_ble_eq_true rfl) dX2_firstRule_27 rfl ?_
      refine q_aload_n 31 hX 0 dX2_firstRule_30 rfl rfl rfl ?_
      refine q_getI 34 hX ci2 lf_RX2_40 (fI_L_9 ho0) dX2_firstRule_31 rfl ?_
      refine q_if_eq 37 hX 46 dX2_firstRule_34 rfl (by decide) (fun hc => ?_) (fun hc => ?_)
      · have hres := it_t hc hres
        refine q_iincB 49 2 (lv0 := [(0, .ref (ad X o0)), (1, .int x1)]) hX dX2_firstRule_46 rfl rfl kI_1 (by decide) rfl hres (fun v5 hres => ?_)
        refine q_goto 2 hX dX2_firstRule_49 (by decide) ?_
        exact q_sub [1, 2, 0] rfl (hrc2 _ _ _ hres)
      · have hres := it_f hc hres
        refine q_aload_n 38 hX 0 dX2_firstRule_37 rfl rfl rfl ?_
        refine q_getI 41 hX ci2 lf_RX2_44 (fI_L_10 ho0) dX2_firstRule_38 rfl ?_
        refine q_if_ne 44 hX 46 dX2_firstRule_41 rfl (by decide) (fun hc => ?_) (fun hc => ?_)
        · have hres := it_f hc hres
          refine q_iincB 49 2 (lv0 := [(0, .ref (ad X o0)), (1, .int x1)]) hX dX2_firstRule_46 rfl rfl kI_1 (by decide) rfl hres (fun v6 hres => ?_)
          refine q_goto 2 hX dX2_firstRule_49 (by decide) ?_
          exact q_sub [1, 2, 0] rfl (hrc2 _ _ _ hres)
        · have hres := it_t hc hres
          refine q_iload_n 45 hX 2 dX2_firstRule_44 rfl rfl rfl ?_
          exact q_iret hX (eqi hq hres) dX2_firstRule_45
def fX2_firstRule_2 (o0 : Nat) : Nat → St → Int32 → Int32 → Option (Int32 × St)
  | 0 => fun _ _ _ => none
  | k + 1 => fun S x1 x2 => bX2_firstRule_2 o0 (fX2_firstRule_2 o0 k) S x1 x2
theorem wfX2_firstRule_2 {X : CX} (hX : Ok RX2 cX2_firstRule (some .int) 0 55 3 X) {o0 : Nat} (ho0 : isL o0) {rr : Int32 × St} (hq : rs X = (some (.int rr.1), rr.2)) (k : Nat) : ∀ (S : St) (x1 : Int32) (x2 : Int32), fX2_firstRule_2 o0 k S x1 x2 = some rr → Wat 0 55 3 3 X 2 [(0, .ref (ad X o0)), (1, .int x1), (2, .int x2)] [] S := by
  induction k with
  | zero => intro S x1 x2 hres; exact absurd hres (by simp [fX2_firstRule_2])
  | succ k ih => intro S x1 x2 hres; exact wbX2_firstRule_2 hX ho0 hq ih hres
def fX2_firstRule (o0 : Nat) (S : St) (x1 : Int32) : Option (Int32 × St) :=
  fX2_firstRule_2 o0 100 S x1 (0 : Int32)
theorem wfX2_firstRule {X : CX} (hX : Ok RX2 cX2_firstRule (some .int) 0 55 3 X) {o0 : Nat} (ho0 : isL o0) {rr : Int32 × St} (hq : rs X = (some (.int rr.1), rr.2)) {S : St} {x1 : Int32} (hres : fX2_firstRule o0 S x1 = some rr) : Wat 0 55 3 3 X 0 [(0, .ref (ad X o0)), (1, .int x1)] [] S := by
  unfold fX2_firstRule at hres
  refine q_iconst 1 hX dX2_firstRule_0 rfl kI_0 ?_
  refine q_istore_n 2 (lv' := [(2, .int (0 : Int32)), (0, .ref (ad X o0)), (1, .int x1)]) hX dX2_firstRule_1 rfl rfl (by decide) rfl ?_
  exact q_sub [1, 2, 0] rfl (wfX2_firstRule_2 hX ho0 hq _ _ _ _ hres)
theorem cX2_firstRule9 {l : Launch} {w : WD} (hj : Dj w 0 55) {o0 : Nat} (ho0 : isL o0) {rr : Int32 × St} {S : St} {x1 : Int32} (hres : fX2_firstRule o0 S x1 = some rr) : Ct l yX2_firstRule cX2_firstRule 3 (some .int) 3 w 0 55 [.ref (w.1 o0), .int x1] S (some (.int rr.1), rr.2) := by
  refine Ct.of (lv := [(0, .ref (w.1 o0)), (1, .int x1)]) hj (by decide +kernel) (Nat.le_of_ble_eq_true rfl) rfl ?_
  rintro X rfl rfl hq hX
  exact wfX2_firstRule hX ho0 hq hres
def fX2_leavesIt (o0 : Nat) (S : St) : Option (Int32 × St) :=
  bi (fX2_firstRule o0 S (120 : Int32)) fun r2 S1 => if r2 = (-1 : Int32) then (some ((0 : Int32), S1)) else (some ((1 : Int32), S1))
theorem wfX2_leavesIt {X : CX} (hX : Ok RX2 cX2_leavesIt (some .boolean) 0 55 1 X) {o0 : Nat} (ho0 : isL o0) {rr : Int32 × St} (hq : rs X = (some (.int rr.1), rr.2)) {S : St} (hres : fX2_leavesIt o0 S = some rr) : Wat 0 55 4 1 X 0 [(0, .ref (ad X o0))] [] S := by
  unfold fX2_leavesIt at hres
  refine q_aload_n 1 hX 0 dX2_leavesIt_0 rfl rfl rfl ?_
  refine q_bipush 3 hX dX2_leavesIt_1 rfl kB_120 ?_
  obtain ⟨r2, S1, hk1, hres⟩ := ob hres
  refine q_callVi 6 (st := []) (As := [.int (120 : Int32)]) hX (cX2_firstRule9 hX.dj ho0 hk1) cv_RX2_47 ci2 (oB_L ho0) rfl (by decide) rfl (Nat.le_of_ble_eq_true rfl) dX2_leavesIt_3 rfl ?_
  refine q_iconst 7 hX dX2_leavesIt_6 rfl kI_m1 ?_
  refine q_icmp_eq 10 hX 14 dX2_leavesIt_7 rfl (by decide) (fun hc => ?_) (fun hc => ?_)
  · have hres := it_t hc hres
    refine q_iconst 15 hX dX2_leavesIt_14 rfl kI_0 ?_
    exact q_zret hX (by decide) (eqi hq hres) dX2_leavesIt_15
  · have hres := it_f hc hres
    refine q_iconst 11 hX dX2_leavesIt_10 rfl kI_1 ?_
    refine q_goto 15 hX dX2_leavesIt_11 (by decide) ?_
    exact q_zret hX (by decide) (eqi hq hres) dX2_leavesIt_15
theorem cX2_leavesIt9 {l : Launch} {w : WD} (hj : Dj w 0 55) {o0 : Nat} (ho0 : isL o0) {rr : Int32 × St} {S : St} (hres : fX2_leavesIt o0 S = some rr) : Ct l yX2_leavesIt cX2_leavesIt 1 (some .boolean) 4 w 0 55 [.ref (w.1 o0)] S (some (.int rr.1), rr.2) := by
  refine Ct.of (lv := [(0, .ref (w.1 o0))]) hj (by decide +kernel) (Nat.le_of_ble_eq_true rfl) rfl ?_
  rintro X rfl rfl hq hX
  exact wfX2_leavesIt hX ho0 hq hres
def fX2_worthOf (o0 : Nat) (S : St) (x1 : Int32) (x2 : Int32) (x3 : Int32) : Option (Int32 × St) :=
  bi (fX2_firstRule o0 S x1) fun r2 S1 => if r2 = (-1 : Int32) then (some (x3, S1)) else (if inb r2 16 = true then bv (fX2_work o0 S1 (S1.1 (o0 + 2) (r2.toNatClampNeg))) fun S2 => if (S2.1 o0 10) = 0 then (some ((if (0 : Int32) < (if (S2.1 (o0 + 6) 0) < x2 then (S2.1 (o0 + 6) 0) else x2) then (if (S2.1 (o0 + 6) 0) < x2 then (S2.1 (o0 + 6) 0) else x2) else (0 : Int32)), S2)) else (some ((0 : Int32), S2)) else none)
theorem wfX2_worthOf {X : CX} (hX : Ok RX2 cX2_worthOf (some .int) 0 55 5 X) {o0 : Nat} (ho0 : isL o0) {rr : Int32 × St} (hq : rs X = (some (.int rr.1), rr.2)) {S : St} {x1 : Int32} {x2 : Int32} {x3 : Int32} (hres : fX2_worthOf o0 S x1 x2 x3 = some rr) : Wat 0 55 4 5 X 0 [(0, .ref (ad X o0)), (1, .int x1), (2, .int x2), (3, .int x3)] [] S := by
  unfold fX2_worthOf at hres
  refine q_aload_n 1 hX 0 dX2_worthOf_0 rfl rfl rfl ?_
  refine q_iload_n 2 hX 1 dX2_worthOf_1 rfl rfl rfl ?_
  obtain ⟨r2, S1, hk1, hres⟩ := ob hres
  refine q_callVi 5 (st := []) (As := [.int x1]) hX (cX2_firstRule9 hX.dj ho0 hk1) cv_RX2_47 ci2 (oB_L ho0) rfl (by decide) rfl (Nat.le_of_ble_eq_true rfl) dX2_worthOf_2 rfl ?_
  refine q_istore 7 (lv' := [(4, .int r2), (0, .ref (ad X o0)), (1, .int x1), (2, .int x2), (3, .int x3)]) hX dX2_worthOf_5 rfl (by decide) rfl ?_
  refine q_iload 9 hX 0 dX2_worthOf_7 rfl rfl ?_
  refine q_iconst 10 hX dX2_worthOf_9 rfl kI_m1 ?_
  refine q_icmp_ne 13 hX 15 dX2_worthOf_10 rfl (by decide) (fun hc => ?_) (fun hc => ?_)
  · have hres := it_f hc hres
    refine q_aload_n 16 hX 1 dX2_worthOf_15 rfl rfl rfl ?_
    refine q_aload_n 17 hX 1 dX2_worthOf_16 rfl rfl rfl ?_
    refine q_getR 20 hX ci2 lf_RX2_15 (fR_L_1 ho0) dX2_worthOf_17 rfl ?_
    refine q_iload 22 hX 0 dX2_worthOf_20 rfl rfl ?_
    obtain ⟨hb3, hres⟩ := gd hres
    refine q_iald 23 hX rfl (aF_L_2 ho0) hb3 dX2_worthOf_22 rfl ?_
    obtain ⟨S2, hk4, hres⟩ := obv hres
    refine q_callVv 26 (st := []) (As := [.int (S1.1 (o0 + 2) (r2.toNatClampNeg))]) hX (cX2_work9 hX.dj ho0 hk4) cv_RX2_51 ci2 (oB_L ho0) rfl (by decide) rfl (Nat.le_of_ble_eq_true rfl) dX2_worthOf_23 rfl ?_
    refine q_aload_n 27 hX 1 dX2_worthOf_26 rfl rfl rfl ?_
    refine q_getI 30 hX ci2 lf_RX2_44 (fI_L_10 ho0) dX2_worthOf_27 rfl ?_
    refine q_if_eq 33 hX 37 dX2_worthOf_30 rfl (by decide) (fun hc => ?_) (fun hc => ?_)
    · have hres := it_t hc hres
      refine q_iconst 38 hX dX2_worthOf_37 rfl kI_0 ?_
      refine q_iload_n 39 hX 3 dX2_worthOf_38 rfl rfl rfl ?_
      refine q_aload_n 40 hX 1 dX2_worthOf_39 rfl rfl rfl ?_
      refine q_getR 43 hX ci2 lf_RX2_27 (fR_L_5 ho0) dX2_worthOf_40 rfl ?_
      refine q_iconst 44 hX dX2_worthOf_43 rfl kI_0 ?_
      refine q_iald 45 hX kU_0 (aF_L_6 ho0) kN_0_32 dX2_worthOf_44 rfl ?_
      refine q_min 48 hX mw_RX2_55 (by decide) (Nat.le_of_ble_eq_true rfl) dX2_worthOf_45 rfl ?_
      refine q_max 51 hX mw_RX2_61 (by decide) (Nat.le_of_ble_eq_true rfl) dX2_worthOf_48 rfl ?_
      exact q_iret hX (eqi hq hres) dX2_worthOf_51
    · have hres := it_f hc hres
      refine q_iconst 34 hX dX2_worthOf_33 rfl kI_0 ?_
      refine q_goto 51 hX dX2_worthOf_34 (by decide) ?_
      exact q_iret hX (eqi hq hres) dX2_worthOf_51
  · have hres := it_t hc hres
    refine q_iload_n 14 hX 4 dX2_worthOf_13 rfl rfl rfl ?_
    exact q_iret hX (eqi hq hres) dX2_worthOf_14
theorem cX2_worthOf9 {l : Launch} {w : WD} (hj : Dj w 0 55) {o0 : Nat} (ho0 : isL o0) {rr : Int32 × St} {S : St} {x1 : Int32} {x2 : Int32} {x3 : Int32} (hres : fX2_worthOf o0 S x1 x2 x3 = some rr) : Ct l yX2_worthOf cX2_worthOf 5 (some .int) 4 w 0 55 [.ref (w.1 o0), .int x1, .int x2, .int x3] S (some (.int rr.1), rr.2) := by
  refine Ct.of (lv := [(0, .ref (w.1 o0)), (1, .int x1), (2, .int x2), (3, .int x3)]) hj (by decide +kernel) (Nat.le_of_ble_eq_true rfl) rfl ?_
  rintro X rfl rfl hq hX
  exact wfX2_worthOf hX ho0 hq hres
