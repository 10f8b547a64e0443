def fX4_holder (S : St) (x1 : Int32) : Option (Int32 × St) :=
  bi (fX11_isTurn S x1) fun r2 S1 => if r2 = 0 then (some ((-1 : Int32), S1)) else (if inb x1 12 = true then some ((S1.1 9 (x1.toNatClampNeg)), S1) else none)
theorem wfX4_holder {X : CX} (hX : Ok RX4 cX4_holder (some .int) 0 55 2 X) {rr : Int32 × St} (hq : rs X = (some (.int rr.1), rr.2)) {S : St} {x1 : Int32} (hres : fX4_holder S x1 = some rr) : Wat 0 55 1 2 X 0 [(0, .ref (ad X 8)), (1, .int x1)] [] S := by
  unfold fX4_holder at hres
  refine q_iload_n 1 hX 1 dX4_holder_0 rfl rfl rfl ?_
  obtain ⟨r2, S1, hk1, hres⟩ := ob hres
  refine q_callSi 4 (st := []) (As := [.int x1]) hX (cX11_isTurn9 hX.dj hk1) cs_RX4_15 rfl (by decide) rfl (Nat.le_of_ble_eq_true rfl) dX4_holder_1 rfl ?_
  refine q_if_eq 7 hX 16 dX4_holder_4 rfl (by decide) (fun hc => ?_) (fun hc => ?_)
  · have hres := it_t hc hres
    refine q_iconst 17 hX dX4_holder_16 rfl kI_m1 ?_
    exact q_iret hX (eqi hq hres) dX4_holder_17
  · have hres := it_f hc hres
    refine q_aload_n 8 hX 0 dX4_holder_7 rfl rfl rfl ?_
    refine q_getR 11 hX ci4 lf_RX4_9 fR_8_0 dX4_holder_8 rfl ?_
    refine q_iload_n 12 hX 1 dX4_holder_11 rfl rfl rfl ?_
    obtain ⟨hb3, hres⟩ := gd hres
    refine q_iald 13 hX rfl aF_9 hb3 dX4_holder_12 rfl ?_
    refine q_goto 17 hX dX4_holder_13 (by decide) ?_
    exact q_iret hX (eqi hq hres) dX4_holder_17
theorem cX4_holder9 {l : Launch} {w : WD} (hj : Dj w 0 55) {rr : Int32 × St} {S : St} {x1 : Int32} (hres : fX4_holder S x1 = some rr) : Ct l yX4_holder cX4_holder 2 (some .int) 1 w 0 55 [.ref (w.1 8), .int x1] S (some (.int rr.1), rr.2) := by
  refine Ct.of (lv := [(0, .ref (w.1 8)), (1, .int x1)]) hj (by decide +kernel) (Nat.le_of_ble_eq_true rfl) rfl ?_
  rintro X rfl rfl hq hX
  exact wfX4_holder hX hq hres
def fX4_give (S : St) (x1 : Int32) (x2 : Int32) : Option (St) :=
  bi (fX11_isTurn S x1) fun r2 S1 => if r2 = 0 then (some S1) else (if inb x1 12 = true then bS (pI S1 9 (x1.toNatClampNeg) x2) fun S2 => some S2 else none)
theorem wfX4_give {X : CX} (hX : Ok RX4 cX4_give none 0 55 3 X) {rr : St} (hq : rs X = (none, rr)) {S : St} {x1 : Int32} {x2 : Int32} (hres : fX4_give S x1 x2 = some rr) : Wat 0 55 1 3 X 0 [(0, .ref (ad X 8)), (1, .int x1), (2, .int x2)] [] S := by
  unfold fX4_give at hres
  refine q_iload_n 1 hX 1 dX4_give_0 rfl rfl rfl ?_
  obtain ⟨r2, S1, hk1, hres⟩ := ob hres
  refine q_callSi 4 (st := []) (As := [.int x1]) hX (cX11_isTurn9 hX.dj hk1) cs_RX4_15 rfl (by decide) rfl (Nat.le_of_ble_eq_true rfl) dX4_give_1 rfl ?_
  refine q_if_eq 7 hX 14 dX4_give_4 rfl (by decide) (fun hc => ?_) (fun hc => ?_)
  · have hres := it_t hc hres
    exact q_vret hX (eqv hq hres) dX4_give_14
  · have hres := it_f hc hres
    refine q_aload_n 8 hX 0 dX4_give_7 rfl rfl rfl ?_
    refine q_getR 11 hX ci4 lf_RX4_9 fR_8_0 dX4_give_8 rfl ?_
    refine q_iload_n 12 hX 1 dX4_give_11 rfl rfl rfl ?_
    refine q_iload_n 13 hX 2 dX4_give_12 rfl rfl rfl ?_
    obtain ⟨hb3, hres⟩ := gd hres
    refine q_iast 14 hX rfl aF_9 hb3 dX4_give_13 rfl ?_
    refine q_bS hres (fun S2 _ hres => ?_)
    exact q_vret hX (eqv hq hres) dX4_give_14
theorem cX4_give9 {l : Launch} {w : WD} (hj : Dj w 0 55) {rr : St} {S : St} {x1 : Int32} {x2 : Int32} (hres : fX4_give S x1 x2 = some rr) : Ct l yX4_give cX4_give 3 none 1 w 0 55 [.ref (w.1 8), .int x1, .int x2] S (none, rr) := by
  refine Ct.of (lv := [(0, .ref (w.1 8)), (1, .int x1), (2, .int x2)]) hj (by decide +kernel) (Nat.le_of_ble_eq_true rfl) rfl ?_
  rintro X rfl rfl hq hX
  exact wfX4_give hX hq hres
def bX4_dropStrangers_2 (o1 : Nat) (rc2 : St → Int32 → Option (St)) (S : St) (x2 : Int32) : Option (St) :=
  if (12 : Int32) ≤ x2 then (some S) else (if inb x2 12 = true then bi (fX8_hasHouse o1 S (S.1 9 (x2.toNatClampNeg))) fun r3 S1 => if r3 = 0 then (if inb x2 12 = true then bS (pI S1 9 (x2.toNatClampNeg) (-1 : Int32)) fun S2 => bV (x2 + (1 : Int32)) fun v6 => rc2 S2 v6 else none) else (bV (x2 + (1 : Int32)) fun v4 => rc2 S1 v4) else none)
theorem wbX4_dropStrangers_2 {X : CX} (hX : Ok RX4 cX4_dropStrangers none 0 55 3 X) {o1 : Nat} (ho1 : isT o1) {rr : St} (hq : rs X = (none, rr)) {rc2 : St → Int32 → Option (St)} (hrc2 : ∀ (S : St) (x2 : Int32), rc2 S x2 = some rr → Wat 0 55 1 3 X 2 [(0, .ref (ad X 8)), (1, .ref (ad X o1)), (2, .int x2)] [] S) {S : St} {x2 : Int32} (hres : bX4_dropStrangers_2 o1 rc2 S x2 = some rr) : Wat 0 55 1 3 X 2 [(0, .ref (ad X 8)), (1, .ref (ad X o1)), (2, .int x2)] [] S := by
  unfold bX4_dropStrangers_2 at hres
  refine q_iload_n 3 hX 2 dX4_dropStrangers_2 rfl rfl rfl ?_
  refine q_bipush 5 hX dX4_dropStrangers_3 rfl kB_12 ?_
  refine q_icmp_ge 8 hX 34 dX4_dropStrangers_5 rfl (by decide) (fun hc => ?_) (fun hc => ?_)
  · have hres := it_t hc hres
    exact q_vret hX (eqv hq hres) dX4_dropStrangers_34
  · have hres := it_f hc hres
    refine q_aload_n 9 hX 1 dX4_dropStrangers_8 rfl rfl rfl ?_
    refine q_aload_n 10 hX 0 dX4_dropStrangers_9 rfl rfl rfl ?_
    refine q_getR 13 hX ci4 lf_RX4_9 fR_8_0 dX4_dropStrangers_10 rfl ?_
    refine q_iload_n 14 hX 2 dX4_dropStrangers_13 rfl rfl rfl ?_
    obtain ⟨hb1, hres⟩ := gd hres
    refine q_iald 15 hX rfl aF_9 hb1 dX4_dropStrangers_14 rfl ?_
    obtain ⟨r3, S1, hk2, hres⟩ := ob hres
    refine q_callVi 18 (st := []) (As := [.int (S.1 9 (x2.toNatClampNeg))]) hX (cX8_hasHouse9 hX.dj ho1 hk2) cv_RX4_19 ci8 (oB_T ho1) rfl (by decide) rfl (Nat.le_of_ble_eq_true rfl) dX4_dropStrangers_15 rfl ?_
    refine q_if_ne 21 hX 28 dX4_dropStrangers_18 rfl (by decide) (fun hc => ?_) (fun hc => ?_)
    · have hres := it_f hc hres
      refine q_iincB 31 2 (lv0 := [(0, .ref (ad X 8)), (1, .ref (ad X o1))]) hX dX4_dropStrangers_28 rfl rfl kI_1 (by decide) rfl hres (fun v4 hres => ?_)
      refine q_goto 2 hX dX4_dropStrangers_31 (by decide) ?_
      exact q_sub [1, 2, 0] rfl (hrc2 _ _ hres)
    · have hres := it_t hc hres
      refine q_aload_n 22 hX 0 dX4_dropStrangers_21 rfl rfl rfl ?_
      refine q_getR 25 hX ci4 lf_RX4_9 fR_8_0 dX4_dropStrangers_22 rfl ?_
      refine q_iload_n 26 hX 2 dX4_dropStrangers_25 rfl rfl rfl ?_
      refine q_iconst 27 hX dX4_dropStrangers_26 rfl kI_m1 ?_
      obtain ⟨hb5, hres⟩ := gd hres
      refine q_iast 28 hX rfl aF_9 hb5 dX4_dropStrangers_27 rfl ?_
      refine q_bS hres (fun S2 _ hres => ?_)
      refine q_iincB 31 2 (lv0 := [(0, .ref (ad X 8)), (1, .ref (ad X o1))]) hX dX4_dropStrangers_28 rfl rfl kI_1 (by decide) rfl hres (fun v6 hres => ?_)
      refine q_goto 2 hX dX4_dropStrangers_31 (by decide) ?_
      exact q_sub [1, 2, 0] rfl (hrc2 _ _ hres)
def fX4_dropStrangers_2 (o1 : Nat) : Nat → St → Int32 → Option (St)
  | 0 => fun _ _ => none
  | k + 1 => fun S x2 => bX4_dropStrangers_2 o1 (fX4_dropStrangers_2 o1 k) S x2
theorem wfX4_dropStrangers_2 {X : CX} (hX : Ok RX4 cX4_dropStrangers none 0 55 3 X) {o1 : Nat} (ho1 : isT o1) {rr : St} (hq : rs X = (none, rr)) (k : Nat) : ∀ (S : St) (x2 : Int32), fX4_dropStrangers_2 o1 k S x2 = some rr → Wat 0 55 1 3 X 2 [(0, .ref (ad X 8)), (1, .ref (ad X o1)), (2, .int x2)] [] S := by
  induction k with
  | zero => intro S x2 hres; exact absurd hres (by simp [fX4_dropStrangers_2])
  | succ k ih => intro S x2 hres; exact wbX4_dropStrangers_2 hX ho1 hq ih hres
def fX4_dropStrangers (o1 : Nat) (S : St) : Option (St) :=
  fX4_dropStrangers_2 o1 100 S (0 : Int32)
theorem wfX4_dropStrangers {X : CX} (hX : Ok RX4 cX4_dropStrangers none 0 55 3 X) {o1 : Nat} (ho1 : isT o1) {rr : St} (hq : rs X = (none, rr)) {S : St} (hres : fX4_dropStrangers o1 S = some rr) : Wat 0 55 1 3 X 0 [(0, .ref (ad X 8)), (1, .ref (ad X o1))] [] S := by
  unfold fX4_dropStrangers at hres
  refine q_iconst 1 hX dX4_dropStrangers_0 rfl kI_0 ?_
  refine q_istore_n 2 (lv' := [(2, .int (0 : Int32)), (0, .ref (ad X 8)), (1, .ref (ad X o1))]) hX dX4_dropStrangers_1 rfl rfl (by decide) rfl ?_
  exact q_sub [1, 2, 0] rfl (wfX4_dropStrangers_2 hX ho1 hq _ _ _ hres)
theorem cX4_dropStrangers9 {l : Launch} {w : WD} (hj : Dj w 0 55) {o1 : Nat} (ho1 : isT o1) {rr : St} {S : St} (hres : fX4_dropStrangers o1 S = some rr) : Ct l yX4_dropStrangers cX4_dropStrangers 3 none 1 w 0 55 [.ref (w.1 8), .ref (w.1 o1)] S (none, rr) := by
  refine Ct.of (lv := [(0, .ref (w.1 8)), (1, .ref (w.1 o1))]) hj (by decide +kernel) (Nat.le_of_ble_eq_true rfl) rfl ?_
  rintro X rfl rfl hq hX
  exact wfX4_dropStrangers hX ho1 hq hres
def bX4_takenTurns_4 (rc4 : St → Int32 → Int32 → Option (Int32 × St)) (S : St) (x1 : Int32) (x2 : Int32) : Option (Int32 × St) :=
  if (12 : Int32) ≤ x2 then (some (x1, S)) else (if inb x2 12 = true then if (S.1 9 (x2.toNatClampNeg)) = (-1 : Int32) then (bV (x2 + (1 : Int32)) fun v2 => rc4 S x1 v2) else (bV (x1 + (1 : Int32)) fun v3 => bV (x2 + (1 : Int32)) fun v4 => rc4 S v3 v4) else none)
theorem wbX4_takenTurns_4 {X : CX} (hX : Ok RX4 cX4_takenTurns (some .int) 0 55 3 X) {rr : Int32 × St} (hq : rs X = (some (.int rr.1), rr.2)) {rc4 : St → Int32 → Int32 → Option (Int32 × St)} (hrc4 : ∀ (S : St) (x1 : Int32) (x2 : Int32), rc4 S x1 x2 = some rr → Wat 0 55 0 3 X 4 [(0, .ref (ad X 8)), (1, .int x1), (2, .int x2)] [] S) {S : St} {x1 : Int32} {x2 : Int32} (hres : bX4_takenTurns_4 rc4 S x1 x2 = some rr) : Wat 0 55 0 3 X 4 [(0, .ref (ad X 8)), (1, .int x1), (2, .int x2)] [] S := by
  unfold bX4_takenTurns_4 at hres
  refine q_iload_n 5 hX 2 dX4_takenTurns_4 rfl rfl rfl ?_
  refine q_bipush 7 hX dX4_takenTurns_5 rfl kB_12 ?_
  refine q_icmp_ge 10 hX 29 dX4_takenTurns_7 rfl (by decide) (fun hc => ?_) (fun hc => ?_)
  · have hres := it_t hc hres
    refine q_iload_n 30 hX 1 dX4_takenTurns_29 rfl rfl rfl ?_
    exact q_iret hX (eqi hq hres) dX4_takenTurns_30
  · have hres := it_f hc hres
    refine q_aload_n 11 hX 0 dX4_takenTurns_10 rfl rfl rfl ?_
    refine q_getR 14 hX ci4 lf_RX4_9 fR_8_0 dX4_takenTurns_11 rfl ?_
    refine q_iload_n 15 hX 2 dX4_takenTurns_14 rfl rfl rfl ?_
    obtain ⟨hb1, hres⟩ := gd hres
    refine q_iald 16 hX rfl aF_9 hb1 dX4_takenTurns_15 rfl ?_
    refine q_iconst 17 hX dX4_takenTurns_16 rfl kI_m1 ?_
    refine q_icmp_eq 20 hX 23 dX4_takenTurns_17 rfl (by decide) (fun hc => ?_) (fun hc => ?_)
    · have hres := it_t hc hres
      refine q_iincB 26 2 (lv0 := [(0, .ref (ad X 8)), (1, .int x1)]) hX dX4_takenTurns_23 rfl rfl kI_1 (by decide) rfl hres (fun v2 hres => ?_)
      refine q_goto 4 hX dX4_takenTurns_26 (by decide) ?_
      exact q_sub [1, 2, 0] rfl (hrc4 _ _ _ hres)
    · have hres := it_f hc hres
      refine q_iincB 23 1 (lv0 := [(0, .ref (ad X 8)), (2, .int x2)]) hX dX4_takenTurns_20 rfl rfl kI_1 (by decide) rfl hres (fun v3 hres => ?_)
      refine q_iincB 26 2 (lv0 := [(1, .int v3), (0, .ref (ad X 8))]) hX dX4_takenTurns_23 rfl rfl kI_1 (by decide) rfl hres (fun v4 hres => ?_)
      refine q_goto 4 hX dX4_takenTurns_26 (by decide) ?_
      exact q_sub [2, 1, 0] rfl (hrc4 _ _ _ hres)
def fX4_takenTurns_4 : Nat → St → Int32 → Int32 → Option (Int32 × St)
  | 0 => fun _ _ _ => none
  | k + 1 => fun S x1 x2 => bX4_takenTurns_4 (fX4_takenTurns_4 k) S x1 x2
theorem wfX4_takenTurns_4 {X : CX} (hX : Ok RX4 cX4_takenTurns (some .int) 0 55 3 X) {rr : Int32 × St} (hq : rs X = (some (.int rr.1), rr.2)) (k : Nat) : ∀ (S : St) (x1 : Int32) (x2 : Int32), fX4_takenTurns_4 k S x1 x2 = some rr → Wat 0 55 0 3 X 4 [(0, .ref (ad X 8)), (1, .int x1), (2, .int x2)] [] S := by
  induction k with
  | zero => intro S x1 x2 hres; exact absurd hres (by simp [fX4_takenTurns_4])
  | succ k ih => intro S x1 x2 hres; exact wbX4_takenTurns_4 hX hq ih hres
def fX4_takenTurns (S : St) : Option (Int32 × St) :=
  fX4_takenTurns_4 100 S (0 : Int32) (0 : Int32)
theorem wfX4_takenTurns {X : CX} (hX : Ok RX4 cX4_takenTurns (some .int) 0 55 3 X) {rr : Int32 × St} (hq : rs X = (some (.int rr.1), rr.2)) {S : St} (hres : fX4_takenTurns S = some rr) : Wat 0 55 0 3 X 0 [(0, .ref (ad X 8))] [] S := by
  unfold fX4_takenTurns at hres
  refine q_iconst 1 hX dX4_takenTurns_0 rfl kI_0 ?_
  refine q_istore_n 2 (lv' := [(1, .int (0 : Int32)), (0, .ref (ad X 8))]) hX dX4_takenTurns_1 rfl rfl (by decide) rfl ?_
  refine q_iconst 3 hX dX4_takenTurns_2 rfl kI_0 ?_
  refine q_istore_n 4 (lv' := [(2, .int (0 : Int32)), (1, .int (0 : Int32)), (0, .ref (ad X 8))]) hX dX4_takenTurns_3 rfl rfl (by decide) rfl ?_
  exact q_sub [2, 1, 0] rfl (wfX4_takenTurns_4 hX hq _ _ _ _ hres)
theorem cX4_takenTurns9 {l : Launch} {w : WD} (hj : Dj w 0 55) {rr : Int32 × St} {S : St} (hres : fX4_takenTurns S = some rr) : Ct l yX4_takenTurns cX4_takenTurns 3 (some .int) 0 w 0 55 [.ref (w.1 8)] S (some (.int rr.1), rr.2) := by
  refine Ct.of (lv := [(0, .ref (w.1 8))]) hj (by decide +kernel) (Nat.le_of_ble_eq_true rfl) rfl ?_
  rintro X rfl rfl hq hX
  exact wfX4_takenTurns hX hq hres
def bX4_turnsOf_4 (rc4 : St → Int32 → Int32 → Int32 → Option (Int32 × St)) (S : St) (x1 : Int32) (x2 : Int32) (x3 : Int32) : Option (Int32 × St) :=
  if (12 : Int32) ≤ x3 then (some (x2, S)) else (if inb x3 12 = true then if (S.1 9 (x3.toNatClampNeg)) = x1 then (bV ((x2 ||| ((1 : Int32) <<< (x3 &&& 31)))) fun v3 => bV (x3 + (1 : Int32)) fun v4 => rc4 S x1 v3 v4) else (bV (x3 + (1 : Int32)) fun v2 => rc4 S x1 x2 v2) else none)
theorem wbX4_turnsOf_4 {X : CX} (hX : Ok RX4 cX4_turnsOf (some .int) 0 55 4 X) {rr : Int32 × St} (hq : rs X = (some (.int rr.1), rr.2)) {rc4 : St → Int32 → Int32 → Int32 → Option (Int32 × St)} (hrc4 : ∀ (S : St) (x1 : Int32) (x2 : Int32) (x3 : Int32), rc4 S x1 x2 x3 = some rr → Wat 0 55 0 4 X 4 [(0, .ref (ad X 8)), (1, .int x1), (2, .int x2), (3, .int x3)] [] S) {S : St} {x1 : Int32} {x2 : Int32} {x3 : Int32} (hres : bX4_turnsOf_4 rc4 S x1 x2 x3 = some rr) : Wat 0 55 0 4 X 4 [(0, .ref (ad X 8)), (1, .int x1), (2, .int x2), (3, .int x3)] [] S := by
  unfold bX4_turnsOf_4 at hres
  refine q_iload_n 5 hX 3 dX4_turnsOf_4 rfl rfl rfl ?_
  refine q_bipush 7 hX dX4_turnsOf_5 rfl kB_12 ?_
  refine q_icmp_ge 10 hX 32 dX4_turnsOf_7 rfl (by decide) (fun hc => ?_) (fun hc => ?_)
  · have hres := it_t hc hres
    refine q_iload_n 33 hX 2 dX4_turnsOf_32 rfl rfl rfl ?_
    exact q_iret hX (eqi hq hres) dX4_turnsOf_33
  · have hres := it_f hc hres
    refine q_aload_n 11 hX 0 dX4_turnsOf_10 rfl rfl rfl ?_
    refine q_getR 14 hX ci4 lf_RX4_9 fR_8_0 dX4_turnsOf_11 rfl ?_
    refine q_iload_n 15 hX 3 dX4_turnsOf_14 rfl rfl rfl ?_
    obtain ⟨hb1, hres⟩ := gd hres
    refine q_iald 16 hX rfl aF_9 hb1 dX4_turnsOf_15 rfl ?_
    refine q_iload_n 17 hX 1 dX4_turnsOf_16 rfl rfl rfl ?_
    refine q_icmp_ne 20 hX 26 dX4_turnsOf_17 rfl (by decide) (fun hc => ?_) (fun hc => ?_)
    · have hres := it_f hc hres
      refine q_iincB 29 3 (lv0 := [(0, .ref (ad X 8)), (1, .int x1), (2, .int x2)]) hX dX4_turnsOf_26 rfl rfl kI_1 (by decide) rfl hres (fun v2 hres => ?_)
      refine q_goto 4 hX dX4_turnsOf_29 (by decide) ?_
      exact q_sub [1, 2, 3, 0] rfl (hrc4 _ _ _ _ hres)
    · have hres := it_t hc hres
      refine q_iload_n 21 hX 2 dX4_turnsOf_20 rfl rfl rfl ?_
      refine q_iconst 22 hX dX4_turnsOf_21 rfl kI_1 ?_
      refine q_iload_n 23 hX 3 dX4_turnsOf_22 rfl rfl rfl ?_
      refine q_ishl 24 hX dX4_turnsOf_23 rfl ?_
      refine q_ior 25 hX dX4_turnsOf_24 rfl ?_
      refine q_istoreB_n 26 (lv0 := [(0, .ref (ad X 8)), (1, .int x1), (3, .int x3)]) hX dX4_turnsOf_25 rfl rfl (by decide) rfl hres (fun v3 hres => ?_)
      refine q_iincB 29 3 (lv0 := [(2, .int v3), (0, .ref (ad X 8)), (1, .int x1)]) hX dX4_turnsOf_26 rfl rfl kI_1 (by decide) rfl hres (fun v4 hres => ?_)
      refine q_goto 4 hX dX4_turnsOf_29 (by decide) ?_
      exact q_sub [2, 3, 1, 0] rfl (hrc4 _ _ _ _ hres)
def fX4_turnsOf_4 : Nat → St → Int32 → Int32 → Int32 → Option (Int32 × St)
  | 0 => fun _ _ _ _ => none
  | k + 1 => fun S x1 x2 x3 => bX4_turnsOf_4 (fX4_turnsOf_4 k) S x1 x2 x3
theorem wfX4_turnsOf_4 {X : CX} (hX : Ok RX4 cX4_turnsOf (some .int) 0 55 4 X) {rr : Int32 × St} (hq : rs X = (some (.int rr.1), rr.2)) (k : Nat) : ∀ (S : St) (x1 : Int32) (x2 : Int32) (x3 : Int32), fX4_turnsOf_4 k S x1 x2 x3 = some rr → Wat 0 55 0 4 X 4 [(0, .ref (ad X 8)), (1, .int x1), (2, .int x2), (3, .int x3)] [] S := by
  induction k with
  | zero => intro S x1 x2 x3 hres; exact absurd hres (by simp [fX4_turnsOf_4])
  | succ k ih => intro S x1 x2 x3 hres; exact wbX4_turnsOf_4 hX hq ih hres
def fX4_turnsOf (S : St) (x1 : Int32) : Option (Int32 × St) :=
  fX4_turnsOf_4 100 S x1 (0 : Int32) (0 : Int32)
theorem wfX4_turnsOf {X : CX} (hX : Ok RX4 cX4_turnsOf (some .int) 0 55 4 X) {rr : Int32 × St} (hq : rs X = (some (.int rr.1), rr.2)) {S : St} {x1 : Int32} (hres : fX4_turnsOf S x1 = some rr) : Wat 0 55 0 4 X 0 [(0, .ref (ad X 8)), (1, .int x1)] [] S := by
  unfold fX4_turnsOf at hres
  refine q_iconst 1 hX dX4_turnsOf_0 rfl kI_0 ?_
  refine q_istore_n 2 (lv' := [(2, .int (0 : Int32)), (0, .ref (ad X 8)), (1, .int x1)]) hX dX4_turnsOf_1 rfl rfl (by decide) rfl ?_
  refine q_iconst 3 hX dX4_turnsOf_2 rfl kI_0 ?_
  refine q_istore_n 4 (lv' := [(3, .int (0 : Int32)), (2, .int (0 : Int32)), (0, .ref (ad X 8)), (1, .int x1)]) hX dX4_turnsOf_3 rfl rfl (by decide) rfl ?_
  exact q_sub [2, 3, 1, 0] rfl (wfX4_turnsOf_4 hX hq _ _ _ _ _ hres)
theorem cX4_turnsOf9 {l : Launch} {w : WD} (hj : Dj w 0 55) {rr : Int32 × St} {S : St} {x1 : Int32} (hres : fX4_turnsOf S x1 = some rr) : Ct l yX4_turnsOf cX4_turnsOf 4 (some .int) 0 w 0 55 [.ref (w.1 8), .int x1] S (some (.int rr.1), rr.2) := by
  refine Ct.of (lv := [(0, .ref (w.1 8)), (1, .int x1)]) hj (by decide +kernel) (Nat.le_of_ble_eq_true rfl) rfl ?_
  rintro X rfl rfl hq hX
  exact wfX4_turnsOf hX hq hres
def bX4_holdersOf_4 (rc4 : St → Int32 → Int32 → Int32 → Option (Int32 × St)) (S : St) (x1 : Int32) (x2 : Int32) (x3 : Int32) : Option (Int32 × St) :=
  if (12 : Int32) ≤ x3 then (some (x2, S)) else (if ((x1 >>> (x3 &&& 31)) &&& (1 : Int32)) = (1 : Int32) then (if inb x3 12 = true then if (S.1 9 (x3.toNatClampNeg)) = (-1 : Int32) then (bV (x3 + (1 : Int32)) fun v3 => rc4 S x1 x2 v3) else (if inb x3 12 = true then bV ((x2 ||| ((1 : Int32) <<< ((S.1 9 (x3.toNatClampNeg)) &&& 31)))) fun v5 => bV (x3 + (1 : Int32)) fun v6 => rc4 S x1 v5 v6 else none) else none) else (bV (x3 + (1 : Int32)) fun v1 => rc4 S x1 x2 v1))
theorem wbX4_holdersOf_4 {X : CX} (hX : Ok RX4 cX4_holdersOf (some .int) 0 55 4 X) {rr : Int32 × St} (hq : rs X = (some (.int rr.1), rr.2)) {rc4 : St → Int32 → Int32 → Int32 → Option (Int32 × St)} (hrc4 : ∀ (S : St) (x1 : Int32) (x2 : Int32) (x3 : Int32), rc4 S x1 x2 x3 = some rr → Wat 0 55 0 4 X 4 [(0, .ref (ad X 8)), (1, .int x1), (2, .int x2), (3, .int x3)] [] S) {S : St} {x1 : Int32} {x2 : Int32} {x3 : Int32} (hres : bX4_holdersOf_4 rc4 S x1 x2 x3 = some rr) : Wat 0 55 0 4 X 4 [(0, .ref (ad X 8)), (1, .int x1), (2, .int x2), (3, .int x3)] [] S := by
  unfold bX4_holdersOf_4 at hres
  refine q_iload_n 5 hX 3 dX4_holdersOf_4 rfl rfl rfl ?_
  refine q_bipush 7 hX dX4_holdersOf_5 rfl kB_12 ?_
  refine q_icmp_ge 10 hX 46 dX4_holdersOf_7 rfl (by decide) (fun hc => ?_) (fun hc => ?_)
  · have hres := it_t hc hres
    refine q_iload_n 47 hX 2 dX4_holdersOf_46 rfl rfl rfl ?_
    exact q_iret hX (eqi hq hres) dX4_holdersOf_47
  · have hres := it_f hc hres
    refine q_iload_n 11 hX 1 dX4_holdersOf_10 rfl rfl rfl ?_
    refine q_iload_n 12 hX 3 dX4_holdersOf_11 rfl rfl rfl ?_
    refine q_ishr 13 hX dX4_holdersOf_12 rfl ?_
    refine q_iconst 14 hX dX4_holdersOf_13 rfl kI_1 ?_
    refine q_iand 15 hX dX4_holdersOf_14 rfl ?_
    refine q_iconst 16 hX dX4_holdersOf_15 rfl kI_1 ?_
    refine q_icmp_ne 19 hX 40 dX4_holdersOf_16 rfl (by decide) (fun hc => ?_) (fun hc => ?_)
    · have hres := it_f hc hres
      refine q_iincB 43 3 (lv0 := [(0, .ref (ad X 8)), (1, .int x1), (2, .int x2)]) hX dX4_holdersOf_40 rfl rfl kI_1 (by decide) rfl hres (fun v1 hres => ?_)
      refine q_goto 4 hX dX4_holdersOf_43 (by decide) ?_
      exact q_sub [1, 2, 3, 0] rfl (hrc4 _ _ _ _ hres)
    · have hres := it_t hc hres
      refine q_aload_n 20 hX 0 dX4_holdersOf_19 rfl rfl rfl ?_
      refine q_getR 23 hX ci4 lf_RX4_9 fR_8_0 dX4_holdersOf_20 rfl ?_
      refine q_iload_n 24 hX 3 dX4_holdersOf_23 rfl rfl rfl ?_
      obtain ⟨hb2, hres⟩ := gd hres
      refine q_iald 25 hX rfl aF_9 hb2 dX4_holdersOf_24 rfl ?_
      refine q_iconst 26 hX dX4_holdersOf_25 rfl kI_m1 ?_
      refine q_icmp_eq 29 hX 40 dX4_holdersOf_26 rfl (by decide) (fun hc => ?_) (fun hc => ?_)
      · have hres := it_t hc hres
        refine q_iincB 43 3 (lv0 := [(0, .ref (ad X 8)), (1, .int x1), (2, .int x2)]) hX dX4_holdersOf_40 rfl rfl kI_1 (by decide) rfl hres (fun v3 hres => ?_)
        refine q_goto 4 hX dX4_holdersOf_43 (by decide) ?_
        exact q_sub [1, 2, 3, 0] rfl (hrc4 _ _ _ _ hres)
      · have hres := it_f hc hres
        refine q_iload_n 30 hX 2 dX4_holdersOf_29 rfl rfl rfl ?_
        refine q_iconst 31 hX dX4_holdersOf_30 rfl kI_1 ?_
        refine q_aload_n 32 hX 0 dX4_holdersOf_31 rfl rfl rfl ?_
        refine q_getR 35 hX ci4 lf_RX4_9 fR_8_0 dX4_holdersOf_32 rfl ?_
        refine q_iload_n 36 hX 3 dX4_holdersOf_35 rfl rfl rfl ?_
        obtain ⟨hb4, hres⟩ := gd hres
        refine q_iald 37 hX rfl aF_9 hb4 dX4_holdersOf_36 rfl ?_
        refine q_ishl 38 hX dX4_holdersOf_37 rfl ?_
        refine q_ior 39 hX dX4_holdersOf_38 rfl ?_
        refine q_istoreB_n 40 (lv0 := [(0, .ref (ad X 8)), (1, .int x1), (3, .int x3)]) hX dX4_holdersOf_39 rfl rfl (by decide) rfl hres (fun v5 hres => ?_)
        refine q_iincB 43 3 (lv0 := [(2, .int v5), (0, .ref (ad X 8)), (1, .int x1)]) hX dX4_holdersOf_40 rfl rfl kI_1 (by decide) rfl hres (fun v6 hres => ?_)
        refine q_goto 4 hX dX4_holdersOf_43 (by decide) ?_
        exact q_sub [2, 3, 1, 0] rfl (hrc4 _ _ _ _ hres)
def fX4_holdersOf_4 : Nat → St → Int32 → Int32 → Int32 → Option (Int32 × St)
  | 0 => fun _ _ _ _ => none
  | k + 1 => fun S x1 x2 x3 => bX4_holdersOf_4 (fX4_holdersOf_4 k) S x1 x2 x3
theorem wfX4_holdersOf_4 {X : CX} (hX : Ok RX4 cX4_holdersOf (some .int) 0 55 4 X) {rr : Int32 × St} (hq : rs X = (some (.int rr.1), rr.2)) (k : Nat) : ∀ (S : St) (x1 : Int32) (x2 : Int32) (x3 : Int32), fX4_holdersOf_4 k S x1 x2 x3 = some rr → Wat 0 55 0 4 X 4 [(0, .ref (ad X 8)), (1, .int x1), (2, .int x2), (3, .int x3)] [] S := by
  induction k with
  | zero => intro S x1 x2 x3 hres; exact absurd hres (by simp [fX4_holdersOf_4])
  | succ k ih => intro S x1 x2 x3 hres; exact wbX4_holdersOf_4 hX hq ih hres
def fX4_holdersOf (S : St) (x1 : Int32) : Option (Int32 × St) :=
  fX4_holdersOf_4 100 S x1 (0 : Int32) (0 : Int32)
theorem wfX4_holdersOf {X : CX} (hX : Ok RX4 cX4_holdersOf (some .int) 0 55 4 X) {rr : Int32 × St} (hq : rs X = (some (.int rr.1), rr.2)) {S : St} {x1 : Int32} (hres : fX4_holdersOf S x1 = some rr) : Wat 0 55 0 4 X 0 [(0, .ref (ad X 8)), (1, .int x1)] [] S := by
  unfold fX4_holdersOf at hres
  refine q_iconst 1 hX dX4_holdersOf_0 rfl kI_0 ?_
  refine q_istore_n 2 (lv' := [(2, .int (0 : Int32)), (0, .ref (ad X 8)), (1, .int x1)]) hX dX4_holdersOf_1 rfl rfl (by decide) rfl ?_
  refine q_iconst 3 hX dX4_holdersOf_2 rfl kI_0 ?_
  refine q_istore_n 4 (lv' := [(3, .int (0 : Int32)), (2, .int (0 : Int32)), (0, .ref (ad X 8)), (1, .int x1)]) hX dX4_holdersOf_3 rfl rfl (by decide) rfl ?_
  exact q_sub [2, 3, 1, 0] rfl (wfX4_holdersOf_4 hX hq _ _ _ _ _ hres)
theorem cX4_holdersOf9 {l : Launch} {w : WD} (hj : Dj w 0 55) {rr : Int32 × St} {S : St} {x1 : Int32} (hres : fX4_holdersOf S x1 = some rr) : Ct l yX4_holdersOf cX4_holdersOf 4 (some .int) 0 w 0 55 [.ref (w.1 8), .int x1] S (some (.int rr.1), rr.2) := by
  refine Ct.of (lv := [(0, .ref (w.1 8)), (1, .int x1)]) hj (by decide +kernel) (Nat.le_of_ble_eq_true rfl) rfl ?_
  rintro X rfl rfl hq hX
  exact wfX4_holdersOf hX hq hres
def fX4_way_43 (rc6 : St → Int32 → Int32 → Int32 → Option (Int32 × St)) (S : St) (x3 : Int32) (x4 : Int32) (s0 : Int32) (s1 : Int32) : Option (Int32 × St) :=
  bV ((s0 + s1)) fun v1 => bV (x3 + (1 : Int32)) fun v2 => rc6 S v1 x4 v2
theorem wfX4_way_43 {X : CX} (hX : Ok RX4 cX4_way (some .int) 0 55 5 X) {rr : Int32 × St} (hq : rs X = (some (.int rr.1), rr.2)) {rc6 : St → Int32 → Int32 → Int32 → Option (Int32 × St)} (hrc6 : ∀ (S : St) (x1 : Int32) (x2 : Int32) (x3 : Int32), rc6 S x1 x2 x3 = some rr → Wat 0 55 1 5 X 6 [(0, .ref (ad X 8)), (1, .int x1), (2, .int x2), (3, .int x3)] [] S) {S : St} {x3 : Int32} {x4 : Int32} {s0 : Int32} {s1 : Int32} (hres : fX4_way_43 rc6 S x3 x4 s0 s1 = some rr) : Wat 0 55 1 5 X 43 [(0, .ref (ad X 8)), (3, .int x3), (4, .int x4)] [.int s1, .int s0] S := by
  unfold fX4_way_43 at hres
  refine q_iadd 44 hX dX4_way_43 rfl ?_
  refine q_istoreB_n 45 (lv0 := [(0, .ref (ad X 8)), (3, .int x3), (4, .int x4)]) hX dX4_way_44 rfl rfl (by decide) rfl hres (fun v1 hres => ?_)
  refine q_iload 47 hX 3 dX4_way_45 rfl rfl ?_
  refine q_istore_n 48 (lv' := [(2, .int x4), (1, .int v1), (0, .ref (ad X 8)), (3, .int x3), (4, .int x4)]) hX dX4_way_47 rfl rfl (by decide) rfl ?_
  refine q_iincB 51 3 (lv0 := [(2, .int x4), (1, .int v1), (0, .ref (ad X 8)), (4, .int x4)]) hX dX4_way_48 rfl rfl kI_1 (by decide) rfl hres (fun v2 hres => ?_)
  refine q_goto 6 hX dX4_way_51 (by decide) ?_
  exact q_sub [3, 2, 1, 0] rfl (hrc6 _ _ _ _ hres)
def bX4_way_6 (rc6 : St → Int32 → Int32 → Int32 → Option (Int32 × St)) (S : St) (x1 : Int32) (x2 : Int32) (x3 : Int32) : Option (Int32 × St) :=
  if (12 : Int32) ≤ x3 then (some (x1, S)) else (if inb x3 12 = true then bV ((S.1 9 (x3.toNatClampNeg))) fun v2 => if v2 = (-1 : Int32) then (bV (x3 + (1 : Int32)) fun v3 => rc6 S x1 x2 v3) else (if x2 = (-1 : Int32) then (fX4_way_43 rc6 S x3 v2 x1 (0 : Int32)) else (fX4_way_43 rc6 S x3 v2 x1 (if 0 ≤ (v2 - x2) then (v2 - x2) else 0 - (v2 - x2)))) else none)
theorem wbX4_way_6 {X : CX} (hX : Ok RX4 cX4_way (some .int) 0 55 5 X) {rr : Int32 × St} (hq : rs X = (some (.int rr.1), rr.2)) {rc6 : St → Int32 → Int32 → Int32 → Option (Int32 × St)} (hrc6 : ∀ (S : St) (x1 : Int32) (x2 : Int32) (x3 : Int32), rc6 S x1 x2 x3 = some rr → Wat 0 55 1 5 X 6 [(0, .ref (ad X 8)), (1, .int x1), (2, .int x2), (3, .int x3)] [] S) {S : St} {x1 : Int32} {x2 : Int32} {x3 : Int32} (hres : bX4_way_6 rc6 S x1 x2 x3 = some rr) : Wat 0 55 1 5 X 6 [(0, .ref (ad X 8)), (1, .int x1), (2, .int x2), (3, .int x3)] [] S := by
  unfold bX4_way_6 at hres
  refine q_iload_n 7 hX 3 dX4_way_6 rfl rfl rfl ?_
  refine q_bipush 9 hX dX4_way_7 rfl kB_12 ?_
  refine q_icmp_ge 12 hX 54 dX4_way_9 rfl (by decide) (fun hc => ?_) (fun hc => ?_)
  · have hres := it_t hc hres
    refine q_iload_n 55 hX 1 dX4_way_54 rfl rfl rfl ?_
    exact q_iret hX (eqi hq hres) dX4_way_55
  · have hres := it_f hc hres
    refine q_aload_n 13 hX 0 dX4_way_12 rfl rfl rfl ?_
    refine q_getR 16 hX ci4 lf_RX4_9 fR_8_0 dX4_way_13 rfl ?_
    refine q_iload_n 17 hX 3 dX4_way_16 rfl rfl rfl ?_
    obtain ⟨hb1, hres⟩ := gd hres
    refine q_iald 18 hX rfl aF_9 hb1 dX4_way_17 rfl ?_
    refine q_istoreB 20 (lv0 := [(0, .ref (ad X 8)), (1, .int x1), (2, .int x2), (3, .int x3)]) hX dX4_way_18 rfl (by decide) rfl hres (fun v2 hres => ?_)
    refine q_iload 22 hX 0 dX4_way_20 rfl rfl ?_
    refine q_iconst 23 hX dX4_way_22 rfl kI_m1 ?_
    refine q_icmp_eq 26 hX 48 dX4_way_23 rfl (by decide) (fun hc => ?_) (fun hc => ?_)
    · have hres := it_t hc hres
      refine q_iincB 51 4 (lv0 := [(4, .int v2), (0, .ref (ad X 8)), (1, .int x1), (2, .int x2)]) hX dX4_way_48 rfl rfl kI_1 (by decide) rfl hres (fun v3 hres => ?_)
      refine q_goto 6 hX dX4_way_51 (by decide) ?_
      exact q_sub [2, 3, 4, 0] rfl (hrc6 _ _ _ _ hres)
    · have hres := it_f hc hres
      refine q_iload_n 27 hX 2 dX4_way_26 rfl rfl rfl ?_
      refine q_iload_n 28 hX 3 dX4_way_27 rfl rfl rfl ?_
      refine q_iconst 29 hX dX4_way_28 rfl kI_m1 ?_
      refine q_icmp_ne 32 hX 36 dX4_way_29 rfl (by decide) (fun hc => ?_) (fun hc => ?_)
      · have hres := it_f hc hres
        refine q_iload 38 hX 0 dX4_way_36 rfl rfl ?_
        refine q_iload_n 39 hX 3 dX4_way_38 rfl rfl rfl ?_
        refine q_isub 40 hX dX4_way_39 rfl ?_
        refine q_abs 43 hX mw_RX4_24 (by decide) (Nat.le_of_ble_eq_true rfl) dX4_way_40 rfl ?_
        exact q_sub [1, 4, 0] rfl (wfX4_way_43 hX hq hrc6 hres)
      · have hres := it_t hc hres
        refine q_iconst 33 hX dX4_way_32 rfl kI_0 ?_
        refine q_goto 43 hX dX4_way_33 (by decide) ?_
        exact q_sub [1, 4, 0] rfl (wfX4_way_43 hX hq hrc6 hres)
def fX4_way_6 : Nat → St → Int32 → Int32 → Int32 → Option (Int32 × St)
  | 0 => fun _ _ _ _ => none
  | k + 1 => fun S x1 x2 x3 => bX4_way_6 (fX4_way_6 k) S x1 x2 x3
theorem wfX4_way_6 {X : CX} (hX : Ok RX4 cX4_way (some .int) 0 55 5 X) {rr : Int32 × St} (hq : rs X = (some (.int rr.1), rr.2)) (k : Nat) : ∀ (S : St) (x1 : Int32) (x2 : Int32) (x3 : Int32), fX4_way_6 k S x1 x2 x3 = some rr → Wat 0 55 1 5 X 6 [(0, .ref (ad X 8)), (1, .int x1), (2, .int x2), (3, .int x3)] [] S := by
  induction k with
  | zero => intro S x1 x2 x3 hres; exact absurd hres (by simp [fX4_way_6])
  | succ k ih => intro S x1 x2 x3 hres; exact wbX4_way_6 hX hq ih hres
def fX4_way (S : St) : Option (Int32 × St) :=
  fX4_way_6 100 S (0 : Int32) (-1 : Int32) (0 : Int32)
theorem wfX4_way {X : CX} (hX : Ok RX4 cX4_way (some .int) 0 55 5 X) {rr : Int32 × St} (hq : rs X = (some (.int rr.1), rr.2)) {S : St} (hres : fX4_way S = some rr) : Wat 0 55 1 5 X 0 [(0, .ref (ad X 8))] [] S := by
  unfold fX4_way at hres
  refine q_iconst 1 hX dX4_way_0 rfl kI_0 ?_
  refine q_istore_n 2 (lv' := [(1, .int (0 : Int32)), (0, .ref (ad X 8))]) hX dX4_way_1 rfl rfl (by decide) rfl ?_
  refine q_iconst 3 hX dX4_way_2 rfl kI_m1 ?_
  refine q_istore_n 4 (lv' := [(2, .int (-1 : Int32)), (1, .int (0 : Int32)), (0, .ref (ad X 8))]) hX dX4_way_3 rfl rfl (by decide) rfl ?_
  refine q_iconst 5 hX dX4_way_4 rfl kI_0 ?_
  refine q_istore_n 6 (lv' := [(3, .int (0 : Int32)), (2, .int (-1 : Int32)), (1, .int (0 : Int32)), (0, .ref (ad X 8))]) hX dX4_way_5 rfl rfl (by decide) rfl ?_
  exact q_sub [3, 2, 1, 0] rfl (wfX4_way_6 hX hq _ _ _ _ _ hres)
theorem cX4_way9 {l : Launch} {w : WD} (hj : Dj w 0 55) {rr : Int32 × St} {S : St} (hres : fX4_way S = some rr) : Ct l yX4_way cX4_way 5 (some .int) 1 w 0 55 [.ref (w.1 8)] S (some (.int rr.1), rr.2) := by
  refine Ct.of (lv := [(0, .ref (w.1 8))]) hj (by decide +kernel) (Nat.le_of_ble_eq_true rfl) rfl ?_
  rintro X rfl rfl hq hX
  exact wfX4_way hX hq hres
def fX4_wayBack_37 (rc6 : St → Int32 → Int32 → Int32 → Option (Int32 × St)) (S : St) (x3 : Int32) (s0 : Int32) : Option (Int32 × St) :=
  if inb x3 12 = true then bV ((S.1 9 (x3.toNatClampNeg))) fun v2 => bV (x3 + (1 : Int32)) fun v3 => rc6 S s0 v2 v3 else none
theorem wfX4_wayBack_37 {X : CX} (hX : Ok RX4 cX4_wayBack (some .int) 0 55 4 X) {rr : Int32 × St} (hq : rs X = (some (.int rr.1), rr.2)) {rc6 : St → Int32 → Int32 → Int32 → Option (Int32 × St)} (hrc6 : ∀ (S : St) (x1 : Int32) (x2 : Int32) (x3 : Int32), rc6 S x1 x2 x3 = some rr → Wat 0 55 1 4 X 6 [(0, .ref (ad X 8)), (1, .int x1), (2, .int x2), (3, .int x3)] [] S) {S : St} {x3 : Int32} {s0 : Int32} (hres : fX4_wayBack_37 rc6 S x3 s0 = some rr) : Wat 0 55 1 4 X 37 [(0, .ref (ad X 8)), (3, .int x3)] [.int s0] S := by
  unfold fX4_wayBack_37 at hres
  refine q_istore_n 38 (lv' := [(1, .int s0), (0, .ref (ad X 8)), (3, .int x3)]) hX dX4_wayBack_37 rfl rfl (by decide) rfl ?_
  refine q_aload_n 39 hX 1 dX4_wayBack_38 rfl rfl rfl ?_
  refine q_getR 42 hX ci4 lf_RX4_9 fR_8_0 dX4_wayBack_39 rfl ?_
  refine q_iload_n 43 hX 2 dX4_wayBack_42 rfl rfl rfl ?_
  obtain ⟨hb1, hres⟩ := gd hres
  refine q_iald 44 hX rfl aF_9 hb1 dX4_wayBack_43 rfl ?_
  refine q_istoreB_n 45 (lv0 := [(1, .int s0), (0, .ref (ad X 8)), (3, .int x3)]) hX dX4_wayBack_44 rfl rfl (by decide) rfl hres (fun v2 hres => ?_)
  refine q_iincB 48 3 (lv0 := [(2, .int v2), (1, .int s0), (0, .ref (ad X 8))]) hX dX4_wayBack_45 rfl rfl kI_1 (by decide) rfl hres (fun v3 hres => ?_)
  refine q_goto 6 hX dX4_wayBack_48 (by decide) ?_
  exact q_sub [3, 2, 1, 0] rfl (hrc6 _ _ _ _ hres)
def bX4_wayBack_6 (rc6 : St → Int32 → Int32 → Int32 → Option (Int32 × St)) (S : St) (x1 : Int32) (x2 : Int32) (x3 : Int32) : Option (Int32 × St) :=
  if (12 : Int32) ≤ x3 then (some ((if 0 ≤ (x2 - x1) then (x2 - x1) else 0 - (x2 - x1)), S)) else (if inb x3 12 = true then if (S.1 9 (x3.toNatClampNeg)) = (-1 : Int32) then (bV (x3 + (1 : Int32)) fun v2 => rc6 S x1 x2 v2) else (if x1 = (-1 : Int32) then (if inb x3 12 = true then fX4_wayBack_37 rc6 S x3 (S.1 9 (x3.toNatClampNeg)) else none) else (fX4_wayBack_37 rc6 S x3 x1)) else none)
theorem wbX4_wayBack_6 {X : CX} (hX : Ok RX4 cX4_wayBack (some .int) 0 55 4 X) {rr : Int32 × St} (hq : rs X = (some (.int rr.1), rr.2)) {rc6 : St → Int32 → Int32 → Int32 → Option (Int32 × St)} (hrc6 : ∀ (S : St) (x1 : Int32) (x2 : Int32) (x3 : Int32), rc6 S x1 x2 x3 = some rr → Wat 0 55 1 4 X 6 [(0, .ref (ad X 8)), (1, .int x1), (2, .int x2), (3, .int x3)] [] S) {S : St} {x1 : Int32} {x2 : Int32} {x3 : Int32} (hres : bX4_wayBack_6 rc6 S x1 x2 x3 = some rr) : Wat 0 55 1 4 X 6 [(0, .ref (ad X 8)), (1, .int x1), (2, .int x2), (3, .int x3)] [] S := by
  unfold bX4_wayBack_6 at hres
  refine q_iload_n 7 hX 3 dX4_wayBack_6 rfl rfl rfl ?_
  refine q_bipush 9 hX dX4_wayBack_7 rfl kB_12 ?_
  refine q_icmp_ge 12 hX 51 dX4_wayBack_9 rfl (by decide) (fun hc => ?_) (fun hc => ?_)
  · have hres := it_t hc hres
    refine q_iload_n 52 hX 2 dX4_wayBack_51 rfl rfl rfl ?_
    refine q_iload_n 53 hX 1 dX4_wayBack_52 rfl rfl rfl ?_
    refine q_isub 54 hX dX4_wayBack_53 rfl ?_
    refine q_abs 57 hX mw_RX4_24 (by decide) (Nat.le_of_ble_eq_true rfl) dX4_wayBack_54 rfl ?_
    exact q_iret hX (eqi hq hres) dX4_wayBack_57
  · have hres := it_f hc hres
    refine q_aload_n 13 hX 0 dX4_wayBack_12 rfl rfl rfl ?_
    refine q_getR 16 hX ci4 lf_RX4_9 fR_8_0 dX4_wayBack_13 rfl ?_
    refine q_iload_n 17 hX 3 dX4_wayBack_16 rfl rfl rfl ?_
    obtain ⟨hb1, hres⟩ := gd hres
    refine q_iald 18 hX rfl aF_9 hb1 dX4_wayBack_17 rfl ?_
    refine q_iconst 19 hX dX4_wayBack_18 rfl kI_m1 ?_
    refine q_icmp_eq 22 hX 45 dX4_wayBack_19 rfl (by decide) (fun hc => ?_) (fun hc => ?_)
    · have hres := it_t hc hres
      refine q_iincB 48 3 (lv0 := [(0, .ref (ad X 8)), (1, .int x1), (2, .int x2)]) hX dX4_wayBack_45 rfl rfl kI_1 (by decide) rfl hres (fun v2 hres => ?_)
      refine q_goto 6 hX dX4_wayBack_48 (by decide) ?_
      exact q_sub [1, 2, 3, 0] rfl (hrc6 _ _ _ _ hres)
    · have hres := it_f hc hres
      refine q_iload_n 23 hX 1 dX4_wayBack_22 rfl rfl rfl ?_
      refine q_iconst 24 hX dX4_wayBack_23 rfl kI_m1 ?_
      refine q_icmp_ne 27 hX 36 dX4_wayBack_24 rfl (by decide) (fun hc => ?_) (fun hc => ?_)
      · have hres := it_f hc hres
        refine q_iload_n 37 hX 1 dX4_wayBack_36 rfl rfl rfl ?_
        exact q_sub [0, 3] rfl (wfX4_wayBack_37 hX hq hrc6 hres)
      · have hres := it_t hc hres
        refine q_aload_n 28 hX 0 dX4_wayBack_27 rfl rfl rfl ?_
        refine q_getR 31 hX ci4 lf_RX4_9 fR_8_0 dX4_wayBack_28 rfl ?_
        refine q_iload_n 32 hX 3 dX4_wayBack_31 rfl rfl rfl ?_
        obtain ⟨hb3, hres⟩ := gd hres
        refine q_iald 33 hX rfl aF_9 hb3 dX4_wayBack_32 rfl ?_
        refine q_goto 37 hX dX4_wayBack_33 (by decide) ?_
        exact q_sub [0, 3] rfl (wfX4_wayBack_37 hX hq hrc6 hres)
def fX4_wayBack_6 : Nat → St → Int32 → Int32 → Int32 → Option (Int32 × St)
  | 0 => fun _ _ _ _ => none
  | k + 1 => fun S x1 x2 x3 => bX4_wayBack_6 (fX4_wayBack_6 k) S x1 x2 x3
theorem wfX4_wayBack_6 {X : CX} (hX : Ok RX4 cX4_wayBack (some .int) 0 55 4 X) {rr : Int32 × St} (hq : rs X = (some (.int rr.1), rr.2)) (k : Nat) : ∀ (S : St) (x1 : Int32) (x2 : Int32) (x3 : Int32), fX4_wayBack_6 k S x1 x2 x3 = some rr → Wat 0 55 1 4 X 6 [(0, .ref (ad X 8)), (1, .int x1), (2, .int x2), (3, .int x3)] [] S := by
  induction k with
  | zero => intro S x1 x2 x3 hres; exact absurd hres (by simp [fX4_wayBack_6])
  | succ k ih => intro S x1 x2 x3 hres; exact wbX4_wayBack_6 hX hq ih hres
def fX4_wayBack (S : St) : Option (Int32 × St) :=
  fX4_wayBack_6 100 S (-1 : Int32) (-1 : Int32) (0 : Int32)
theorem wfX4_wayBack {X : CX} (hX : Ok RX4 cX4_wayBack (some .int) 0 55 4 X) {rr : Int32 × St} (hq : rs X = (some (.int rr.1), rr.2)) {S : St} (hres : fX4_wayBack S = some rr) : Wat 0 55 1 4 X 0 [(0, .ref (ad X 8))] [] S := by
  unfold fX4_wayBack at hres
  refine q_iconst 1 hX dX4_wayBack_0 rfl kI_m1 ?_
  refine q_istore_n 2 (lv' := [(1, .int (-1 : Int32)), (0, .ref (ad X 8))]) hX dX4_wayBack_1 rfl rfl (by decide) rfl ?_
  refine q_iconst 3 hX dX4_wayBack_2 rfl kI_m1 ?_
  refine q_istore_n 4 (lv' := [(2, .int (-1 : Int32)), (1, .int (-1 : Int32)), (0, .ref (ad X 8))]) hX dX4_wayBack_3 rfl rfl (by decide) rfl ?_
  refine q_iconst 5 hX dX4_wayBack_4 rfl kI_0 ?_
  refine q_istore_n 6 (lv' := [(3, .int (0 : Int32)), (2, .int (-1 : Int32)), (1, .int (-1 : Int32)), (0, .ref (ad X 8))]) hX dX4_wayBack_5 rfl rfl (by decide) rfl ?_
  exact q_sub [3, 2, 1, 0] rfl (wfX4_wayBack_6 hX hq _ _ _ _ _ hres)
theorem cX4_wayBack9 {l : Launch} {w : WD} (hj : Dj w 0 55) {rr : Int32 × St} {S : St} (hres : fX4_wayBack S = some rr) : Ct l yX4_wayBack cX4_wayBack 4 (some .int) 1 w 0 55 [.ref (w.1 8)] S (some (.int rr.1), rr.2) := by
  refine Ct.of (lv := [(0, .ref (w.1 8))]) hj (by decide +kernel) (Nat.le_of_ble_eq_true rfl) rfl ?_
  rintro X rfl rfl hq hX
  exact wfX4_wayBack hX hq hres
def fX4_exchange (S : St) (x1 : Int32) (x2 : Int32) : Option (St) :=
  bi (fX4_holder S x1) fun r2 S1 => bi (fX4_holder S1 x2) fun r4 S2 => bv (fX4_give S2 x1 r4) fun S3 => bv (fX4_give S3 x2 r2) fun S4 => some S4
theorem wfX4_exchange {X : CX} (hX : Ok RX4 cX4_exchange none 0 55 4 X) {rr : St} (hq : rs X = (none, rr)) {S : St} {x1 : Int32} {x2 : Int32} (hres : fX4_exchange S x1 x2 = some rr) : Wat 0 55 2 4 X 0 [(0, .ref (ad X 8)), (1, .int x1), (2, .int x2)] [] S := by
  unfold fX4_exchange at hres
  refine q_aload_n 1 hX 0 dX4_exchange_0 rfl rfl rfl ?_
  refine q_iload_n 2 hX 1 dX4_exchange_1 rfl rfl rfl ?_
  obtain ⟨r2, S1, hk1, hres⟩ := ob hres
  refine q_callVi 5 (st := []) (As := [.int x1]) hX (cX4_holder9 hX.dj hk1) cv_RX4_38 ci4 oB_8 rfl (by decide) rfl (Nat.le_of_ble_eq_true rfl) dX4_exchange_2 rfl ?_
  refine q_istore_n 6 (lv' := [(3, .int r2), (0, .ref (ad X 8)), (1, .int x1), (2, .int x2)]) hX dX4_exchange_5 rfl rfl (by decide) rfl ?_
  refine q_aload_n 7 hX 1 dX4_exchange_6 rfl rfl rfl ?_
  refine q_iload_n 8 hX 2 dX4_exchange_7 rfl rfl rfl ?_
  refine q_aload_n 9 hX 1 dX4_exchange_8 rfl rfl rfl ?_
  refine q_iload_n 10 hX 3 dX4_exchange_9 rfl rfl rfl ?_
  obtain ⟨r4, S2, hk3, hres⟩ := ob hres
  refine q_callVi 13 (st := [.int x1, .ref (ad X 8)]) (As := [.int x2]) hX (cX4_holder9 hX.dj hk3) cv_RX4_38 ci4 oB_8 rfl (by decide) rfl (Nat.le_of_ble_eq_true rfl) dX4_exchange_10 rfl ?_
  obtain ⟨S3, hk5, hres⟩ := obv hres
  refine q_callVv 16 (st := []) (As := [.int x1, .int r4]) hX (cX4_give9 hX.dj hk5) cv_RX4_41 ci4 oB_8 rfl (by decide) rfl (Nat.le_of_ble_eq_true rfl) dX4_exchange_13 rfl ?_
  refine q_aload_n 17 hX 1 dX4_exchange_16 rfl rfl rfl ?_
  refine q_iload_n 18 hX 3 dX4_exchange_17 rfl rfl rfl ?_
  refine q_iload_n 19 hX 0 dX4_exchange_18 rfl rfl rfl ?_
  obtain ⟨S4, hk6, hres⟩ := obv hres
  refine q_callVv 22 (st := []) (As := [.int x2, .int r2]) hX (cX4_give9 hX.dj hk6) cv_RX4_41 ci4 oB_8 rfl (by decide) rfl (Nat.le_of_ble_eq_true rfl) dX4_exchange_19 rfl ?_
  exact q_vret hX (eqv hq hres) dX4_exchange_22
theorem cX4_exchange9 {l : Launch} {w : WD} (hj : Dj w 0 55) {rr : St} {S : St} {x1 : Int32} {x2 : Int32} (hres : fX4_exchange S x1 x2 = some rr) : Ct l yX4_exchange cX4_exchange 4 none 2 w 0 55 [.ref (w.1 8), .int x1, .int x2] S (none, rr) := by
  refine Ct.of (lv := [(0, .ref (w.1 8)), (1, .int x1), (2, .int x2)]) hj (by decide +kernel) (Nat.le_of_ble_eq_true rfl) rfl ?_
  rintro X rfl rfl hq hX
  exact wfX4_exchange hX hq hres
def fX4_wayIfSwapped (S : St) (x1 : Int32) (x2 : Int32) : Option (Int32 × St) :=
  bv (fX4_exchange S x1 x2) fun S1 => bi (fX4_way S1) fun r3 S2 => bv (fX4_exchange S2 x1 x2) fun S3 => some (r3, S3)
theorem wfX4_wayIfSwapped {X : CX} (hX : Ok RX4 cX4_wayIfSwapped (some .int) 0 55 4 X) {rr : Int32 × St} (hq : rs X = (some (.int rr.1), rr.2)) {S : St} {x1 : Int32} {x2 : Int32} (hres : fX4_wayIfSwapped S x1 x2 = some rr) : Wat 0 55 3 4 X 0 [(0, .ref (ad X 8)), (1, .int x1), (2, .int x2)] [] S := by
  unfold fX4_wayIfSwapped at hres
  refine q_aload_n 1 hX 0 dX4_wayIfSwapped_0 rfl rfl rfl ?_
  refine q_iload_n 2 hX 1 dX4_wayIfSwapped_1 rfl rfl rfl ?_
  refine q_iload_n 3 hX 2 dX4_wayIfSwapped_2 rfl rfl rfl ?_
  obtain ⟨S1, hk1, hres⟩ := obv hres
  refine q_callVv 6 (st := []) (As := [.int x1, .int x2]) hX (cX4_exchange9 hX.dj hk1) cv_RX4_30 ci4 oB_8 rfl (by decide) rfl (Nat.le_of_ble_eq_true rfl) dX4_wayIfSwapped_3 rfl ?_
  refine q_aload_n 7 hX 0 dX4_wayIfSwapped_6 rfl rfl rfl ?_
  obtain ⟨r3, S2, hk2, hres⟩ := ob hres
  refine q_callVi 10 (st := []) (As := []) hX (cX4_way9 hX.dj hk2) cv_RX4_34 ci4 oB_8 rfl (by decide) rfl (Nat.le_of_ble_eq_true rfl) dX4_wayIfSwapped_7 rfl ?_
  refine q_istore_n 11 (lv' := [(3, .int r3), (0, .ref (ad X 8)), (1, .int x1), (2, .int x2)]) hX dX4_wayIfSwapped_10 rfl rfl (by decide) rfl ?_
  refine q_aload_n 12 hX 1 dX4_wayIfSwapped_11 rfl rfl rfl ?_
  refine q_iload_n 13 hX 2 dX4_wayIfSwapped_12 rfl rfl rfl ?_
  refine q_iload_n 14 hX 3 dX4_wayIfSwapped_13 rfl rfl rfl ?_
  obtain ⟨S3, hk4, hres⟩ := obv hres
  refine q_callVv 17 (st := []) (As := [.int x1, .int x2]) hX (cX4_exchange9 hX.dj hk4) cv_RX4_30 ci4 oB_8 rfl (by decide) rfl (Nat.le_of_ble_eq_true rfl) dX4_wayIfSwapped_14 rfl ?_
  refine q_iload_n 18 hX 0 dX4_wayIfSwapped_17 rfl rfl rfl ?_
  exact q_iret hX (eqi hq hres) dX4_wayIfSwapped_18
theorem cX4_wayIfSwapped9 {l : Launch} {w : WD} (hj : Dj w 0 55) {rr : Int32 × St} {S : St} {x1 : Int32} {x2 : Int32} (hres : fX4_wayIfSwapped S x1 x2 = some rr) : Ct l yX4_wayIfSwapped cX4_wayIfSwapped 4 (some .int) 3 w 0 55 [.ref (w.1 8), .int x1, .int x2] S (some (.int rr.1), rr.2) := by
  refine Ct.of (lv := [(0, .ref (w.1 8)), (1, .int x1), (2, .int x2)]) hj (by decide +kernel) (Nat.le_of_ble_eq_true rfl) rfl ?_
  rintro X rfl rfl hq hX
  exact wfX4_wayIfSwapped hX hq hres
def bX4_spreadAmong_8 (o1 : Nat) (rc8 : St → Int32 → Int32 → Int32 → Option (Int32 × St)) (S : St) (x2 : Int32) (x3 : Int32) (x4 : Int32) : Option (Int32 × St) :=
  if (16 : Int32) ≤ x4 then (some ((if (x2 - x3) < (0 : Int32) then (0 : Int32) else (x2 - x3)), S)) else (bi (fX8_hasHouse o1 S x4) fun r2 S1 => if r2 = 0 then (bV (x4 + (1 : Int32)) fun v3 => rc8 S1 x2 x3 v3) else (bi (fX4_turnsOf S1 x4) fun r5 S2 => bi (fJ6_bitCount_0f7a4 S2 r5) fun r7 S3 => bV ((if x2 < r7 then r7 else x2)) fun v8 => bV ((if r7 < x3 then r7 else x3)) fun v9 => bV (x4 + (1 : Int32)) fun v10 => rc8 S3 v8 v9 v10))
theorem wbX4_spreadAmong_8 {X : CX} (hX : Ok RX4 cX4_spreadAmong (some .int) 0 55 6 X) {o1 : Nat} (ho1 : isT o1) {rr : Int32 × St} (hq : rs X = (some (.int rr.1), rr.2)) {rc8 : St → Int32 → Int32 → Int32 → Option (Int32 × St)} (hrc8 : ∀ (S : St) (x2 : Int32) (x3 : Int32) (x4 : Int32), rc8 S x2 x3 x4 = some rr → Wat 0 55 1 6 X 8 [(0, .ref (ad X 8)), (1, .ref (ad X o1)), (2, .int x2), (3, .int x3), (4, .int x4)] [] S) {S : St} {x2 : Int32} {x3 : Int32} {x4 : Int32} (hres : bX4_spreadAmong_8 o1 rc8 S x2 x3 x4 = some rr) : Wat 0 55 1 6 X 8 [(0, .ref (ad X 8)), (1, .ref (ad X o1)), (2, .int x2), (3, .int x3), (4, .int x4)] [] S := by
  unfold bX4_spreadAmong_8 at hres
  refine q_iload 10 hX 4 dX4_spreadAmong_8 rfl rfl ?_
  refine q_bipush 12 hX dX4_spreadAmong_10 rfl kB_16 ?_
  refine q_icmp_ge 15 hX 55 dX4_spreadAmong_12 rfl (by decide) (fun hc => ?_) (fun hc => ?_)
  · have hres := it_t hc hres
    refine q_iload_n 56 hX 2 dX4_spreadAmong_55 rfl rfl rfl ?_
    refine q_iload_n 57 hX 3 dX4_spreadAmong_56 rfl rfl rfl ?_
    refine q_isub 58 hX dX4_spreadAmong_57 rfl ?_
    refine q_iconst 59 hX dX4_spreadAmong_58 rfl kI_0 ?_
    refine q_max 62 hX mw_RX4_52 (by decide) (Nat.le_of_ble_eq_true rfl) dX4_spreadAmong_59 rfl ?_
    exact q_iret hX (eqi hq hres) dX4_spreadAmong_62
  · have hres := it_f hc hres
    refine q_aload_n 16 hX 1 dX4_spreadAmong_15 rfl rfl rfl ?_
    refine q_iload 18 hX 4 dX4_spreadAmong_16 rfl rfl ?_
    obtain ⟨r2, S1, hk1, hres⟩ := ob hres
    refine q_callVi 21 (st := []) (As := [.int x4]) hX (cX8_hasHouse9 hX.dj ho1 hk1) cv_RX4_19 ci8 (oB_T ho1) rfl (by decide) rfl (Nat.le_of_ble_eq_true rfl) dX4_spreadAmong_18 rfl ?_
    refine q_if_eq 24 hX 49 dX4_spreadAmong_21 rfl (by decide) (fun hc => ?_) (fun hc => ?_)
    · have hres := it_t hc hres
      refine q_iincB 52 4 (lv0 := [(0, .ref (ad X 8)), (1, .ref (ad X o1)), (2, .int x2), (3, .int x3)]) hX dX4_spreadAmong_49 rfl rfl kI_1 (by decide) rfl hres (fun v3 hres => ?_)
      refine q_goto 8 hX dX4_spreadAmong_52 (by decide) ?_
      exact q_sub [1, 2, 3, 4, 0] rfl (hrc8 _ _ _ _ hres)
    · have hres := it_f hc hres
      refine q_aload_n 25 hX 0 dX4_spreadAmong_24 rfl rfl rfl ?_
      refine q_iload 27 hX 4 dX4_spreadAmong_25 rfl rfl ?_
      obtain ⟨r5, S2, hk4, hres⟩ := ob hres
      refine q_callVi 30 (st := []) (As := [.int x4]) hX (cX4_turnsOf9 hX.dj hk4) cv_RX4_44 ci4 oB_8 rfl (by decide) rfl (Nat.le_of_ble_eq_true rfl) dX4_spreadAmong_27 rfl ?_
      obtain ⟨r7, S3, hk6, hres⟩ := ob hres
      refine q_callSi 33 (st := []) (As := [.int r5]) hX (cJ6_bitCount_0f7a49 hX.dj hk6) cs_RX4_47 rfl (by decide) rfl (Nat.le_of_ble_eq_true rfl) dX4_spreadAmong_30 rfl ?_
      refine q_istore 35 (lv' := [(5, .int r7), (0, .ref (ad X 8)), (1, .ref (ad X o1)), (2, .int x2), (3, .int x3), (4, .int x4)]) hX dX4_spreadAmong_33 rfl (by decide) rfl ?_
      refine q_iload_n 36 hX 3 dX4_spreadAmong_35 rfl rfl rfl ?_
      refine q_iload 38 hX 0 dX4_spreadAmong_36 rfl rfl ?_
      refine q_max 41 hX mw_RX4_52 (by decide) (Nat.le_of_ble_eq_true rfl) dX4_spreadAmong_38 rfl ?_
      refine q_istoreB_n 42 (lv0 := [(5, .int r7), (0, .ref (ad X 8)), (1, .ref (ad X o1)), (3, .int x3), (4, .int x4)]) hX dX4_spreadAmong_41 rfl rfl (by decide) rfl hres (fun v8 hres => ?_)
      refine q_iload_n 43 hX 4 dX4_spreadAmong_42 rfl rfl rfl ?_
      refine q_iload 45 hX 1 dX4_spreadAmong_43 rfl rfl ?_
      refine q_min 48 hX mw_RX4_56 (by decide) (Nat.le_of_ble_eq_true rfl) dX4_spreadAmong_45 rfl ?_
      refine q_istoreB_n 49 (lv0 := [(2, .int v8), (5, .int r7), (0, .ref (ad X 8)), (1, .ref (ad X o1)), (4, .int x4)]) hX dX4_spreadAmong_48 rfl rfl (by decide) rfl hres (fun v9 hres => ?_)
      refine q_iincB 52 5 (lv0 := [(3, .int v9), (2, .int v8), (5, .int r7), (0, .ref (ad X 8)), (1, .ref (ad X o1))]) hX dX4_spreadAmong_49 rfl rfl kI_1 (by decide) rfl hres (fun v10 hres => ?_)
      refine q_goto 8 hX dX4_spreadAmong_52 (by decide) ?_
      exact q_sub [4, 5, 2, 1, 0] rfl (hrc8 _ _ _ _ hres)
def fX4_spreadAmong_8 (o1 : Nat) : Nat → St → Int32 → Int32 → Int32 → Option (Int32 × St)
  | 0 => fun _ _ _ _ => none
  | k + 1 => fun S x2 x3 x4 => bX4_spreadAmong_8 o1 (fX4_spreadAmong_8 o1 k) S x2 x3 x4
theorem wfX4_spreadAmong_8 {X : CX} (hX : Ok RX4 cX4_spreadAmong (some .int) 0 55 6 X) {o1 : Nat} (ho1 : isT o1) {rr : Int32 × St} (hq : rs X = (some (.int rr.1), rr.2)) (k : Nat) : ∀ (S : St) (x2 : Int32) (x3 : Int32) (x4 : Int32), fX4_spreadAmong_8 o1 k S x2 x3 x4 = some rr → Wat 0 55 1 6 X 8 [(0, .ref (ad X 8)), (1, .ref (ad X o1)), (2, .int x2), (3, .int x3), (4, .int x4)] [] S := by
  induction k with
  | zero => intro S x2 x3 x4 hres; exact absurd hres (by simp [fX4_spreadAmong_8])
  | succ k ih => intro S x2 x3 x4 hres; exact wbX4_spreadAmong_8 hX ho1 hq ih hres
def fX4_spreadAmong (o1 : Nat) (S : St) : Option (Int32 × St) :=
  fX4_spreadAmong_8 o1 100 S (0 : Int32) (12 : Int32) (0 : Int32)
theorem wfX4_spreadAmong {X : CX} (hX : Ok RX4 cX4_spreadAmong (some .int) 0 55 6 X) {o1 : Nat} (ho1 : isT o1) {rr : Int32 × St} (hq : rs X = (some (.int rr.1), rr.2)) {S : St} (hres : fX4_spreadAmong o1 S = some rr) : Wat 0 55 1 6 X 0 [(0, .ref (ad X 8)), (1, .ref (ad X o1))] [] S := by
  unfold fX4_spreadAmong at hres
  refine q_iconst 1 hX dX4_spreadAmong_0 rfl kI_0 ?_
  refine q_istore_n 2 (lv' := [(2, .int (0 : Int32)), (0, .ref (ad X 8)), (1, .ref (ad X o1))]) hX dX4_spreadAmong_1 rfl rfl (by decide) rfl ?_
  refine q_bipush 4 hX dX4_spreadAmong_2 rfl kB_12 ?_
  refine q_istore_n 5 (lv' := [(3, .int (12 : Int32)), (2, .int (0 : Int32)), (0, .ref (ad X 8)), (1, .ref (ad X o1))]) hX dX4_spreadAmong_4 rfl rfl (by decide) rfl ?_
  refine q_iconst 6 hX dX4_spreadAmong_5 rfl kI_0 ?_
  refine q_istore 8 (lv' := [(4, .int (0 : Int32)), (3, .int (12 : Int32)), (2, .int (0 : Int32)), (0, .ref (ad X 8)), (1, .ref (ad X o1))]) hX dX4_spreadAmong_6 rfl (by decide) rfl ?_
  exact q_sub [3, 4, 2, 1, 0] rfl (wfX4_spreadAmong_8 hX ho1 hq _ _ _ _ _ hres)
theorem cX4_spreadAmong9 {l : Launch} {w : WD} (hj : Dj w 0 55) {o1 : Nat} (ho1 : isT o1) {rr : Int32 × St} {S : St} (hres : fX4_spreadAmong o1 S = some rr) : Ct l yX4_spreadAmong cX4_spreadAmong 6 (some .int) 1 w 0 55 [.ref (w.1 8), .ref (w.1 o1)] S (some (.int rr.1), rr.2) := by
  refine Ct.of (lv := [(0, .ref (w.1 8)), (1, .ref (w.1 o1))]) hj (by decide +kernel) (Nat.le_of_ble_eq_true rfl) rfl ?_
  rintro X rfl rfl hq hX
  exact wfX4_spreadAmong hX ho1 hq hres
def bX4_thingsSeen_4 (o1 : Nat) (rc4 : St → Int32 → Int32 → Option (Int32 × St)) (S : St) (x2 : Int32) (x3 : Int32) : Option (Int32 × St) :=
  if (12 : Int32) ≤ x3 then (some (x2, S)) else (if inb x3 12 = true then bi (fX8_view o1 S (S.1 9 (x3.toNatClampNeg)) x3) fun r3 S1 => bV ((x2 ||| r3)) fun v4 => bV (x3 + (1 : Int32)) fun v5 => rc4 S1 v4 v5 else none)
theorem wbX4_thingsSeen_4 {X : CX} (hX : Ok RX4 cX4_thingsSeen (some .int) 0 55 4 X) {o1 : Nat} (ho1 : isT o1) {rr : Int32 × St} (hq : rs X = (some (.int rr.1), rr.2)) {rc4 : St → Int32 → Int32 → Option (Int32 × St)} (hrc4 : ∀ (S : St) (x2 : Int32) (x3 : Int32), rc4 S x2 x3 = some rr → Wat 0 55 2 4 X 4 [(0, .ref (ad X 8)), (1, .ref (ad X o1)), (2, .int x2), (3, .int x3)] [] S) {S : St} {x2 : Int32} {x3 : Int32} (hres : bX4_thingsSeen_4 o1 rc4 S x2 x3 = some rr) : Wat 0 55 2 4 X 4 [(0, .ref (ad X 8)), (1, .ref (ad X o1)), (2, .int x2), (3, .int x3)] [] S := by
  unfold bX4_thingsSeen_4 at hres
  refine q_iload_n 5 hX 3 dX4_thingsSeen_4 rfl rfl rfl ?_
  refine q_bipush 7 hX dX4_thingsSeen_5 rfl kB_12 ?_
  refine q_icmp_ge 10 hX 30 dX4_thingsSeen_7 rfl (by decide) (fun hc => ?_) (fun hc => ?_)
  · have hres := it_t hc hres
    refine q_iload_n 31 hX 2 dX4_thingsSeen_30 rfl rfl rfl ?_
    exact q_iret hX (eqi hq hres) dX4_thingsSeen_31
  · have hres := it_f hc hres
    refine q_iload_n 11 hX 2 dX4_thingsSeen_10 rfl rfl rfl ?_
    refine q_aload_n 12 hX 1 dX4_thingsSeen_11 rfl rfl rfl ?_
    refine q_aload_n 13 hX 0 dX4_thingsSeen_12 rfl rfl rfl ?_
    refine q_getR 16 hX ci4 lf_RX4_9 fR_8_0 dX4_thingsSeen_13 rfl ?_
    refine q_iload_n 17 hX 3 dX4_thingsSeen_16 rfl rfl rfl ?_
    obtain ⟨hb1, hres⟩ := gd hres
    refine q_iald 18 hX rfl aF_9 hb1 dX4_thingsSeen_17 rfl ?_
    refine q_iload_n 19 hX 3 dX4_thingsSeen_18 rfl rfl rfl ?_
    obtain ⟨r3, S1, hk2, hres⟩ := ob hres
    refine q_callVi 22 (st := [.int x2]) (As := [.int (S.1 9 (x3.toNatClampNeg)), .int x3]) hX (cX8_view9 hX.dj ho1 hk2) cv_RX4_59 ci8 (oB_T ho1) rfl (by decide) rfl (Nat.le_of_ble_eq_true rfl) dX4_thingsSeen_19 rfl ?_
    refine q_ior 23 hX dX4_thingsSeen_22 rfl ?_
    refine q_istoreB_n 24 (lv0 := [(0, .ref (ad X 8)), (1, .ref (ad X o1)), (3, .int x3)]) hX dX4_thingsSeen_23 rfl rfl (by decide) rfl hres (fun v4 hres => ?_)
    refine q_iincB 27 3 (lv0 := [(2, .int v4), (0, .ref (ad X 8)), (1, .ref (ad X o1))]) hX dX4_thingsSeen_24 rfl rfl kI_1 (by decide) rfl hres (fun v5 hres => ?_)
    refine q_goto 4 hX dX4_thingsSeen_27 (by decide) ?_
    exact q_sub [2, 3, 1, 0] rfl (hrc4 _ _ _ hres)
def fX4_thingsSeen_4 (o1 : Nat) : Nat → St → Int32 → Int32 → Option (Int32 × St)
  | 0 => fun _ _ _ => none
  | k + 1 => fun S x2 x3 => bX4_thingsSeen_4 o1 (fX4_thingsSeen_4 o1 k) S x2 x3
theorem wfX4_thingsSeen_4 {X : CX} (hX : Ok RX4 cX4_thingsSeen (some .int) 0 55 4 X) {o1 : Nat} (ho1 : isT o1) {rr : Int32 × St} (hq : rs X = (some (.int rr.1), rr.2)) (k : Nat) : ∀ (S : St) (x2 : Int32) (x3 : Int32), fX4_thingsSeen_4 o1 k S x2 x3 = some rr → Wat 0 55 2 4 X 4 [(0, .ref (ad X 8)), (1, .ref (ad X o1)), (2, .int x2), (3, .int x3)] [] S := by
  induction k with
  | zero => intro S x2 x3 hres; exact absurd hres (by simp [fX4_thingsSeen_4])
  | succ k ih => intro S x2 x3 hres; exact wbX4_thingsSeen_4 hX ho1 hq ih hres
def fX4_thingsSeen (o1 : Nat) (S : St) : Option (Int32 × St) :=
  fX4_thingsSeen_4 o1 100 S (0 : Int32) (0 : Int32)
theorem wfX4_thingsSeen {X : CX} (hX : Ok RX4 cX4_thingsSeen (some .int) 0 55 4 X) {o1 : Nat} (ho1 : isT o1) {rr : Int32 × St} (hq : rs X = (some (.int rr.1), rr.2)) {S : St} (hres : fX4_thingsSeen o1 S = some rr) : Wat 0 55 2 4 X 0 [(0, .ref (ad X 8)), (1, .ref (ad X o1))] [] S := by
  unfold fX4_thingsSeen at hres
  refine q_iconst 1 hX dX4_thingsSeen_0 rfl kI_0 ?_
  refine q_istore_n 2 (lv' := [(2, .int (0 : Int32)), (0, .ref (ad X 8)), (1, .ref (ad X o1))]) hX dX4_thingsSeen_1 rfl rfl (by decide) rfl ?_
  refine q_iconst 3 hX dX4_thingsSeen_2 rfl kI_0 ?_
  refine q_istore_n 4 (lv' := [(3, .int (0 : Int32)), (2, .int (0 : Int32)), (0, .ref (ad X 8)), (1, .ref (ad X o1))]) hX dX4_thingsSeen_3 rfl rfl (by decide) rfl ?_
  exact q_sub [2, 3, 1, 0] rfl (wfX4_thingsSeen_4 hX ho1 hq _ _ _ _ hres)
theorem cX4_thingsSeen9 {l : Launch} {w : WD} (hj : Dj w 0 55) {o1 : Nat} (ho1 : isT o1) {rr : Int32 × St} {S : St} (hres : fX4_thingsSeen o1 S = some rr) : Ct l yX4_thingsSeen cX4_thingsSeen 4 (some .int) 2 w 0 55 [.ref (w.1 8), .ref (w.1 o1)] S (some (.int rr.1), rr.2) := by
  refine Ct.of (lv := [(0, .ref (w.1 8)), (1, .ref (w.1 o1))]) hj (by decide +kernel) (Nat.le_of_ble_eq_true rfl) rfl ?_
  rintro X rfl rfl hq hX
  exact wfX4_thingsSeen hX ho1 hq hres
def bX4_turnsTill_3 (o1 : Nat) (rc3 : St → Int32 → Int32 → Int32 → Int32 → Option (Int32 × St)) (S : St) (x2 : Int32) (x3 : Int32) (x4 : Int32) (x5 : Int32) : Option (Int32 × St) :=
  if (12 : Int32) ≤ x5 then (some ((-2 : Int32), S)) else (bV (((x4 + x5) - (x4 + x5) / (12 : Int32) * (12 : Int32))) fun v1 => bi (fX4_holder S v1) fun r3 S1 => if r3 = x2 then (bi (fX8_view o1 S1 x2 v1) fun r6 S2 => if ((r6 >>> (x3 &&& 31)) &&& (1 : Int32)) = (1 : Int32) then (some (x5, S2)) else (bV (x5 + (1 : Int32)) fun v7 => rc3 S2 x2 x3 x4 v7)) else (bV (x5 + (1 : Int32)) fun v4 => rc3 S1 x2 x3 x4 v4))
theorem wbX4_turnsTill_3 {X : CX} (hX : Ok RX4 cX4_turnsTill (some .int) 0 55 7 X) {o1 : Nat} (ho1 : isT o1) {rr : Int32 × St} (hq : rs X = (some (.int rr.1), rr.2)) {rc3 : St → Int32 → Int32 → Int32 → Int32 → Option (Int32 × St)} (hrc3 : ∀ (S : St) (x2 : Int32) (x3 : Int32) (x4 : Int32) (x5 : Int32), rc3 S x2 x3 x4 x5 = some rr → Wat 0 55 2 7 X 3 [(0, .ref (ad X 8)), (1, .ref (ad X o1)), (2, .int x2), (3, .int x3), (4, .int x4), (5, .int x5)] [] S) {S : St} {x2 : Int32} {x3 : Int32} {x4 : Int32} {x5 : Int32} (hres : bX4_turnsTill_3 o1 rc3 S x2 x3 x4 x5 = some rr) : Wat 0 55 2 7 X 3 [(0, .ref (ad X 8)), (1, .ref (ad X o1)), (2, .int x2), (3, .int x3), (4, .int x4), (5, .int x5)] [] S := by
  unfold bX4_turnsTill_3 at hres
  refine q_iload 5 hX 5 dX4_turnsTill_3 rfl rfl ?_
  refine q_bipush 7 hX dX4_turnsTill_5 rfl kB_12 ?_
  refine q_icmp_ge 10 hX 54 dX4_turnsTill_7 rfl (by decide) (fun hc => ?_) (fun hc => ?_)
  · have hres := it_t hc hres
    refine q_bipush 56 hX dX4_turnsTill_54 rfl kB_m2 ?_
    exact q_iret hX (eqi hq hres) dX4_turnsTill_56
  · have hres := it_f hc hres
    refine q_iload 12 hX 4 dX4_turnsTill_10 rfl rfl ?_
    refine q_iload 14 hX 5 dX4_turnsTill_12 rfl rfl ?_
    refine q_iadd 15 hX dX4_turnsTill_14 rfl ?_
    refine q_bipush 17 hX dX4_turnsTill_15 rfl kB_12 ?_
    refine q_irem 18 hX dX4_turnsTill_17 rfl (by decide) ?_
    refine q_istoreB 20 (lv0 := [(0, .ref (ad X 8)), (1, .ref (ad X o1)), (2, .int x2), (3, .int x3), (4, .int x4), (5, .int x5)]) hX dX4_turnsTill_18 rfl (by decide) rfl hres (fun v1 hres => ?_)
    refine q_aload_n 21 hX 1 dX4_turnsTill_20 rfl rfl rfl ?_
    refine q_iload 23 hX 0 dX4_turnsTill_21 rfl rfl ?_
    obtain ⟨r3, S1, hk2, hres⟩ := ob hres
    refine q_callVi 26 (st := []) (As := [.int v1]) hX (cX4_holder9 hX.dj hk2) cv_RX4_38 ci4 oB_8 rfl (by decide) rfl (Nat.le_of_ble_eq_true rfl) dX4_turnsTill_23 rfl ?_
    refine q_iload_n 27 hX 3 dX4_turnsTill_26 rfl rfl rfl ?_
    refine q_icmp_ne 30 hX 48 dX4_turnsTill_27 rfl (by decide) (fun hc => ?_) (fun hc => ?_)
    · have hres := it_f hc hres
      refine q_iincB 51 6 (lv0 := [(6, .int v1), (0, .ref (ad X 8)), (1, .ref (ad X o1)), (2, .int x2), (3, .int x3), (4, .int x4)]) hX dX4_turnsTill_48 rfl rfl kI_1 (by decide) rfl hres (fun v4 hres => ?_)
      refine q_goto 3 hX dX4_turnsTill_51 (by decide) ?_
      exact q_sub [2, 3, 4, 5, 6, 0] rfl (hrc3 _ _ _ _ _ hres)
    · have hres := it_t hc hres
      refine q_aload_n 31 hX 2 dX4_turnsTill_30 rfl rfl rfl ?_
      refine q_iload_n 32 hX 3 dX4_turnsTill_31 rfl rfl rfl ?_
      refine q_iload 34 hX 0 dX4_turnsTill_32 rfl rfl ?_
      obtain ⟨r6, S2, hk5, hres⟩ := ob hres
      refine q_callVi 37 (st := []) (As := [.int x2, .int v1]) hX (cX8_view9 hX.dj ho1 hk5) cv_RX4_59 ci8 (oB_T ho1) rfl (by decide) rfl (Nat.le_of_ble_eq_true rfl) dX4_turnsTill_34 rfl ?_
      refine q_iload_n 38 hX 4 dX4_turnsTill_37 rfl rfl rfl ?_
      refine q_ishr 39 hX dX4_turnsTill_38 rfl ?_
      refine q_iconst 40 hX dX4_turnsTill_39 rfl kI_1 ?_
      refine q_iand 41 hX dX4_turnsTill_40 rfl ?_
      refine q_iconst 42 hX dX4_turnsTill_41 rfl kI_1 ?_
      refine q_icmp_ne 45 hX 48 dX4_turnsTill_42 rfl (by decide) (fun hc => ?_) (fun hc => ?_)
      · have hres := it_f hc hres
        refine q_iincB 51 6 (lv0 := [(6, .int v1), (0, .ref (ad X 8)), (1, .ref (ad X o1)), (2, .int x2), (3, .int x3), (4, .int x4)]) hX dX4_turnsTill_48 rfl rfl kI_1 (by decide) rfl hres (fun v7 hres => ?_)
        refine q_goto 3 hX dX4_turnsTill_51 (by decide) ?_
        exact q_sub [2, 3, 4, 5, 6, 0] rfl (hrc3 _ _ _ _ _ hres)
      · have hres := it_t hc hres
        refine q_iload 47 hX 6 dX4_turnsTill_45 rfl rfl ?_
        exact q_iret hX (eqi hq hres) dX4_turnsTill_47
def fX4_turnsTill_3 (o1 : Nat) : Nat → St → Int32 → Int32 → Int32 → Int32 → Option (Int32 × St)
  | 0 => fun _ _ _ _ _ => none
  | k + 1 => fun S x2 x3 x4 x5 => bX4_turnsTill_3 o1 (fX4_turnsTill_3 o1 k) S x2 x3 x4 x5
theorem wfX4_turnsTill_3 {X : CX} (hX : Ok RX4 cX4_turnsTill (some .int) 0 55 7 X) {o1 : Nat} (ho1 : isT o1) {rr : Int32 × St} (hq : rs X = (some (.int rr.1), rr.2)) (k : Nat) : ∀ (S : St) (x2 : Int32) (x3 : Int32) (x4 : Int32) (x5 : Int32), fX4_turnsTill_3 o1 k S x2 x3 x4 x5 = some rr → Wat 0 55 2 7 X 3 [(0, .ref (ad X 8)), (1, .ref (ad X o1)), (2, .int x2), (3, .int x3), (4, .int x4), (5, .int x5)] [] S := by
  induction k with
  | zero => intro S x2 x3 x4 x5 hres; exact absurd hres (by simp [fX4_turnsTill_3])
  | succ k ih => intro S x2 x3 x4 x5 hres; exact wbX4_turnsTill_3 hX ho1 hq ih hres
def fX4_turnsTill (o1 : Nat) (S : St) (x2 : Int32) (x3 : Int32) (x4 : Int32) : Option (Int32 × St) :=
  fX4_turnsTill_3 o1 100 S x2 x3 x4 (0 : Int32)
theorem wfX4_turnsTill {X : CX} (hX : Ok RX4 cX4_turnsTill (some .int) 0 55 7 X) {o1 : Nat} (ho1 : isT o1) {rr : Int32 × St} (hq : rs X = (some (.int rr.1), rr.2)) {S : St} {x2 : Int32} {x3 : Int32} {x4 : Int32} (hres : fX4_turnsTill o1 S x2 x3 x4 = some rr) : Wat 0 55 2 7 X 0 [(0, .ref (ad X 8)), (1, .ref (ad X o1)), (2, .int x2), (3, .int x3), (4, .int x4)] [] S := by
  unfold fX4_turnsTill at hres
  refine q_iconst 1 hX dX4_turnsTill_0 rfl kI_0 ?_
  refine q_istore 3 (lv' := [(5, .int (0 : Int32)), (0, .ref (ad X 8)), (1, .ref (ad X o1)), (2, .int x2), (3, .int x3), (4, .int x4)]) hX dX4_turnsTill_1 rfl (by decide) rfl ?_
  exact q_sub [1, 2, 3, 4, 5, 0] rfl (wfX4_turnsTill_3 hX ho1 hq _ _ _ _ _ _ hres)
theorem cX4_turnsTill9 {l : Launch} {w : WD} (hj : Dj w 0 55) {o1 : Nat} (ho1 : isT o1) {rr : Int32 × St} {S : St} {x2 : Int32} {x3 : Int32} {x4 : Int32} (hres : fX4_turnsTill o1 S x2 x3 x4 = some rr) : Ct l yX4_turnsTill cX4_turnsTill 7 (some .int) 2 w 0 55 [.ref (w.1 8), .ref (w.1 o1), .int x2, .int x3, .int x4] S (some (.int rr.1), rr.2) := by
  refine Ct.of (lv := [(0, .ref (w.1 8)), (1, .ref (w.1 o1)), (2, .int x2), (3, .int x3), (4, .int x4)]) hj (by decide +kernel) (Nat.le_of_ble_eq_true rfl) rfl ?_
  rintro X rfl rfl hq hX
  exact wfX4_turnsTill hX ho1 hq hres
def bX4_readBy_6 (o1 : Nat) (rc6 : St → Int32 → Int32 → Int32 → Int32 → Option (Int32 × St)) (S : St) (x2 : Int32) (x3 : Int32) (x4 : Int32) (x5 : Int32) : Option (Int32 × St) :=
  if x3 < x5 then (some (x4, S)) else (bV (((x2 + x5) - (x2 + x5) / (12 : Int32) * (12 : Int32))) fun v1 => bi (fX4_holder S v1) fun r3 S1 => if r3 = (-1 : Int32) then (bV (x5 + (1 : Int32)) fun v4 => rc6 S1 x2 x3 x4 v4) else (bV ((x4 ||| ((1 : Int32) <<< (r3 &&& 31)))) fun v5 => bi (fX8_view o1 S1 r3 v1) fun r7 S2 => if r7 = 0 then (some (v5, S2)) else (bV (x5 + (1 : Int32)) fun v8 => rc6 S2 x2 x3 v5 v8)))
theorem wbX4_readBy_6 {X : CX} (hX : Ok RX4 cX4_readBy (some .int) 0 55 8 X) {o1 : Nat} (ho1 : isT o1) {rr : Int32 × St} (hq : rs X = (some (.int rr.1), rr.2)) {rc6 : St → Int32 → Int32 → Int32 → Int32 → Option (Int32 × St)} (hrc6 : ∀ (S : St) (x2 : Int32) (x3 : Int32) (x4 : Int32) (x5 : Int32), rc6 S x2 x3 x4 x5 = some rr → Wat 0 55 2 8 X 6 [(0, .ref (ad X 8)), (1, .ref (ad X o1)), (2, .int x2), (3, .int x3), (4, .int x4), (5, .int x5)] [] S) {S : St} {x2 : Int32} {x3 : Int32} {x4 : Int32} {x5 : Int32} (hres : bX4_readBy_6 o1 rc6 S x2 x3 x4 x5 = some rr) : Wat 0 55 2 8 X 6 [(0, .ref (ad X 8)), (1, .ref (ad X o1)), (2, .int x2), (3, .int x3), (4, .int x4), (5, .int x5)] [] S := by
  unfold bX4_readBy_6 at hres
  refine q_iload 8 hX 5 dX4_readBy_6 rfl rfl ?_
  refine q_iload_n 9 hX 3 dX4_readBy_8 rfl rfl rfl ?_
  refine q_icmp_gt 12 hX 64 dX4_readBy_9 rfl (by decide) (fun hc => ?_) (fun hc => ?_)
  · have hres := it_t hc hres
    refine q_iload 66 hX 4 dX4_readBy_64 rfl rfl ?_
    exact q_iret hX (eqi hq hres) dX4_readBy_66
  · have hres := it_f hc hres
    refine q_iload_n 13 hX 2 dX4_readBy_12 rfl rfl rfl ?_
    refine q_iload 15 hX 5 dX4_readBy_13 rfl rfl ?_
    refine q_iadd 16 hX dX4_readBy_15 rfl ?_
    refine q_bipush 18 hX dX4_readBy_16 rfl kB_12 ?_
    refine q_irem 19 hX dX4_readBy_18 rfl (by decide) ?_
    refine q_istoreB 21 (lv0 := [(0, .ref (ad X 8)), (1, .ref (ad X o1)), (2, .int x2), (3, .int x3), (4, .int x4), (5, .int x5)]) hX dX4_readBy_19 rfl (by decide) rfl hres (fun v1 hres => ?_)
    refine q_aload_n 22 hX 1 dX4_readBy_21 rfl rfl rfl ?_
    refine q_iload 24 hX 0 dX4_readBy_22 rfl rfl ?_
    obtain ⟨r3, S1, hk2, hres⟩ := ob hres
    refine q_callVi 27 (st := []) (As := [.int v1]) hX (cX4_holder9 hX.dj hk2) cv_RX4_38 ci4 oB_8 rfl (by decide) rfl (Nat.le_of_ble_eq_true rfl) dX4_readBy_24 rfl ?_
    refine q_istore 29 (lv' := [(7, .int r3), (6, .int v1), (0, .ref (ad X 8)), (1, .ref (ad X o1)), (2, .int x2), (3, .int x3), (4, .int x4), (5, .int x5)]) hX dX4_readBy_27 rfl (by decide) rfl ?_
    refine q_iload 31 hX 0 dX4_readBy_29 rfl rfl ?_
    refine q_iconst 32 hX dX4_readBy_31 rfl kI_m1 ?_
    refine q_icmp_eq 35 hX 58 dX4_readBy_32 rfl (by decide) (fun hc => ?_) (fun hc => ?_)
    · have hres := it_t hc hres
      refine q_iincB 61 7 (lv0 := [(7, .int r3), (6, .int v1), (0, .ref (ad X 8)), (1, .ref (ad X o1)), (2, .int x2), (3, .int x3), (4, .int x4)]) hX dX4_readBy_58 rfl rfl kI_1 (by decide) rfl hres (fun v4 hres => ?_)
      refine q_goto 6 hX dX4_readBy_61 (by decide) ?_
      exact q_sub [3, 4, 5, 6, 7, 0] rfl (hrc6 _ _ _ _ _ hres)
    · have hres := it_f hc hres
      refine q_iload 37 hX 6 dX4_readBy_35 rfl rfl ?_
      refine q_iconst 38 hX dX4_readBy_37 rfl kI_1 ?_
      refine q_iload 40 hX 0 dX4_readBy_38 rfl rfl ?_
      refine q_ishl 41 hX dX4_readBy_40 rfl ?_
      refine q_ior 42 hX dX4_readBy_41 rfl ?_
      refine q_istoreB 44 (lv0 := [(7, .int r3), (6, .int v1), (0, .ref (ad X 8)), (1, .ref (ad X o1)), (2, .int x2), (3, .int x3), (5, .int x5)]) hX dX4_readBy_42 rfl (by decide) rfl hres (fun v5 hres => ?_)
      refine q_aload_n 45 hX 4 dX4_readBy_44 rfl rfl rfl ?_
      refine q_iload 47 hX 1 dX4_readBy_45 rfl rfl ?_
      refine q_iload 49 hX 2 dX4_readBy_47 rfl rfl ?_
      obtain ⟨r7, S2, hk6, hres⟩ := ob hres
      refine q_callVi 52 (st := []) (As := [.int r3, .int v1]) hX (cX8_view9 hX.dj ho1 hk6) cv_RX4_59 ci8 (oB_T ho1) rfl (by decide) rfl (Nat.le_of_ble_eq_true rfl) dX4_readBy_49 rfl ?_
      refine q_if_ne 55 hX 58 dX4_readBy_52 rfl (by decide) (fun hc => ?_) (fun hc => ?_)
      · have hres := it_f hc hres
        refine q_iincB 61 7 (lv0 := [(4, .int v5), (7, .int r3), (6, .int v1), (0, .ref (ad X 8)), (1, .ref (ad X o1)), (2, .int x2), (3, .int x3)]) hX dX4_readBy_58 rfl rfl kI_1 (by decide) rfl hres (fun v8 hres => ?_)
        refine q_goto 6 hX dX4_readBy_61 (by decide) ?_
        exact q_sub [4, 5, 6, 7, 1, 0] rfl (hrc6 _ _ _ _ _ hres)
      · have hres := it_t hc hres
        refine q_iload 57 hX 0 dX4_readBy_55 rfl rfl ?_
        exact q_iret hX (eqi hq hres) dX4_readBy_57
def fX4_readBy_6 (o1 : Nat) : Nat → St → Int32 → Int32 → Int32 → Int32 → Option (Int32 × St)
  | 0 => fun _ _ _ _ _ => none
  | k + 1 => fun S x2 x3 x4 x5 => bX4_readBy_6 o1 (fX4_readBy_6 o1 k) S x2 x3 x4 x5
theorem wfX4_readBy_6 {X : CX} (hX : Ok RX4 cX4_readBy (some .int) 0 55 8 X) {o1 : Nat} (ho1 : isT o1) {rr : Int32 × St} (hq : rs X = (some (.int rr.1), rr.2)) (k : Nat) : ∀ (S : St) (x2 : Int32) (x3 : Int32) (x4 : Int32) (x5 : Int32), fX4_readBy_6 o1 k S x2 x3 x4 x5 = some rr → Wat 0 55 2 8 X 6 [(0, .ref (ad X 8)), (1, .ref (ad X o1)), (2, .int x2), (3, .int x3), (4, .int x4), (5, .int x5)] [] S := by
  induction k with
  | zero => intro S x2 x3 x4 x5 hres; exact absurd hres (by simp [fX4_readBy_6])
  | succ k ih => intro S x2 x3 x4 x5 hres; exact wbX4_readBy_6 hX ho1 hq ih hres
def fX4_readBy (o1 : Nat) (S : St) (x2 : Int32) (x3 : Int32) : Option (Int32 × St) :=
  fX4_readBy_6 o1 100 S x2 x3 (0 : Int32) (1 : Int32)
theorem wfX4_readBy {X : CX} (hX : Ok RX4 cX4_readBy (some .int) 0 55 8 X) {o1 : Nat} (ho1 : isT o1) {rr : Int32 × St} (hq : rs X = (some (.int rr.1), rr.2)) {S : St} {x2 : Int32} {x3 : Int32} (hres : fX4_readBy o1 S x2 x3 = some rr) : Wat 0 55 2 8 X 0 [(0, .ref (ad X 8)), (1, .ref (ad X o1)), (2, .int x2), (3, .int x3)] [] S := by
  unfold fX4_readBy at hres
  refine q_iconst 1 hX dX4_readBy_0 rfl kI_0 ?_
  refine q_istore 3 (lv' := [(4, .int (0 : Int32)), (0, .ref (ad X 8)), (1, .ref (ad X o1)), (2, .int x2), (3, .int x3)]) hX dX4_readBy_1 rfl (by decide) rfl ?_
  refine q_iconst 4 hX dX4_readBy_3 rfl kI_1 ?_
  refine q_istore 6 (lv' := [(5, .int (1 : Int32)), (4, .int (0 : Int32)), (0, .ref (ad X 8)), (1, .ref (ad X o1)), (2, .int x2), (3, .int x3)]) hX dX4_readBy_4 rfl (by decide) rfl ?_
  exact q_sub [2, 3, 4, 5, 1, 0] rfl (wfX4_readBy_6 hX ho1 hq _ _ _ _ _ _ hres)
theorem cX4_readBy9 {l : Launch} {w : WD} (hj : Dj w 0 55) {o1 : Nat} (ho1 : isT o1) {rr : Int32 × St} {S : St} {x2 : Int32} {x3 : Int32} (hres : fX4_readBy o1 S x2 x3 = some rr) : Ct l yX4_readBy cX4_readBy 8 (some .int) 2 w 0 55 [.ref (w.1 8), .ref (w.1 o1), .int x2, .int x3] S (some (.int rr.1), rr.2) := by
  refine Ct.of (lv := [(0, .ref (w.1 8)), (1, .ref (w.1 o1)), (2, .int x2), (3, .int x3)]) hj (by decide +kernel) (Nat.le_of_ble_eq_true rfl) rfl ?_
  rintro X rfl rfl hq hX
  exact wfX4_readBy hX ho1 hq hres
def fX4_othersWhoRead (o1 : Nat) (S : St) (x2 : Int32) (x3 : Int32) : Option (Int32 × St) :=
  bi (fX4_readBy o1 S x2 (12 : Int32)) fun r2 S1 => bi (fJ6_bitCount_0f7a4 S1 (r2 &&& (((1 : Int32) <<< (x3 &&& 31)) ^^^ (-1 : Int32)))) fun r4 S2 => some (r4, S2)
theorem wfX4_othersWhoRead {X : CX} (hX : Ok RX4 cX4_othersWhoRead (some .int) 0 55 4 X) {o1 : Nat} (ho1 : isT o1) {rr : Int32 × St} (hq : rs X = (some (.int rr.1), rr.2)) {S : St} {x2 : Int32} {x3 : Int32} (hres : fX4_othersWhoRead o1 S x2 x3 = some rr) : Wat 0 55 3 4 X 0 [(0, .ref (ad X 8)), (1, .ref (ad X o1)), (2, .int x2), (3, .int x3)] [] S := by
  unfold fX4_othersWhoRead at hres
  refine q_aload_n 1 hX 0 dX4_othersWhoRead_0 rfl rfl rfl ?_
  refine q_aload_n 2 hX 1 dX4_othersWhoRead_1 rfl rfl rfl ?_
  refine q_iload_n 3 hX 2 dX4_othersWhoRead_2 rfl rfl rfl ?_
  refine q_bipush 5 hX dX4_othersWhoRead_3 rfl kB_12 ?_
  obtain ⟨r2, S1, hk1, hres⟩ := ob hres
  refine q_callVi 8 (st := []) (As := [.ref (ad X o1), .int x2, .int (12 : Int32)]) hX (cX4_readBy9 hX.dj ho1 hk1) cv_RX4_62 ci4 oB_8 rfl (by decide) rfl (Nat.le_of_ble_eq_true rfl) dX4_othersWhoRead_5 rfl ?_
  refine q_iconst 9 hX dX4_othersWhoRead_8 rfl kI_1 ?_
  refine q_iload_n 10 hX 3 dX4_othersWhoRead_9 rfl rfl rfl ?_
  refine q_ishl 11 hX dX4_othersWhoRead_10 rfl ?_
  refine q_iconst 12 hX dX4_othersWhoRead_11 rfl kI_m1 ?_
  refine q_ixor 13 hX dX4_othersWhoRead_12 rfl ?_
  refine q_iand 14 hX dX4_othersWhoRead_13 rfl ?_
  obtain ⟨r4, S2, hk3, hres⟩ := ob hres
  refine q_callSi 17 (st := []) (As := [.int (r2 &&& (((1 : Int32) <<< (x3 &&& 31)) ^^^ (-1 : Int32)))]) hX (cJ6_bitCount_0f7a49 hX.dj hk3) cs_RX4_47 rfl (by decide) rfl (Nat.le_of_ble_eq_true rfl) dX4_othersWhoRead_14 rfl ?_
  exact q_iret hX (eqi hq hres) dX4_othersWhoRead_17
theorem cX4_othersWhoRead9 {l : Launch} {w : WD} (hj : Dj w 0 55) {o1 : Nat} (ho1 : isT o1) {rr : Int32 × St} {S : St} {x2 : Int32} {x3 : Int32} (hres : fX4_othersWhoRead o1 S x2 x3 = some rr) : Ct l yX4_othersWhoRead cX4_othersWhoRead 4 (some .int) 3 w 0 55 [.ref (w.1 8), .ref (w.1 o1), .int x2, .int x3] S (some (.int rr.1), rr.2) := by
  refine Ct.of (lv := [(0, .ref (w.1 8)), (1, .ref (w.1 o1)), (2, .int x2), (3, .int x3)]) hj (by decide +kernel) (Nat.le_of_ble_eq_true rfl) rfl ?_
  rintro X rfl rfl hq hX
  exact wfX4_othersWhoRead hX ho1 hq hres
def fX4_bestTurnToWrite_39 (o1 : Nat) (rc9 : St → Int32 → Int32 → Int32 → Int32 → Option (Int32 × St)) (S : St) (x2 : Int32) (x3 : Int32) (x4 : Int32) (x5 : Int32) (s0 : Int32) : Option (Int32 × St) :=
  if s0 ≤ x4 then (bV (x5 + (1 : Int32)) fun v1 => rc9 S x2 x3 x4 v1) else (bV (x5 + (1 : Int32)) fun v2 => rc9 S x2 x5 s0 v2)
theorem wfX4_bestTurnToWrite_39 {X : CX} (hX : Ok RX4 cX4_bestTurnToWrite (some .int) 0 55 7 X) {o1 : Nat} (ho1 : isT o1) {rr : Int32 × St} (hq : rs X = (some (.int rr.1), rr.2)) {rc9 : St → Int32 → Int32 → Int32 → Int32 → Option (Int32 × St)} (hrc9 : ∀ (S : St) (x2 : Int32) (x3 : Int32) (x4 : Int32) (x5 : Int32), rc9 S x2 x3 x4 x5 = some rr → Wat 0 55 4 7 X 9 [(0, .ref (ad X 8)), (1, .ref (ad X o1)), (2, .int x2), (3, .int x3), (4, .int x4), (5, .int x5)] [] S) {S : St} {x2 : Int32} {x3 : Int32} {x4 : Int32} {x5 : Int32} {s0 : Int32} (hres : fX4_bestTurnToWrite_39 o1 rc9 S x2 x3 x4 x5 s0 = some rr) : Wat 0 55 4 7 X 39 [(0, .ref (ad X 8)), (1, .ref (ad X o1)), (2, .int x2), (3, .int x3), (4, .int x4), (5, .int x5)] [.int s0] S := by
  unfold fX4_bestTurnToWrite_39 at hres
  refine q_istore 41 (lv' := [(6, .int s0), (0, .ref (ad X 8)), (1, .ref (ad X o1)), (2, .int x2), (3, .int x3), (4, .int x4), (5, .int x5)]) hX dX4_bestTurnToWrite_39 rfl (by decide) rfl ?_
  refine q_iload 43 hX 0 dX4_bestTurnToWrite_41 rfl rfl ?_
  refine q_iload 45 hX 5 dX4_bestTurnToWrite_43 rfl rfl ?_
  refine q_icmp_le 48 hX 55 dX4_bestTurnToWrite_45 rfl (by decide) (fun hc => ?_) (fun hc => ?_)
  · have hres := it_t hc hres
    refine q_iincB 58 6 (lv0 := [(6, .int s0), (0, .ref (ad X 8)), (1, .ref (ad X o1)), (2, .int x2), (3, .int x3), (4, .int x4)]) hX dX4_bestTurnToWrite_55 rfl rfl kI_1 (by decide) rfl hres (fun v1 hres => ?_)
    refine q_goto 9 hX dX4_bestTurnToWrite_58 (by decide) ?_
    exact q_sub [2, 3, 4, 5, 6, 0] rfl (hrc9 _ _ _ _ _ hres)
  · have hres := it_f hc hres
    refine q_iload 50 hX 0 dX4_bestTurnToWrite_48 rfl rfl ?_
    refine q_istore 52 (lv' := [(4, .int s0), (6, .int s0), (0, .ref (ad X 8)), (1, .ref (ad X o1)), (2, .int x2), (3, .int x3), (5, .int x5)]) hX dX4_bestTurnToWrite_50 rfl (by decide) rfl ?_
    refine q_iload 54 hX 6 dX4_bestTurnToWrite_52 rfl rfl ?_
    refine q_istore_n 55 (lv' := [(3, .int x5), (4, .int s0), (6, .int s0), (0, .ref (ad X 8)), (1, .ref (ad X o1)), (2, .int x2), (5, .int x5)]) hX dX4_bestTurnToWrite_54 rfl rfl (by decide) rfl ?_
    refine q_iincB 58 6 (lv0 := [(3, .int x5), (4, .int s0), (6, .int s0), (0, .ref (ad X 8)), (1, .ref (ad X o1)), (2, .int x2)]) hX dX4_bestTurnToWrite_55 rfl rfl kI_1 (by decide) rfl hres (fun v2 hres => ?_)
    refine q_goto 9 hX dX4_bestTurnToWrite_58 (by decide) ?_
    exact q_sub [4, 5, 6, 1, 2, 0] rfl (hrc9 _ _ _ _ _ hres)
def bX4_bestTurnToWrite_9 (o1 : Nat) (rc9 : St → Int32 → Int32 → Int32 → Int32 → Option (Int32 × St)) (S : St) (x2 : Int32) (x3 : Int32) (x4 : Int32) (x5 : Int32) : Option (Int32 × St) :=
  if (12 : Int32) ≤ x5 then (some (x3, S)) else (if inb x5 12 = true then if (S.1 9 (x5.toNatClampNeg)) = x2 then (bi (fX4_othersWhoRead o1 S x5 x2) fun r3 S1 => fX4_bestTurnToWrite_39 o1 rc9 S1 x2 x3 x4 x5 r3) else (fX4_bestTurnToWrite_39 o1 rc9 S x2 x3 x4 x5 (-1 : Int32)) else none)
theorem wbX4_bestTurnToWrite_9 {X : CX} (hX : Ok RX4 cX4_bestTurnToWrite (some .int) 0 55 7 X) {o1 : Nat} (ho1 : isT o1) {rr : Int32 × St} (hq : rs X = (some (.int rr.1), rr.2)) {rc9 : St → Int32 → Int32 → Int32 → Int32 → Option (Int32 × St)} (hrc9 : ∀ (S : St) (x2 : Int32) (x3 : Int32) (x4 : Int32) (x5 : Int32), rc9 S x2 x3 x4 x5 = some rr → Wat 0 55 4 7 X 9 [(0, .ref (ad X 8)), (1, .ref (ad X o1)), (2, .int x2), (3, .int x3), (4, .int x4), (5, .int x5)] [] S) {S : St} {x2 : Int32} {x3 : Int32} {x4 : Int32} {x5 : Int32} (hres : bX4_bestTurnToWrite_9 o1 rc9 S x2 x3 x4 x5 = some rr) : Wat 0 55 4 7 X 9 [(0, .ref (ad X 8)), (1, .ref (ad X o1)), (2, .int x2), (3, .int x3), (4, .int x4), (5, .int x5)] [] S := by
  unfold bX4_bestTurnToWrite_9 at hres
  refine q_iload 11 hX 5 dX4_bestTurnToWrite_9 rfl rfl ?_
  refine q_bipush 13 hX dX4_bestTurnToWrite_11 rfl kB_12 ?_
  refine q_icmp_ge 16 hX 61 dX4_bestTurnToWrite_13 rfl (by decide) (fun hc => ?_) (fun hc => ?_)
  · have hres := it_t hc hres
    refine q_iload_n 62 hX 3 dX4_bestTurnToWrite_61 rfl rfl rfl ?_
    exact q_iret hX (eqi hq hres) dX4_bestTurnToWrite_62
  · have hres := it_f hc hres
    refine q_aload_n 17 hX 0 dX4_bestTurnToWrite_16 rfl rfl rfl ?_
    refine q_getR 20 hX ci4 lf_RX4_9 fR_8_0 dX4_bestTurnToWrite_17 rfl ?_
    refine q_iload 22 hX 5 dX4_bestTurnToWrite_20 rfl rfl ?_
    obtain ⟨hb1, hres⟩ := gd hres
    refine q_iald 23 hX rfl aF_9 hb1 dX4_bestTurnToWrite_22 rfl ?_
    refine q_iload_n 24 hX 2 dX4_bestTurnToWrite_23 rfl rfl rfl ?_
    refine q_icmp_ne 27 hX 38 dX4_bestTurnToWrite_24 rfl (by decide) (fun hc => ?_) (fun hc => ?_)
    · have hres := it_f hc hres
      refine q_iconst 39 hX dX4_bestTurnToWrite_38 rfl kI_m1 ?_
      exact q_sub [0, 1, 2, 3, 4, 5] rfl (wfX4_bestTurnToWrite_39 hX ho1 hq hrc9 hres)
    · have hres := it_t hc hres
      refine q_aload_n 28 hX 0 dX4_bestTurnToWrite_27 rfl rfl rfl ?_
      refine q_aload_n 29 hX 1 dX4_bestTurnToWrite_28 rfl rfl rfl ?_
      refine q_iload 31 hX 5 dX4_bestTurnToWrite_29 rfl rfl ?_
      refine q_iload_n 32 hX 2 dX4_bestTurnToWrite_31 rfl rfl rfl ?_
      obtain ⟨r3, S1, hk2, hres⟩ := ob hres
      refine q_callVi 35 (st := []) (As := [.ref (ad X o1), .int x5, .int x2]) hX (cX4_othersWhoRead9 hX.dj ho1 hk2) cv_RX4_66 ci4 oB_8 rfl (by decide) rfl (Nat.le_of_ble_eq_true rfl) dX4_bestTurnToWrite_32 rfl ?_
      refine q_goto 39 hX dX4_bestTurnToWrite_35 (by decide) ?_
      exact q_sub [0, 1, 2, 3, 4, 5] rfl (wfX4_bestTurnToWrite_39 hX ho1 hq hrc9 hres)
def fX4_bestTurnToWrite_9 (o1 : Nat) : Nat → St → Int32 → Int32 → Int32 → Int32 → Option (Int32 × St)
  | 0 => fun _ _ _ _ _ => none
  | k + 1 => fun S x2 x3 x4 x5 => bX4_bestTurnToWrite_9 o1 (fX4_bestTurnToWrite_9 o1 k) S x2 x3 x4 x5
theorem wfX4_bestTurnToWrite_9 {X : CX} (hX : Ok RX4 cX4_bestTurnToWrite (some .int) 0 55 7 X) {o1 : Nat} (ho1 : isT o1) {rr : Int32 × St} (hq : rs X = (some (.int rr.1), rr.2)) (k : Nat) : ∀ (S : St) (x2 : Int32) (x3 : Int32) (x4 : Int32) (x5 : Int32), fX4_bestTurnToWrite_9 o1 k S x2 x3 x4 x5 = some rr → Wat 0 55 4 7 X 9 [(0, .ref (ad X 8)), (1, .ref (ad X o1)), (2, .int x2), (3, .int x3), (4, .int x4), (5, .int x5)] [] S := by
  induction k with
  | zero => intro S x2 x3 x4 x5 hres; exact absurd hres (by simp [fX4_bestTurnToWrite_9])
  | succ k ih => intro S x2 x3 x4 x5 hres; exact wbX4_bestTurnToWrite_9 hX ho1 hq ih hres
def fX4_bestTurnToWrite (o1 : Nat) (S : St) (x2 : Int32) : Option (Int32 × St) :=
  fX4_bestTurnToWrite_9 o1 100 S x2 (-2 : Int32) (-1 : Int32) (0 : Int32)
theorem wfX4_bestTurnToWrite {X : CX} (hX : Ok RX4 cX4_bestTurnToWrite (some .int) 0 55 7 X) {o1 : Nat} (ho1 : isT o1) {rr : Int32 × St} (hq : rs X = (some (.int rr.1), rr.2)) {S : St} {x2 : Int32} (hres : fX4_bestTurnToWrite o1 S x2 = some rr) : Wat 0 55 4 7 X 0 [(0, .ref (ad X 8)), (1, .ref (ad X o1)), (2, .int x2)] [] S := by
  unfold fX4_bestTurnToWrite at hres
  refine q_bipush 2 hX dX4_bestTurnToWrite_0 rfl kB_m2 ?_
  refine q_istore_n 3 (lv' := [(3, .int (-2 : Int32)), (0, .ref (ad X 8)), (1, .ref (ad X o1)), (2, .int x2)]) hX dX4_bestTurnToWrite_2 rfl rfl (by decide) rfl ?_
  refine q_iconst 4 hX dX4_bestTurnToWrite_3 rfl kI_m1 ?_
  refine q_istore 6 (lv' := [(4, .int (-1 : Int32)), (3, .int (-2 : Int32)), (0, .ref (ad X 8)), (1, .ref (ad X o1)), (2, .int x2)]) hX dX4_bestTurnToWrite_4 rfl (by decide) rfl ?_
  refine q_iconst 7 hX dX4_bestTurnToWrite_6 rfl kI_0 ?_
  refine q_istore 9 (lv' := [(5, .int (0 : Int32)), (4, .int (-1 : Int32)), (3, .int (-2 : Int32)), (0, .ref (ad X 8)), (1, .ref (ad X o1)), (2, .int x2)]) hX dX4_bestTurnToWrite_7 rfl (by decide) rfl ?_
  exact q_sub [3, 4, 5, 2, 1, 0] rfl (wfX4_bestTurnToWrite_9 hX ho1 hq _ _ _ _ _ _ hres)
theorem cX4_bestTurnToWrite9 {l : Launch} {w : WD} (hj : Dj w 0 55) {o1 : Nat} (ho1 : isT o1) {rr : Int32 × St} {S : St} {x2 : Int32} (hres : fX4_bestTurnToWrite o1 S x2 = some rr) : Ct l yX4_bestTurnToWrite cX4_bestTurnToWrite 7 (some .int) 4 w 0 55 [.ref (w.1 8), .ref (w.1 o1), .int x2] S (some (.int rr.1), rr.2) := by
  refine Ct.of (lv := [(0, .ref (w.1 8)), (1, .ref (w.1 o1)), (2, .int x2)]) hj (by decide +kernel) (Nat.le_of_ble_eq_true rfl) rfl ?_
  rintro X rfl rfl hq hX
  exact wfX4_bestTurnToWrite hX ho1 hq hres
