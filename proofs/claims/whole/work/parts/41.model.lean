def fX12_in_14 (S : St) : Option (Int32 × St) :=
  some ((0 : Int32), S)
theorem wfX12_in_14 {X : CX} (hX : Ok RX12 cX12_in (some .boolean) 55 40 3 X) {rr : Int32 × St} (hq : rs X = (some (.int rr.1), rr.2)) {S : St} (hres : fX12_in_14 S = some rr) : Wat 55 40 0 3 X 14 [] [] S := by
  unfold fX12_in_14 at hres
  refine q_iconst 15 hX dX12_in_14 rfl kI_0 ?_
  exact q_zret hX (by decide) (eqi hq hres) dX12_in_15
def fX12_in (S : St) (x0 : Int32) (x1 : Int32) (x2 : Int32) : Option (Int32 × St) :=
  if x0 < x1 then (fX12_in_14 S) else (if x2 < x0 then (fX12_in_14 S) else (some ((1 : Int32), S)))
theorem wfX12_in {X : CX} (hX : Ok RX12 cX12_in (some .boolean) 55 40 3 X) {rr : Int32 × St} (hq : rs X = (some (.int rr.1), rr.2)) {S : St} {x0 : Int32} {x1 : Int32} {x2 : Int32} (hres : fX12_in S x0 x1 x2 = some rr) : Wat 55 40 0 3 X 0 [(0, .int x0), (1, .int x1), (2, .int x2)] [] S := by
  unfold fX12_in at hres
  refine q_iload_n 1 hX 0 dX12_in_0 rfl rfl rfl ?_
  refine q_iload_n 2 hX 1 dX12_in_1 rfl rfl rfl ?_
  refine q_icmp_lt 5 hX 14 dX12_in_2 rfl (by decide) (fun hc => ?_) (fun hc => ?_)
  · have hres := it_t hc hres
    exact q_sub [] rfl (wfX12_in_14 hX hq hres)
  · have hres := it_f hc hres
    refine q_iload_n 6 hX 0 dX12_in_5 rfl rfl rfl ?_
    refine q_iload_n 7 hX 2 dX12_in_6 rfl rfl rfl ?_
    refine q_icmp_gt 10 hX 14 dX12_in_7 rfl (by decide) (fun hc => ?_) (fun hc => ?_)
    · have hres := it_t hc hres
      exact q_sub [] rfl (wfX12_in_14 hX hq hres)
    · have hres := it_f hc hres
      refine q_iconst 11 hX dX12_in_10 rfl kI_1 ?_
      refine q_goto 15 hX dX12_in_11 (by decide) ?_
      exact q_zret hX (by decide) (eqi hq hres) dX12_in_15
theorem cX12_in9 {l : Launch} {w : WD} (hj : Dj w 55 40) {rr : Int32 × St} {S : St} {x0 : Int32} {x1 : Int32} {x2 : Int32} (hres : fX12_in S x0 x1 x2 = some rr) : Ct l yX12_in cX12_in 3 (some .boolean) 0 w 55 40 [.int x0, .int x1, .int x2] S (some (.int rr.1), rr.2) := by
  refine Ct.of (lv := [(0, .int x0), (1, .int x1), (2, .int x2)]) hj (by decide +kernel) (Nat.le_of_ble_eq_true rfl) rfl ?_
  rintro X rfl rfl hq hX
  exact wfX12_in hX hq hres
def fX12_min (S : St) (x0 : Int32) (x1 : Int32) : Option (Int32 × St) :=
  if x1 ≤ x0 then (some (x1, S)) else (some (x0, S))
theorem wfX12_min {X : CX} (hX : Ok RX12 cX12_min (some .int) 55 40 2 X) {rr : Int32 × St} (hq : rs X = (some (.int rr.1), rr.2)) {S : St} {x0 : Int32} {x1 : Int32} (hres : fX12_min S x0 x1 = some rr) : Wat 55 40 0 2 X 0 [(0, .int x0), (1, .int x1)] [] S := by
  unfold fX12_min at hres
  refine q_iload_n 1 hX 0 dX12_min_0 rfl rfl rfl ?_
  refine q_iload_n 2 hX 1 dX12_min_1 rfl rfl rfl ?_
  refine q_icmp_ge 5 hX 9 dX12_min_2 rfl (by decide) (fun hc => ?_) (fun hc => ?_)
  · have hres := it_t hc hres
    refine q_iload_n 10 hX 1 dX12_min_9 rfl rfl rfl ?_
    exact q_iret hX (eqi hq hres) dX12_min_10
  · have hres := it_f hc hres
    refine q_iload_n 6 hX 0 dX12_min_5 rfl rfl rfl ?_
    refine q_goto 10 hX dX12_min_6 (by decide) ?_
    exact q_iret hX (eqi hq hres) dX12_min_10
theorem cX12_min9 {l : Launch} {w : WD} (hj : Dj w 55 40) {rr : Int32 × St} {S : St} {x0 : Int32} {x1 : Int32} (hres : fX12_min S x0 x1 = some rr) : Ct l yX12_min cX12_min 2 (some .int) 0 w 55 40 [.int x0, .int x1] S (some (.int rr.1), rr.2) := by
  refine Ct.of (lv := [(0, .int x0), (1, .int x1)]) hj (by decide +kernel) (Nat.le_of_ble_eq_true rfl) rfl ?_
  rintro X rfl rfl hq hX
  exact wfX12_min hX hq hres
def fX12_max (S : St) (x0 : Int32) (x1 : Int32) : Option (Int32 × St) :=
  if x0 ≤ x1 then (some (x1, S)) else (some (x0, S))
theorem wfX12_max {X : CX} (hX : Ok RX12 cX12_max (some .int) 55 40 2 X) {rr : Int32 × St} (hq : rs X = (some (.int rr.1), rr.2)) {S : St} {x0 : Int32} {x1 : Int32} (hres : fX12_max S x0 x1 = some rr) : Wat 55 40 0 2 X 0 [(0, .int x0), (1, .int x1)] [] S := by
  unfold fX12_max at hres
  refine q_iload_n 1 hX 0 dX12_max_0 rfl rfl rfl ?_
  refine q_iload_n 2 hX 1 dX12_max_1 rfl rfl rfl ?_
  refine q_icmp_le 5 hX 9 dX12_max_2 rfl (by decide) (fun hc => ?_) (fun hc => ?_)
  · have hres := it_t hc hres
    refine q_iload_n 10 hX 1 dX12_max_9 rfl rfl rfl ?_
    exact q_iret hX (eqi hq hres) dX12_max_10
  · have hres := it_f hc hres
    refine q_iload_n 6 hX 0 dX12_max_5 rfl rfl rfl ?_
    refine q_goto 10 hX dX12_max_6 (by decide) ?_
    exact q_iret hX (eqi hq hres) dX12_max_10
theorem cX12_max9 {l : Launch} {w : WD} (hj : Dj w 55 40) {rr : Int32 × St} {S : St} {x0 : Int32} {x1 : Int32} (hres : fX12_max S x0 x1 = some rr) : Ct l yX12_max cX12_max 2 (some .int) 0 w 55 40 [.int x0, .int x1] S (some (.int rr.1), rr.2) := by
  refine Ct.of (lv := [(0, .int x0), (1, .int x1)]) hj (by decide +kernel) (Nat.le_of_ble_eq_true rfl) rfl ?_
  rintro X rfl rfl hq hX
  exact wfX12_max hX hq hres
def fX12_size (S : St) (x0 : Int32) : Option (Int32 × St) :=
  if 0 ≤ x0 then (some (x0, S)) else (some ((-x0), S))
theorem wfX12_size {X : CX} (hX : Ok RX12 cX12_size (some .int) 55 40 1 X) {rr : Int32 × St} (hq : rs X = (some (.int rr.1), rr.2)) {S : St} {x0 : Int32} (hres : fX12_size S x0 = some rr) : Wat 55 40 0 1 X 0 [(0, .int x0)] [] S := by
  unfold fX12_size at hres
  refine q_iload_n 1 hX 0 dX12_size_0 rfl rfl rfl ?_
  refine q_if_ge 4 hX 9 dX12_size_1 rfl (by decide) (fun hc => ?_) (fun hc => ?_)
  · have hres := it_t hc hres
    refine q_iload_n 10 hX 0 dX12_size_9 rfl rfl rfl ?_
    exact q_iret hX (eqi hq hres) dX12_size_10
  · have hres := it_f hc hres
    refine q_iload_n 5 hX 0 dX12_size_4 rfl rfl rfl ?_
    refine q_ineg 6 hX dX12_size_5 rfl ?_
    refine q_goto 10 hX dX12_size_6 (by decide) ?_
    exact q_iret hX (eqi hq hres) dX12_size_10
theorem cX12_size9 {l : Launch} {w : WD} (hj : Dj w 55 40) {rr : Int32 × St} {S : St} {x0 : Int32} (hres : fX12_size S x0 = some rr) : Ct l yX12_size cX12_size 1 (some .int) 0 w 55 40 [.int x0] S (some (.int rr.1), rr.2) := by
  refine Ct.of (lv := [(0, .int x0)]) hj (by decide +kernel) (Nat.le_of_ble_eq_true rfl) rfl ?_
  rintro X rfl rfl hq hX
  exact wfX12_size hX hq hres
def fX12_has (S : St) (x0 : Int32) (x1 : Int32) : Option (Int32 × St) :=
  if ((x0 >>> (x1 &&& 31)) &&& (1 : Int32)) = (1 : Int32) then (some ((1 : Int32), S)) else (some ((0 : Int32), S))
theorem wfX12_has {X : CX} (hX : Ok RX12 cX12_has (some .boolean) 55 40 2 X) {rr : Int32 × St} (hq : rs X = (some (.int rr.1), rr.2)) {S : St} {x0 : Int32} {x1 : Int32} (hres : fX12_has S x0 x1 = some rr) : Wat 55 40 0 2 X 0 [(0, .int x0), (1, .int x1)] [] S := by
  unfold fX12_has at hres
  refine q_iload_n 1 hX 0 dX12_has_0 rfl rfl rfl ?_
  refine q_iload_n 2 hX 1 dX12_has_1 rfl rfl rfl ?_
  refine q_ishr 3 hX dX12_has_2 rfl ?_
  refine q_iconst 4 hX dX12_has_3 rfl kI_1 ?_
  refine q_iand 5 hX dX12_has_4 rfl ?_
  refine q_iconst 6 hX dX12_has_5 rfl kI_1 ?_
  refine q_icmp_ne 9 hX 13 dX12_has_6 rfl (by decide) (fun hc => ?_) (fun hc => ?_)
  · have hres := it_f hc hres
    refine q_iconst 14 hX dX12_has_13 rfl kI_0 ?_
    exact q_zret hX (by decide) (eqi hq hres) dX12_has_14
  · have hres := it_t hc hres
    refine q_iconst 10 hX dX12_has_9 rfl kI_1 ?_
    refine q_goto 14 hX dX12_has_10 (by decide) ?_
    exact q_zret hX (by decide) (eqi hq hres) dX12_has_14
theorem cX12_has9 {l : Launch} {w : WD} (hj : Dj w 55 40) {rr : Int32 × St} {S : St} {x0 : Int32} {x1 : Int32} (hres : fX12_has S x0 x1 = some rr) : Ct l yX12_has cX12_has 2 (some .boolean) 0 w 55 40 [.int x0, .int x1] S (some (.int rr.1), rr.2) := by
  refine Ct.of (lv := [(0, .int x0), (1, .int x1)]) hj (by decide +kernel) (Nat.le_of_ble_eq_true rfl) rfl ?_
  rintro X rfl rfl hq hX
  exact wfX12_has hX hq hres
def bX12_bits_4 (rc4 : St → Int32 → Int32 → Int32 → Option (Int32 × St)) (S : St) (x0 : Int32) (x1 : Int32) (x2 : Int32) : Option (Int32 × St) :=
  if (16 : Int32) ≤ x2 then (some (x1, S)) else (bV ((x1 + ((x0 >>> (x2 &&& 31)) &&& (1 : Int32)))) fun v1 => bV (x2 + (1 : Int32)) fun v2 => rc4 S x0 v1 v2)
theorem wbX12_bits_4 {X : CX} (hX : Ok RX12 cX12_bits (some .int) 55 40 3 X) {rr : Int32 × St} (hq : rs X = (some (.int rr.1), rr.2)) {rc4 : St → Int32 → Int32 → Int32 → Option (Int32 × St)} (hrc4 : ∀ (S : St) (x0 : Int32) (x1 : Int32) (x2 : Int32), rc4 S x0 x1 x2 = some rr → Wat 55 40 0 3 X 4 [(0, .int x0), (1, .int x1), (2, .int x2)] [] S) {S : St} {x0 : Int32} {x1 : Int32} {x2 : Int32} (hres : bX12_bits_4 rc4 S x0 x1 x2 = some rr) : Wat 55 40 0 3 X 4 [(0, .int x0), (1, .int x1), (2, .int x2)] [] S := by
  unfold bX12_bits_4 at hres
  refine q_iload_n 5 hX 2 dX12_bits_4 rfl rfl rfl ?_
  refine q_bipush 7 hX dX12_bits_5 rfl kB_16 ?_
  refine q_icmp_ge 10 hX 24 dX12_bits_7 rfl (by decide) (fun hc => ?_) (fun hc => ?_)
  · have hres := it_t hc hres
    refine q_iload_n 25 hX 1 dX12_bits_24 rfl rfl rfl ?_
    exact q_iret hX (eqi hq hres) dX12_bits_25
  · have hres := it_f hc hres
    refine q_iload_n 11 hX 1 dX12_bits_10 rfl rfl rfl ?_
    refine q_iload_n 12 hX 0 dX12_bits_11 rfl rfl rfl ?_
    refine q_iload_n 13 hX 2 dX12_bits_12 rfl rfl rfl ?_
    refine q_ishr 14 hX dX12_bits_13 rfl ?_
    refine q_iconst 15 hX dX12_bits_14 rfl kI_1 ?_
    refine q_iand 16 hX dX12_bits_15 rfl ?_
    refine q_iadd 17 hX dX12_bits_16 rfl ?_
    refine q_istoreB_n 18 (lv0 := [(0, .int x0), (2, .int x2)]) hX dX12_bits_17 rfl rfl (by decide) rfl hres (fun v1 hres => ?_)
    refine q_iincB 21 2 (lv0 := [(1, .int v1), (0, .int x0)]) hX dX12_bits_18 rfl rfl kI_1 (by decide) rfl hres (fun v2 hres => ?_)
    refine q_goto 4 hX dX12_bits_21 (by decide) ?_
    exact q_sub [2, 1, 0] rfl (hrc4 _ _ _ _ hres)
def fX12_bits_4 : Nat → St → Int32 → Int32 → Int32 → Option (Int32 × St)
  | 0 => fun _ _ _ _ => none
  | k + 1 => fun S x0 x1 x2 => bX12_bits_4 (fX12_bits_4 k) S x0 x1 x2
theorem wfX12_bits_4 {X : CX} (hX : Ok RX12 cX12_bits (some .int) 55 40 3 X) {rr : Int32 × St} (hq : rs X = (some (.int rr.1), rr.2)) (k : Nat) : ∀ (S : St) (x0 : Int32) (x1 : Int32) (x2 : Int32), fX12_bits_4 k S x0 x1 x2 = some rr → Wat 55 40 0 3 X 4 [(0, .int x0), (1, .int x1), (2, .int x2)] [] S := by
  induction k with
  | zero => intro S x0 x1 x2 hres; exact absurd hres (by simp [fX12_bits_4])
  | succ k ih => intro S x0 x1 x2 hres; exact wbX12_bits_4 hX hq ih hres
def fX12_bits (S : St) (x0 : Int32) : Option (Int32 × St) :=
  fX12_bits_4 100 S x0 (0 : Int32) (0 : Int32)
theorem wfX12_bits {X : CX} (hX : Ok RX12 cX12_bits (some .int) 55 40 3 X) {rr : Int32 × St} (hq : rs X = (some (.int rr.1), rr.2)) {S : St} {x0 : Int32} (hres : fX12_bits S x0 = some rr) : Wat 55 40 0 3 X 0 [(0, .int x0)] [] S := by
  unfold fX12_bits at hres
  refine q_iconst 1 hX dX12_bits_0 rfl kI_0 ?_
  refine q_istore_n 2 (lv' := [(1, .int (0 : Int32)), (0, .int x0)]) hX dX12_bits_1 rfl rfl (by decide) rfl ?_
  refine q_iconst 3 hX dX12_bits_2 rfl kI_0 ?_
  refine q_istore_n 4 (lv' := [(2, .int (0 : Int32)), (1, .int (0 : Int32)), (0, .int x0)]) hX dX12_bits_3 rfl rfl (by decide) rfl ?_
  exact q_sub [2, 1, 0] rfl (wfX12_bits_4 hX hq _ _ _ _ _ hres)
theorem cX12_bits9 {l : Launch} {w : WD} (hj : Dj w 55 40) {rr : Int32 × St} {S : St} {x0 : Int32} (hres : fX12_bits S x0 = some rr) : Ct l yX12_bits cX12_bits 3 (some .int) 0 w 55 40 [.int x0] S (some (.int rr.1), rr.2) := by
  refine Ct.of (lv := [(0, .int x0)]) hj (by decide +kernel) (Nat.le_of_ble_eq_true rfl) rfl ?_
  rintro X rfl rfl hq hX
  exact wfX12_bits hX hq hres
def bX12_lowest_2 (rc2 : St → Int32 → Int32 → Option (Int32 × St)) (S : St) (x0 : Int32) (x1 : Int32) : Option (Int32 × St) :=
  bi (fX12_has S x0 x1) fun r2 S1 => if r2 = 0 then (bV ((x1 + (1 : Int32))) fun v3 => rc2 S1 x0 v3) else (some (x1, S1))
theorem wbX12_lowest_2 {X : CX} (hX : Ok RX12 cX12_lowest (some .int) 55 40 2 X) {rr : Int32 × St} (hq : rs X = (some (.int rr.1), rr.2)) {rc2 : St → Int32 → Int32 → Option (Int32 × St)} (hrc2 : ∀ (S : St) (x0 : Int32) (x1 : Int32), rc2 S x0 x1 = some rr → Wat 55 40 1 2 X 2 [(0, .int x0), (1, .int x1)] [] S) {S : St} {x0 : Int32} {x1 : Int32} (hres : bX12_lowest_2 rc2 S x0 x1 = some rr) : Wat 55 40 1 2 X 2 [(0, .int x0), (1, .int x1)] [] S := by
  unfold bX12_lowest_2 at hres
  refine q_iload_n 3 hX 0 dX12_lowest_2 rfl rfl rfl ?_
  refine q_iload_n 4 hX 1 dX12_lowest_3 rfl rfl rfl ?_
  obtain ⟨r2, S1, hk1, hres⟩ := ob hres
  refine q_callSi 7 (st := []) (As := [.int x0, .int x1]) hX (cX12_has9 hX.dj hk1) cs_RX12_130 rfl (by decide) rfl (Nat.le_of_ble_eq_true rfl) dX12_lowest_4 rfl ?_
  refine q_if_ne 10 hX 17 dX12_lowest_7 rfl (by decide) (fun hc => ?_) (fun hc => ?_)
  · have hres := it_f hc hres
    refine q_iload_n 18 hX 1 dX12_lowest_17 rfl rfl rfl ?_
    exact q_iret hX (eqi hq hres) dX12_lowest_18
  · have hres := it_t hc hres
    refine q_iload_n 11 hX 1 dX12_lowest_10 rfl rfl rfl ?_
    refine q_iconst 12 hX dX12_lowest_11 rfl kI_1 ?_
    refine q_iadd 13 hX dX12_lowest_12 rfl ?_
    refine q_istoreB_n 14 (lv0 := [(0, .int x0)]) hX dX12_lowest_13 rfl rfl (by decide) rfl hres (fun v3 hres => ?_)
    refine q_goto 2 hX dX12_lowest_14 (by decide) ?_
    exact q_sub [1, 0] rfl (hrc2 _ _ _ hres)
def fX12_lowest_2 : Nat → St → Int32 → Int32 → Option (Int32 × St)
  | 0 => fun _ _ _ => none
  | k + 1 => fun S x0 x1 => bX12_lowest_2 (fX12_lowest_2 k) S x0 x1
theorem wfX12_lowest_2 {X : CX} (hX : Ok RX12 cX12_lowest (some .int) 55 40 2 X) {rr : Int32 × St} (hq : rs X = (some (.int rr.1), rr.2)) (k : Nat) : ∀ (S : St) (x0 : Int32) (x1 : Int32), fX12_lowest_2 k S x0 x1 = some rr → Wat 55 40 1 2 X 2 [(0, .int x0), (1, .int x1)] [] S := by
  induction k with
  | zero => intro S x0 x1 hres; exact absurd hres (by simp [fX12_lowest_2])
  | succ k ih => intro S x0 x1 hres; exact wbX12_lowest_2 hX hq ih hres
def fX12_lowest (S : St) (x0 : Int32) : Option (Int32 × St) :=
  fX12_lowest_2 40 S x0 (0 : Int32)
theorem wfX12_lowest {X : CX} (hX : Ok RX12 cX12_lowest (some .int) 55 40 2 X) {rr : Int32 × St} (hq : rs X = (some (.int rr.1), rr.2)) {S : St} {x0 : Int32} (hres : fX12_lowest S x0 = some rr) : Wat 55 40 1 2 X 0 [(0, .int x0)] [] S := by
  unfold fX12_lowest at hres
  refine q_iconst 1 hX dX12_lowest_0 rfl kI_0 ?_
  refine q_istore_n 2 (lv' := [(1, .int (0 : Int32)), (0, .int x0)]) hX dX12_lowest_1 rfl rfl (by decide) rfl ?_
  exact q_sub [1, 0] rfl (wfX12_lowest_2 hX hq _ _ _ _ hres)
theorem cX12_lowest9 {l : Launch} {w : WD} (hj : Dj w 55 40) {rr : Int32 × St} {S : St} {x0 : Int32} (hres : fX12_lowest S x0 = some rr) : Ct l yX12_lowest cX12_lowest 2 (some .int) 1 w 55 40 [.int x0] S (some (.int rr.1), rr.2) := by
  refine Ct.of (lv := [(0, .int x0)]) hj (by decide +kernel) (Nat.le_of_ble_eq_true rfl) rfl ?_
  rintro X rfl rfl hq hX
  exact wfX12_lowest hX hq hres
def bX12_copies_2 (o0 : Nat) (o1 : Nat) (rc2 : St → Int32 → Option (St)) (S : St) (x2 : Int32) : Option (St) :=
  if (21 : Int32) ≤ x2 then (some S) else (if inb x2 21 = true then if inb x2 21 = true then bS (pI S o1 (x2.toNatClampNeg) (S.1 o0 (x2.toNatClampNeg))) fun S1 => bV (x2 + (1 : Int32)) fun v3 => rc2 S1 v3 else none else none)
theorem wbX12_copies_2 {X : CX} (hX : Ok RX12 cX12_copies none 55 40 3 X) {o0 : Nat} (ho0 : AI 55 40 o0 21) {o1 : Nat} (ho1 : AI 55 40 o1 21) {rr : St} (hq : rs X = (none, rr)) {rc2 : St → Int32 → Option (St)} (hrc2 : ∀ (S : St) (x2 : Int32), rc2 S x2 = some rr → Wat 55 40 0 3 X 2 [(0, .ref (ad X o0)), (1, .ref (ad X o1)), (2, .int x2)] [] S) {S : St} {x2 : Int32} (hres : bX12_copies_2 o0 o1 rc2 S x2 = some rr) : Wat 55 40 0 3 X 2 [(0, .ref (ad X o0)), (1, .ref (ad X o1)), (2, .int x2)] [] S := by
  unfold bX12_copies_2 at hres
  refine q_iload_n 3 hX 2 dX12_copies_2 rfl rfl rfl ?_
  refine q_bipush 5 hX dX12_copies_3 rfl kB_21 ?_
  refine q_icmp_ge 8 hX 20 dX12_copies_5 rfl (by decide) (fun hc => ?_) (fun hc => ?_)
  · have hres := it_t hc hres
    exact q_vret hX (eqv hq hres) dX12_copies_20
  · have hres := it_f hc hres
    refine q_aload_n 9 hX 1 dX12_copies_8 rfl rfl rfl ?_
    refine q_iload_n 10 hX 2 dX12_copies_9 rfl rfl rfl ?_
    refine q_aload_n 11 hX 0 dX12_copies_10 rfl rfl rfl ?_
    refine q_iload_n 12 hX 2 dX12_copies_11 rfl rfl rfl ?_
    obtain ⟨hb1, hres⟩ := gd hres
    refine q_iald 13 hX rfl ho0 hb1 dX12_copies_12 rfl ?_
    obtain ⟨hb2, hres⟩ := gd hres
    refine q_iast 14 hX rfl ho1 hb2 dX12_copies_13 rfl ?_
    refine q_bS hres (fun S1 _ hres => ?_)
    refine q_iincB 17 2 (lv0 := [(0, .ref (ad X o0)), (1, .ref (ad X o1))]) hX dX12_copies_14 rfl rfl kI_1 (by decide) rfl hres (fun v3 hres => ?_)
    refine q_goto 2 hX dX12_copies_17 (by decide) ?_
    exact q_sub [1, 2, 0] rfl (hrc2 _ _ hres)
def fX12_copies_2 (o0 : Nat) (o1 : Nat) : Nat → St → Int32 → Option (St)
  | 0 => fun _ _ => none
  | k + 1 => fun S x2 => bX12_copies_2 o0 o1 (fX12_copies_2 o0 o1 k) S x2
theorem wfX12_copies_2 {X : CX} (hX : Ok RX12 cX12_copies none 55 40 3 X) {o0 : Nat} (ho0 : AI 55 40 o0 21) {o1 : Nat} (ho1 : AI 55 40 o1 21) {rr : St} (hq : rs X = (none, rr)) (k : Nat) : ∀ (S : St) (x2 : Int32), fX12_copies_2 o0 o1 k S x2 = some rr → Wat 55 40 0 3 X 2 [(0, .ref (ad X o0)), (1, .ref (ad X o1)), (2, .int x2)] [] S := by
  induction k with
  | zero => intro S x2 hres; exact absurd hres (by simp [fX12_copies_2])
  | succ k ih => intro S x2 hres; exact wbX12_copies_2 hX ho0 ho1 hq ih hres
def fX12_copies (o0 : Nat) (o1 : Nat) (S : St) : Option (St) :=
  fX12_copies_2 o0 o1 100 S (0 : Int32)
theorem wfX12_copies {X : CX} (hX : Ok RX12 cX12_copies none 55 40 3 X) {o0 : Nat} (ho0 : AI 55 40 o0 21) {o1 : Nat} (ho1 : AI 55 40 o1 21) {rr : St} (hq : rs X = (none, rr)) {S : St} (hres : fX12_copies o0 o1 S = some rr) : Wat 55 40 0 3 X 0 [(0, .ref (ad X o0)), (1, .ref (ad X o1))] [] S := by
  unfold fX12_copies at hres
  refine q_iconst 1 hX dX12_copies_0 rfl kI_0 ?_
  refine q_istore_n 2 (lv' := [(2, .int (0 : Int32)), (0, .ref (ad X o0)), (1, .ref (ad X o1))]) hX dX12_copies_1 rfl rfl (by decide) rfl ?_
  exact q_sub [1, 2, 0] rfl (wfX12_copies_2 hX ho0 ho1 hq _ _ _ hres)
theorem cX12_copies9 {l : Launch} {w : WD} (hj : Dj w 55 40) {o0 : Nat} (ho0 : AI 55 40 o0 21) {o1 : Nat} (ho1 : AI 55 40 o1 21) {rr : St} {S : St} (hres : fX12_copies o0 o1 S = some rr) : Ct l yX12_copies cX12_copies 3 none 0 w 55 40 [.ref (w.1 o0), .ref (w.1 o1)] S (none, rr) := by
  refine Ct.of (lv := [(0, .ref (w.1 o0)), (1, .ref (w.1 o1))]) hj (by decide +kernel) (Nat.le_of_ble_eq_true rfl) rfl ?_
  rintro X rfl rfl hq hX
  exact wfX12_copies hX ho0 ho1 hq hres
def fX12_isHouse_25 (S : St) : Option (Int32 × St) :=
  some ((0 : Int32), S)
theorem wfX12_isHouse_25 {X : CX} (hX : Ok RX12 cX12_isHouse (some .boolean) 55 40 2 X) {rr : Int32 × St} (hq : rs X = (some (.int rr.1), rr.2)) {S : St} (hres : fX12_isHouse_25 S = some rr) : Wat 55 40 1 2 X 25 [] [] S := by
  unfold fX12_isHouse_25 at hres
  refine q_iconst 26 hX dX12_isHouse_25 rfl kI_0 ?_
  exact q_zret hX (by decide) (eqi hq hres) dX12_isHouse_26
def fX12_isHouse (S : St) (x1 : Int32) : Option (Int32 × St) :=
  bi (fX12_in S x1 (0 : Int32) (15 : Int32)) fun r2 S1 => if r2 = 0 then (fX12_isHouse_25 S1) else (bi (fX12_has S1 (S1.1 55 8) x1) fun r4 S2 => if r4 = 0 then (fX12_isHouse_25 S2) else (some ((1 : Int32), S2)))
theorem wfX12_isHouse {X : CX} (hX : Ok RX12 cX12_isHouse (some .boolean) 55 40 2 X) {rr : Int32 × St} (hq : rs X = (some (.int rr.1), rr.2)) {S : St} {x1 : Int32} (hres : fX12_isHouse S x1 = some rr) : Wat 55 40 1 2 X 0 [(0, .ref (ad X 55)), (1, .int x1)] [] S := by
  unfold fX12_isHouse at hres
  refine q_iload_n 1 hX 1 dX12_isHouse_0 rfl rfl rfl ?_
  refine q_iconst 2 hX dX12_isHouse_1 rfl kI_0 ?_
  refine q_bipush 4 hX dX12_isHouse_2 rfl kB_15 ?_
  obtain ⟨r2, S1, hk1, hres⟩ := ob hres
  refine q_callSi 7 (st := []) (As := [.int x1, .int (0 : Int32), .int (15 : Int32)]) hX (cX12_in9 hX.dj hk1) cs_RX12_134 rfl (by decide) rfl (Nat.le_of_ble_eq_true rfl) dX12_isHouse_4 rfl ?_
  refine q_if_eq 10 hX 25 dX12_isHouse_7 rfl (by decide) (fun hc => ?_) (fun hc => ?_)
  · have hres := it_t hc hres
    exact q_sub [] rfl (wfX12_isHouse_25 hX hq hres)
  · have hres := it_f hc hres
    refine q_aload_n 11 hX 0 dX12_isHouse_10 rfl rfl rfl ?_
    refine q_getI 14 hX ci12 lf_RX12_138 fI_55_8 dX12_isHouse_11 rfl ?_
    refine q_iload_n 15 hX 1 dX12_isHouse_14 rfl rfl rfl ?_
    obtain ⟨r4, S2, hk3, hres⟩ := ob hres
    refine q_callSi 18 (st := []) (As := [.int (S1.1 55 8), .int x1]) hX (cX12_has9 hX.dj hk3) cs_RX12_130 rfl (by decide) rfl (Nat.le_of_ble_eq_true rfl) dX12_isHouse_15 rfl ?_
    refine q_if_eq 21 hX 25 dX12_isHouse_18 rfl (by decide) (fun hc => ?_) (fun hc => ?_)
    · have hres := it_t hc hres
      exact q_sub [] rfl (wfX12_isHouse_25 hX hq hres)
    · have hres := it_f hc hres
      refine q_iconst 22 hX dX12_isHouse_21 rfl kI_1 ?_
      refine q_goto 26 hX dX12_isHouse_22 (by decide) ?_
      exact q_zret hX (by decide) (eqi hq hres) dX12_isHouse_26
theorem cX12_isHouse9 {l : Launch} {w : WD} (hj : Dj w 55 40) {rr : Int32 × St} {S : St} {x1 : Int32} (hres : fX12_isHouse S x1 = some rr) : Ct l yX12_isHouse cX12_isHouse 2 (some .boolean) 1 w 55 40 [.ref (w.1 55), .int x1] S (some (.int rr.1), rr.2) := by
  refine Ct.of (lv := [(0, .ref (w.1 55)), (1, .int x1)]) hj (by decide +kernel) (Nat.le_of_ble_eq_true rfl) rfl ?_
  rintro X rfl rfl hq hX
  exact wfX12_isHouse hX hq hres
def fX12_isThing_25 (S : St) : Option (Int32 × St) :=
  some ((0 : Int32), S)
theorem wfX12_isThing_25 {X : CX} (hX : Ok RX12 cX12_isThing (some .boolean) 55 40 2 X) {rr : Int32 × St} (hq : rs X = (some (.int rr.1), rr.2)) {S : St} (hres : fX12_isThing_25 S = some rr) : Wat 55 40 1 2 X 25 [] [] S := by
  unfold fX12_isThing_25 at hres
  refine q_iconst 26 hX dX12_isThing_25 rfl kI_0 ?_
  exact q_zret hX (by decide) (eqi hq hres) dX12_isThing_26
def fX12_isThing (S : St) (x1 : Int32) : Option (Int32 × St) :=
  bi (fX12_in S x1 (0 : Int32) (15 : Int32)) fun r2 S1 => if r2 = 0 then (fX12_isThing_25 S1) else (bi (fX12_has S1 (S1.1 55 9) x1) fun r4 S2 => if r4 = 0 then (fX12_isThing_25 S2) else (some ((1 : Int32), S2)))
theorem wfX12_isThing {X : CX} (hX : Ok RX12 cX12_isThing (some .boolean) 55 40 2 X) {rr : Int32 × St} (hq : rs X = (some (.int rr.1), rr.2)) {S : St} {x1 : Int32} (hres : fX12_isThing S x1 = some rr) : Wat 55 40 1 2 X 0 [(0, .ref (ad X 55)), (1, .int x1)] [] S := by
  unfold fX12_isThing at hres
  refine q_iload_n 1 hX 1 dX12_isThing_0 rfl rfl rfl ?_
  refine q_iconst 2 hX dX12_isThing_1 rfl kI_0 ?_
  refine q_bipush 4 hX dX12_isThing_2 rfl kB_15 ?_
  obtain ⟨r2, S1, hk1, hres⟩ := ob hres
  refine q_callSi 7 (st := []) (As := [.int x1, .int (0 : Int32), .int (15 : Int32)]) hX (cX12_in9 hX.dj hk1) cs_RX12_134 rfl (by decide) rfl (Nat.le_of_ble_eq_true rfl) dX12_isThing_4 rfl ?_
  refine q_if_eq 10 hX 25 dX12_isThing_7 rfl (by decide) (fun hc => ?_) (fun hc => ?_)
  · have hres := it_t hc hres
    exact q_sub [] rfl (wfX12_isThing_25 hX hq hres)
  · have hres := it_f hc hres
    refine q_aload_n 11 hX 0 dX12_isThing_10 rfl rfl rfl ?_
    refine q_getI 14 hX ci12 lf_RX12_142 fI_55_9 dX12_isThing_11 rfl ?_
    refine q_iload_n 15 hX 1 dX12_isThing_14 rfl rfl rfl ?_
    obtain ⟨r4, S2, hk3, hres⟩ := ob hres
    refine q_callSi 18 (st := []) (As := [.int (S1.1 55 9), .int x1]) hX (cX12_has9 hX.dj hk3) cs_RX12_130 rfl (by decide) rfl (Nat.le_of_ble_eq_true rfl) dX12_isThing_15 rfl ?_
    refine q_if_eq 21 hX 25 dX12_isThing_18 rfl (by decide) (fun hc => ?_) (fun hc => ?_)
    · have hres := it_t hc hres
      exact q_sub [] rfl (wfX12_isThing_25 hX hq hres)
    · have hres := it_f hc hres
      refine q_iconst 22 hX dX12_isThing_21 rfl kI_1 ?_
      refine q_goto 26 hX dX12_isThing_22 (by decide) ?_
      exact q_zret hX (by decide) (eqi hq hres) dX12_isThing_26
theorem cX12_isThing9 {l : Launch} {w : WD} (hj : Dj w 55 40) {rr : Int32 × St} {S : St} {x1 : Int32} (hres : fX12_isThing S x1 = some rr) : Ct l yX12_isThing cX12_isThing 2 (some .boolean) 1 w 55 40 [.ref (w.1 55), .int x1] S (some (.int rr.1), rr.2) := by
  refine Ct.of (lv := [(0, .ref (w.1 55)), (1, .int x1)]) hj (by decide +kernel) (Nat.le_of_ble_eq_true rfl) rfl ?_
  rintro X rfl rfl hq hX
  exact wfX12_isThing hX hq hres
def fX12_isTurn (S : St) (x0 : Int32) : Option (Int32 × St) :=
  bi (fX12_in S x0 (0 : Int32) (11 : Int32)) fun r2 S1 => if r2 = 0 ∨ r2 = 1 then some (r2, S1) else none
theorem wfX12_isTurn {X : CX} (hX : Ok RX12 cX12_isTurn (some .boolean) 55 40 1 X) {rr : Int32 × St} (hq : rs X = (some (.int rr.1), rr.2)) {S : St} {x0 : Int32} (hres : fX12_isTurn S x0 = some rr) : Wat 55 40 1 1 X 0 [(0, .int x0)] [] S := by
  unfold fX12_isTurn at hres
  refine q_iload_n 1 hX 0 dX12_isTurn_0 rfl rfl rfl ?_
  refine q_iconst 2 hX dX12_isTurn_1 rfl kI_0 ?_
  refine q_bipush 4 hX dX12_isTurn_2 rfl kB_11 ?_
  obtain ⟨r2, S1, hk1, hres⟩ := ob hres
  refine q_callSi 7 (st := []) (As := [.int x0, .int (0 : Int32), .int (11 : Int32)]) hX (cX12_in9 hX.dj hk1) cs_RX12_134 rfl (by decide) rfl (Nat.le_of_ble_eq_true rfl) dX12_isTurn_4 rfl ?_
  obtain ⟨hz3, hres⟩ := gd hres
  exact q_zret hX hz3 (eqi hq hres) dX12_isTurn_7
theorem cX12_isTurn9 {l : Launch} {w : WD} (hj : Dj w 55 40) {rr : Int32 × St} {S : St} {x0 : Int32} (hres : fX12_isTurn S x0 = some rr) : Ct l yX12_isTurn cX12_isTurn 1 (some .boolean) 1 w 55 40 [.int x0] S (some (.int rr.1), rr.2) := by
  refine Ct.of (lv := [(0, .int x0)]) hj (by decide +kernel) (Nat.le_of_ble_eq_true rfl) rfl ?_
  rintro X rfl rfl hq hX
  exact wfX12_isTurn hX hq hres
def fX12_isSeen_116 (S : St) : Option (Int32 × St) :=
  some ((0 : Int32), S)
theorem wfX12_isSeen_116 {X : CX} (hX : Ok RX12 cX12_isSeen (some .boolean) 55 40 7 X) {rr : Int32 × St} (hq : rs X = (some (.int rr.1), rr.2)) {S : St} (hres : fX12_isSeen_116 S = some rr) : Wat 55 40 1 7 X 116 [] [] S := by
  unfold fX12_isSeen_116 at hres
  refine q_iconst 117 hX dX12_isSeen_116 rfl kI_0 ?_
  exact q_zret hX (by decide) (eqi hq hres) dX12_isSeen_117
def fX12_isSeen_100 (S : St) (x5 : Int32) (s0 : Int32) : Option (Int32 × St) :=
  if x5 = 0 then (fX12_isSeen_116 S) else (if s0 = 0 then (fX12_isSeen_116 S) else (some ((1 : Int32), S)))
theorem wfX12_isSeen_100 {X : CX} (hX : Ok RX12 cX12_isSeen (some .boolean) 55 40 7 X) {rr : Int32 × St} (hq : rs X = (some (.int rr.1), rr.2)) {S : St} {x5 : Int32} {s0 : Int32} (hres : fX12_isSeen_100 S x5 s0 = some rr) : Wat 55 40 1 7 X 100 [(5, .int x5)] [.int s0] S := by
  unfold fX12_isSeen_100 at hres
  refine q_istore 102 (lv' := [(6, .int s0), (5, .int x5)]) hX dX12_isSeen_100 rfl (by decide) rfl ?_
  refine q_iload 104 hX 1 dX12_isSeen_102 rfl rfl ?_
  refine q_if_eq 107 hX 116 dX12_isSeen_104 rfl (by decide) (fun hc => ?_) (fun hc => ?_)
  · have hres := it_t hc hres
    exact q_sub [] rfl (wfX12_isSeen_116 hX hq hres)
  · have hres := it_f hc hres
    refine q_iload 109 hX 0 dX12_isSeen_107 rfl rfl ?_
    refine q_if_eq 112 hX 116 dX12_isSeen_109 rfl (by decide) (fun hc => ?_) (fun hc => ?_)
    · have hres := it_t hc hres
      exact q_sub [] rfl (wfX12_isSeen_116 hX hq hres)
    · have hres := it_f hc hres
      refine q_iconst 113 hX dX12_isSeen_112 rfl kI_1 ?_
      refine q_goto 117 hX dX12_isSeen_113 (by decide) ?_
      exact q_zret hX (by decide) (eqi hq hres) dX12_isSeen_117
def fX12_isSeen_39 (S : St) (x2 : Int32) (x3 : Int32) (s0 : Int32) : Option (Int32 × St) :=
  if inb x2 16 = true then if inb x2 16 = true then if (S.1 63 (x2.toNatClampNeg)) < (S.1 62 (x2.toNatClampNeg)) then (if inb x2 16 = true then if (S.1 62 (x2.toNatClampNeg)) ≤ x3 then (fX12_isSeen_100 S s0 (1 : Int32)) else (if inb x2 16 = true then if (S.1 63 (x2.toNatClampNeg)) < x3 then (fX12_isSeen_100 S s0 (0 : Int32)) else (fX12_isSeen_100 S s0 (1 : Int32)) else none) else none) else (if inb x2 16 = true then if inb x2 16 = true then bi (fX12_in S x3 (S.1 62 (x2.toNatClampNeg)) (S.1 63 (x2.toNatClampNeg))) fun r8 S1 => fX12_isSeen_100 S1 s0 r8 else none else none) else none else none
theorem wfX12_isSeen_39 {X : CX} (hX : Ok RX12 cX12_isSeen (some .boolean) 55 40 7 X) {rr : Int32 × St} (hq : rs X = (some (.int rr.1), rr.2)) {S : St} {x2 : Int32} {x3 : Int32} {s0 : Int32} (hres : fX12_isSeen_39 S x2 x3 s0 = some rr) : Wat 55 40 1 7 X 39 [(0, .ref (ad X 55)), (2, .int x2), (3, .int x3)] [.int s0] S := by
  unfold fX12_isSeen_39 at hres
  refine q_istore 41 (lv' := [(5, .int s0), (0, .ref (ad X 55)), (2, .int x2), (3, .int x3)]) hX dX12_isSeen_39 rfl (by decide) rfl ?_
  refine q_aload_n 42 hX 1 dX12_isSeen_41 rfl rfl rfl ?_
  refine q_getR 45 hX ci12 lf_RX12_28 fR_55_6 dX12_isSeen_42 rfl ?_
  refine q_iload_n 46 hX 2 dX12_isSeen_45 rfl rfl rfl ?_
  obtain ⟨hb1, hres⟩ := gd hres
  refine q_iald 47 hX rfl aF_62 hb1 dX12_isSeen_46 rfl ?_
  refine q_aload_n 48 hX 1 dX12_isSeen_47 rfl rfl rfl ?_
  refine q_getR 51 hX ci12 lf_RX12_31 fR_55_7 dX12_isSeen_48 rfl ?_
  refine q_iload_n 52 hX 2 dX12_isSeen_51 rfl rfl rfl ?_
  obtain ⟨hb2, hres⟩ := gd hres
  refine q_iald 53 hX rfl aF_63 hb2 dX12_isSeen_52 rfl ?_
  refine q_icmp_gt 56 hX 75 dX12_isSeen_53 rfl (by decide) (fun hc => ?_) (fun hc => ?_)
  · have hres := it_t hc hres
    refine q_iload_n 76 hX 3 dX12_isSeen_75 rfl rfl rfl ?_
    refine q_aload_n 77 hX 1 dX12_isSeen_76 rfl rfl rfl ?_
    refine q_getR 80 hX ci12 lf_RX12_28 fR_55_6 dX12_isSeen_77 rfl ?_
    refine q_iload_n 81 hX 2 dX12_isSeen_80 rfl rfl rfl ?_
    obtain ⟨hb3, hres⟩ := gd hres
    refine q_iald 82 hX rfl aF_62 hb3 dX12_isSeen_81 rfl ?_
    refine q_icmp_ge 85 hX 95 dX12_isSeen_82 rfl (by decide) (fun hc => ?_) (fun hc => ?_)
    · have hres := it_t hc hres
      refine q_iconst 96 hX dX12_isSeen_95 rfl kI_1 ?_
      refine q_goto 100 hX dX12_isSeen_96 (by decide) ?_
      exact q_sub [0] rfl (wfX12_isSeen_100 hX hq hres)
    · have hres := it_f hc hres
      refine q_iload_n 86 hX 3 dX12_isSeen_85 rfl rfl rfl ?_
      refine q_aload_n 87 hX 1 dX12_isSeen_86 rfl rfl rfl ?_
      refine q_getR 90 hX ci12 lf_RX12_31 fR_55_7 dX12_isSeen_87 rfl ?_
      refine q_iload_n 91 hX 2 dX12_isSeen_90 rfl rfl rfl ?_
      obtain ⟨hb4, hres⟩ := gd hres
      refine q_iald 92 hX rfl aF_63 hb4 dX12_isSeen_91 rfl ?_
      refine q_icmp_gt 95 hX 99 dX12_isSeen_92 rfl (by decide) (fun hc => ?_) (fun hc => ?_)
      · have hres := it_t hc hres
        refine q_iconst 100 hX dX12_isSeen_99 rfl kI_0 ?_
        exact q_sub [0] rfl (wfX12_isSeen_100 hX hq hres)
      · have hres := it_f hc hres
        refine q_iconst 96 hX dX12_isSeen_95 rfl kI_1 ?_
        refine q_goto 100 hX dX12_isSeen_96 (by decide) ?_
        exact q_sub [0] rfl (wfX12_isSeen_100 hX hq hres)
  · have hres := it_f hc hres
    refine q_iload_n 57 hX 3 dX12_isSeen_56 rfl rfl rfl ?_
    refine q_aload_n 58 hX 1 dX12_isSeen_57 rfl rfl rfl ?_
    refine q_getR 61 hX ci12 lf_RX12_28 fR_55_6 dX12_isSeen_58 rfl ?_
    refine q_iload_n 62 hX 2 dX12_isSeen_61 rfl rfl rfl ?_
    obtain ⟨hb5, hres⟩ := gd hres
    refine q_iald 63 hX rfl aF_62 hb5 dX12_isSeen_62 rfl ?_
    refine q_aload_n 64 hX 1 dX12_isSeen_63 rfl rfl rfl ?_
    refine q_getR 67 hX ci12 lf_RX12_31 fR_55_7 dX12_isSeen_64 rfl ?_
    refine q_iload_n 68 hX 2 dX12_isSeen_67 rfl rfl rfl ?_
    obtain ⟨hb6, hres⟩ := gd hres
    refine q_iald 69 hX rfl aF_63 hb6 dX12_isSeen_68 rfl ?_
    obtain ⟨r8, S1, hk7, hres⟩ := ob hres
    refine q_callSi 72 (st := []) (As := [.int x3, .int (S.1 62 (x2.toNatClampNeg)), .int (S.1 63 (x2.toNatClampNeg))]) hX (cX12_in9 hX.dj hk7) cs_RX12_134 rfl (by decide) rfl (Nat.le_of_ble_eq_true rfl) dX12_isSeen_69 rfl ?_
    refine q_goto 100 hX dX12_isSeen_72 (by decide) ?_
    exact q_sub [0] rfl (wfX12_isSeen_100 hX hq hres)
def fX12_isSeen (S : St) (x1 : Int32) (x2 : Int32) (x3 : Int32) : Option (Int32 × St) :=
  if inb x2 16 = true then if inb x1 16 = true then bV (((((S.1 61 (x2.toNatClampNeg)) - (S.1 60 (x1.toNatClampNeg))) + (12 : Int32)) - (((S.1 61 (x2.toNatClampNeg)) - (S.1 60 (x1.toNatClampNeg))) + (12 : Int32)) / (12 : Int32) * (12 : Int32))) fun v3 => if v3 < (2 : Int32) then (fX12_isSeen_39 S x2 x3 (1 : Int32)) else (if v3 = (11 : Int32) then (fX12_isSeen_39 S x2 x3 (1 : Int32)) else (fX12_isSeen_39 S x2 x3 (0 : Int32))) else none else none
theorem wfX12_isSeen {X : CX} (hX : Ok RX12 cX12_isSeen (some .boolean) 55 40 7 X) {rr : Int32 × St} (hq : rs X = (some (.int rr.1), rr.2)) {S : St} {x1 : Int32} {x2 : Int32} {x3 : Int32} (hres : fX12_isSeen S x1 x2 x3 = some rr) : Wat 55 40 1 7 X 0 [(0, .ref (ad X 55)), (1, .int x1), (2, .int x2), (3, .int x3)] [] S := by
  unfold fX12_isSeen at hres
  refine q_aload_n 1 hX 0 dX12_isSeen_0 rfl rfl rfl ?_
  refine q_getR 4 hX ci12 lf_RX12_25 fR_55_5 dX12_isSeen_1 rfl ?_
  refine q_iload_n 5 hX 2 dX12_isSeen_4 rfl rfl rfl ?_
  obtain ⟨hb1, hres⟩ := gd hres
  refine q_iald 6 hX rfl aF_61 hb1 dX12_isSeen_5 rfl ?_
  refine q_aload_n 7 hX 0 dX12_isSeen_6 rfl rfl rfl ?_
  refine q_getR 10 hX ci12 lf_RX12_22 fR_55_4 dX12_isSeen_7 rfl ?_
  refine q_iload_n 11 hX 1 dX12_isSeen_10 rfl rfl rfl ?_
  obtain ⟨hb2, hres⟩ := gd hres
  refine q_iald 12 hX rfl aF_60 hb2 dX12_isSeen_11 rfl ?_
  refine q_isub 13 hX dX12_isSeen_12 rfl ?_
  refine q_bipush 15 hX dX12_isSeen_13 rfl kB_12 ?_
  refine q_iadd 16 hX dX12_isSeen_15 rfl ?_
  refine q_bipush 18 hX dX12_isSeen_16 rfl kB_12 ?_
  refine q_irem 19 hX dX12_isSeen_18 rfl (by decide) ?_
  refine q_istoreB 21 (lv0 := [(0, .ref (ad X 55)), (1, .int x1), (2, .int x2), (3, .int x3)]) hX dX12_isSeen_19 rfl (by decide) rfl hres (fun v3 hres => ?_)
  refine q_iload 23 hX 0 dX12_isSeen_21 rfl rfl ?_
  refine q_iconst 24 hX dX12_isSeen_23 rfl kI_2 ?_
  refine q_icmp_lt 27 hX 34 dX12_isSeen_24 rfl (by decide) (fun hc => ?_) (fun hc => ?_)
  · have hres := it_t hc hres
    refine q_iconst 35 hX dX12_isSeen_34 rfl kI_1 ?_
    refine q_goto 39 hX dX12_isSeen_35 (by decide) ?_
    exact q_sub [1, 3, 4] rfl (wfX12_isSeen_39 hX hq hres)
  · have hres := it_f hc hres
    refine q_iload 29 hX 0 dX12_isSeen_27 rfl rfl ?_
    refine q_bipush 31 hX dX12_isSeen_29 rfl kB_11 ?_
    refine q_icmp_ne 34 hX 38 dX12_isSeen_31 rfl (by decide) (fun hc => ?_) (fun hc => ?_)
    · have hres := it_f hc hres
      refine q_iconst 39 hX dX12_isSeen_38 rfl kI_0 ?_
      exact q_sub [1, 3, 4] rfl (wfX12_isSeen_39 hX hq hres)
    · have hres := it_t hc hres
      refine q_iconst 35 hX dX12_isSeen_34 rfl kI_1 ?_
      refine q_goto 39 hX dX12_isSeen_35 (by decide) ?_
      exact q_sub [1, 3, 4] rfl (wfX12_isSeen_39 hX hq hres)
theorem cX12_isSeen9 {l : Launch} {w : WD} (hj : Dj w 55 40) {rr : Int32 × St} {S : St} {x1 : Int32} {x2 : Int32} {x3 : Int32} (hres : fX12_isSeen S x1 x2 x3 = some rr) : Ct l yX12_isSeen cX12_isSeen 7 (some .boolean) 1 w 55 40 [.ref (w.1 55), .int x1, .int x2, .int x3] S (some (.int rr.1), rr.2) := by
  refine Ct.of (lv := [(0, .ref (w.1 55)), (1, .int x1), (2, .int x2), (3, .int x3)]) hj (by decide +kernel) (Nat.le_of_ble_eq_true rfl) rfl ?_
  rintro X rfl rfl hq hX
  exact wfX12_isSeen hX hq hres
def bX12_seenBy_5 (rc5 : St → Int32 → Int32 → Int32 → Int32 → Option (Int32 × St)) (S : St) (x1 : Int32) (x2 : Int32) (x3 : Int32) (x4 : Int32) : Option (Int32 × St) :=
  if (16 : Int32) ≤ x4 then (some (x3, S)) else (bi (fX12_isThing S x4) fun r2 S1 => if r2 = 0 then (bV (x4 + (1 : Int32)) fun v3 => rc5 S1 x1 x2 x3 v3) else (bi (fX12_isSeen S1 x1 x4 x2) fun r5 S2 => if r5 = 0 then (bV (x4 + (1 : Int32)) fun v6 => rc5 S2 x1 x2 x3 v6) else (bV ((x3 ||| ((1 : Int32) <<< (x4 &&& 31)))) fun v7 => bV (x4 + (1 : Int32)) fun v8 => rc5 S2 x1 x2 v7 v8)))
theorem wbX12_seenBy_5 {X : CX} (hX : Ok RX12 cX12_seenBy (some .int) 55 40 5 X) {rr : Int32 × St} (hq : rs X = (some (.int rr.1), rr.2)) {rc5 : St → Int32 → Int32 → Int32 → Int32 → Option (Int32 × St)} (hrc5 : ∀ (S : St) (x1 : Int32) (x2 : Int32) (x3 : Int32) (x4 : Int32), rc5 S x1 x2 x3 x4 = some rr → Wat 55 40 2 5 X 5 [(0, .ref (ad X 55)), (1, .int x1), (2, .int x2), (3, .int x3), (4, .int x4)] [] S) {S : St} {x1 : Int32} {x2 : Int32} {x3 : Int32} {x4 : Int32} (hres : bX12_seenBy_5 rc5 S x1 x2 x3 x4 = some rr) : Wat 55 40 2 5 X 5 [(0, .ref (ad X 55)), (1, .int x1), (2, .int x2), (3, .int x3), (4, .int x4)] [] S := by
  unfold bX12_seenBy_5 at hres
  refine q_iload 7 hX 4 dX12_seenBy_5 rfl rfl ?_
  refine q_bipush 9 hX dX12_seenBy_7 rfl kB_16 ?_
  refine q_icmp_ge 12 hX 45 dX12_seenBy_9 rfl (by decide) (fun hc => ?_) (fun hc => ?_)
  · have hres := it_t hc hres
    refine q_iload_n 46 hX 3 dX12_seenBy_45 rfl rfl rfl ?_
    exact q_iret hX (eqi hq hres) dX12_seenBy_46
  · have hres := it_f hc hres
    refine q_aload_n 13 hX 0 dX12_seenBy_12 rfl rfl rfl ?_
    refine q_iload 15 hX 4 dX12_seenBy_13 rfl rfl ?_
    obtain ⟨r2, S1, hk1, hres⟩ := ob hres
    refine q_callVi 18 (st := []) (As := [.int x4]) hX (cX12_isThing9 hX.dj hk1) cv_RX12_145 ci12 oB_55 rfl (by decide) rfl (Nat.le_of_ble_eq_true rfl) dX12_seenBy_15 rfl ?_
    refine q_if_eq 21 hX 39 dX12_seenBy_18 rfl (by decide) (fun hc => ?_) (fun hc => ?_)
    · have hres := it_t hc hres
      refine q_iincB 42 4 (lv0 := [(0, .ref (ad X 55)), (1, .int x1), (2, .int x2), (3, .int x3)]) hX dX12_seenBy_39 rfl rfl kI_1 (by decide) rfl hres (fun v3 hres => ?_)
      refine q_goto 5 hX dX12_seenBy_42 (by decide) ?_
      exact q_sub [1, 2, 3, 4, 0] rfl (hrc5 _ _ _ _ _ hres)
    · have hres := it_f hc hres
      refine q_aload_n 22 hX 0 dX12_seenBy_21 rfl rfl rfl ?_
      refine q_iload_n 23 hX 1 dX12_seenBy_22 rfl rfl rfl ?_
      refine q_iload 25 hX 4 dX12_seenBy_23 rfl rfl ?_
      refine q_iload_n 26 hX 2 dX12_seenBy_25 rfl rfl rfl ?_
      obtain ⟨r5, S2, hk4, hres⟩ := ob hres
      refine q_callVi 29 (st := []) (As := [.int x1, .int x4, .int x2]) hX (cX12_isSeen9 hX.dj hk4) cv_RX12_149 ci12 oB_55 rfl (by decide) rfl (Nat.le_of_ble_eq_true rfl) dX12_seenBy_26 rfl ?_
      refine q_if_eq 32 hX 39 dX12_seenBy_29 rfl (by decide) (fun hc => ?_) (fun hc => ?_)
      · have hres := it_t hc hres
        refine q_iincB 42 4 (lv0 := [(0, .ref (ad X 55)), (1, .int x1), (2, .int x2), (3, .int x3)]) hX dX12_seenBy_39 rfl rfl kI_1 (by decide) rfl hres (fun v6 hres => ?_)
        refine q_goto 5 hX dX12_seenBy_42 (by decide) ?_
        exact q_sub [1, 2, 3, 4, 0] rfl (hrc5 _ _ _ _ _ hres)
      · have hres := it_f hc hres
        refine q_iload_n 33 hX 3 dX12_seenBy_32 rfl rfl rfl ?_
        refine q_iconst 34 hX dX12_seenBy_33 rfl kI_1 ?_
        refine q_iload 36 hX 4 dX12_seenBy_34 rfl rfl ?_
        refine q_ishl 37 hX dX12_seenBy_36 rfl ?_
        refine q_ior 38 hX dX12_seenBy_37 rfl ?_
        refine q_istoreB_n 39 (lv0 := [(0, .ref (ad X 55)), (1, .int x1), (2, .int x2), (4, .int x4)]) hX dX12_seenBy_38 rfl rfl (by decide) rfl hres (fun v7 hres => ?_)
        refine q_iincB 42 4 (lv0 := [(3, .int v7), (0, .ref (ad X 55)), (1, .int x1), (2, .int x2)]) hX dX12_seenBy_39 rfl rfl kI_1 (by decide) rfl hres (fun v8 hres => ?_)
        refine q_goto 5 hX dX12_seenBy_42 (by decide) ?_
        exact q_sub [2, 3, 4, 1, 0] rfl (hrc5 _ _ _ _ _ hres)
def fX12_seenBy_5 : Nat → St → Int32 → Int32 → Int32 → Int32 → Option (Int32 × St)
  | 0 => fun _ _ _ _ _ => none
  | k + 1 => fun S x1 x2 x3 x4 => bX12_seenBy_5 (fX12_seenBy_5 k) S x1 x2 x3 x4
theorem wfX12_seenBy_5 {X : CX} (hX : Ok RX12 cX12_seenBy (some .int) 55 40 5 X) {rr : Int32 × St} (hq : rs X = (some (.int rr.1), rr.2)) (k : Nat) : ∀ (S : St) (x1 : Int32) (x2 : Int32) (x3 : Int32) (x4 : Int32), fX12_seenBy_5 k S x1 x2 x3 x4 = some rr → Wat 55 40 2 5 X 5 [(0, .ref (ad X 55)), (1, .int x1), (2, .int x2), (3, .int x3), (4, .int x4)] [] S := by
  induction k with
  | zero => intro S x1 x2 x3 x4 hres; exact absurd hres (by simp [fX12_seenBy_5])
  | succ k ih => intro S x1 x2 x3 x4 hres; exact wbX12_seenBy_5 hX hq ih hres
def fX12_seenBy (S : St) (x1 : Int32) (x2 : Int32) : Option (Int32 × St) :=
  fX12_seenBy_5 100 S x1 x2 (0 : Int32) (0 : Int32)
theorem wfX12_seenBy {X : CX} (hX : Ok RX12 cX12_seenBy (some .int) 55 40 5 X) {rr : Int32 × St} (hq : rs X = (some (.int rr.1), rr.2)) {S : St} {x1 : Int32} {x2 : Int32} (hres : fX12_seenBy S x1 x2 = some rr) : Wat 55 40 2 5 X 0 [(0, .ref (ad X 55)), (1, .int x1), (2, .int x2)] [] S := by
  unfold fX12_seenBy at hres
  refine q_iconst 1 hX dX12_seenBy_0 rfl kI_0 ?_
  refine q_istore_n 2 (lv' := [(3, .int (0 : Int32)), (0, .ref (ad X 55)), (1, .int x1), (2, .int x2)]) hX dX12_seenBy_1 rfl rfl (by decide) rfl ?_
  refine q_iconst 3 hX dX12_seenBy_2 rfl kI_0 ?_
  refine q_istore 5 (lv' := [(4, .int (0 : Int32)), (3, .int (0 : Int32)), (0, .ref (ad X 55)), (1, .int x1), (2, .int x2)]) hX dX12_seenBy_3 rfl (by decide) rfl ?_
  exact q_sub [2, 3, 4, 1, 0] rfl (wfX12_seenBy_5 hX hq _ _ _ _ _ _ hres)
theorem cX12_seenBy9 {l : Launch} {w : WD} (hj : Dj w 55 40) {rr : Int32 × St} {S : St} {x1 : Int32} {x2 : Int32} (hres : fX12_seenBy S x1 x2 = some rr) : Ct l yX12_seenBy cX12_seenBy 5 (some .int) 2 w 55 40 [.ref (w.1 55), .int x1, .int x2] S (some (.int rr.1), rr.2) := by
  refine Ct.of (lv := [(0, .ref (w.1 55)), (1, .int x1), (2, .int x2)]) hj (by decide +kernel) (Nat.le_of_ble_eq_true rfl) rfl ?_
  rintro X rfl rfl hq hX
  exact wfX12_seenBy hX hq hres
def bX12_everSeenBy_4 (rc4 : St → Int32 → Int32 → Int32 → Option (Int32 × St)) (S : St) (x1 : Int32) (x2 : Int32) (x3 : Int32) : Option (Int32 × St) :=
  if (12 : Int32) ≤ x3 then (some (x2, S)) else (bi (fX12_seenBy S x1 x3) fun r2 S1 => bV ((x2 ||| r2)) fun v3 => bV (x3 + (1 : Int32)) fun v4 => rc4 S1 x1 v3 v4)
theorem wbX12_everSeenBy_4 {X : CX} (hX : Ok RX12 cX12_everSeenBy (some .int) 55 40 4 X) {rr : Int32 × St} (hq : rs X = (some (.int rr.1), rr.2)) {rc4 : St → Int32 → Int32 → Int32 → Option (Int32 × St)} (hrc4 : ∀ (S : St) (x1 : Int32) (x2 : Int32) (x3 : Int32), rc4 S x1 x2 x3 = some rr → Wat 55 40 3 4 X 4 [(0, .ref (ad X 55)), (1, .int x1), (2, .int x2), (3, .int x3)] [] S) {S : St} {x1 : Int32} {x2 : Int32} {x3 : Int32} (hres : bX12_everSeenBy_4 rc4 S x1 x2 x3 = some rr) : Wat 55 40 3 4 X 4 [(0, .ref (ad X 55)), (1, .int x1), (2, .int x2), (3, .int x3)] [] S := by
  unfold bX12_everSeenBy_4 at hres
  refine q_iload_n 5 hX 3 dX12_everSeenBy_4 rfl rfl rfl ?_
  refine q_bipush 7 hX dX12_everSeenBy_5 rfl kB_12 ?_
  refine q_icmp_ge 10 hX 25 dX12_everSeenBy_7 rfl (by decide) (fun hc => ?_) (fun hc => ?_)
  · have hres := it_t hc hres
    refine q_iload_n 26 hX 2 dX12_everSeenBy_25 rfl rfl rfl ?_
    exact q_iret hX (eqi hq hres) dX12_everSeenBy_26
  · have hres := it_f hc hres
    refine q_iload_n 11 hX 2 dX12_everSeenBy_10 rfl rfl rfl ?_
    refine q_aload_n 12 hX 0 dX12_everSeenBy_11 rfl rfl rfl ?_
    refine q_iload_n 13 hX 1 dX12_everSeenBy_12 rfl rfl rfl ?_
    refine q_iload_n 14 hX 3 dX12_everSeenBy_13 rfl rfl rfl ?_
    obtain ⟨r2, S1, hk1, hres⟩ := ob hres
    refine q_callVi 17 (st := [.int x2]) (As := [.int x1, .int x3]) hX (cX12_seenBy9 hX.dj hk1) cv_RX12_152 ci12 oB_55 rfl (by decide) rfl (Nat.le_of_ble_eq_true rfl) dX12_everSeenBy_14 rfl ?_
    refine q_ior 18 hX dX12_everSeenBy_17 rfl ?_
    refine q_istoreB_n 19 (lv0 := [(0, .ref (ad X 55)), (1, .int x1), (3, .int x3)]) hX dX12_everSeenBy_18 rfl rfl (by decide) rfl hres (fun v3 hres => ?_)
    refine q_iincB 22 3 (lv0 := [(2, .int v3), (0, .ref (ad X 55)), (1, .int x1)]) hX dX12_everSeenBy_19 rfl rfl kI_1 (by decide) rfl hres (fun v4 hres => ?_)
    refine q_goto 4 hX dX12_everSeenBy_22 (by decide) ?_
    exact q_sub [2, 3, 1, 0] rfl (hrc4 _ _ _ _ hres)
def fX12_everSeenBy_4 : Nat → St → Int32 → Int32 → Int32 → Option (Int32 × St)
  | 0 => fun _ _ _ _ => none
  | k + 1 => fun S x1 x2 x3 => bX12_everSeenBy_4 (fX12_everSeenBy_4 k) S x1 x2 x3
theorem wfX12_everSeenBy_4 {X : CX} (hX : Ok RX12 cX12_everSeenBy (some .int) 55 40 4 X) {rr : Int32 × St} (hq : rs X = (some (.int rr.1), rr.2)) (k : Nat) : ∀ (S : St) (x1 : Int32) (x2 : Int32) (x3 : Int32), fX12_everSeenBy_4 k S x1 x2 x3 = some rr → Wat 55 40 3 4 X 4 [(0, .ref (ad X 55)), (1, .int x1), (2, .int x2), (3, .int x3)] [] S := by
  induction k with
  | zero => intro S x1 x2 x3 hres; exact absurd hres (by simp [fX12_everSeenBy_4])
  | succ k ih => intro S x1 x2 x3 hres; exact wbX12_everSeenBy_4 hX hq ih hres
def fX12_everSeenBy (S : St) (x1 : Int32) : Option (Int32 × St) :=
  fX12_everSeenBy_4 100 S x1 (0 : Int32) (0 : Int32)
theorem wfX12_everSeenBy {X : CX} (hX : Ok RX12 cX12_everSeenBy (some .int) 55 40 4 X) {rr : Int32 × St} (hq : rs X = (some (.int rr.1), rr.2)) {S : St} {x1 : Int32} (hres : fX12_everSeenBy S x1 = some rr) : Wat 55 40 3 4 X 0 [(0, .ref (ad X 55)), (1, .int x1)] [] S := by
  unfold fX12_everSeenBy at hres
  refine q_iconst 1 hX dX12_everSeenBy_0 rfl kI_0 ?_
  refine q_istore_n 2 (lv' := [(2, .int (0 : Int32)), (0, .ref (ad X 55)), (1, .int x1)]) hX dX12_everSeenBy_1 rfl rfl (by decide) rfl ?_
  refine q_iconst 3 hX dX12_everSeenBy_2 rfl kI_0 ?_
  refine q_istore_n 4 (lv' := [(3, .int (0 : Int32)), (2, .int (0 : Int32)), (0, .ref (ad X 55)), (1, .int x1)]) hX dX12_everSeenBy_3 rfl rfl (by decide) rfl ?_
  exact q_sub [2, 3, 1, 0] rfl (wfX12_everSeenBy_4 hX hq _ _ _ _ _ hres)
theorem cX12_everSeenBy9 {l : Launch} {w : WD} (hj : Dj w 55 40) {rr : Int32 × St} {S : St} {x1 : Int32} (hres : fX12_everSeenBy S x1 = some rr) : Ct l yX12_everSeenBy cX12_everSeenBy 4 (some .int) 3 w 55 40 [.ref (w.1 55), .int x1] S (some (.int rr.1), rr.2) := by
  refine Ct.of (lv := [(0, .ref (w.1 55)), (1, .int x1)]) hj (by decide +kernel) (Nat.le_of_ble_eq_true rfl) rfl ?_
  rintro X rfl rfl hq hX
  exact wfX12_everSeenBy hX hq hres
def fX12_turn_22 (S : St) (x1 : Int32) (x2 : Int32) : Option (Int32 × St) :=
  if inb x1 12 = true then bS (pI S 59 (x1.toNatClampNeg) x2) fun S1 => some ((1 : Int32), S1) else none
theorem wfX12_turn_22 {X : CX} (hX : Ok RX12 cX12_turn (some .boolean) 55 40 3 X) {rr : Int32 × St} (hq : rs X = (some (.int rr.1), rr.2)) {S : St} {x1 : Int32} {x2 : Int32} (hres : fX12_turn_22 S x1 x2 = some rr) : Wat 55 40 2 3 X 22 [(0, .ref (ad X 55)), (1, .int x1), (2, .int x2)] [] S := by
  unfold fX12_turn_22 at hres
  refine q_aload_n 23 hX 0 dX12_turn_22 rfl rfl rfl ?_
  refine q_getR 26 hX ci12 lf_RX12_19 fR_55_3 dX12_turn_23 rfl ?_
  refine q_iload_n 27 hX 1 dX12_turn_26 rfl rfl rfl ?_
  refine q_iload_n 28 hX 2 dX12_turn_27 rfl rfl rfl ?_
  obtain ⟨hb1, hres⟩ := gd hres
  refine q_iast 29 hX rfl aF_59 hb1 dX12_turn_28 rfl ?_
  refine q_bS hres (fun S1 _ hres => ?_)
  refine q_iconst 30 hX dX12_turn_29 rfl kI_1 ?_
  exact q_zret hX (by decide) (eqi hq hres) dX12_turn_30
def fX12_turn (S : St) (x1 : Int32) (x2 : Int32) : Option (Int32 × St) :=
  bi (fX12_isTurn S x1) fun r2 S1 => if r2 = 0 then (some ((0 : Int32), S1)) else (if x2 = (-1 : Int32) then (fX12_turn_22 S1 x1 x2) else (bi (fX12_isHouse S1 x2) fun r4 S2 => if r4 = 0 then (some ((0 : Int32), S2)) else (fX12_turn_22 S2 x1 x2)))
theorem wfX12_turn {X : CX} (hX : Ok RX12 cX12_turn (some .boolean) 55 40 3 X) {rr : Int32 × St} (hq : rs X = (some (.int rr.1), rr.2)) {S : St} {x1 : Int32} {x2 : Int32} (hres : fX12_turn S x1 x2 = some rr) : Wat 55 40 2 3 X 0 [(0, .ref (ad X 55)), (1, .int x1), (2, .int x2)] [] S := by
  unfold fX12_turn at hres
  refine q_iload_n 1 hX 1 dX12_turn_0 rfl rfl rfl ?_
  obtain ⟨r2, S1, hk1, hres⟩ := ob hres
  refine q_callSi 4 (st := []) (As := [.int x1]) hX (cX12_isTurn9 hX.dj hk1) cs_RX12_156 rfl (by decide) rfl (Nat.le_of_ble_eq_true rfl) dX12_turn_1 rfl ?_
  refine q_if_eq 7 hX 20 dX12_turn_4 rfl (by decide) (fun hc => ?_) (fun hc => ?_)
  · have hres := it_t hc hres
    refine q_iconst 21 hX dX12_turn_20 rfl kI_0 ?_
    exact q_zret hX (by decide) (eqi hq hres) dX12_turn_21
  · have hres := it_f hc hres
    refine q_iload_n 8 hX 2 dX12_turn_7 rfl rfl rfl ?_
    refine q_iconst 9 hX dX12_turn_8 rfl kI_m1 ?_
    refine q_icmp_eq 12 hX 22 dX12_turn_9 rfl (by decide) (fun hc => ?_) (fun hc => ?_)
    · have hres := it_t hc hres
      exact q_sub [0, 1, 2] rfl (wfX12_turn_22 hX hq hres)
    · have hres := it_f hc hres
      refine q_aload_n 13 hX 0 dX12_turn_12 rfl rfl rfl ?_
      refine q_iload_n 14 hX 2 dX12_turn_13 rfl rfl rfl ?_
      obtain ⟨r4, S2, hk3, hres⟩ := ob hres
      refine q_callVi 17 (st := []) (As := [.int x2]) hX (cX12_isHouse9 hX.dj hk3) cv_RX12_159 ci12 oB_55 rfl (by decide) rfl (Nat.le_of_ble_eq_true rfl) dX12_turn_14 rfl ?_
      refine q_if_ne 20 hX 22 dX12_turn_17 rfl (by decide) (fun hc => ?_) (fun hc => ?_)
      · have hres := it_f hc hres
        exact q_sub [0, 1, 2] rfl (wfX12_turn_22 hX hq hres)
      · have hres := it_t hc hres
        refine q_iconst 21 hX dX12_turn_20 rfl kI_0 ?_
        exact q_zret hX (by decide) (eqi hq hres) dX12_turn_21
theorem cX12_turn9 {l : Launch} {w : WD} (hj : Dj w 55 40) {rr : Int32 × St} {S : St} {x1 : Int32} {x2 : Int32} (hres : fX12_turn S x1 x2 = some rr) : Ct l yX12_turn cX12_turn 3 (some .boolean) 2 w 55 40 [.ref (w.1 55), .int x1, .int x2] S (some (.int rr.1), rr.2) := by
  refine Ct.of (lv := [(0, .ref (w.1 55)), (1, .int x1), (2, .int x2)]) hj (by decide +kernel) (Nat.le_of_ble_eq_true rfl) rfl ?_
  rintro X rfl rfl hq hX
  exact wfX12_turn hX hq hres
def fX12_sees_24 (S : St) : Option (Int32 × St) :=
  some ((-1 : Int32), S)
theorem wfX12_sees_24 {X : CX} (hX : Ok RX12 cX12_sees (some .int) 55 40 3 X) {rr : Int32 × St} (hq : rs X = (some (.int rr.1), rr.2)) {S : St} (hres : fX12_sees_24 S = some rr) : Wat 55 40 3 3 X 24 [] [] S := by
  unfold fX12_sees_24 at hres
  refine q_iconst 25 hX dX12_sees_24 rfl kI_m1 ?_
  exact q_iret hX (eqi hq hres) dX12_sees_25
def fX12_sees (S : St) (x1 : Int32) (x2 : Int32) : Option (Int32 × St) :=
  bi (fX12_isHouse S x1) fun r2 S1 => if r2 = 0 then (fX12_sees_24 S1) else (bi (fX12_isTurn S1 x2) fun r4 S2 => if r4 = 0 then (fX12_sees_24 S2) else (bi (fX12_seenBy S2 x1 x2) fun r6 S3 => some (r6, S3)))
theorem wfX12_sees {X : CX} (hX : Ok RX12 cX12_sees (some .int) 55 40 3 X) {rr : Int32 × St} (hq : rs X = (some (.int rr.1), rr.2)) {S : St} {x1 : Int32} {x2 : Int32} (hres : fX12_sees S x1 x2 = some rr) : Wat 55 40 3 3 X 0 [(0, .ref (ad X 55)), (1, .int x1), (2, .int x2)] [] S := by
  unfold fX12_sees at hres
  refine q_aload_n 1 hX 0 dX12_sees_0 rfl rfl rfl ?_
  refine q_iload_n 2 hX 1 dX12_sees_1 rfl rfl rfl ?_
  obtain ⟨r2, S1, hk1, hres⟩ := ob hres
  refine q_callVi 5 (st := []) (As := [.int x1]) hX (cX12_isHouse9 hX.dj hk1) cv_RX12_159 ci12 oB_55 rfl (by decide) rfl (Nat.le_of_ble_eq_true rfl) dX12_sees_2 rfl ?_
  refine q_if_eq 8 hX 24 dX12_sees_5 rfl (by decide) (fun hc => ?_) (fun hc => ?_)
  · have hres := it_t hc hres
    exact q_sub [] rfl (wfX12_sees_24 hX hq hres)
  · have hres := it_f hc hres
    refine q_iload_n 9 hX 2 dX12_sees_8 rfl rfl rfl ?_
    obtain ⟨r4, S2, hk3, hres⟩ := ob hres
    refine q_callSi 12 (st := []) (As := [.int x2]) hX (cX12_isTurn9 hX.dj hk3) cs_RX12_156 rfl (by decide) rfl (Nat.le_of_ble_eq_true rfl) dX12_sees_9 rfl ?_
    refine q_if_eq 15 hX 24 dX12_sees_12 rfl (by decide) (fun hc => ?_) (fun hc => ?_)
    · have hres := it_t hc hres
      exact q_sub [] rfl (wfX12_sees_24 hX hq hres)
    · have hres := it_f hc hres
      refine q_aload_n 16 hX 0 dX12_sees_15 rfl rfl rfl ?_
      refine q_iload_n 17 hX 1 dX12_sees_16 rfl rfl rfl ?_
      refine q_iload_n 18 hX 2 dX12_sees_17 rfl rfl rfl ?_
      obtain ⟨r6, S3, hk5, hres⟩ := ob hres
      refine q_callVi 21 (st := []) (As := [.int x1, .int x2]) hX (cX12_seenBy9 hX.dj hk5) cv_RX12_152 ci12 oB_55 rfl (by decide) rfl (Nat.le_of_ble_eq_true rfl) dX12_sees_18 rfl ?_
      refine q_goto 25 hX dX12_sees_21 (by decide) ?_
      exact q_iret hX (eqi hq hres) dX12_sees_25
theorem cX12_sees9 {l : Launch} {w : WD} (hj : Dj w 55 40) {rr : Int32 × St} {S : St} {x1 : Int32} {x2 : Int32} (hres : fX12_sees S x1 x2 = some rr) : Ct l yX12_sees cX12_sees 3 (some .int) 3 w 55 40 [.ref (w.1 55), .int x1, .int x2] S (some (.int rr.1), rr.2) := by
  refine Ct.of (lv := [(0, .ref (w.1 55)), (1, .int x1), (2, .int x2)]) hj (by decide +kernel) (Nat.le_of_ble_eq_true rfl) rfl ?_
  rintro X rfl rfl hq hX
  exact wfX12_sees hX hq hres
def bX12_types_2 (rc2 : St → Int32 → Int32 → Option (St)) (S : St) (x1 : Int32) (x2 : Int32) : Option (St) :=
  if x2 < 0 then (some S) else (if inb (S.1 55 11) 260 = true then bS (pI S 64 ((S.1 55 11).toNatClampNeg) (vp_nar .byte ((x1 >>> (((8 : Int32) * x2) &&& 31)).toInt8.toInt32))) fun S1 => bS (pI S1 55 11 ((S1.1 55 11) + (1 : Int32))) fun S2 => bV (x2 + (-1 : Int32)) fun v2 => rc2 S2 x1 v2 else none)
theorem wbX12_types_2 {X : CX} (hX : Ok RX12 cX12_types none 55 40 3 X) {rr : St} (hq : rs X = (none, rr)) {rc2 : St → Int32 → Int32 → Option (St)} (hrc2 : ∀ (S : St) (x1 : Int32) (x2 : Int32), rc2 S x1 x2 = some rr → Wat 55 40 0 3 X 2 [(0, .ref (ad X 55)), (1, .int x1), (2, .int x2)] [] S) {S : St} {x1 : Int32} {x2 : Int32} (hres : bX12_types_2 rc2 S x1 x2 = some rr) : Wat 55 40 0 3 X 2 [(0, .ref (ad X 55)), (1, .int x1), (2, .int x2)] [] S := by
  unfold bX12_types_2 at hres
  refine q_iload_n 3 hX 2 dX12_types_2 rfl rfl rfl ?_
  refine q_if_lt 6 hX 38 dX12_types_3 rfl (by decide) (fun hc => ?_) (fun hc => ?_)
  · have hres := it_t hc hres
    exact q_vret hX (eqv hq hres) dX12_types_38
  · have hres := it_f hc hres
    refine q_aload_n 7 hX 0 dX12_types_6 rfl rfl rfl ?_
    refine q_getR 10 hX ci12 lf_RX12_34 fR_55_10 dX12_types_7 rfl ?_
    refine q_aload_n 11 hX 0 dX12_types_10 rfl rfl rfl ?_
    refine q_getI 14 hX ci12 lf_RX12_162 fI_55_11 dX12_types_11 rfl ?_
    refine q_iload_n 15 hX 1 dX12_types_14 rfl rfl rfl ?_
    refine q_bipush 17 hX dX12_types_15 rfl kB_8 ?_
    refine q_iload_n 18 hX 2 dX12_types_17 rfl rfl rfl ?_
    refine q_imul 19 hX dX12_types_18 rfl ?_
    refine q_ishr 20 hX dX12_types_19 rfl ?_
    refine q_i2b 21 hX dX12_types_20 rfl ?_
    obtain ⟨hb1, hres⟩ := gd hres
    refine q_bast 22 hX rfl aF_64 hb1 dX12_types_21 rfl ?_
    refine q_bS hres (fun S1 _ hres => ?_)
    refine q_aload_n 23 hX 0 dX12_types_22 rfl rfl rfl ?_
    refine q_aload_n 24 hX 0 dX12_types_23 rfl rfl rfl ?_
    refine q_getI 27 hX ci12 lf_RX12_162 fI_55_11 dX12_types_24 rfl ?_
    refine q_iconst 28 hX dX12_types_27 rfl kI_1 ?_
    refine q_iadd 29 hX dX12_types_28 rfl ?_
    refine q_putI 32 hX ci12 lf_RX12_162 fI_55_11 (nar_i rfl) dX12_types_29 rfl ?_
    refine q_bS hres (fun S2 _ hres => ?_)
    refine q_iincB 35 2 (lv0 := [(0, .ref (ad X 55)), (1, .int x1)]) hX dX12_types_32 rfl rfl kI_m1 (by decide) rfl hres (fun v2 hres => ?_)
    refine q_goto 2 hX dX12_types_35 (by decide) ?_
    exact q_sub [1, 2, 0] rfl (hrc2 _ _ _ hres)
def fX12_types_2 : Nat → St → Int32 → Int32 → Option (St)
  | 0 => fun _ _ _ => none
  | k + 1 => fun S x1 x2 => bX12_types_2 (fX12_types_2 k) S x1 x2
theorem wfX12_types_2 {X : CX} (hX : Ok RX12 cX12_types none 55 40 3 X) {rr : St} (hq : rs X = (none, rr)) (k : Nat) : ∀ (S : St) (x1 : Int32) (x2 : Int32), fX12_types_2 k S x1 x2 = some rr → Wat 55 40 0 3 X 2 [(0, .ref (ad X 55)), (1, .int x1), (2, .int x2)] [] S := by
  induction k with
  | zero => intro S x1 x2 hres; exact absurd hres (by simp [fX12_types_2])
  | succ k ih => intro S x1 x2 hres; exact wbX12_types_2 hX hq ih hres
def fX12_types (S : St) (x1 : Int32) : Option (St) :=
  fX12_types_2 100 S x1 (3 : Int32)
theorem wfX12_types {X : CX} (hX : Ok RX12 cX12_types none 55 40 3 X) {rr : St} (hq : rs X = (none, rr)) {S : St} {x1 : Int32} (hres : fX12_types S x1 = some rr) : Wat 55 40 0 3 X 0 [(0, .ref (ad X 55)), (1, .int x1)] [] S := by
  unfold fX12_types at hres
  refine q_iconst 1 hX dX12_types_0 rfl kI_3 ?_
  refine q_istore_n 2 (lv' := [(2, .int (3 : Int32)), (0, .ref (ad X 55)), (1, .int x1)]) hX dX12_types_1 rfl rfl (by decide) rfl ?_
  exact q_sub [1, 2, 0] rfl (wfX12_types_2 hX hq _ _ _ _ hres)
theorem cX12_types9 {l : Launch} {w : WD} (hj : Dj w 55 40) {rr : St} {S : St} {x1 : Int32} (hres : fX12_types S x1 = some rr) : Ct l yX12_types cX12_types 3 none 0 w 55 40 [.ref (w.1 55), .int x1] S (none, rr) := by
  refine Ct.of (lv := [(0, .ref (w.1 55)), (1, .int x1)]) hj (by decide +kernel) (Nat.le_of_ble_eq_true rfl) rfl ?_
  rintro X rfl rfl hq hX
  exact wfX12_types hX hq hres
def fX12_feed (S : St) (x1 : Int32) (x2 : Int32) (x3 : Int32) (x4 : Int32) (x5 : Int32) : Option (Int32 × St) :=
  if ((S.1 55 11) + (20 : Int32)) ≤ (260 : Int32) then (bv (fX12_types S x1) fun S1 => bv (fX12_types S1 x2) fun S2 => bv (fX12_types S2 x3) fun S3 => bv (fX12_types S3 x4) fun S4 => bv (fX12_types S4 x5) fun S5 => some ((S5.1 55 11), S5)) else (some ((-1 : Int32), S))
theorem wfX12_feed {X : CX} (hX : Ok RX12 cX12_feed (some .int) 55 40 6 X) {rr : Int32 × St} (hq : rs X = (some (.int rr.1), rr.2)) {S : St} {x1 : Int32} {x2 : Int32} {x3 : Int32} {x4 : Int32} {x5 : Int32} (hres : fX12_feed S x1 x2 x3 x4 x5 = some rr) : Wat 55 40 1 6 X 0 [(0, .ref (ad X 55)), (1, .int x1), (2, .int x2), (3, .int x3), (4, .int x4), (5, .int x5)] [] S := by
  unfold fX12_feed at hres
  refine q_aload_n 1 hX 0 dX12_feed_0 rfl rfl rfl ?_
  refine q_getI 4 hX ci12 lf_RX12_162 fI_55_11 dX12_feed_1 rfl ?_
  refine q_bipush 6 hX dX12_feed_4 rfl kB_20 ?_
  refine q_iadd 7 hX dX12_feed_6 rfl ?_
  refine q_sipush 10 hX dX12_feed_7 rfl kS_260 ?_
  refine q_icmp_le 13 hX 15 dX12_feed_10 rfl (by decide) (fun hc => ?_) (fun hc => ?_)
  · have hres := it_t hc hres
    refine q_aload_n 16 hX 0 dX12_feed_15 rfl rfl rfl ?_
    refine q_iload_n 17 hX 1 dX12_feed_16 rfl rfl rfl ?_
    obtain ⟨S1, hk1, hres⟩ := obv hres
    refine q_callVv 20 (st := []) (As := [.int x1]) hX (cX12_types9 hX.dj hk1) cv_RX12_165 ci12 oB_55 rfl (by decide) rfl (Nat.le_of_ble_eq_true rfl) dX12_feed_17 rfl ?_
    refine q_aload_n 21 hX 0 dX12_feed_20 rfl rfl rfl ?_
    refine q_iload_n 22 hX 2 dX12_feed_21 rfl rfl rfl ?_
    obtain ⟨S2, hk2, hres⟩ := obv hres
    refine q_callVv 25 (st := []) (As := [.int x2]) hX (cX12_types9 hX.dj hk2) cv_RX12_165 ci12 oB_55 rfl (by decide) rfl (Nat.le_of_ble_eq_true rfl) dX12_feed_22 rfl ?_
    refine q_aload_n 26 hX 0 dX12_feed_25 rfl rfl rfl ?_
    refine q_iload_n 27 hX 3 dX12_feed_26 rfl rfl rfl ?_
    obtain ⟨S3, hk3, hres⟩ := obv hres
    refine q_callVv 30 (st := []) (As := [.int x3]) hX (cX12_types9 hX.dj hk3) cv_RX12_165 ci12 oB_55 rfl (by decide) rfl (Nat.le_of_ble_eq_true rfl) dX12_feed_27 rfl ?_
    refine q_aload_n 31 hX 0 dX12_feed_30 rfl rfl rfl ?_
    refine q_iload 33 hX 4 dX12_feed_31 rfl rfl ?_
    obtain ⟨S4, hk4, hres⟩ := obv hres
    refine q_callVv 36 (st := []) (As := [.int x4]) hX (cX12_types9 hX.dj hk4) cv_RX12_165 ci12 oB_55 rfl (by decide) rfl (Nat.le_of_ble_eq_true rfl) dX12_feed_33 rfl ?_
    refine q_aload_n 37 hX 0 dX12_feed_36 rfl rfl rfl ?_
    refine q_iload 39 hX 5 dX12_feed_37 rfl rfl ?_
    obtain ⟨S5, hk5, hres⟩ := obv hres
    refine q_callVv 42 (st := []) (As := [.int x5]) hX (cX12_types9 hX.dj hk5) cv_RX12_165 ci12 oB_55 rfl (by decide) rfl (Nat.le_of_ble_eq_true rfl) dX12_feed_39 rfl ?_
    refine q_aload_n 43 hX 0 dX12_feed_42 rfl rfl rfl ?_
    refine q_getI 46 hX ci12 lf_RX12_162 fI_55_11 dX12_feed_43 rfl ?_
    exact q_iret hX (eqi hq hres) dX12_feed_46
  · have hres := it_f hc hres
    refine q_iconst 14 hX dX12_feed_13 rfl kI_m1 ?_
    exact q_iret hX (eqi hq hres) dX12_feed_14
theorem cX12_feed9 {l : Launch} {w : WD} (hj : Dj w 55 40) {rr : Int32 × St} {S : St} {x1 : Int32} {x2 : Int32} {x3 : Int32} {x4 : Int32} {x5 : Int32} (hres : fX12_feed S x1 x2 x3 x4 x5 = some rr) : Ct l yX12_feed cX12_feed 6 (some .int) 1 w 55 40 [.ref (w.1 55), .int x1, .int x2, .int x3, .int x4, .int x5] S (some (.int rr.1), rr.2) := by
  refine Ct.of (lv := [(0, .ref (w.1 55)), (1, .int x1), (2, .int x2), (3, .int x3), (4, .int x4), (5, .int x5)]) hj (by decide +kernel) (Nat.le_of_ble_eq_true rfl) rfl ?_
  rintro X rfl rfl hq hX
  exact wfX12_feed hX hq hres
def fX12_octet (S : St) (x1 : Int32) : Option (Int32 × St) :=
  if inb x1 260 = true then some (((S.1 64 (x1.toNatClampNeg)) &&& (255 : Int32)), S) else none
theorem wfX12_octet {X : CX} (hX : Ok RX12 cX12_octet (some .int) 55 40 2 X) {rr : Int32 × St} (hq : rs X = (some (.int rr.1), rr.2)) {S : St} {x1 : Int32} (hres : fX12_octet S x1 = some rr) : Wat 55 40 0 2 X 0 [(0, .ref (ad X 55)), (1, .int x1)] [] S := by
  unfold fX12_octet at hres
  refine q_aload_n 1 hX 0 dX12_octet_0 rfl rfl rfl ?_
  refine q_getR 4 hX ci12 lf_RX12_34 fR_55_10 dX12_octet_1 rfl ?_
  refine q_iload_n 5 hX 1 dX12_octet_4 rfl rfl rfl ?_
  obtain ⟨hb1, hres⟩ := gd hres
  refine q_bald 6 hX rfl aF_64 hb1 dX12_octet_5 rfl ?_
  refine q_sipush 9 hX dX12_octet_6 rfl kS_255 ?_
  refine q_iand 10 hX dX12_octet_9 rfl ?_
  exact q_iret hX (eqi hq hres) dX12_octet_10
theorem cX12_octet9 {l : Launch} {w : WD} (hj : Dj w 55 40) {rr : Int32 × St} {S : St} {x1 : Int32} (hres : fX12_octet S x1 = some rr) : Ct l yX12_octet cX12_octet 2 (some .int) 0 w 55 40 [.ref (w.1 55), .int x1] S (some (.int rr.1), rr.2) := by
  refine Ct.of (lv := [(0, .ref (w.1 55)), (1, .int x1)]) hj (by decide +kernel) (Nat.le_of_ble_eq_true rfl) rfl ?_
  rintro X rfl rfl hq hX
  exact wfX12_octet hX hq hres
def fX12_here (S : St) : Option (Int32 × St) :=
  if (S.1 55 13) ≤ (S.1 55 12) then (some ((-1 : Int32), S)) else (if inb (S.1 55 12) 260 = true then some (((S.1 64 ((S.1 55 12).toNatClampNeg)) &&& (255 : Int32)), S) else none)
theorem wfX12_here {X : CX} (hX : Ok RX12 cX12_here (some .int) 55 40 1 X) {rr : Int32 × St} (hq : rs X = (some (.int rr.1), rr.2)) {S : St} (hres : fX12_here S = some rr) : Wat 55 40 0 1 X 0 [(0, .ref (ad X 55))] [] S := by
  unfold fX12_here at hres
  refine q_aload_n 1 hX 0 dX12_here_0 rfl rfl rfl ?_
  refine q_getI 4 hX ci12 lf_RX12_169 fI_55_12 dX12_here_1 rfl ?_
  refine q_aload_n 5 hX 0 dX12_here_4 rfl rfl rfl ?_
  refine q_getI 8 hX ci12 lf_RX12_172 fI_55_13 dX12_here_5 rfl ?_
  refine q_icmp_ge 11 hX 27 dX12_here_8 rfl (by decide) (fun hc => ?_) (fun hc => ?_)
  · have hres := it_t hc hres
    refine q_iconst 28 hX dX12_here_27 rfl kI_m1 ?_
    exact q_iret hX (eqi hq hres) dX12_here_28
  · have hres := it_f hc hres
    refine q_aload_n 12 hX 0 dX12_here_11 rfl rfl rfl ?_
    refine q_getR 15 hX ci12 lf_RX12_34 fR_55_10 dX12_here_12 rfl ?_
    refine q_aload_n 16 hX 0 dX12_here_15 rfl rfl rfl ?_
    refine q_getI 19 hX ci12 lf_RX12_169 fI_55_12 dX12_here_16 rfl ?_
    obtain ⟨hb1, hres⟩ := gd hres
    refine q_bald 20 hX rfl aF_64 hb1 dX12_here_19 rfl ?_
    refine q_sipush 23 hX dX12_here_20 rfl kS_255 ?_
    refine q_iand 24 hX dX12_here_23 rfl ?_
    refine q_goto 28 hX dX12_here_24 (by decide) ?_
    exact q_iret hX (eqi hq hres) dX12_here_28
theorem cX12_here9 {l : Launch} {w : WD} (hj : Dj w 55 40) {rr : Int32 × St} {S : St} (hres : fX12_here S = some rr) : Ct l yX12_here cX12_here 1 (some .int) 0 w 55 40 [.ref (w.1 55)] S (some (.int rr.1), rr.2) := by
  refine Ct.of (lv := [(0, .ref (w.1 55))]) hj (by decide +kernel) (Nat.le_of_ble_eq_true rfl) rfl ?_
  rintro X rfl rfl hq hX
  exact wfX12_here hX hq hres
def fX12_isDigit_22 (S : St) : Option (Int32 × St) :=
  some ((0 : Int32), S)
theorem wfX12_isDigit_22 {X : CX} (hX : Ok RX12 cX12_isDigit (some .boolean) 55 40 1 X) {rr : Int32 × St} (hq : rs X = (some (.int rr.1), rr.2)) {S : St} (hres : fX12_isDigit_22 S = some rr) : Wat 55 40 1 1 X 22 [] [] S := by
  unfold fX12_isDigit_22 at hres
  refine q_iconst 23 hX dX12_isDigit_22 rfl kI_0 ?_
  exact q_zret hX (by decide) (eqi hq hres) dX12_isDigit_23
def fX12_isDigit (S : St) : Option (Int32 × St) :=
  bi (fX12_here S) fun r2 S1 => if r2 < (48 : Int32) then (fX12_isDigit_22 S1) else (bi (fX12_here S1) fun r4 S2 => if (57 : Int32) < r4 then (fX12_isDigit_22 S2) else (some ((1 : Int32), S2)))
theorem wfX12_isDigit {X : CX} (hX : Ok RX12 cX12_isDigit (some .boolean) 55 40 1 X) {rr : Int32 × St} (hq : rs X = (some (.int rr.1), rr.2)) {S : St} (hres : fX12_isDigit S = some rr) : Wat 55 40 1 1 X 0 [(0, .ref (ad X 55))] [] S := by
  unfold fX12_isDigit at hres
  refine q_aload_n 1 hX 0 dX12_isDigit_0 rfl rfl rfl ?_
  obtain ⟨r2, S1, hk1, hres⟩ := ob hres
  refine q_callVi 4 (st := []) (As := []) hX (cX12_here9 hX.dj hk1) cv_RX12_175 ci12 oB_55 rfl (by decide) rfl (Nat.le_of_ble_eq_true rfl) dX12_isDigit_1 rfl ?_
  refine q_bipush 6 hX dX12_isDigit_4 rfl kB_48 ?_
  refine q_icmp_lt 9 hX 22 dX12_isDigit_6 rfl (by decide) (fun hc => ?_) (fun hc => ?_)
  · have hres := it_t hc hres
    exact q_sub [] rfl (wfX12_isDigit_22 hX hq hres)
  · have hres := it_f hc hres
    refine q_aload_n 10 hX 0 dX12_isDigit_9 rfl rfl rfl ?_
    obtain ⟨r4, S2, hk3, hres⟩ := ob hres
    refine q_callVi 13 (st := []) (As := []) hX (cX12_here9 hX.dj hk3) cv_RX12_175 ci12 oB_55 rfl (by decide) rfl (Nat.le_of_ble_eq_true rfl) dX12_isDigit_10 rfl ?_
    refine q_bipush 15 hX dX12_isDigit_13 rfl kB_57 ?_
    refine q_icmp_gt 18 hX 22 dX12_isDigit_15 rfl (by decide) (fun hc => ?_) (fun hc => ?_)
    · have hres := it_t hc hres
      exact q_sub [] rfl (wfX12_isDigit_22 hX hq hres)
    · have hres := it_f hc hres
      refine q_iconst 19 hX dX12_isDigit_18 rfl kI_1 ?_
      refine q_goto 23 hX dX12_isDigit_19 (by decide) ?_
      exact q_zret hX (by decide) (eqi hq hres) dX12_isDigit_23
theorem cX12_isDigit9 {l : Launch} {w : WD} (hj : Dj w 55 40) {rr : Int32 × St} {S : St} (hres : fX12_isDigit S = some rr) : Ct l yX12_isDigit cX12_isDigit 1 (some .boolean) 1 w 55 40 [.ref (w.1 55)] S (some (.int rr.1), rr.2) := by
  refine Ct.of (lv := [(0, .ref (w.1 55))]) hj (by decide +kernel) (Nat.le_of_ble_eq_true rfl) rfl ?_
  rintro X rfl rfl hq hX
  exact wfX12_isDigit hX hq hres
def fX12_wrongAt (S : St) (x1 : Int32) (x2 : Int32) : Option (Int32 × St) :=
  bS (pI S 55 14 (((-1000 : Int32) * x1) - x2)) fun S1 => some ((0 : Int32), S1)
theorem wfX12_wrongAt {X : CX} (hX : Ok RX12 cX12_wrongAt (some .boolean) 55 40 3 X) {rr : Int32 × St} (hq : rs X = (some (.int rr.1), rr.2)) {S : St} {x1 : Int32} {x2 : Int32} (hres : fX12_wrongAt S x1 x2 = some rr) : Wat 55 40 0 3 X 0 [(0, .ref (ad X 55)), (1, .int x1), (2, .int x2)] [] S := by
  unfold fX12_wrongAt at hres
  refine q_aload_n 1 hX 0 dX12_wrongAt_0 rfl rfl rfl ?_
  refine q_sipush 4 hX dX12_wrongAt_1 rfl kS_m1000 ?_
  refine q_iload_n 5 hX 1 dX12_wrongAt_4 rfl rfl rfl ?_
  refine q_imul 6 hX dX12_wrongAt_5 rfl ?_
  refine q_iload_n 7 hX 2 dX12_wrongAt_6 rfl rfl rfl ?_
  refine q_isub 8 hX dX12_wrongAt_7 rfl ?_
  refine q_putI 11 hX ci12 lf_RX12_179 fI_55_14 (nar_i rfl) dX12_wrongAt_8 rfl ?_
  refine q_bS hres (fun S1 _ hres => ?_)
  refine q_iconst 12 hX dX12_wrongAt_11 rfl kI_0 ?_
  exact q_zret hX (by decide) (eqi hq hres) dX12_wrongAt_12
theorem cX12_wrongAt9 {l : Launch} {w : WD} (hj : Dj w 55 40) {rr : Int32 × St} {S : St} {x1 : Int32} {x2 : Int32} (hres : fX12_wrongAt S x1 x2 = some rr) : Ct l yX12_wrongAt cX12_wrongAt 3 (some .boolean) 0 w 55 40 [.ref (w.1 55), .int x1, .int x2] S (some (.int rr.1), rr.2) := by
  refine Ct.of (lv := [(0, .ref (w.1 55)), (1, .int x1), (2, .int x2)]) hj (by decide +kernel) (Nat.le_of_ble_eq_true rfl) rfl ?_
  rintro X rfl rfl hq hX
  exact wfX12_wrongAt hX hq hres
def fX12_takes (S : St) (x1 : Int32) : Option (Int32 × St) :=
  bi (fX12_here S) fun r2 S1 => if r2 = x1 then (bS (pI S1 55 12 ((S1.1 55 12) + (1 : Int32))) fun S2 => some ((1 : Int32), S2)) else (bi (fX12_wrongAt S1 (1 : Int32) (S1.1 55 12)) fun r4 S3 => if r4 = 0 ∨ r4 = 1 then some (r4, S3) else none)
theorem wfX12_takes {X : CX} (hX : Ok RX12 cX12_takes (some .boolean) 55 40 2 X) {rr : Int32 × St} (hq : rs X = (some (.int rr.1), rr.2)) {S : St} {x1 : Int32} (hres : fX12_takes S x1 = some rr) : Wat 55 40 1 2 X 0 [(0, .ref (ad X 55)), (1, .int x1)] [] S := by
  unfold fX12_takes at hres
  refine q_aload_n 1 hX 0 dX12_takes_0 rfl rfl rfl ?_
  obtain ⟨r2, S1, hk1, hres⟩ := ob hres
  refine q_callVi 4 (st := []) (As := []) hX (cX12_here9 hX.dj hk1) cv_RX12_175 ci12 oB_55 rfl (by decide) rfl (Nat.le_of_ble_eq_true rfl) dX12_takes_1 rfl ?_
  refine q_iload_n 5 hX 1 dX12_takes_4 rfl rfl rfl ?_
  refine q_icmp_eq 8 hX 18 dX12_takes_5 rfl (by decide) (fun hc => ?_) (fun hc => ?_)
  · have hres := it_t hc hres
    refine q_aload_n 19 hX 0 dX12_takes_18 rfl rfl rfl ?_
    refine q_aload_n 20 hX 0 dX12_takes_19 rfl rfl rfl ?_
    refine q_getI 23 hX ci12 lf_RX12_169 fI_55_12 dX12_takes_20 rfl ?_
    refine q_iconst 24 hX dX12_takes_23 rfl kI_1 ?_
    refine q_iadd 25 hX dX12_takes_24 rfl ?_
    refine q_putI 28 hX ci12 lf_RX12_169 fI_55_12 (nar_i rfl) dX12_takes_25 rfl ?_
    refine q_bS hres (fun S2 _ hres => ?_)
    refine q_iconst 29 hX dX12_takes_28 rfl kI_1 ?_
    exact q_zret hX (by decide) (eqi hq hres) dX12_takes_29
  · have hres := it_f hc hres
    refine q_aload_n 9 hX 0 dX12_takes_8 rfl rfl rfl ?_
    refine q_iconst 10 hX dX12_takes_9 rfl kI_1 ?_
    refine q_aload_n 11 hX 0 dX12_takes_10 rfl rfl rfl ?_
    refine q_getI 14 hX ci12 lf_RX12_169 fI_55_12 dX12_takes_11 rfl ?_
    obtain ⟨r4, S3, hk3, hres⟩ := ob hres
    refine q_callVi 17 (st := []) (As := [.int (1 : Int32), .int (S1.1 55 12)]) hX (cX12_wrongAt9 hX.dj hk3) cv_RX12_182 ci12 oB_55 rfl (by decide) rfl (Nat.le_of_ble_eq_true rfl) dX12_takes_14 rfl ?_
    obtain ⟨hz5, hres⟩ := gd hres
    exact q_zret hX hz5 (eqi hq hres) dX12_takes_17
theorem cX12_takes9 {l : Launch} {w : WD} (hj : Dj w 55 40) {rr : Int32 × St} {S : St} {x1 : Int32} (hres : fX12_takes S x1 = some rr) : Ct l yX12_takes cX12_takes 2 (some .boolean) 1 w 55 40 [.ref (w.1 55), .int x1] S (some (.int rr.1), rr.2) := by
  refine Ct.of (lv := [(0, .ref (w.1 55)), (1, .int x1)]) hj (by decide +kernel) (Nat.le_of_ble_eq_true rfl) rfl ?_
  rintro X rfl rfl hq hX
  exact wfX12_takes hX hq hres
def bX12_readsNumber_10 (rc10 : St → Int32 → Option (Int32 × St)) (S : St) (x1 : Int32) : Option (Int32 × St) :=
  bi (fX12_isDigit S) fun r2 S1 => if r2 = 0 then (some ((1 : Int32), S1)) else (if (S1.1 55 12) = (x1 + (5 : Int32)) then (bi (fX12_wrongAt S1 (2 : Int32) (S1.1 55 12)) fun r6 S5 => if r6 = 0 ∨ r6 = 1 then some (r6, S5) else none) else (bi (fX12_here S1) fun r4 S2 => bS (pI S2 55 15 ((((10 : Int32) * (S1.1 55 15)) + r4) - (48 : Int32))) fun S3 => bS (pI S3 55 12 ((S3.1 55 12) + (1 : Int32))) fun S4 => rc10 S4 x1))
theorem wbX12_readsNumber_10 {X : CX} (hX : Ok RX12 cX12_readsNumber (some .boolean) 55 40 2 X) {rr : Int32 × St} (hq : rs X = (some (.int rr.1), rr.2)) {rc10 : St → Int32 → Option (Int32 × St)} (hrc10 : ∀ (S : St) (x1 : Int32), rc10 S x1 = some rr → Wat 55 40 2 2 X 10 [(0, .ref (ad X 55)), (1, .int x1)] [] S) {S : St} {x1 : Int32} (hres : bX12_readsNumber_10 rc10 S x1 = some rr) : Wat 55 40 2 2 X 10 [(0, .ref (ad X 55)), (1, .int x1)] [] S := by
  unfold bX12_readsNumber_10 at hres
  refine q_aload_n 11 hX 0 dX12_readsNumber_10 rfl rfl rfl ?_
  obtain ⟨r2, S1, hk1, hres⟩ := ob hres
  refine q_callVi 14 (st := []) (As := []) hX (cX12_isDigit9 hX.dj hk1) cv_RX12_188 ci12 oB_55 rfl (by decide) rfl (Nat.le_of_ble_eq_true rfl) dX12_readsNumber_11 rfl ?_
  refine q_if_eq 17 hX 69 dX12_readsNumber_14 rfl (by decide) (fun hc => ?_) (fun hc => ?_)
  · have hres := it_t hc hres
    refine q_iconst 70 hX dX12_readsNumber_69 rfl kI_1 ?_
    exact q_zret hX (by decide) (eqi hq hres) dX12_readsNumber_70
  · have hres := it_f hc hres
    refine q_aload_n 18 hX 0 dX12_readsNumber_17 rfl rfl rfl ?_
    refine q_getI 21 hX ci12 lf_RX12_169 fI_55_12 dX12_readsNumber_18 rfl ?_
    refine q_iload_n 22 hX 1 dX12_readsNumber_21 rfl rfl rfl ?_
    refine q_iconst 23 hX dX12_readsNumber_22 rfl kI_5 ?_
    refine q_iadd 24 hX dX12_readsNumber_23 rfl ?_
    refine q_icmp_ne 27 hX 37 dX12_readsNumber_24 rfl (by decide) (fun hc => ?_) (fun hc => ?_)
    · have hres := it_f hc hres
      refine q_aload_n 38 hX 0 dX12_readsNumber_37 rfl rfl rfl ?_
      refine q_bipush 40 hX dX12_readsNumber_38 rfl kB_10 ?_
      refine q_aload_n 41 hX 0 dX12_readsNumber_40 rfl rfl rfl ?_
      refine q_getI 44 hX ci12 lf_RX12_185 fI_55_15 dX12_readsNumber_41 rfl ?_
      refine q_imul 45 hX dX12_readsNumber_44 rfl ?_
      refine q_aload_n 46 hX 0 dX12_readsNumber_45 rfl rfl rfl ?_
      obtain ⟨r4, S2, hk3, hres⟩ := ob hres
      refine q_callVi 49 (st := [.int ((10 : Int32) * (S1.1 55 15)), .ref (ad X 55)]) (As := []) hX (cX12_here9 hX.dj hk3) cv_RX12_175 ci12 oB_55 rfl (by decide) rfl (Nat.le_of_ble_eq_true rfl) dX12_readsNumber_46 rfl ?_
      refine q_iadd 50 hX dX12_readsNumber_49 rfl ?_
      refine q_bipush 52 hX dX12_readsNumber_50 rfl kB_48 ?_
      refine q_isub 53 hX dX12_readsNumber_52 rfl ?_
      refine q_putI 56 hX ci12 lf_RX12_185 fI_55_15 (nar_i rfl) dX12_readsNumber_53 rfl ?_
      refine q_bS hres (fun S3 _ hres => ?_)
      refine q_aload_n 57 hX 0 dX12_readsNumber_56 rfl rfl rfl ?_
      refine q_aload_n 58 hX 0 dX12_readsNumber_57 rfl rfl rfl ?_
      refine q_getI 61 hX ci12 lf_RX12_169 fI_55_12 dX12_readsNumber_58 rfl ?_
      refine q_iconst 62 hX dX12_readsNumber_61 rfl kI_1 ?_
      refine q_iadd 63 hX dX12_readsNumber_62 rfl ?_
      refine q_putI 66 hX ci12 lf_RX12_169 fI_55_12 (nar_i rfl) dX12_readsNumber_63 rfl ?_
      refine q_bS hres (fun S4 _ hres => ?_)
      refine q_goto 10 hX dX12_readsNumber_66 (by decide) ?_
      exact q_sub [0, 1] rfl (hrc10 _ _ hres)
    · have hres := it_t hc hres
      refine q_aload_n 28 hX 0 dX12_readsNumber_27 rfl rfl rfl ?_
      refine q_iconst 29 hX dX12_readsNumber_28 rfl kI_2 ?_
      refine q_aload_n 30 hX 0 dX12_readsNumber_29 rfl rfl rfl ?_
      refine q_getI 33 hX ci12 lf_RX12_169 fI_55_12 dX12_readsNumber_30 rfl ?_
      obtain ⟨r6, S5, hk5, hres⟩ := ob hres
      refine q_callVi 36 (st := []) (As := [.int (2 : Int32), .int (S1.1 55 12)]) hX (cX12_wrongAt9 hX.dj hk5) cv_RX12_182 ci12 oB_55 rfl (by decide) rfl (Nat.le_of_ble_eq_true rfl) dX12_readsNumber_33 rfl ?_
      obtain ⟨hz7, hres⟩ := gd hres
      exact q_zret hX hz7 (eqi hq hres) dX12_readsNumber_36
def fX12_readsNumber_10 : Nat → St → Int32 → Option (Int32 × St)
  | 0 => fun _ _ => none
  | k + 1 => fun S x1 => bX12_readsNumber_10 (fX12_readsNumber_10 k) S x1
theorem wfX12_readsNumber_10 {X : CX} (hX : Ok RX12 cX12_readsNumber (some .boolean) 55 40 2 X) {rr : Int32 × St} (hq : rs X = (some (.int rr.1), rr.2)) (k : Nat) : ∀ (S : St) (x1 : Int32), fX12_readsNumber_10 k S x1 = some rr → Wat 55 40 2 2 X 10 [(0, .ref (ad X 55)), (1, .int x1)] [] S := by
  induction k with
  | zero => intro S x1 hres; exact absurd hres (by simp [fX12_readsNumber_10])
  | succ k ih => intro S x1 hres; exact wbX12_readsNumber_10 hX hq ih hres
def fX12_readsNumber (S : St) : Option (Int32 × St) :=
  bV ((S.1 55 12)) fun v1 => bS (pI S 55 15 (0 : Int32)) fun S1 => fX12_readsNumber_10 100 S1 v1
theorem wfX12_readsNumber {X : CX} (hX : Ok RX12 cX12_readsNumber (some .boolean) 55 40 2 X) {rr : Int32 × St} (hq : rs X = (some (.int rr.1), rr.2)) {S : St} (hres : fX12_readsNumber S = some rr) : Wat 55 40 2 2 X 0 [(0, .ref (ad X 55))] [] S := by
  unfold fX12_readsNumber at hres
  refine q_aload_n 1 hX 0 dX12_readsNumber_0 rfl rfl rfl ?_
  refine q_getI 4 hX ci12 lf_RX12_169 fI_55_12 dX12_readsNumber_1 rfl ?_
  refine q_istoreB_n 5 (lv0 := [(0, .ref (ad X 55))]) hX dX12_readsNumber_4 rfl rfl (by decide) rfl hres (fun v1 hres => ?_)
  refine q_aload_n 6 hX 1 dX12_readsNumber_5 rfl rfl rfl ?_
  refine q_iconst 7 hX dX12_readsNumber_6 rfl kI_0 ?_
  refine q_putI 10 hX ci12 lf_RX12_185 fI_55_15 (nar_i rfl) dX12_readsNumber_7 rfl ?_
  refine q_bS hres (fun S1 _ hres => ?_)
  exact q_sub [1, 0] rfl (wfX12_readsNumber_10 hX hq _ _ _ hres)
theorem cX12_readsNumber9 {l : Launch} {w : WD} (hj : Dj w 55 40) {rr : Int32 × St} {S : St} (hres : fX12_readsNumber S = some rr) : Ct l yX12_readsNumber cX12_readsNumber 2 (some .boolean) 2 w 55 40 [.ref (w.1 55)] S (some (.int rr.1), rr.2) := by
  refine Ct.of (lv := [(0, .ref (w.1 55))]) hj (by decide +kernel) (Nat.le_of_ble_eq_true rfl) rfl ?_
  rintro X rfl rfl hq hX
  exact wfX12_readsNumber hX hq hres
def fX12_notes (S : St) (x1 : Int32) (x2 : Int32) : Option (St) :=
  if inb (S.1 55 17) 260 = true then bS (pI S 65 ((S.1 55 17).toNatClampNeg) (((1048576 : Int32) * x1) + x2)) fun S1 => bS (pI S1 55 17 ((S1.1 55 17) + (1 : Int32))) fun S2 => some S2 else none
theorem wfX12_notes {X : CX} (hX : Ok RX12 cX12_notes none 55 40 3 X) {rr : St} (hq : rs X = (none, rr)) {S : St} {x1 : Int32} {x2 : Int32} (hres : fX12_notes S x1 x2 = some rr) : Wat 55 40 0 3 X 0 [(0, .ref (ad X 55)), (1, .int x1), (2, .int x2)] [] S := by
  unfold fX12_notes at hres
  refine q_aload_n 1 hX 0 dX12_notes_0 rfl rfl rfl ?_
  refine q_getR 4 hX ci12 lf_RX12_38 fR_55_21 dX12_notes_1 rfl ?_
  refine q_aload_n 5 hX 0 dX12_notes_4 rfl rfl rfl ?_
  refine q_getI 8 hX ci12 lf_RX12_192 fI_55_17 dX12_notes_5 rfl ?_
  refine q_ldc 10 hX dX12_notes_8 rfl gw748 ?_
  refine q_iload_n 11 hX 1 dX12_notes_10 rfl rfl rfl ?_
  refine q_imul 12 hX dX12_notes_11 rfl ?_
  refine q_iload_n 13 hX 2 dX12_notes_12 rfl rfl rfl ?_
  refine q_iadd 14 hX dX12_notes_13 rfl ?_
  obtain ⟨hb1, hres⟩ := gd hres
  refine q_iast 15 hX rfl aF_65 hb1 dX12_notes_14 rfl ?_
  refine q_bS hres (fun S1 _ hres => ?_)
  refine q_aload_n 16 hX 0 dX12_notes_15 rfl rfl rfl ?_
  refine q_aload_n 17 hX 0 dX12_notes_16 rfl rfl rfl ?_
  refine q_getI 20 hX ci12 lf_RX12_192 fI_55_17 dX12_notes_17 rfl ?_
  refine q_iconst 21 hX dX12_notes_20 rfl kI_1 ?_
  refine q_iadd 22 hX dX12_notes_21 rfl ?_
  refine q_putI 25 hX ci12 lf_RX12_192 fI_55_17 (nar_i rfl) dX12_notes_22 rfl ?_
  refine q_bS hres (fun S2 _ hres => ?_)
  exact q_vret hX (eqv hq hres) dX12_notes_25
theorem cX12_notes9 {l : Launch} {w : WD} (hj : Dj w 55 40) {rr : St} {S : St} {x1 : Int32} {x2 : Int32} (hres : fX12_notes S x1 x2 = some rr) : Ct l yX12_notes cX12_notes 3 none 0 w 55 40 [.ref (w.1 55), .int x1, .int x2] S (none, rr) := by
  refine Ct.of (lv := [(0, .ref (w.1 55)), (1, .int x1), (2, .int x2)]) hj (by decide +kernel) (Nat.le_of_ble_eq_true rfl) rfl ?_
  rintro X rfl rfl hq hX
  exact wfX12_notes hX hq hres
def fX12_opens (S : St) (x1 : Int32) : Option (Int32 × St) :=
  if (S.1 55 16) = (6 : Int32) then (bi (fX12_wrongAt S (5 : Int32) (S.1 55 12)) fun r3 S5 => if r3 = 0 ∨ r3 = 1 then some (r3, S5) else none) else (bS (pI S 55 16 ((S.1 55 16) + (1 : Int32))) fun S1 => if inb (S1.1 55 18) 260 = true then bS (pI S1 66 ((S1.1 55 18).toNatClampNeg) ((1048576 : Int32) * x1)) fun S2 => bS (pI S2 55 18 ((S2.1 55 18) + (1 : Int32))) fun S3 => bS (pI S3 55 12 ((S3.1 55 12) + (1 : Int32))) fun S4 => some ((1 : Int32), S4) else none)
theorem wfX12_opens {X : CX} (hX : Ok RX12 cX12_opens (some .boolean) 55 40 2 X) {rr : Int32 × St} (hq : rs X = (some (.int rr.1), rr.2)) {S : St} {x1 : Int32} (hres : fX12_opens S x1 = some rr) : Wat 55 40 1 2 X 0 [(0, .ref (ad X 55)), (1, .int x1)] [] S := by
  unfold fX12_opens at hres
  refine q_aload_n 1 hX 0 dX12_opens_0 rfl rfl rfl ?_
  refine q_getI 4 hX ci12 lf_RX12_196 fI_55_16 dX12_opens_1 rfl ?_
  refine q_bipush 6 hX dX12_opens_4 rfl kB_6 ?_
  refine q_icmp_ne 9 hX 19 dX12_opens_6 rfl (by decide) (fun hc => ?_) (fun hc => ?_)
  · have hres := it_f hc hres
    refine q_aload_n 20 hX 0 dX12_opens_19 rfl rfl rfl ?_
    refine q_aload_n 21 hX 0 dX12_opens_20 rfl rfl rfl ?_
    refine q_getI 24 hX ci12 lf_RX12_196 fI_55_16 dX12_opens_21 rfl ?_
    refine q_iconst 25 hX dX12_opens_24 rfl kI_1 ?_
    refine q_iadd 26 hX dX12_opens_25 rfl ?_
    refine q_putI 29 hX ci12 lf_RX12_196 fI_55_16 (nar_i rfl) dX12_opens_26 rfl ?_
    refine q_bS hres (fun S1 _ hres => ?_)
    refine q_aload_n 30 hX 0 dX12_opens_29 rfl rfl rfl ?_
    refine q_getR 33 hX ci12 lf_RX12_41 fR_55_22 dX12_opens_30 rfl ?_
    refine q_aload_n 34 hX 0 dX12_opens_33 rfl rfl rfl ?_
    refine q_getI 37 hX ci12 lf_RX12_199 fI_55_18 dX12_opens_34 rfl ?_
    refine q_ldc 39 hX dX12_opens_37 rfl gw748 ?_
    refine q_iload_n 40 hX 1 dX12_opens_39 rfl rfl rfl ?_
    refine q_imul 41 hX dX12_opens_40 rfl ?_
    obtain ⟨hb1, hres⟩ := gd hres
    refine q_iast 42 hX rfl aF_66 hb1 dX12_opens_41 rfl ?_
    refine q_bS hres (fun S2 _ hres => ?_)
    refine q_aload_n 43 hX 0 dX12_opens_42 rfl rfl rfl ?_
    refine q_aload_n 44 hX 0 dX12_opens_43 rfl rfl rfl ?_
    refine q_getI 47 hX ci12 lf_RX12_199 fI_55_18 dX12_opens_44 rfl ?_
    refine q_iconst 48 hX dX12_opens_47 rfl kI_1 ?_
    refine q_iadd 49 hX dX12_opens_48 rfl ?_
    refine q_putI 52 hX ci12 lf_RX12_199 fI_55_18 (nar_i rfl) dX12_opens_49 rfl ?_
    refine q_bS hres (fun S3 _ hres => ?_)
    refine q_aload_n 53 hX 0 dX12_opens_52 rfl rfl rfl ?_
    refine q_aload_n 54 hX 0 dX12_opens_53 rfl rfl rfl ?_
    refine q_getI 57 hX ci12 lf_RX12_169 fI_55_12 dX12_opens_54 rfl ?_
    refine q_iconst 58 hX dX12_opens_57 rfl kI_1 ?_
    refine q_iadd 59 hX dX12_opens_58 rfl ?_
    refine q_putI 62 hX ci12 lf_RX12_169 fI_55_12 (nar_i rfl) dX12_opens_59 rfl ?_
    refine q_bS hres (fun S4 _ hres => ?_)
    refine q_iconst 63 hX dX12_opens_62 rfl kI_1 ?_
    exact q_zret hX (by decide) (eqi hq hres) dX12_opens_63
  · have hres := it_t hc hres
    refine q_aload_n 10 hX 0 dX12_opens_9 rfl rfl rfl ?_
    refine q_iconst 11 hX dX12_opens_10 rfl kI_5 ?_
    refine q_aload_n 12 hX 0 dX12_opens_11 rfl rfl rfl ?_
    refine q_getI 15 hX ci12 lf_RX12_169 fI_55_12 dX12_opens_12 rfl ?_
    obtain ⟨r3, S5, hk2, hres⟩ := ob hres
    refine q_callVi 18 (st := []) (As := [.int (5 : Int32), .int (S.1 55 12)]) hX (cX12_wrongAt9 hX.dj hk2) cv_RX12_182 ci12 oB_55 rfl (by decide) rfl (Nat.le_of_ble_eq_true rfl) dX12_opens_15 rfl ?_
    obtain ⟨hz4, hres⟩ := gd hres
    exact q_zret hX hz4 (eqi hq hres) dX12_opens_18
theorem cX12_opens9 {l : Launch} {w : WD} (hj : Dj w 55 40) {rr : Int32 × St} {S : St} {x1 : Int32} (hres : fX12_opens S x1 = some rr) : Ct l yX12_opens cX12_opens 2 (some .boolean) 1 w 55 40 [.ref (w.1 55), .int x1] S (some (.int rr.1), rr.2) := by
  refine Ct.of (lv := [(0, .ref (w.1 55)), (1, .int x1)]) hj (by decide +kernel) (Nat.le_of_ble_eq_true rfl) rfl ?_
  rintro X rfl rfl hq hX
  exact wfX12_opens hX hq hres
def fX12_waitTop (S : St) : Option (Int32 × St) :=
  if (S.1 55 18) = 0 then (some ((-1 : Int32), S)) else (if inb ((S.1 55 18) - (1 : Int32)) 260 = true then some (((S.1 66 (((S.1 55 18) - (1 : Int32)).toNatClampNeg)) / (1048576 : Int32)), S) else none)
theorem wfX12_waitTop {X : CX} (hX : Ok RX12 cX12_waitTop (some .int) 55 40 1 X) {rr : Int32 × St} (hq : rs X = (some (.int rr.1), rr.2)) {S : St} (hres : fX12_waitTop S = some rr) : Wat 55 40 0 1 X 0 [(0, .ref (ad X 55))] [] S := by
  unfold fX12_waitTop at hres
  refine q_aload_n 1 hX 0 dX12_waitTop_0 rfl rfl rfl ?_
  refine q_getI 4 hX ci12 lf_RX12_199 fI_55_18 dX12_waitTop_1 rfl ?_
  refine q_if_ne 7 hX 11 dX12_waitTop_4 rfl (by decide) (fun hc => ?_) (fun hc => ?_)
  · have hres := it_f hc hres
    refine q_aload_n 12 hX 0 dX12_waitTop_11 rfl rfl rfl ?_
    refine q_getR 15 hX ci12 lf_RX12_41 fR_55_22 dX12_waitTop_12 rfl ?_
    refine q_aload_n 16 hX 0 dX12_waitTop_15 rfl rfl rfl ?_
    refine q_getI 19 hX ci12 lf_RX12_199 fI_55_18 dX12_waitTop_16 rfl ?_
    refine q_iconst 20 hX dX12_waitTop_19 rfl kI_1 ?_
    refine q_isub 21 hX dX12_waitTop_20 rfl ?_
    obtain ⟨hb1, hres⟩ := gd hres
    refine q_iald 22 hX rfl aF_66 hb1 dX12_waitTop_21 rfl ?_
    refine q_ldc 24 hX dX12_waitTop_22 rfl gw748 ?_
    refine q_idiv 25 hX dX12_waitTop_24 rfl (by decide) ?_
    exact q_iret hX (eqi hq hres) dX12_waitTop_25
  · have hres := it_t hc hres
    refine q_iconst 8 hX dX12_waitTop_7 rfl kI_m1 ?_
    refine q_goto 25 hX dX12_waitTop_8 (by decide) ?_
    exact q_iret hX (eqi hq hres) dX12_waitTop_25
theorem cX12_waitTop9 {l : Launch} {w : WD} (hj : Dj w 55 40) {rr : Int32 × St} {S : St} (hres : fX12_waitTop S = some rr) : Ct l yX12_waitTop cX12_waitTop 1 (some .int) 0 w 55 40 [.ref (w.1 55)] S (some (.int rr.1), rr.2) := by
  refine Ct.of (lv := [(0, .ref (w.1 55))]) hj (by decide +kernel) (Nat.le_of_ble_eq_true rfl) rfl ?_
  rintro X rfl rfl hq hX
  exact wfX12_waitTop hX hq hres
def fX12_factOf (S : St) (x0 : Int32) : Option (Int32 × St) :=
  if x0 = (98 : Int32) then (some ((5 : Int32), S)) else (if x0 = (99 : Int32) then (some ((-1 : Int32), S)) else (if x0 = (100 : Int32) then (some ((3 : Int32), S)) else (if x0 = (101 : Int32) then (some ((-1 : Int32), S)) else (if x0 = (102 : Int32) then (some ((-1 : Int32), S)) else (if x0 = (103 : Int32) then (some ((1 : Int32), S)) else (if x0 = (104 : Int32) then (some ((0 : Int32), S)) else (if x0 = (105 : Int32) then (some ((-1 : Int32), S)) else (if x0 = (106 : Int32) then (some ((-1 : Int32), S)) else (if x0 = (107 : Int32) then (some ((6 : Int32), S)) else (if x0 = (108 : Int32) then (some ((-1 : Int32), S)) else (if x0 = (109 : Int32) then (some ((-1 : Int32), S)) else (if x0 = (110 : Int32) then (some ((4 : Int32), S)) else (if x0 = (111 : Int32) then (some ((-1 : Int32), S)) else (if x0 = (112 : Int32) then (some ((-1 : Int32), S)) else (if x0 = (113 : Int32) then (some ((-1 : Int32), S)) else (if x0 = (114 : Int32) then (some ((-1 : Int32), S)) else (if x0 = (115 : Int32) then (some ((2 : Int32), S)) else (if x0 = (116 : Int32) then (some ((7 : Int32), S)) else (if x0 = (117 : Int32) then (some ((-1 : Int32), S)) else (if x0 = (118 : Int32) then (some ((-1 : Int32), S)) else (if x0 = (119 : Int32) then (some ((8 : Int32), S)) else (some ((-1 : Int32), S)))))))))))))))))))))))
theorem wfX12_factOf {X : CX} (hX : Ok RX12 cX12_factOf (some .int) 55 40 1 X) {rr : Int32 × St} (hq : rs X = (some (.int rr.1), rr.2)) {S : St} {x0 : Int32} (hres : fX12_factOf S x0 = some rr) : Wat 55 40 0 1 X 0 [(0, .int x0)] [] S := by
  unfold fX12_factOf at hres
  refine q_iload_n 1 hX 0 dX12_factOf_0 rfl rfl rfl ?_
  by_cases hc98 : x0 = (98 : Int32)
  · have hres := it_t hc98 hres
    refine q_tabIn 114 hX dX12_factOf_1 (by rw [hc98]; decide) (by rw [hc98]; decide) (by rw [hc98]; rfl) (by decide) ?_
    refine q_iconst 115 hX dX12_factOf_114 rfl kI_5 ?_
    exact q_iret hX (eqi hq hres) dX12_factOf_115
  have hres := it_f hc98 hres
  have hn98 := ne_ti (k := 98) hc98 (by decide)
  by_cases hc99 : x0 = (99 : Int32)
  · have hres := it_t hc99 hres
    refine q_tabIn 125 hX dX12_factOf_1 (by rw [hc99]; decide) (by rw [hc99]; decide) (by rw [hc99]; rfl) (by decide) ?_
    refine q_iconst 126 hX dX12_factOf_125 rfl kI_m1 ?_
    exact q_iret hX (eqi hq hres) dX12_factOf_126
  have hres := it_f hc99 hres
  have hn99 := ne_ti (k := 99) hc99 (by decide)
  by_cases hc100 : x0 = (100 : Int32)
  · have hres := it_t hc100 hres
    refine q_tabIn 110 hX dX12_factOf_1 (by rw [hc100]; decide) (by rw [hc100]; decide) (by rw [hc100]; rfl) (by decide) ?_
    refine q_iconst 111 hX dX12_factOf_110 rfl kI_3 ?_
    exact q_iret hX (eqi hq hres) dX12_factOf_111
  have hres := it_f hc100 hres
  have hn100 := ne_ti (k := 100) hc100 (by decide)
  by_cases hc101 : x0 = (101 : Int32)
  · have hres := it_t hc101 hres
    refine q_tabIn 125 hX dX12_factOf_1 (by rw [hc101]; decide) (by rw [hc101]; decide) (by rw [hc101]; rfl) (by decide) ?_
    refine q_iconst 126 hX dX12_factOf_125 rfl kI_m1 ?_
    exact q_iret hX (eqi hq hres) dX12_factOf_126
  have hres := it_f hc101 hres
  have hn101 := ne_ti (k := 101) hc101 (by decide)
  by_cases hc102 : x0 = (102 : Int32)
  · have hres := it_t hc102 hres
    refine q_tabIn 125 hX dX12_factOf_1 (by rw [hc102]; decide) (by rw [hc102]; decide) (by rw [hc102]; rfl) (by decide) ?_
    refine q_iconst 126 hX dX12_factOf_125 rfl kI_m1 ?_
    exact q_iret hX (eqi hq hres) dX12_factOf_126
  have hres := it_f hc102 hres
  have hn102 := ne_ti (k := 102) hc102 (by decide)
  by_cases hc103 : x0 = (103 : Int32)
  · have hres := it_t hc103 hres
    refine q_tabIn 106 hX dX12_factOf_1 (by rw [hc103]; decide) (by rw [hc103]; decide) (by rw [hc103]; rfl) (by decide) ?_
    refine q_iconst 107 hX dX12_factOf_106 rfl kI_1 ?_
    exact q_iret hX (eqi hq hres) dX12_factOf_107
  have hres := it_f hc103 hres
  have hn103 := ne_ti (k := 103) hc103 (by decide)
  by_cases hc104 : x0 = (104 : Int32)
  · have hres := it_t hc104 hres
    refine q_tabIn 104 hX dX12_factOf_1 (by rw [hc104]; decide) (by rw [hc104]; decide) (by rw [hc104]; rfl) (by decide) ?_
    refine q_iconst 105 hX dX12_factOf_104 rfl kI_0 ?_
    exact q_iret hX (eqi hq hres) dX12_factOf_105
  have hres := it_f hc104 hres
  have hn104 := ne_ti (k := 104) hc104 (by decide)
  by_cases hc105 : x0 = (105 : Int32)
  · have hres := it_t hc105 hres
    refine q_tabIn 125 hX dX12_factOf_1 (by rw [hc105]; decide) (by rw [hc105]; decide) (by rw [hc105]; rfl) (by decide) ?_
    refine q_iconst 126 hX dX12_factOf_125 rfl kI_m1 ?_
    exact q_iret hX (eqi hq hres) dX12_factOf_126
  have hres := it_f hc105 hres
  have hn105 := ne_ti (k := 105) hc105 (by decide)
  by_cases hc106 : x0 = (106 : Int32)
  · have hres := it_t hc106 hres
    refine q_tabIn 125 hX dX12_factOf_1 (by rw [hc106]; decide) (by rw [hc106]; decide) (by rw [hc106]; rfl) (by decide) ?_
    refine q_iconst 126 hX dX12_factOf_125 rfl kI_m1 ?_
    exact q_iret hX (eqi hq hres) dX12_factOf_126
  have hres := it_f hc106 hres
  have hn106 := ne_ti (k := 106) hc106 (by decide)
  by_cases hc107 : x0 = (107 : Int32)
  · have hres := it_t hc107 hres
    refine q_tabIn 116 hX dX12_factOf_1 (by rw [hc107]; decide) (by rw [hc107]; decide) (by rw [hc107]; rfl) (by decide) ?_
    refine q_bipush 118 hX dX12_factOf_116 rfl kB_6 ?_
    exact q_iret hX (eqi hq hres) dX12_factOf_118
  have hres := it_f hc107 hres
  have hn107 := ne_ti (k := 107) hc107 (by decide)
  by_cases hc108 : x0 = (108 : Int32)
  · have hres := it_t hc108 hres
    refine q_tabIn 125 hX dX12_factOf_1 (by rw [hc108]; decide) (by rw [hc108]; decide) (by rw [hc108]; rfl) (by decide) ?_
    refine q_iconst 126 hX dX12_factOf_125 rfl kI_m1 ?_
    exact q_iret hX (eqi hq hres) dX12_factOf_126
  have hres := it_f hc108 hres
  have hn108 := ne_ti (k := 108) hc108 (by decide)
  by_cases hc109 : x0 = (109 : Int32)
  · have hres := it_t hc109 hres
    refine q_tabIn 125 hX dX12_factOf_1 (by rw [hc109]; decide) (by rw [hc109]; decide) (by rw [hc109]; rfl) (by decide) ?_
    refine q_iconst 126 hX dX12_factOf_125 rfl kI_m1 ?_
    exact q_iret hX (eqi hq hres) dX12_factOf_126
  have hres := it_f hc109 hres
  have hn109 := ne_ti (k := 109) hc109 (by decide)
  by_cases hc110 : x0 = (110 : Int32)
  · have hres := it_t hc110 hres
    refine q_tabIn 112 hX dX12_factOf_1 (by rw [hc110]; decide) (by rw [hc110]; decide) (by rw [hc110]; rfl) (by decide) ?_
    refine q_iconst 113 hX dX12_factOf_112 rfl kI_4 ?_
    exact q_iret hX (eqi hq hres) dX12_factOf_113
  have hres := it_f hc110 hres
  have hn110 := ne_ti (k := 110) hc110 (by decide)
  by_cases hc111 : x0 = (111 : Int32)
  · have hres := it_t hc111 hres
    refine q_tabIn 125 hX dX12_factOf_1 (by rw [hc111]; decide) (by rw [hc111]; decide) (by rw [hc111]; rfl) (by decide) ?_
    refine q_iconst 126 hX dX12_factOf_125 rfl kI_m1 ?_
    exact q_iret hX (eqi hq hres) dX12_factOf_126
  have hres := it_f hc111 hres
  have hn111 := ne_ti (k := 111) hc111 (by decide)
  by_cases hc112 : x0 = (112 : Int32)
  · have hres := it_t hc112 hres
    refine q_tabIn 125 hX dX12_factOf_1 (by rw [hc112]; decide) (by rw [hc112]; decide) (by rw [hc112]; rfl) (by decide) ?_
    refine q_iconst 126 hX dX12_factOf_125 rfl kI_m1 ?_
    exact q_iret hX (eqi hq hres) dX12_factOf_126
  have hres := it_f hc112 hres
  have hn112 := ne_ti (k := 112) hc112 (by decide)
  by_cases hc113 : x0 = (113 : Int32)
  · have hres := it_t hc113 hres
    refine q_tabIn 125 hX dX12_factOf_1 (by rw [hc113]; decide) (by rw [hc113]; decide) (by rw [hc113]; rfl) (by decide) ?_
    refine q_iconst 126 hX dX12_factOf_125 rfl kI_m1 ?_
    exact q_iret hX (eqi hq hres) dX12_factOf_126
  have hres := it_f hc113 hres
  have hn113 := ne_ti (k := 113) hc113 (by decide)
  by_cases hc114 : x0 = (114 : Int32)
  · have hres := it_t hc114 hres
    refine q_tabIn 125 hX dX12_factOf_1 (by rw [hc114]; decide) (by rw [hc114]; decide) (by rw [hc114]; rfl) (by decide) ?_
    refine q_iconst 126 hX dX12_factOf_125 rfl kI_m1 ?_
    exact q_iret hX (eqi hq hres) dX12_factOf_126
  have hres := it_f hc114 hres
  have hn114 := ne_ti (k := 114) hc114 (by decide)
  by_cases hc115 : x0 = (115 : Int32)
  · have hres := it_t hc115 hres
    refine q_tabIn 108 hX dX12_factOf_1 (by rw [hc115]; decide) (by rw [hc115]; decide) (by rw [hc115]; rfl) (by decide) ?_
    refine q_iconst 109 hX dX12_factOf_108 rfl kI_2 ?_
    exact q_iret hX (eqi hq hres) dX12_factOf_109
  have hres := it_f hc115 hres
  have hn115 := ne_ti (k := 115) hc115 (by decide)
  by_cases hc116 : x0 = (116 : Int32)
  · have hres := it_t hc116 hres
    refine q_tabIn 119 hX dX12_factOf_1 (by rw [hc116]; decide) (by rw [hc116]; decide) (by rw [hc116]; rfl) (by decide) ?_
    refine q_bipush 121 hX dX12_factOf_119 rfl kB_7 ?_
    exact q_iret hX (eqi hq hres) dX12_factOf_121
  have hres := it_f hc116 hres
  have hn116 := ne_ti (k := 116) hc116 (by decide)
  by_cases hc117 : x0 = (117 : Int32)
  · have hres := it_t hc117 hres
    refine q_tabIn 125 hX dX12_factOf_1 (by rw [hc117]; decide) (by rw [hc117]; decide) (by rw [hc117]; rfl) (by decide) ?_
    refine q_iconst 126 hX dX12_factOf_125 rfl kI_m1 ?_
    exact q_iret hX (eqi hq hres) dX12_factOf_126
  have hres := it_f hc117 hres
  have hn117 := ne_ti (k := 117) hc117 (by decide)
  by_cases hc118 : x0 = (118 : Int32)
  · have hres := it_t hc118 hres
    refine q_tabIn 125 hX dX12_factOf_1 (by rw [hc118]; decide) (by rw [hc118]; decide) (by rw [hc118]; rfl) (by decide) ?_
    refine q_iconst 126 hX dX12_factOf_125 rfl kI_m1 ?_
    exact q_iret hX (eqi hq hres) dX12_factOf_126
  have hres := it_f hc118 hres
  have hn118 := ne_ti (k := 118) hc118 (by decide)
  by_cases hc119 : x0 = (119 : Int32)
  · have hres := it_t hc119 hres
    refine q_tabIn 122 hX dX12_factOf_1 (by rw [hc119]; decide) (by rw [hc119]; decide) (by rw [hc119]; rfl) (by decide) ?_
    refine q_bipush 124 hX dX12_factOf_122 rfl kB_8 ?_
    exact q_iret hX (eqi hq hres) dX12_factOf_124
  have hres := it_f hc119 hres
  have hn119 := ne_ti (k := 119) hc119 (by decide)
  refine q_tabOut 125 hX dX12_factOf_1 (by omega) (by decide) ?_
  refine q_iconst 126 hX dX12_factOf_125 rfl kI_m1 ?_
  exact q_iret hX (eqi hq hres) dX12_factOf_126
theorem cX12_factOf9 {l : Launch} {w : WD} (hj : Dj w 55 40) {rr : Int32 × St} {S : St} {x0 : Int32} (hres : fX12_factOf S x0 = some rr) : Ct l yX12_factOf cX12_factOf 1 (some .int) 0 w 55 40 [.int x0] S (some (.int rr.1), rr.2) := by
  refine Ct.of (lv := [(0, .int x0)]) hj (by decide +kernel) (Nat.le_of_ble_eq_true rfl) rfl ?_
  rintro X rfl rfl hq hX
  exact wfX12_factOf hX hq hres
def fX12_sumSign (S : St) (x0 : Int32) : Option (Int32 × St) :=
  if x0 = (43 : Int32) then (some ((2 : Int32), S)) else (if x0 = (45 : Int32) then (some ((3 : Int32), S)) else (if x0 = (42 : Int32) then (some ((4 : Int32), S)) else (if x0 = (47 : Int32) then (some ((5 : Int32), S)) else (if x0 = (37 : Int32) then (some ((6 : Int32), S)) else (some ((-1 : Int32), S))))))
theorem wfX12_sumSign {X : CX} (hX : Ok RX12 cX12_sumSign (some .int) 55 40 1 X) {rr : Int32 × St} (hq : rs X = (some (.int rr.1), rr.2)) {S : St} {x0 : Int32} (hres : fX12_sumSign S x0 = some rr) : Wat 55 40 0 1 X 0 [(0, .int x0)] [] S := by
  unfold fX12_sumSign at hres
  refine q_iload_n 1 hX 0 dX12_sumSign_0 rfl rfl rfl ?_
  refine q_bipush 3 hX dX12_sumSign_1 rfl kB_43 ?_
  refine q_icmp_ne 6 hX 10 dX12_sumSign_3 rfl (by decide) (fun hc => ?_) (fun hc => ?_)
  · have hres := it_f hc hres
    refine q_iload_n 11 hX 0 dX12_sumSign_10 rfl rfl rfl ?_
    refine q_bipush 13 hX dX12_sumSign_11 rfl kB_45 ?_
    refine q_icmp_ne 16 hX 20 dX12_sumSign_13 rfl (by decide) (fun hc => ?_) (fun hc => ?_)
    · have hres := it_f hc hres
      refine q_iload_n 21 hX 0 dX12_sumSign_20 rfl rfl rfl ?_
      refine q_bipush 23 hX dX12_sumSign_21 rfl kB_42 ?_
      refine q_icmp_ne 26 hX 30 dX12_sumSign_23 rfl (by decide) (fun hc => ?_) (fun hc => ?_)
      · have hres := it_f hc hres
        refine q_iload_n 31 hX 0 dX12_sumSign_30 rfl rfl rfl ?_
        refine q_bipush 33 hX dX12_sumSign_31 rfl kB_47 ?_
        refine q_icmp_ne 36 hX 40 dX12_sumSign_33 rfl (by decide) (fun hc => ?_) (fun hc => ?_)
        · have hres := it_f hc hres
          refine q_iload_n 41 hX 0 dX12_sumSign_40 rfl rfl rfl ?_
          refine q_bipush 43 hX dX12_sumSign_41 rfl kB_37 ?_
          refine q_icmp_ne 46 hX 51 dX12_sumSign_43 rfl (by decide) (fun hc => ?_) (fun hc => ?_)
          · have hres := it_f hc hres
            refine q_iconst 52 hX dX12_sumSign_51 rfl kI_m1 ?_
            exact q_iret hX (eqi hq hres) dX12_sumSign_52
          · have hres := it_t hc hres
            refine q_bipush 48 hX dX12_sumSign_46 rfl kB_6 ?_
            refine q_goto 52 hX dX12_sumSign_48 (by decide) ?_
            exact q_iret hX (eqi hq hres) dX12_sumSign_52
        · have hres := it_t hc hres
          refine q_iconst 37 hX dX12_sumSign_36 rfl kI_5 ?_
          refine q_goto 52 hX dX12_sumSign_37 (by decide) ?_
          exact q_iret hX (eqi hq hres) dX12_sumSign_52
      · have hres := it_t hc hres
        refine q_iconst 27 hX dX12_sumSign_26 rfl kI_4 ?_
        refine q_goto 52 hX dX12_sumSign_27 (by decide) ?_
        exact q_iret hX (eqi hq hres) dX12_sumSign_52
    · have hres := it_t hc hres
      refine q_iconst 17 hX dX12_sumSign_16 rfl kI_3 ?_
      refine q_goto 52 hX dX12_sumSign_17 (by decide) ?_
      exact q_iret hX (eqi hq hres) dX12_sumSign_52
  · have hres := it_t hc hres
    refine q_iconst 7 hX dX12_sumSign_6 rfl kI_2 ?_
    refine q_goto 52 hX dX12_sumSign_7 (by decide) ?_
    exact q_iret hX (eqi hq hres) dX12_sumSign_52
theorem cX12_sumSign9 {l : Launch} {w : WD} (hj : Dj w 55 40) {rr : Int32 × St} {S : St} {x0 : Int32} (hres : fX12_sumSign S x0 = some rr) : Ct l yX12_sumSign cX12_sumSign 1 (some .int) 0 w 55 40 [.int x0] S (some (.int rr.1), rr.2) := by
  refine Ct.of (lv := [(0, .int x0)]) hj (by decide +kernel) (Nat.le_of_ble_eq_true rfl) rfl ?_
  rintro X rfl rfl hq hX
  exact wfX12_sumSign hX hq hres
def fX12_closesSums_37 (rc0 : St → Int32 → Option (St)) (S : St) (x1 : Int32) : Option (St) :=
  bi (fX12_waitTop S) fun r2 S1 => bv (fX12_notes S1 r2 (0 : Int32)) fun S2 => bS (pI S2 55 18 ((S2.1 55 18) - (1 : Int32))) fun S3 => rc0 S3 x1
theorem wfX12_closesSums_37 {X : CX} (hX : Ok RX12 cX12_closesSums none 55 40 2 X) {rr : St} (hq : rs X = (none, rr)) {rc0 : St → Int32 → Option (St)} (hrc0 : ∀ (S : St) (x1 : Int32), rc0 S x1 = some rr → Wat 55 40 1 2 X 0 [(0, .ref (ad X 55)), (1, .int x1)] [] S) {S : St} {x1 : Int32} (hres : fX12_closesSums_37 rc0 S x1 = some rr) : Wat 55 40 1 2 X 37 [(0, .ref (ad X 55)), (1, .int x1)] [] S := by
  unfold fX12_closesSums_37 at hres
  refine q_aload_n 38 hX 0 dX12_closesSums_37 rfl rfl rfl ?_
  refine q_aload_n 39 hX 0 dX12_closesSums_38 rfl rfl rfl ?_
  obtain ⟨r2, S1, hk1, hres⟩ := ob hres
  refine q_callVi 42 (st := [.ref (ad X 55)]) (As := []) hX (cX12_waitTop9 hX.dj hk1) cv_RX12_202 ci12 oB_55 rfl (by decide) rfl (Nat.le_of_ble_eq_true rfl) dX12_closesSums_39 rfl ?_
  refine q_iconst 43 hX dX12_closesSums_42 rfl kI_0 ?_
  obtain ⟨S2, hk3, hres⟩ := obv hres
  refine q_callVv 46 (st := []) (As := [.int r2, .int (0 : Int32)]) hX (cX12_notes9 hX.dj hk3) cv_RX12_205 ci12 oB_55 rfl (by decide) rfl (Nat.le_of_ble_eq_true rfl) dX12_closesSums_43 rfl ?_
  refine q_aload_n 47 hX 0 dX12_closesSums_46 rfl rfl rfl ?_
  refine q_aload_n 48 hX 0 dX12_closesSums_47 rfl rfl rfl ?_
  refine q_getI 51 hX ci12 lf_RX12_199 fI_55_18 dX12_closesSums_48 rfl ?_
  refine q_iconst 52 hX dX12_closesSums_51 rfl kI_1 ?_
  refine q_isub 53 hX dX12_closesSums_52 rfl ?_
  refine q_putI 56 hX ci12 lf_RX12_199 fI_55_18 (nar_i rfl) dX12_closesSums_53 rfl ?_
  refine q_bS hres (fun S3 _ hres => ?_)
  refine q_goto 0 hX dX12_closesSums_56 (by decide) ?_
  exact q_sub [0, 1] rfl (hrc0 _ _ hres)
def fX12_closesSums_17 (rc0 : St → Int32 → Option (St)) (S : St) (x1 : Int32) : Option (St) :=
  if x1 = 0 then (some S) else (bi (fX12_waitTop S) fun r2 S1 => if r2 = (2 : Int32) then (fX12_closesSums_37 rc0 S1 x1) else (bi (fX12_waitTop S1) fun r4 S2 => if r4 = (3 : Int32) then (fX12_closesSums_37 rc0 S2 x1) else (some S2)))
theorem wfX12_closesSums_17 {X : CX} (hX : Ok RX12 cX12_closesSums none 55 40 2 X) {rr : St} (hq : rs X = (none, rr)) {rc0 : St → Int32 → Option (St)} (hrc0 : ∀ (S : St) (x1 : Int32), rc0 S x1 = some rr → Wat 55 40 1 2 X 0 [(0, .ref (ad X 55)), (1, .int x1)] [] S) {S : St} {x1 : Int32} (hres : fX12_closesSums_17 rc0 S x1 = some rr) : Wat 55 40 1 2 X 17 [(0, .ref (ad X 55)), (1, .int x1)] [] S := by
  unfold fX12_closesSums_17 at hres
  refine q_iload_n 18 hX 1 dX12_closesSums_17 rfl rfl rfl ?_
  refine q_if_eq 21 hX 59 dX12_closesSums_18 rfl (by decide) (fun hc => ?_) (fun hc => ?_)
  · have hres := it_t hc hres
    exact q_vret hX (eqv hq hres) dX12_closesSums_59
  · have hres := it_f hc hres
    refine q_aload_n 22 hX 0 dX12_closesSums_21 rfl rfl rfl ?_
    obtain ⟨r2, S1, hk1, hres⟩ := ob hres
    refine q_callVi 25 (st := []) (As := []) hX (cX12_waitTop9 hX.dj hk1) cv_RX12_202 ci12 oB_55 rfl (by decide) rfl (Nat.le_of_ble_eq_true rfl) dX12_closesSums_22 rfl ?_
    refine q_iconst 26 hX dX12_closesSums_25 rfl kI_2 ?_
    refine q_icmp_eq 29 hX 37 dX12_closesSums_26 rfl (by decide) (fun hc => ?_) (fun hc => ?_)
    · have hres := it_t hc hres
      exact q_sub [0, 1] rfl (wfX12_closesSums_37 hX hq hrc0 hres)
    · have hres := it_f hc hres
      refine q_aload_n 30 hX 0 dX12_closesSums_29 rfl rfl rfl ?_
      obtain ⟨r4, S2, hk3, hres⟩ := ob hres
      refine q_callVi 33 (st := []) (As := []) hX (cX12_waitTop9 hX.dj hk3) cv_RX12_202 ci12 oB_55 rfl (by decide) rfl (Nat.le_of_ble_eq_true rfl) dX12_closesSums_30 rfl ?_
      refine q_iconst 34 hX dX12_closesSums_33 rfl kI_3 ?_
      refine q_icmp_ne 37 hX 59 dX12_closesSums_34 rfl (by decide) (fun hc => ?_) (fun hc => ?_)
      · have hres := it_f hc hres
        exact q_vret hX (eqv hq hres) dX12_closesSums_59
      · have hres := it_t hc hres
        exact q_sub [0, 1] rfl (wfX12_closesSums_37 hX hq hrc0 hres)
def bX12_closesSums_0 (rc0 : St → Int32 → Option (St)) (S : St) (x1 : Int32) : Option (St) :=
  bi (fX12_waitTop S) fun r2 S1 => if r2 < (4 : Int32) then (fX12_closesSums_17 rc0 S1 x1) else (bi (fX12_waitTop S1) fun r4 S2 => if r4 ≤ (6 : Int32) then (fX12_closesSums_37 rc0 S2 x1) else (fX12_closesSums_17 rc0 S2 x1))
theorem wbX12_closesSums_0 {X : CX} (hX : Ok RX12 cX12_closesSums none 55 40 2 X) {rr : St} (hq : rs X = (none, rr)) {rc0 : St → Int32 → Option (St)} (hrc0 : ∀ (S : St) (x1 : Int32), rc0 S x1 = some rr → Wat 55 40 1 2 X 0 [(0, .ref (ad X 55)), (1, .int x1)] [] S) {S : St} {x1 : Int32} (hres : bX12_closesSums_0 rc0 S x1 = some rr) : Wat 55 40 1 2 X 0 [(0, .ref (ad X 55)), (1, .int x1)] [] S := by
  unfold bX12_closesSums_0 at hres
  refine q_aload_n 1 hX 0 dX12_closesSums_0 rfl rfl rfl ?_
  obtain ⟨r2, S1, hk1, hres⟩ := ob hres
  refine q_callVi 4 (st := []) (As := []) hX (cX12_waitTop9 hX.dj hk1) cv_RX12_202 ci12 oB_55 rfl (by decide) rfl (Nat.le_of_ble_eq_true rfl) dX12_closesSums_1 rfl ?_
  refine q_iconst 5 hX dX12_closesSums_4 rfl kI_4 ?_
  refine q_icmp_lt 8 hX 17 dX12_closesSums_5 rfl (by decide) (fun hc => ?_) (fun hc => ?_)
  · have hres := it_t hc hres
    exact q_sub [0, 1] rfl (wfX12_closesSums_17 hX hq hrc0 hres)
  · have hres := it_f hc hres
    refine q_aload_n 9 hX 0 dX12_closesSums_8 rfl rfl rfl ?_
    obtain ⟨r4, S2, hk3, hres⟩ := ob hres
    refine q_callVi 12 (st := []) (As := []) hX (cX12_waitTop9 hX.dj hk3) cv_RX12_202 ci12 oB_55 rfl (by decide) rfl (Nat.le_of_ble_eq_true rfl) dX12_closesSums_9 rfl ?_
    refine q_bipush 14 hX dX12_closesSums_12 rfl kB_6 ?_
    refine q_icmp_le 17 hX 37 dX12_closesSums_14 rfl (by decide) (fun hc => ?_) (fun hc => ?_)
    · have hres := it_t hc hres
      exact q_sub [0, 1] rfl (wfX12_closesSums_37 hX hq hrc0 hres)
    · have hres := it_f hc hres
      exact q_sub [0, 1] rfl (wfX12_closesSums_17 hX hq hrc0 hres)
def fX12_closesSums_0 : Nat → St → Int32 → Option (St)
  | 0 => fun _ _ => none
  | k + 1 => fun S x1 => bX12_closesSums_0 (fX12_closesSums_0 k) S x1
theorem wfX12_closesSums_0 {X : CX} (hX : Ok RX12 cX12_closesSums none 55 40 2 X) {rr : St} (hq : rs X = (none, rr)) (k : Nat) : ∀ (S : St) (x1 : Int32), fX12_closesSums_0 k S x1 = some rr → Wat 55 40 1 2 X 0 [(0, .ref (ad X 55)), (1, .int x1)] [] S := by
  induction k with
  | zero => intro S x1 hres; exact absurd hres (by simp [fX12_closesSums_0])
  | succ k ih => intro S x1 hres; exact wbX12_closesSums_0 hX hq ih hres
def fX12_closesSums (S : St) (x1 : Int32) : Option (St) := fX12_closesSums_0 100 S x1
theorem cX12_closesSums9 {l : Launch} {w : WD} (hj : Dj w 55 40) {rr : St} {S : St} {x1 : Int32} (hres : fX12_closesSums S x1 = some rr) : Ct l yX12_closesSums cX12_closesSums 2 none 1 w 55 40 [.ref (w.1 55), .int x1] S (none, rr) := by
  refine Ct.of (lv := [(0, .ref (w.1 55)), (1, .int x1)]) hj (by decide +kernel) (Nat.le_of_ble_eq_true rfl) rfl ?_
  rintro X rfl rfl hq hX
  exact wfX12_closesSums_0 hX hq _ _ _ hres
def bX12_readsFactor_0 (rc0 : St → Option (Int32 × St)) (S : St) : Option (Int32 × St) :=
  bi (fX12_here S) fun r2 S1 => if r2 = (91 : Int32) then (bi (fX12_opens S1 (14 : Int32)) fun r17 S10 => if r17 = 0 then (some ((0 : Int32), S10)) else (rc0 S10)) else (bi (fX12_isDigit S1) fun r4 S2 => if r4 = 0 then (bi (fX12_here S2) fun r6 S3 => bi (fX12_factOf S3 r6) fun r8 S4 => if r8 = (-1 : Int32) then (bi (fX12_wrongAt S4 (1 : Int32) (S4.1 55 12)) fun r11 S7 => if r11 = 0 ∨ r11 = 1 then some (r11, S7) else none) else (bv (fX12_notes S4 (1 : Int32) r8) fun S5 => bS (pI S5 55 12 ((S5.1 55 12) + (1 : Int32))) fun S6 => some ((1 : Int32), S6))) else (bi (fX12_readsNumber S2) fun r14 S8 => if r14 = 0 then (some ((0 : Int32), S8)) else (bv (fX12_notes S8 (0 : Int32) (S8.1 55 15)) fun S9 => some ((1 : Int32), S9))))
theorem wbX12_readsFactor_0 {X : CX} (hX : Ok RX12 cX12_readsFactor (some .boolean) 55 40 2 X) {rr : Int32 × St} (hq : rs X = (some (.int rr.1), rr.2)) {rc0 : St → Option (Int32 × St)} (hrc0 : ∀ (S : St), rc0 S = some rr → Wat 55 40 3 2 X 0 [(0, .ref (ad X 55))] [] S) {S : St} (hres : bX12_readsFactor_0 rc0 S = some rr) : Wat 55 40 3 2 X 0 [(0, .ref (ad X 55))] [] S := by
  unfold bX12_readsFactor_0 at hres
  refine q_aload_n 1 hX 0 dX12_readsFactor_0 rfl rfl rfl ?_
  obtain ⟨r2, S1, hk1, hres⟩ := ob hres
  refine q_callVi 4 (st := []) (As := []) hX (cX12_here9 hX.dj hk1) cv_RX12_175 ci12 oB_55 rfl (by decide) rfl (Nat.le_of_ble_eq_true rfl) dX12_readsFactor_1 rfl ?_
  refine q_bipush 6 hX dX12_readsFactor_4 rfl kB_91 ?_
  refine q_icmp_ne 9 hX 20 dX12_readsFactor_6 rfl (by decide) (fun hc => ?_) (fun hc => ?_)
  · have hres := it_f hc hres
    refine q_aload_n 21 hX 0 dX12_readsFactor_20 rfl rfl rfl ?_
    obtain ⟨r4, S2, hk3, hres⟩ := ob hres
    refine q_callVi 24 (st := []) (As := []) hX (cX12_isDigit9 hX.dj hk3) cv_RX12_188 ci12 oB_55 rfl (by decide) rfl (Nat.le_of_ble_eq_true rfl) dX12_readsFactor_21 rfl ?_
    refine q_if_eq 27 hX 47 dX12_readsFactor_24 rfl (by decide) (fun hc => ?_) (fun hc => ?_)
    · have hres := it_t hc hres
      refine q_aload_n 48 hX 0 dX12_readsFactor_47 rfl rfl rfl ?_
      obtain ⟨r6, S3, hk5, hres⟩ := ob hres
      refine q_callVi 51 (st := []) (As := []) hX (cX12_here9 hX.dj hk5) cv_RX12_175 ci12 oB_55 rfl (by decide) rfl (Nat.le_of_ble_eq_true rfl) dX12_readsFactor_48 rfl ?_
      obtain ⟨r8, S4, hk7, hres⟩ := ob hres
      refine q_callSi 54 (st := []) (As := [.int r6]) hX (cX12_factOf9 hX.dj hk7) cs_RX12_215 rfl (by decide) rfl (Nat.le_of_ble_eq_true rfl) dX12_readsFactor_51 rfl ?_
      refine q_istore_n 55 (lv' := [(1, .int r8), (0, .ref (ad X 55))]) hX dX12_readsFactor_54 rfl rfl (by decide) rfl ?_
      refine q_iload_n 56 hX 0 dX12_readsFactor_55 rfl rfl rfl ?_
      refine q_iconst 57 hX dX12_readsFactor_56 rfl kI_m1 ?_
      refine q_icmp_ne 60 hX 70 dX12_readsFactor_57 rfl (by decide) (fun hc => ?_) (fun hc => ?_)
      · have hres := it_f hc hres
        refine q_aload_n 71 hX 1 dX12_readsFactor_70 rfl rfl rfl ?_
        refine q_iconst 72 hX dX12_readsFactor_71 rfl kI_1 ?_
        refine q_iload_n 73 hX 0 dX12_readsFactor_72 rfl rfl rfl ?_
        obtain ⟨S5, hk9, hres⟩ := obv hres
        refine q_callVv 76 (st := []) (As := [.int (1 : Int32), .int r8]) hX (cX12_notes9 hX.dj hk9) cv_RX12_205 ci12 oB_55 rfl (by decide) rfl (Nat.le_of_ble_eq_true rfl) dX12_readsFactor_73 rfl ?_
        refine q_aload_n 77 hX 1 dX12_readsFactor_76 rfl rfl rfl ?_
        refine q_aload_n 78 hX 1 dX12_readsFactor_77 rfl rfl rfl ?_
        refine q_getI 81 hX ci12 lf_RX12_169 fI_55_12 dX12_readsFactor_78 rfl ?_
        refine q_iconst 82 hX dX12_readsFactor_81 rfl kI_1 ?_
        refine q_iadd 83 hX dX12_readsFactor_82 rfl ?_
        refine q_putI 86 hX ci12 lf_RX12_169 fI_55_12 (nar_i rfl) dX12_readsFactor_83 rfl ?_
        refine q_bS hres (fun S6 _ hres => ?_)
        refine q_iconst 87 hX dX12_readsFactor_86 rfl kI_1 ?_
        exact q_zret hX (by decide) (eqi hq hres) dX12_readsFactor_87
      · have hres := it_t hc hres
        refine q_aload_n 61 hX 1 dX12_readsFactor_60 rfl rfl rfl ?_
        refine q_iconst 62 hX dX12_readsFactor_61 rfl kI_1 ?_
        refine q_aload_n 63 hX 1 dX12_readsFactor_62 rfl rfl rfl ?_
        refine q_getI 66 hX ci12 lf_RX12_169 fI_55_12 dX12_readsFactor_63 rfl ?_
        obtain ⟨r11, S7, hk10, hres⟩ := ob hres
        refine q_callVi 69 (st := []) (As := [.int (1 : Int32), .int (S4.1 55 12)]) hX (cX12_wrongAt9 hX.dj hk10) cv_RX12_182 ci12 oB_55 rfl (by decide) rfl (Nat.le_of_ble_eq_true rfl) dX12_readsFactor_66 rfl ?_
        obtain ⟨hz12, hres⟩ := gd hres
        exact q_zret hX hz12 (eqi hq hres) dX12_readsFactor_69
    · have hres := it_f hc hres
      refine q_aload_n 28 hX 0 dX12_readsFactor_27 rfl rfl rfl ?_
      obtain ⟨r14, S8, hk13, hres⟩ := ob hres
      refine q_callVi 31 (st := []) (As := []) hX (cX12_readsNumber9 hX.dj hk13) cv_RX12_212 ci12 oB_55 rfl (by decide) rfl (Nat.le_of_ble_eq_true rfl) dX12_readsFactor_28 rfl ?_
      refine q_if_ne 34 hX 36 dX12_readsFactor_31 rfl (by decide) (fun hc => ?_) (fun hc => ?_)
      · have hres := it_f hc hres
        refine q_aload_n 37 hX 0 dX12_readsFactor_36 rfl rfl rfl ?_
        refine q_iconst 38 hX dX12_readsFactor_37 rfl kI_0 ?_
        refine q_aload_n 39 hX 0 dX12_readsFactor_38 rfl rfl rfl ?_
        refine q_getI 42 hX ci12 lf_RX12_185 fI_55_15 dX12_readsFactor_39 rfl ?_
        obtain ⟨S9, hk15, hres⟩ := obv hres
        refine q_callVv 45 (st := []) (As := [.int (0 : Int32), .int (S8.1 55 15)]) hX (cX12_notes9 hX.dj hk15) cv_RX12_205 ci12 oB_55 rfl (by decide) rfl (Nat.le_of_ble_eq_true rfl) dX12_readsFactor_42 rfl ?_
        refine q_iconst 46 hX dX12_readsFactor_45 rfl kI_1 ?_
        exact q_zret hX (by decide) (eqi hq hres) dX12_readsFactor_46
      · have hres := it_t hc hres
        refine q_iconst 35 hX dX12_readsFactor_34 rfl kI_0 ?_
        exact q_zret hX (by decide) (eqi hq hres) dX12_readsFactor_35
  · have hres := it_t hc hres
    refine q_aload_n 10 hX 0 dX12_readsFactor_9 rfl rfl rfl ?_
    refine q_bipush 12 hX dX12_readsFactor_10 rfl kB_14 ?_
    obtain ⟨r17, S10, hk16, hres⟩ := ob hres
    refine q_callVi 15 (st := []) (As := [.int (14 : Int32)]) hX (cX12_opens9 hX.dj hk16) cv_RX12_209 ci12 oB_55 rfl (by decide) rfl (Nat.le_of_ble_eq_true rfl) dX12_readsFactor_12 rfl ?_
    refine q_if_ne 18 hX 0 dX12_readsFactor_15 rfl (by decide) (fun hc => ?_) (fun hc => ?_)
    · have hres := it_f hc hres
      exact q_sub [0] rfl (hrc0 _ hres)
    · have hres := it_t hc hres
      refine q_iconst 19 hX dX12_readsFactor_18 rfl kI_0 ?_
      exact q_zret hX (by decide) (eqi hq hres) dX12_readsFactor_19
def fX12_readsFactor_0 : Nat → St → Option (Int32 × St)
  | 0 => fun _ => none
  | k + 1 => fun S => bX12_readsFactor_0 (fX12_readsFactor_0 k) S
theorem wfX12_readsFactor_0 {X : CX} (hX : Ok RX12 cX12_readsFactor (some .boolean) 55 40 2 X) {rr : Int32 × St} (hq : rs X = (some (.int rr.1), rr.2)) (k : Nat) : ∀ (S : St), fX12_readsFactor_0 k S = some rr → Wat 55 40 3 2 X 0 [(0, .ref (ad X 55))] [] S := by
  induction k with
  | zero => intro S hres; exact absurd hres (by simp [fX12_readsFactor_0])
  | succ k ih => intro S hres; exact wbX12_readsFactor_0 hX hq ih hres
def fX12_readsFactor (S : St) : Option (Int32 × St) := fX12_readsFactor_0 100 S
theorem cX12_readsFactor9 {l : Launch} {w : WD} (hj : Dj w 55 40) {rr : Int32 × St} {S : St} (hres : fX12_readsFactor S = some rr) : Ct l yX12_readsFactor cX12_readsFactor 2 (some .boolean) 3 w 55 40 [.ref (w.1 55)] S (some (.int rr.1), rr.2) := by
  refine Ct.of (lv := [(0, .ref (w.1 55))]) hj (by decide +kernel) (Nat.le_of_ble_eq_true rfl) rfl ?_
  rintro X rfl rfl hq hX
  exact wfX12_readsFactor_0 hX hq _ _ hres
def bX12_hasOpenSum_2 (rc2 : St → Int32 → Option (Int32 × St)) (S : St) (x2 : Int32) : Option (Int32 × St) :=
  if (S.1 55 18) ≤ x2 then (some ((0 : Int32), S)) else (if inb x2 260 = true then if ((S.1 66 (x2.toNatClampNeg)) / (1048576 : Int32)) = (14 : Int32) then (some ((1 : Int32), S)) else (bV (x2 + (1 : Int32)) fun v2 => rc2 S v2) else none)
theorem wbX12_hasOpenSum_2 {X : CX} (hX : Ok RX12 cX12_hasOpenSum (some .boolean) 55 40 3 X) {rr : Int32 × St} (hq : rs X = (some (.int rr.1), rr.2)) {rc2 : St → Int32 → Option (Int32 × St)} (hrc2 : ∀ (S : St) (x2 : Int32), rc2 S x2 = some rr → Wat 55 40 0 3 X 2 [(0, .ref (ad X 55)), (2, .int x2)] [] S) {S : St} {x2 : Int32} (hres : bX12_hasOpenSum_2 rc2 S x2 = some rr) : Wat 55 40 0 3 X 2 [(0, .ref (ad X 55)), (2, .int x2)] [] S := by
  unfold bX12_hasOpenSum_2 at hres
  refine q_iload_n 3 hX 1 dX12_hasOpenSum_2 rfl rfl rfl ?_
  refine q_aload_n 4 hX 0 dX12_hasOpenSum_3 rfl rfl rfl ?_
  refine q_getI 7 hX ci12 lf_RX12_199 fI_55_18 dX12_hasOpenSum_4 rfl ?_
  refine q_icmp_ge 10 hX 32 dX12_hasOpenSum_7 rfl (by decide) (fun hc => ?_) (fun hc => ?_)
  · have hres := it_t hc hres
    refine q_iconst 33 hX dX12_hasOpenSum_32 rfl kI_0 ?_
    exact q_zret hX (by decide) (eqi hq hres) dX12_hasOpenSum_33
  · have hres := it_f hc hres
    refine q_aload_n 11 hX 0 dX12_hasOpenSum_10 rfl rfl rfl ?_
    refine q_getR 14 hX ci12 lf_RX12_41 fR_55_22 dX12_hasOpenSum_11 rfl ?_
    refine q_iload_n 15 hX 1 dX12_hasOpenSum_14 rfl rfl rfl ?_
    obtain ⟨hb1, hres⟩ := gd hres
    refine q_iald 16 hX rfl aF_66 hb1 dX12_hasOpenSum_15 rfl ?_
    refine q_ldc 18 hX dX12_hasOpenSum_16 rfl gw748 ?_
    refine q_idiv 19 hX dX12_hasOpenSum_18 rfl (by decide) ?_
    refine q_bipush 21 hX dX12_hasOpenSum_19 rfl kB_14 ?_
    refine q_icmp_ne 24 hX 26 dX12_hasOpenSum_21 rfl (by decide) (fun hc => ?_) (fun hc => ?_)
    · have hres := it_f hc hres
      refine q_iincB 29 1 (lv0 := [(0, .ref (ad X 55))]) hX dX12_hasOpenSum_26 rfl rfl kI_1 (by decide) rfl hres (fun v2 hres => ?_)
      refine q_goto 2 hX dX12_hasOpenSum_29 (by decide) ?_
      exact q_sub [1, 0] rfl (hrc2 _ _ hres)
    · have hres := it_t hc hres
      refine q_iconst 25 hX dX12_hasOpenSum_24 rfl kI_1 ?_
      exact q_zret hX (by decide) (eqi hq hres) dX12_hasOpenSum_25
def fX12_hasOpenSum_2 : Nat → St → Int32 → Option (Int32 × St)
  | 0 => fun _ _ => none
  | k + 1 => fun S x2 => bX12_hasOpenSum_2 (fX12_hasOpenSum_2 k) S x2
theorem wfX12_hasOpenSum_2 {X : CX} (hX : Ok RX12 cX12_hasOpenSum (some .boolean) 55 40 3 X) {rr : Int32 × St} (hq : rs X = (some (.int rr.1), rr.2)) (k : Nat) : ∀ (S : St) (x2 : Int32), fX12_hasOpenSum_2 k S x2 = some rr → Wat 55 40 0 3 X 2 [(0, .ref (ad X 55)), (2, .int x2)] [] S := by
  induction k with
  | zero => intro S x2 hres; exact absurd hres (by simp [fX12_hasOpenSum_2])
  | succ k ih => intro S x2 hres; exact wbX12_hasOpenSum_2 hX hq ih hres
def fX12_hasOpenSum (S : St) (x1 : Int32) : Option (Int32 × St) :=
  fX12_hasOpenSum_2 100 S x1
theorem wfX12_hasOpenSum {X : CX} (hX : Ok RX12 cX12_hasOpenSum (some .boolean) 55 40 3 X) {rr : Int32 × St} (hq : rs X = (some (.int rr.1), rr.2)) {S : St} {x1 : Int32} (hres : fX12_hasOpenSum S x1 = some rr) : Wat 55 40 0 3 X 0 [(0, .ref (ad X 55)), (1, .int x1)] [] S := by
  unfold fX12_hasOpenSum at hres
  refine q_iload_n 1 hX 1 dX12_hasOpenSum_0 rfl rfl rfl ?_
  refine q_istore_n 2 (lv' := [(2, .int x1), (0, .ref (ad X 55)), (1, .int x1)]) hX dX12_hasOpenSum_1 rfl rfl (by decide) rfl ?_
  exact q_sub [1, 0] rfl (wfX12_hasOpenSum_2 hX hq _ _ _ hres)
theorem cX12_hasOpenSum9 {l : Launch} {w : WD} (hj : Dj w 55 40) {rr : Int32 × St} {S : St} {x1 : Int32} (hres : fX12_hasOpenSum S x1 = some rr) : Ct l yX12_hasOpenSum cX12_hasOpenSum 3 (some .boolean) 0 w 55 40 [.ref (w.1 55), .int x1] S (some (.int rr.1), rr.2) := by
  refine Ct.of (lv := [(0, .ref (w.1 55)), (1, .int x1)]) hj (by decide +kernel) (Nat.le_of_ble_eq_true rfl) rfl ?_
  rintro X rfl rfl hq hX
  exact wfX12_hasOpenSum hX hq hres
def fX12_readsSum_38 (rc14 : St → Int32 → Option (Int32 × St)) (S : St) (x1 : Int32) (x2 : Int32) (s1 : Int32) : Option (Int32 × St) :=
  bv (fX12_closesSums S s1) fun S1 => if inb (S1.1 55 18) 260 = true then bS (pI S1 66 ((S1.1 55 18).toNatClampNeg) ((1048576 : Int32) * x2)) fun S2 => bS (pI S2 55 18 ((S2.1 55 18) + (1 : Int32))) fun S3 => bS (pI S3 55 12 ((S3.1 55 12) + (1 : Int32))) fun S4 => bi (fX12_readsFactor S4) fun r4 S5 => if r4 = 0 then (some ((0 : Int32), S5)) else (rc14 S5 x1) else none
theorem wfX12_readsSum_38 {X : CX} (hX : Ok RX12 cX12_readsSum (some .boolean) 55 40 3 X) {rr : Int32 × St} (hq : rs X = (some (.int rr.1), rr.2)) {rc14 : St → Int32 → Option (Int32 × St)} (hrc14 : ∀ (S : St) (x1 : Int32), rc14 S x1 = some rr → Wat 55 40 4 3 X 14 [(0, .ref (ad X 55)), (1, .int x1)] [] S) {S : St} {x1 : Int32} {x2 : Int32} {s1 : Int32} (hres : fX12_readsSum_38 rc14 S x1 x2 s1 = some rr) : Wat 55 40 4 3 X 38 [(0, .ref (ad X 55)), (1, .int x1), (2, .int x2)] [.int s1, .ref (ad X 55)] S := by
  unfold fX12_readsSum_38 at hres
  obtain ⟨S1, hk1, hres⟩ := obv hres
  refine q_callVv 41 (st := []) (As := [.int s1]) hX (cX12_closesSums9 hX.dj hk1) cv_RX12_225 ci12 oB_55 rfl (by decide) rfl (Nat.le_of_ble_eq_true rfl) dX12_readsSum_38 rfl ?_
  refine q_aload_n 42 hX 0 dX12_readsSum_41 rfl rfl rfl ?_
  refine q_getR 45 hX ci12 lf_RX12_41 fR_55_22 dX12_readsSum_42 rfl ?_
  refine q_aload_n 46 hX 0 dX12_readsSum_45 rfl rfl rfl ?_
  refine q_getI 49 hX ci12 lf_RX12_199 fI_55_18 dX12_readsSum_46 rfl ?_
  refine q_ldc 51 hX dX12_readsSum_49 rfl gw748 ?_
  refine q_iload_n 52 hX 2 dX12_readsSum_51 rfl rfl rfl ?_
  refine q_imul 53 hX dX12_readsSum_52 rfl ?_
  obtain ⟨hb2, hres⟩ := gd hres
  refine q_iast 54 hX rfl aF_66 hb2 dX12_readsSum_53 rfl ?_
  refine q_bS hres (fun S2 _ hres => ?_)
  refine q_aload_n 55 hX 0 dX12_readsSum_54 rfl rfl rfl ?_
  refine q_aload_n 56 hX 0 dX12_readsSum_55 rfl rfl rfl ?_
  refine q_getI 59 hX ci12 lf_RX12_199 fI_55_18 dX12_readsSum_56 rfl ?_
  refine q_iconst 60 hX dX12_readsSum_59 rfl kI_1 ?_
  refine q_iadd 61 hX dX12_readsSum_60 rfl ?_
  refine q_putI 64 hX ci12 lf_RX12_199 fI_55_18 (nar_i rfl) dX12_readsSum_61 rfl ?_
  refine q_bS hres (fun S3 _ hres => ?_)
  refine q_aload_n 65 hX 0 dX12_readsSum_64 rfl rfl rfl ?_
  refine q_aload_n 66 hX 0 dX12_readsSum_65 rfl rfl rfl ?_
  refine q_getI 69 hX ci12 lf_RX12_169 fI_55_12 dX12_readsSum_66 rfl ?_
  refine q_iconst 70 hX dX12_readsSum_69 rfl kI_1 ?_
  refine q_iadd 71 hX dX12_readsSum_70 rfl ?_
  refine q_putI 74 hX ci12 lf_RX12_169 fI_55_12 (nar_i rfl) dX12_readsSum_71 rfl ?_
  refine q_bS hres (fun S4 _ hres => ?_)
  refine q_aload_n 75 hX 0 dX12_readsSum_74 rfl rfl rfl ?_
  obtain ⟨r4, S5, hk3, hres⟩ := ob hres
  refine q_callVi 78 (st := []) (As := []) hX (cX12_readsFactor9 hX.dj hk3) cv_RX12_219 ci12 oB_55 rfl (by decide) rfl (Nat.le_of_ble_eq_true rfl) dX12_readsSum_75 rfl ?_
  refine q_if_ne 81 hX 163 dX12_readsSum_78 rfl (by decide) (fun hc => ?_) (fun hc => ?_)
  · have hres := it_f hc hres
    refine q_goto 14 hX dX12_readsSum_163 (by decide) ?_
    exact q_sub [0, 1] rfl (hrc14 _ _ hres)
  · have hres := it_t hc hres
    refine q_iconst 82 hX dX12_readsSum_81 rfl kI_0 ?_
    exact q_zret hX (by decide) (eqi hq hres) dX12_readsSum_82
def fX12_readsSum_138 (S : St) (x1 : Int32) : Option (Int32 × St) :=
  bi (fX12_hasOpenSum S x1) fun r2 S1 => if r2 = 0 then (bv (fX12_closesSums S1 (1 : Int32)) fun S2 => some ((1 : Int32), S2)) else (bi (fX12_wrongAt S1 (1 : Int32) (S1.1 55 12)) fun r5 S3 => if r5 = 0 ∨ r5 = 1 then some (r5, S3) else none)
theorem wfX12_readsSum_138 {X : CX} (hX : Ok RX12 cX12_readsSum (some .boolean) 55 40 3 X) {rr : Int32 × St} (hq : rs X = (some (.int rr.1), rr.2)) {S : St} {x1 : Int32} (hres : fX12_readsSum_138 S x1 = some rr) : Wat 55 40 4 3 X 138 [(0, .ref (ad X 55)), (1, .int x1)] [] S := by
  unfold fX12_readsSum_138 at hres
  refine q_aload_n 139 hX 0 dX12_readsSum_138 rfl rfl rfl ?_
  refine q_iload_n 140 hX 1 dX12_readsSum_139 rfl rfl rfl ?_
  obtain ⟨r2, S1, hk1, hres⟩ := ob hres
  refine q_callVi 143 (st := []) (As := [.int x1]) hX (cX12_hasOpenSum9 hX.dj hk1) cv_RX12_229 ci12 oB_55 rfl (by decide) rfl (Nat.le_of_ble_eq_true rfl) dX12_readsSum_140 rfl ?_
  refine q_if_eq 146 hX 156 dX12_readsSum_143 rfl (by decide) (fun hc => ?_) (fun hc => ?_)
  · have hres := it_t hc hres
    refine q_aload_n 157 hX 0 dX12_readsSum_156 rfl rfl rfl ?_
    refine q_iconst 158 hX dX12_readsSum_157 rfl kI_1 ?_
    obtain ⟨S2, hk3, hres⟩ := obv hres
    refine q_callVv 161 (st := []) (As := [.int (1 : Int32)]) hX (cX12_closesSums9 hX.dj hk3) cv_RX12_225 ci12 oB_55 rfl (by decide) rfl (Nat.le_of_ble_eq_true rfl) dX12_readsSum_158 rfl ?_
    refine q_iconst 162 hX dX12_readsSum_161 rfl kI_1 ?_
    exact q_zret hX (by decide) (eqi hq hres) dX12_readsSum_162
  · have hres := it_f hc hres
    refine q_aload_n 147 hX 0 dX12_readsSum_146 rfl rfl rfl ?_
    refine q_iconst 148 hX dX12_readsSum_147 rfl kI_1 ?_
    refine q_aload_n 149 hX 0 dX12_readsSum_148 rfl rfl rfl ?_
    refine q_getI 152 hX ci12 lf_RX12_169 fI_55_12 dX12_readsSum_149 rfl ?_
    obtain ⟨r5, S3, hk4, hres⟩ := ob hres
    refine q_callVi 155 (st := []) (As := [.int (1 : Int32), .int (S1.1 55 12)]) hX (cX12_wrongAt9 hX.dj hk4) cv_RX12_182 ci12 oB_55 rfl (by decide) rfl (Nat.le_of_ble_eq_true rfl) dX12_readsSum_152 rfl ?_
    obtain ⟨hz6, hres⟩ := gd hres
    exact q_zret hX hz6 (eqi hq hres) dX12_readsSum_155
def bX12_readsSum_14 (rc14 : St → Int32 → Option (Int32 × St)) (S : St) (x1 : Int32) : Option (Int32 × St) :=
  bi (fX12_here S) fun r2 S1 => bi (fX12_sumSign S1 r2) fun r4 S2 => if r4 = (-1 : Int32) then (bi (fX12_here S2) fun r6 S3 => if r6 = (93 : Int32) then (bi (fX12_hasOpenSum S3 x1) fun r8 S4 => if r8 = 0 then (fX12_readsSum_138 S4 x1) else (bv (fX12_closesSums S4 (1 : Int32)) fun S5 => bS (pI S5 55 18 ((S5.1 55 18) - (1 : Int32))) fun S6 => bS (pI S6 55 16 ((S6.1 55 16) - (1 : Int32))) fun S7 => bS (pI S7 55 12 ((S7.1 55 12) + (1 : Int32))) fun S8 => rc14 S8 x1)) else (fX12_readsSum_138 S3 x1)) else (if (4 : Int32) ≤ r4 then (fX12_readsSum_38 rc14 S2 x1 r4 (0 : Int32)) else (fX12_readsSum_38 rc14 S2 x1 r4 (1 : Int32)))
theorem wbX12_readsSum_14 {X : CX} (hX : Ok RX12 cX12_readsSum (some .boolean) 55 40 3 X) {rr : Int32 × St} (hq : rs X = (some (.int rr.1), rr.2)) {rc14 : St → Int32 → Option (Int32 × St)} (hrc14 : ∀ (S : St) (x1 : Int32), rc14 S x1 = some rr → Wat 55 40 4 3 X 14 [(0, .ref (ad X 55)), (1, .int x1)] [] S) {S : St} {x1 : Int32} (hres : bX12_readsSum_14 rc14 S x1 = some rr) : Wat 55 40 4 3 X 14 [(0, .ref (ad X 55)), (1, .int x1)] [] S := by
  unfold bX12_readsSum_14 at hres
  refine q_aload_n 15 hX 0 dX12_readsSum_14 rfl rfl rfl ?_
  obtain ⟨r2, S1, hk1, hres⟩ := ob hres
  refine q_callVi 18 (st := []) (As := []) hX (cX12_here9 hX.dj hk1) cv_RX12_175 ci12 oB_55 rfl (by decide) rfl (Nat.le_of_ble_eq_true rfl) dX12_readsSum_15 rfl ?_
  obtain ⟨r4, S2, hk3, hres⟩ := ob hres
  refine q_callSi 21 (st := []) (As := [.int r2]) hX (cX12_sumSign9 hX.dj hk3) cs_RX12_222 rfl (by decide) rfl (Nat.le_of_ble_eq_true rfl) dX12_readsSum_18 rfl ?_
  refine q_istore_n 22 (lv' := [(2, .int r4), (0, .ref (ad X 55)), (1, .int x1)]) hX dX12_readsSum_21 rfl rfl (by decide) rfl ?_
  refine q_iload_n 23 hX 0 dX12_readsSum_22 rfl rfl rfl ?_
  refine q_iconst 24 hX dX12_readsSum_23 rfl kI_m1 ?_
  refine q_icmp_eq 27 hX 83 dX12_readsSum_24 rfl (by decide) (fun hc => ?_) (fun hc => ?_)
  · have hres := it_t hc hres
    refine q_aload_n 84 hX 1 dX12_readsSum_83 rfl rfl rfl ?_
    obtain ⟨r6, S3, hk5, hres⟩ := ob hres
    refine q_callVi 87 (st := []) (As := []) hX (cX12_here9 hX.dj hk5) cv_RX12_175 ci12 oB_55 rfl (by decide) rfl (Nat.le_of_ble_eq_true rfl) dX12_readsSum_84 rfl ?_
    refine q_bipush 89 hX dX12_readsSum_87 rfl kB_93 ?_
    refine q_icmp_ne 92 hX 138 dX12_readsSum_89 rfl (by decide) (fun hc => ?_) (fun hc => ?_)
    · have hres := it_f hc hres
      exact q_sub [1, 2] rfl (wfX12_readsSum_138 hX hq hres)
    · have hres := it_t hc hres
      refine q_aload_n 93 hX 1 dX12_readsSum_92 rfl rfl rfl ?_
      refine q_iload_n 94 hX 2 dX12_readsSum_93 rfl rfl rfl ?_
      obtain ⟨r8, S4, hk7, hres⟩ := ob hres
      refine q_callVi 97 (st := []) (As := [.int x1]) hX (cX12_hasOpenSum9 hX.dj hk7) cv_RX12_229 ci12 oB_55 rfl (by decide) rfl (Nat.le_of_ble_eq_true rfl) dX12_readsSum_94 rfl ?_
      refine q_if_eq 100 hX 138 dX12_readsSum_97 rfl (by decide) (fun hc => ?_) (fun hc => ?_)
      · have hres := it_t hc hres
        exact q_sub [1, 2] rfl (wfX12_readsSum_138 hX hq hres)
      · have hres := it_f hc hres
        refine q_aload_n 101 hX 1 dX12_readsSum_100 rfl rfl rfl ?_
        refine q_iconst 102 hX dX12_readsSum_101 rfl kI_1 ?_
        obtain ⟨S5, hk9, hres⟩ := obv hres
        refine q_callVv 105 (st := []) (As := [.int (1 : Int32)]) hX (cX12_closesSums9 hX.dj hk9) cv_RX12_225 ci12 oB_55 rfl (by decide) rfl (Nat.le_of_ble_eq_true rfl) dX12_readsSum_102 rfl ?_
        refine q_aload_n 106 hX 1 dX12_readsSum_105 rfl rfl rfl ?_
        refine q_aload_n 107 hX 1 dX12_readsSum_106 rfl rfl rfl ?_
        refine q_getI 110 hX ci12 lf_RX12_199 fI_55_18 dX12_readsSum_107 rfl ?_
        refine q_iconst 111 hX dX12_readsSum_110 rfl kI_1 ?_
        refine q_isub 112 hX dX12_readsSum_111 rfl ?_
        refine q_putI 115 hX ci12 lf_RX12_199 fI_55_18 (nar_i rfl) dX12_readsSum_112 rfl ?_
        refine q_bS hres (fun S6 _ hres => ?_)
        refine q_aload_n 116 hX 1 dX12_readsSum_115 rfl rfl rfl ?_
        refine q_aload_n 117 hX 1 dX12_readsSum_116 rfl rfl rfl ?_
        refine q_getI 120 hX ci12 lf_RX12_196 fI_55_16 dX12_readsSum_117 rfl ?_
        refine q_iconst 121 hX dX12_readsSum_120 rfl kI_1 ?_
        refine q_isub 122 hX dX12_readsSum_121 rfl ?_
        refine q_putI 125 hX ci12 lf_RX12_196 fI_55_16 (nar_i rfl) dX12_readsSum_122 rfl ?_
        refine q_bS hres (fun S7 _ hres => ?_)
        refine q_aload_n 126 hX 1 dX12_readsSum_125 rfl rfl rfl ?_
        refine q_aload_n 127 hX 1 dX12_readsSum_126 rfl rfl rfl ?_
        refine q_getI 130 hX ci12 lf_RX12_169 fI_55_12 dX12_readsSum_127 rfl ?_
        refine q_iconst 131 hX dX12_readsSum_130 rfl kI_1 ?_
        refine q_iadd 132 hX dX12_readsSum_131 rfl ?_
        refine q_putI 135 hX ci12 lf_RX12_169 fI_55_12 (nar_i rfl) dX12_readsSum_132 rfl ?_
        refine q_bS hres (fun S8 _ hres => ?_)
        refine q_goto 163 hX dX12_readsSum_135 (by decide) ?_
        refine q_goto 14 hX dX12_readsSum_163 (by decide) ?_
        exact q_sub [1, 2] rfl (hrc14 _ _ hres)
  · have hres := it_f hc hres
    refine q_aload_n 28 hX 1 dX12_readsSum_27 rfl rfl rfl ?_
    refine q_iload_n 29 hX 0 dX12_readsSum_28 rfl rfl rfl ?_
    refine q_iconst 30 hX dX12_readsSum_29 rfl kI_4 ?_
    refine q_icmp_ge 33 hX 37 dX12_readsSum_30 rfl (by decide) (fun hc => ?_) (fun hc => ?_)
    · have hres := it_t hc hres
      refine q_iconst 38 hX dX12_readsSum_37 rfl kI_0 ?_
      exact q_sub [1, 2, 0] rfl (wfX12_readsSum_38 hX hq hrc14 hres)
    · have hres := it_f hc hres
      refine q_iconst 34 hX dX12_readsSum_33 rfl kI_1 ?_
      refine q_goto 38 hX dX12_readsSum_34 (by decide) ?_
      exact q_sub [1, 2, 0] rfl (wfX12_readsSum_38 hX hq hrc14 hres)
def fX12_readsSum_14 : Nat → St → Int32 → Option (Int32 × St)
  | 0 => fun _ _ => none
  | k + 1 => fun S x1 => bX12_readsSum_14 (fX12_readsSum_14 k) S x1
theorem wfX12_readsSum_14 {X : CX} (hX : Ok RX12 cX12_readsSum (some .boolean) 55 40 3 X) {rr : Int32 × St} (hq : rs X = (some (.int rr.1), rr.2)) (k : Nat) : ∀ (S : St) (x1 : Int32), fX12_readsSum_14 k S x1 = some rr → Wat 55 40 4 3 X 14 [(0, .ref (ad X 55)), (1, .int x1)] [] S := by
  induction k with
  | zero => intro S x1 hres; exact absurd hres (by simp [fX12_readsSum_14])
  | succ k ih => intro S x1 hres; exact wbX12_readsSum_14 hX hq ih hres
def fX12_readsSum (S : St) : Option (Int32 × St) :=
  bV ((S.1 55 18)) fun v1 => bi (fX12_readsFactor S) fun r3 S1 => if r3 = 0 then (some ((0 : Int32), S1)) else (fX12_readsSum_14 260 S1 v1)
theorem wfX12_readsSum {X : CX} (hX : Ok RX12 cX12_readsSum (some .boolean) 55 40 3 X) {rr : Int32 × St} (hq : rs X = (some (.int rr.1), rr.2)) {S : St} (hres : fX12_readsSum S = some rr) : Wat 55 40 4 3 X 0 [(0, .ref (ad X 55))] [] S := by
  unfold fX12_readsSum at hres
  refine q_aload_n 1 hX 0 dX12_readsSum_0 rfl rfl rfl ?_
  refine q_getI 4 hX ci12 lf_RX12_199 fI_55_18 dX12_readsSum_1 rfl ?_
  refine q_istoreB_n 5 (lv0 := [(0, .ref (ad X 55))]) hX dX12_readsSum_4 rfl rfl (by decide) rfl hres (fun v1 hres => ?_)
  refine q_aload_n 6 hX 1 dX12_readsSum_5 rfl rfl rfl ?_
  obtain ⟨r3, S1, hk2, hres⟩ := ob hres
  refine q_callVi 9 (st := []) (As := []) hX (cX12_readsFactor9 hX.dj hk2) cv_RX12_219 ci12 oB_55 rfl (by decide) rfl (Nat.le_of_ble_eq_true rfl) dX12_readsSum_6 rfl ?_
  refine q_if_ne 12 hX 14 dX12_readsSum_9 rfl (by decide) (fun hc => ?_) (fun hc => ?_)
  · have hres := it_f hc hres
    exact q_sub [1, 0] rfl (wfX12_readsSum_14 hX hq _ _ _ hres)
  · have hres := it_t hc hres
    refine q_iconst 13 hX dX12_readsSum_12 rfl kI_0 ?_
    exact q_zret hX (by decide) (eqi hq hres) dX12_readsSum_13
theorem cX12_readsSum9 {l : Launch} {w : WD} (hj : Dj w 55 40) {rr : Int32 × St} {S : St} (hres : fX12_readsSum S = some rr) : Ct l yX12_readsSum cX12_readsSum 3 (some .boolean) 4 w 55 40 [.ref (w.1 55)] S (some (.int rr.1), rr.2) := by
  refine Ct.of (lv := [(0, .ref (w.1 55))]) hj (by decide +kernel) (Nat.le_of_ble_eq_true rfl) rfl ?_
  rintro X rfl rfl hq hX
  exact wfX12_readsSum hX hq hres
def bX12_endsPiece_0 (rc0 : St → Option (St)) (S : St) : Option (St) :=
  bi (fX12_waitTop S) fun r2 S1 => if r2 = (10 : Int32) then (bv (fX12_notes S1 (10 : Int32) (0 : Int32)) fun S2 => bS (pI S2 55 18 ((S2.1 55 18) - (1 : Int32))) fun S3 => bS (pI S3 55 16 ((S3.1 55 16) - (1 : Int32))) fun S4 => rc0 S4) else (some S1)
theorem wbX12_endsPiece_0 {X : CX} (hX : Ok RX12 cX12_endsPiece none 55 40 1 X) {rr : St} (hq : rs X = (none, rr)) {rc0 : St → Option (St)} (hrc0 : ∀ (S : St), rc0 S = some rr → Wat 55 40 1 1 X 0 [(0, .ref (ad X 55))] [] S) {S : St} (hres : bX12_endsPiece_0 rc0 S = some rr) : Wat 55 40 1 1 X 0 [(0, .ref (ad X 55))] [] S := by
  unfold bX12_endsPiece_0 at hres
  refine q_aload_n 1 hX 0 dX12_endsPiece_0 rfl rfl rfl ?_
  obtain ⟨r2, S1, hk1, hres⟩ := ob hres
  refine q_callVi 4 (st := []) (As := []) hX (cX12_waitTop9 hX.dj hk1) cv_RX12_202 ci12 oB_55 rfl (by decide) rfl (Nat.le_of_ble_eq_true rfl) dX12_endsPiece_1 rfl ?_
  refine q_bipush 6 hX dX12_endsPiece_4 rfl kB_10 ?_
  refine q_icmp_ne 9 hX 39 dX12_endsPiece_6 rfl (by decide) (fun hc => ?_) (fun hc => ?_)
  · have hres := it_f hc hres
    exact q_vret hX (eqv hq hres) dX12_endsPiece_39
  · have hres := it_t hc hres
    refine q_aload_n 10 hX 0 dX12_endsPiece_9 rfl rfl rfl ?_
    refine q_bipush 12 hX dX12_endsPiece_10 rfl kB_10 ?_
    refine q_iconst 13 hX dX12_endsPiece_12 rfl kI_0 ?_
    obtain ⟨S2, hk3, hres⟩ := obv hres
    refine q_callVv 16 (st := []) (As := [.int (10 : Int32), .int (0 : Int32)]) hX (cX12_notes9 hX.dj hk3) cv_RX12_205 ci12 oB_55 rfl (by decide) rfl (Nat.le_of_ble_eq_true rfl) dX12_endsPiece_13 rfl ?_
    refine q_aload_n 17 hX 0 dX12_endsPiece_16 rfl rfl rfl ?_
    refine q_aload_n 18 hX 0 dX12_endsPiece_17 rfl rfl rfl ?_
    refine q_getI 21 hX ci12 lf_RX12_199 fI_55_18 dX12_endsPiece_18 rfl ?_
    refine q_iconst 22 hX dX12_endsPiece_21 rfl kI_1 ?_
    refine q_isub 23 hX dX12_endsPiece_22 rfl ?_
    refine q_putI 26 hX ci12 lf_RX12_199 fI_55_18 (nar_i rfl) dX12_endsPiece_23 rfl ?_
    refine q_bS hres (fun S3 _ hres => ?_)
    refine q_aload_n 27 hX 0 dX12_endsPiece_26 rfl rfl rfl ?_
    refine q_aload_n 28 hX 0 dX12_endsPiece_27 rfl rfl rfl ?_
    refine q_getI 31 hX ci12 lf_RX12_196 fI_55_16 dX12_endsPiece_28 rfl ?_
    refine q_iconst 32 hX dX12_endsPiece_31 rfl kI_1 ?_
    refine q_isub 33 hX dX12_endsPiece_32 rfl ?_
    refine q_putI 36 hX ci12 lf_RX12_196 fI_55_16 (nar_i rfl) dX12_endsPiece_33 rfl ?_
    refine q_bS hres (fun S4 _ hres => ?_)
    refine q_goto 0 hX dX12_endsPiece_36 (by decide) ?_
    exact q_sub [0] rfl (hrc0 _ hres)
def fX12_endsPiece_0 : Nat → St → Option (St)
  | 0 => fun _ => none
  | k + 1 => fun S => bX12_endsPiece_0 (fX12_endsPiece_0 k) S
theorem wfX12_endsPiece_0 {X : CX} (hX : Ok RX12 cX12_endsPiece none 55 40 1 X) {rr : St} (hq : rs X = (none, rr)) (k : Nat) : ∀ (S : St), fX12_endsPiece_0 k S = some rr → Wat 55 40 1 1 X 0 [(0, .ref (ad X 55))] [] S := by
  induction k with
  | zero => intro S hres; exact absurd hres (by simp [fX12_endsPiece_0])
  | succ k ih => intro S hres; exact wbX12_endsPiece_0 hX hq ih hres
def fX12_endsPiece (S : St) : Option (St) := fX12_endsPiece_0 100 S
theorem cX12_endsPiece9 {l : Launch} {w : WD} (hj : Dj w 55 40) {rr : St} {S : St} (hres : fX12_endsPiece S = some rr) : Ct l yX12_endsPiece cX12_endsPiece 1 none 1 w 55 40 [.ref (w.1 55)] S (none, rr) := by
  refine Ct.of (lv := [(0, .ref (w.1 55))]) hj (by decide +kernel) (Nat.le_of_ble_eq_true rfl) rfl ?_
  rintro X rfl rfl hq hX
  exact wfX12_endsPiece_0 hX hq _ _ hres
def fX12_lands_22 (rc0 : St → Int32 → Option (St)) (S : St) (x1 : Int32) : Option (St) :=
  if inb ((S.1 55 18) - (1 : Int32)) 260 = true then bV (((S.1 66 (((S.1 55 18) - (1 : Int32)).toNatClampNeg)) - (S.1 66 (((S.1 55 18) - (1 : Int32)).toNatClampNeg)) / (1048576 : Int32) * (1048576 : Int32))) fun v2 => if inb v2 260 = true then if inb v2 260 = true then bS (pI S 65 (v2.toNatClampNeg) (((1048576 : Int32) * ((S.1 65 (v2.toNatClampNeg)) / (1048576 : Int32))) + (S.1 55 17))) fun S1 => bS (pI S1 55 18 ((S1.1 55 18) - (1 : Int32))) fun S2 => rc0 S2 x1 else none else none else none
theorem wfX12_lands_22 {X : CX} (hX : Ok RX12 cX12_lands none 55 40 3 X) {rr : St} (hq : rs X = (none, rr)) {rc0 : St → Int32 → Option (St)} (hrc0 : ∀ (S : St) (x1 : Int32), rc0 S x1 = some rr → Wat 55 40 1 3 X 0 [(0, .ref (ad X 55)), (1, .int x1)] [] S) {S : St} {x1 : Int32} (hres : fX12_lands_22 rc0 S x1 = some rr) : Wat 55 40 1 3 X 22 [(0, .ref (ad X 55)), (1, .int x1)] [] S := by
  unfold fX12_lands_22 at hres
  refine q_aload_n 23 hX 0 dX12_lands_22 rfl rfl rfl ?_
  refine q_getR 26 hX ci12 lf_RX12_41 fR_55_22 dX12_lands_23 rfl ?_
  refine q_aload_n 27 hX 0 dX12_lands_26 rfl rfl rfl ?_
  refine q_getI 30 hX ci12 lf_RX12_199 fI_55_18 dX12_lands_27 rfl ?_
  refine q_iconst 31 hX dX12_lands_30 rfl kI_1 ?_
  refine q_isub 32 hX dX12_lands_31 rfl ?_
  obtain ⟨hb1, hres⟩ := gd hres
  refine q_iald 33 hX rfl aF_66 hb1 dX12_lands_32 rfl ?_
  refine q_ldc 35 hX dX12_lands_33 rfl gw748 ?_
  refine q_irem 36 hX dX12_lands_35 rfl (by decide) ?_
  refine q_istoreB_n 37 (lv0 := [(0, .ref (ad X 55)), (1, .int x1)]) hX dX12_lands_36 rfl rfl (by decide) rfl hres (fun v2 hres => ?_)
  refine q_aload_n 38 hX 1 dX12_lands_37 rfl rfl rfl ?_
  refine q_getR 41 hX ci12 lf_RX12_38 fR_55_21 dX12_lands_38 rfl ?_
  refine q_iload_n 42 hX 0 dX12_lands_41 rfl rfl rfl ?_
  refine q_ldc 44 hX dX12_lands_42 rfl gw748 ?_
  refine q_aload_n 45 hX 1 dX12_lands_44 rfl rfl rfl ?_
  refine q_getR 48 hX ci12 lf_RX12_38 fR_55_21 dX12_lands_45 rfl ?_
  refine q_iload_n 49 hX 0 dX12_lands_48 rfl rfl rfl ?_
  obtain ⟨hb3, hres⟩ := gd hres
  refine q_iald 50 hX rfl aF_65 hb3 dX12_lands_49 rfl ?_
  refine q_ldc 52 hX dX12_lands_50 rfl gw748 ?_
  refine q_idiv 53 hX dX12_lands_52 rfl (by decide) ?_
  refine q_imul 54 hX dX12_lands_53 rfl ?_
  refine q_aload_n 55 hX 1 dX12_lands_54 rfl rfl rfl ?_
  refine q_getI 58 hX ci12 lf_RX12_192 fI_55_17 dX12_lands_55 rfl ?_
  refine q_iadd 59 hX dX12_lands_58 rfl ?_
  obtain ⟨hb4, hres⟩ := gd hres
  refine q_iast 60 hX rfl aF_65 hb4 dX12_lands_59 rfl ?_
  refine q_bS hres (fun S1 _ hres => ?_)
  refine q_aload_n 61 hX 1 dX12_lands_60 rfl rfl rfl ?_
  refine q_aload_n 62 hX 1 dX12_lands_61 rfl rfl rfl ?_
  refine q_getI 65 hX ci12 lf_RX12_199 fI_55_18 dX12_lands_62 rfl ?_
  refine q_iconst 66 hX dX12_lands_65 rfl kI_1 ?_
  refine q_isub 67 hX dX12_lands_66 rfl ?_
  refine q_putI 70 hX ci12 lf_RX12_199 fI_55_18 (nar_i rfl) dX12_lands_67 rfl ?_
  refine q_bS hres (fun S2 _ hres => ?_)
  refine q_goto 0 hX dX12_lands_70 (by decide) ?_
  exact q_sub [1, 2] rfl (hrc0 _ _ hres)
def bX12_lands_0 (rc0 : St → Int32 → Option (St)) (S : St) (x1 : Int32) : Option (St) :=
  bi (fX12_waitTop S) fun r2 S1 => if r2 = (11 : Int32) then (fX12_lands_22 rc0 S1 x1) else (if x1 = 0 then (some S1) else (bi (fX12_waitTop S1) fun r4 S2 => if r4 = (12 : Int32) then (fX12_lands_22 rc0 S2 x1) else (some S2)))
theorem wbX12_lands_0 {X : CX} (hX : Ok RX12 cX12_lands none 55 40 3 X) {rr : St} (hq : rs X = (none, rr)) {rc0 : St → Int32 → Option (St)} (hrc0 : ∀ (S : St) (x1 : Int32), rc0 S x1 = some rr → Wat 55 40 1 3 X 0 [(0, .ref (ad X 55)), (1, .int x1)] [] S) {S : St} {x1 : Int32} (hres : bX12_lands_0 rc0 S x1 = some rr) : Wat 55 40 1 3 X 0 [(0, .ref (ad X 55)), (1, .int x1)] [] S := by
  unfold bX12_lands_0 at hres
  refine q_aload_n 1 hX 0 dX12_lands_0 rfl rfl rfl ?_
  obtain ⟨r2, S1, hk1, hres⟩ := ob hres
  refine q_callVi 4 (st := []) (As := []) hX (cX12_waitTop9 hX.dj hk1) cv_RX12_202 ci12 oB_55 rfl (by decide) rfl (Nat.le_of_ble_eq_true rfl) dX12_lands_1 rfl ?_
  refine q_bipush 6 hX dX12_lands_4 rfl kB_11 ?_
  refine q_icmp_eq 9 hX 22 dX12_lands_6 rfl (by decide) (fun hc => ?_) (fun hc => ?_)
  · have hres := it_t hc hres
    exact q_sub [0, 1] rfl (wfX12_lands_22 hX hq hrc0 hres)
  · have hres := it_f hc hres
    refine q_iload_n 10 hX 1 dX12_lands_9 rfl rfl rfl ?_
    refine q_if_eq 13 hX 73 dX12_lands_10 rfl (by decide) (fun hc => ?_) (fun hc => ?_)
    · have hres := it_t hc hres
      exact q_vret hX (eqv hq hres) dX12_lands_73
    · have hres := it_f hc hres
      refine q_aload_n 14 hX 0 dX12_lands_13 rfl rfl rfl ?_
      obtain ⟨r4, S2, hk3, hres⟩ := ob hres
      refine q_callVi 17 (st := []) (As := []) hX (cX12_waitTop9 hX.dj hk3) cv_RX12_202 ci12 oB_55 rfl (by decide) rfl (Nat.le_of_ble_eq_true rfl) dX12_lands_14 rfl ?_
      refine q_bipush 19 hX dX12_lands_17 rfl kB_12 ?_
      refine q_icmp_ne 22 hX 73 dX12_lands_19 rfl (by decide) (fun hc => ?_) (fun hc => ?_)
      · have hres := it_f hc hres
        exact q_vret hX (eqv hq hres) dX12_lands_73
      · have hres := it_t hc hres
        exact q_sub [0, 1] rfl (wfX12_lands_22 hX hq hrc0 hres)
def fX12_lands_0 : Nat → St → Int32 → Option (St)
  | 0 => fun _ _ => none
  | k + 1 => fun S x1 => bX12_lands_0 (fX12_lands_0 k) S x1
theorem wfX12_lands_0 {X : CX} (hX : Ok RX12 cX12_lands none 55 40 3 X) {rr : St} (hq : rs X = (none, rr)) (k : Nat) : ∀ (S : St) (x1 : Int32), fX12_lands_0 k S x1 = some rr → Wat 55 40 1 3 X 0 [(0, .ref (ad X 55)), (1, .int x1)] [] S := by
  induction k with
  | zero => intro S x1 hres; exact absurd hres (by simp [fX12_lands_0])
  | succ k ih => intro S x1 hres; exact wbX12_lands_0 hX hq ih hres
def fX12_lands (S : St) (x1 : Int32) : Option (St) := fX12_lands_0 100 S x1
theorem cX12_lands9 {l : Launch} {w : WD} (hj : Dj w 55 40) {rr : St} {S : St} {x1 : Int32} (hres : fX12_lands S x1 = some rr) : Ct l yX12_lands cX12_lands 3 none 1 w 55 40 [.ref (w.1 55), .int x1] S (none, rr) := by
  refine Ct.of (lv := [(0, .ref (w.1 55)), (1, .int x1)]) hj (by decide +kernel) (Nat.le_of_ble_eq_true rfl) rfl ?_
  rintro X rfl rfl hq hX
  exact wfX12_lands_0 hX hq _ _ _ hres
def fX12_jumps (S : St) (x1 : Int32) : Option (St) :=
  if inb (S.1 55 18) 260 = true then bS (pI S 66 ((S.1 55 18).toNatClampNeg) (((1048576 : Int32) * x1) + (S.1 55 17))) fun S1 => bS (pI S1 55 18 ((S1.1 55 18) + (1 : Int32))) fun S2 => bv (fX12_notes S2 x1 (0 : Int32)) fun S3 => bS (pI S3 55 12 ((S3.1 55 12) + (1 : Int32))) fun S4 => some S4 else none
theorem wfX12_jumps {X : CX} (hX : Ok RX12 cX12_jumps none 55 40 2 X) {rr : St} (hq : rs X = (none, rr)) {S : St} {x1 : Int32} (hres : fX12_jumps S x1 = some rr) : Wat 55 40 1 2 X 0 [(0, .ref (ad X 55)), (1, .int x1)] [] S := by
  unfold fX12_jumps at hres
  refine q_aload_n 1 hX 0 dX12_jumps_0 rfl rfl rfl ?_
  refine q_getR 4 hX ci12 lf_RX12_41 fR_55_22 dX12_jumps_1 rfl ?_
  refine q_aload_n 5 hX 0 dX12_jumps_4 rfl rfl rfl ?_
  refine q_getI 8 hX ci12 lf_RX12_199 fI_55_18 dX12_jumps_5 rfl ?_
  refine q_ldc 10 hX dX12_jumps_8 rfl gw748 ?_
  refine q_iload_n 11 hX 1 dX12_jumps_10 rfl rfl rfl ?_
  refine q_imul 12 hX dX12_jumps_11 rfl ?_
  refine q_aload_n 13 hX 0 dX12_jumps_12 rfl rfl rfl ?_
  refine q_getI 16 hX ci12 lf_RX12_192 fI_55_17 dX12_jumps_13 rfl ?_
  refine q_iadd 17 hX dX12_jumps_16 rfl ?_
  obtain ⟨hb1, hres⟩ := gd hres
  refine q_iast 18 hX rfl aF_66 hb1 dX12_jumps_17 rfl ?_
  refine q_bS hres (fun S1 _ hres => ?_)
  refine q_aload_n 19 hX 0 dX12_jumps_18 rfl rfl rfl ?_
  refine q_aload_n 20 hX 0 dX12_jumps_19 rfl rfl rfl ?_
  refine q_getI 23 hX ci12 lf_RX12_199 fI_55_18 dX12_jumps_20 rfl ?_
  refine q_iconst 24 hX dX12_jumps_23 rfl kI_1 ?_
  refine q_iadd 25 hX dX12_jumps_24 rfl ?_
  refine q_putI 28 hX ci12 lf_RX12_199 fI_55_18 (nar_i rfl) dX12_jumps_25 rfl ?_
  refine q_bS hres (fun S2 _ hres => ?_)
  refine q_aload_n 29 hX 0 dX12_jumps_28 rfl rfl rfl ?_
  refine q_iload_n 30 hX 1 dX12_jumps_29 rfl rfl rfl ?_
  refine q_iconst 31 hX dX12_jumps_30 rfl kI_0 ?_
  obtain ⟨S3, hk2, hres⟩ := obv hres
  refine q_callVv 34 (st := []) (As := [.int x1, .int (0 : Int32)]) hX (cX12_notes9 hX.dj hk2) cv_RX12_205 ci12 oB_55 rfl (by decide) rfl (Nat.le_of_ble_eq_true rfl) dX12_jumps_31 rfl ?_
  refine q_aload_n 35 hX 0 dX12_jumps_34 rfl rfl rfl ?_
  refine q_aload_n 36 hX 0 dX12_jumps_35 rfl rfl rfl ?_
  refine q_getI 39 hX ci12 lf_RX12_169 fI_55_12 dX12_jumps_36 rfl ?_
  refine q_iconst 40 hX dX12_jumps_39 rfl kI_1 ?_
  refine q_iadd 41 hX dX12_jumps_40 rfl ?_
  refine q_putI 44 hX ci12 lf_RX12_169 fI_55_12 (nar_i rfl) dX12_jumps_41 rfl ?_
  refine q_bS hres (fun S4 _ hres => ?_)
  exact q_vret hX (eqv hq hres) dX12_jumps_44
theorem cX12_jumps9 {l : Launch} {w : WD} (hj : Dj w 55 40) {rr : St} {S : St} {x1 : Int32} (hres : fX12_jumps S x1 = some rr) : Ct l yX12_jumps cX12_jumps 2 none 1 w 55 40 [.ref (w.1 55), .int x1] S (none, rr) := by
  refine Ct.of (lv := [(0, .ref (w.1 55)), (1, .int x1)]) hj (by decide +kernel) (Nat.le_of_ble_eq_true rfl) rfl ?_
  rintro X rfl rfl hq hX
  exact wfX12_jumps hX hq hres
def fX12_readsCompared_52 (S : St) (s0 : Int32) : Option (Int32 × St) :=
  if s0 = (-1 : Int32) then (bi (fX12_wrongAt S (1 : Int32) (S.1 55 12)) fun r6 S5 => if r6 = 0 ∨ r6 = 1 then some (r6, S5) else none) else (bS (pI S 55 12 ((S.1 55 12) + (1 : Int32))) fun S1 => bi (fX12_readsSum S1) fun r2 S2 => if r2 = 0 then (some ((0 : Int32), S2)) else (bv (fX12_notes S2 s0 (0 : Int32)) fun S3 => bv (fX12_endsPiece S3) fun S4 => some ((1 : Int32), S4)))
theorem wfX12_readsCompared_52 {X : CX} (hX : Ok RX12 cX12_readsCompared (some .boolean) 55 40 2 X) {rr : Int32 × St} (hq : rs X = (some (.int rr.1), rr.2)) {S : St} {s0 : Int32} (hres : fX12_readsCompared_52 S s0 = some rr) : Wat 55 40 5 2 X 52 [(0, .ref (ad X 55))] [.int s0] S := by
  unfold fX12_readsCompared_52 at hres
  refine q_istore_n 53 (lv' := [(1, .int s0), (0, .ref (ad X 55))]) hX dX12_readsCompared_52 rfl rfl (by decide) rfl ?_
  refine q_iload_n 54 hX 0 dX12_readsCompared_53 rfl rfl rfl ?_
  refine q_iconst 55 hX dX12_readsCompared_54 rfl kI_m1 ?_
  refine q_icmp_ne 58 hX 68 dX12_readsCompared_55 rfl (by decide) (fun hc => ?_) (fun hc => ?_)
  · have hres := it_f hc hres
    refine q_aload_n 69 hX 1 dX12_readsCompared_68 rfl rfl rfl ?_
    refine q_aload_n 70 hX 1 dX12_readsCompared_69 rfl rfl rfl ?_
    refine q_getI 73 hX ci12 lf_RX12_169 fI_55_12 dX12_readsCompared_70 rfl ?_
    refine q_iconst 74 hX dX12_readsCompared_73 rfl kI_1 ?_
    refine q_iadd 75 hX dX12_readsCompared_74 rfl ?_
    refine q_putI 78 hX ci12 lf_RX12_169 fI_55_12 (nar_i rfl) dX12_readsCompared_75 rfl ?_
    refine q_bS hres (fun S1 _ hres => ?_)
    refine q_aload_n 79 hX 1 dX12_readsCompared_78 rfl rfl rfl ?_
    obtain ⟨r2, S2, hk1, hres⟩ := ob hres
    refine q_callVi 82 (st := []) (As := []) hX (cX12_readsSum9 hX.dj hk1) cv_RX12_232 ci12 oB_55 rfl (by decide) rfl (Nat.le_of_ble_eq_true rfl) dX12_readsCompared_79 rfl ?_
    refine q_if_ne 85 hX 87 dX12_readsCompared_82 rfl (by decide) (fun hc => ?_) (fun hc => ?_)
    · have hres := it_f hc hres
      refine q_aload_n 88 hX 1 dX12_readsCompared_87 rfl rfl rfl ?_
      refine q_iload_n 89 hX 0 dX12_readsCompared_88 rfl rfl rfl ?_
      refine q_iconst 90 hX dX12_readsCompared_89 rfl kI_0 ?_
      obtain ⟨S3, hk3, hres⟩ := obv hres
      refine q_callVv 93 (st := []) (As := [.int s0, .int (0 : Int32)]) hX (cX12_notes9 hX.dj hk3) cv_RX12_205 ci12 oB_55 rfl (by decide) rfl (Nat.le_of_ble_eq_true rfl) dX12_readsCompared_90 rfl ?_
      refine q_aload_n 94 hX 1 dX12_readsCompared_93 rfl rfl rfl ?_
      obtain ⟨S4, hk4, hres⟩ := obv hres
      refine q_callVv 97 (st := []) (As := []) hX (cX12_endsPiece9 hX.dj hk4) cv_RX12_235 ci12 oB_55 rfl (by decide) rfl (Nat.le_of_ble_eq_true rfl) dX12_readsCompared_94 rfl ?_
      refine q_iconst 98 hX dX12_readsCompared_97 rfl kI_1 ?_
      exact q_zret hX (by decide) (eqi hq hres) dX12_readsCompared_98
    · have hres := it_t hc hres
      refine q_iconst 86 hX dX12_readsCompared_85 rfl kI_0 ?_
      exact q_zret hX (by decide) (eqi hq hres) dX12_readsCompared_86
  · have hres := it_t hc hres
    refine q_aload_n 59 hX 1 dX12_readsCompared_58 rfl rfl rfl ?_
    refine q_iconst 60 hX dX12_readsCompared_59 rfl kI_1 ?_
    refine q_aload_n 61 hX 1 dX12_readsCompared_60 rfl rfl rfl ?_
    refine q_getI 64 hX ci12 lf_RX12_169 fI_55_12 dX12_readsCompared_61 rfl ?_
    obtain ⟨r6, S5, hk5, hres⟩ := ob hres
    refine q_callVi 67 (st := []) (As := [.int (1 : Int32), .int (S.1 55 12)]) hX (cX12_wrongAt9 hX.dj hk5) cv_RX12_182 ci12 oB_55 rfl (by decide) rfl (Nat.le_of_ble_eq_true rfl) dX12_readsCompared_64 rfl ?_
    obtain ⟨hz7, hres⟩ := gd hres
    exact q_zret hX hz7 (eqi hq hres) dX12_readsCompared_67
def fX12_readsCompared (S : St) : Option (Int32 × St) :=
  bi (fX12_readsSum S) fun r2 S1 => if r2 = 0 then (some ((0 : Int32), S1)) else (bi (fX12_here S1) fun r4 S2 => if r4 = (60 : Int32) then (fX12_readsCompared_52 S2 (7 : Int32)) else (bi (fX12_here S2) fun r6 S3 => if r6 = (62 : Int32) then (fX12_readsCompared_52 S3 (8 : Int32)) else (bi (fX12_here S3) fun r8 S4 => if r8 = (61 : Int32) then (fX12_readsCompared_52 S4 (9 : Int32)) else (fX12_readsCompared_52 S4 (-1 : Int32)))))
theorem wfX12_readsCompared {X : CX} (hX : Ok RX12 cX12_readsCompared (some .boolean) 55 40 2 X) {rr : Int32 × St} (hq : rs X = (some (.int rr.1), rr.2)) {S : St} (hres : fX12_readsCompared S = some rr) : Wat 55 40 5 2 X 0 [(0, .ref (ad X 55))] [] S := by
  unfold fX12_readsCompared at hres
  refine q_aload_n 1 hX 0 dX12_readsCompared_0 rfl rfl rfl ?_
  obtain ⟨r2, S1, hk1, hres⟩ := ob hres
  refine q_callVi 4 (st := []) (As := []) hX (cX12_readsSum9 hX.dj hk1) cv_RX12_232 ci12 oB_55 rfl (by decide) rfl (Nat.le_of_ble_eq_true rfl) dX12_readsCompared_1 rfl ?_
  refine q_if_ne 7 hX 9 dX12_readsCompared_4 rfl (by decide) (fun hc => ?_) (fun hc => ?_)
  · have hres := it_f hc hres
    refine q_aload_n 10 hX 0 dX12_readsCompared_9 rfl rfl rfl ?_
    obtain ⟨r4, S2, hk3, hres⟩ := ob hres
    refine q_callVi 13 (st := []) (As := []) hX (cX12_here9 hX.dj hk3) cv_RX12_175 ci12 oB_55 rfl (by decide) rfl (Nat.le_of_ble_eq_true rfl) dX12_readsCompared_10 rfl ?_
    refine q_bipush 15 hX dX12_readsCompared_13 rfl kB_60 ?_
    refine q_icmp_ne 18 hX 23 dX12_readsCompared_15 rfl (by decide) (fun hc => ?_) (fun hc => ?_)
    · have hres := it_f hc hres
      refine q_aload_n 24 hX 0 dX12_readsCompared_23 rfl rfl rfl ?_
      obtain ⟨r6, S3, hk5, hres⟩ := ob hres
      refine q_callVi 27 (st := []) (As := []) hX (cX12_here9 hX.dj hk5) cv_RX12_175 ci12 oB_55 rfl (by decide) rfl (Nat.le_of_ble_eq_true rfl) dX12_readsCompared_24 rfl ?_
      refine q_bipush 29 hX dX12_readsCompared_27 rfl kB_62 ?_
      refine q_icmp_ne 32 hX 37 dX12_readsCompared_29 rfl (by decide) (fun hc => ?_) (fun hc => ?_)
      · have hres := it_f hc hres
        refine q_aload_n 38 hX 0 dX12_readsCompared_37 rfl rfl rfl ?_
        obtain ⟨r8, S4, hk7, hres⟩ := ob hres
        refine q_callVi 41 (st := []) (As := []) hX (cX12_here9 hX.dj hk7) cv_RX12_175 ci12 oB_55 rfl (by decide) rfl (Nat.le_of_ble_eq_true rfl) dX12_readsCompared_38 rfl ?_
        refine q_bipush 43 hX dX12_readsCompared_41 rfl kB_61 ?_
        refine q_icmp_ne 46 hX 51 dX12_readsCompared_43 rfl (by decide) (fun hc => ?_) (fun hc => ?_)
        · have hres := it_f hc hres
          refine q_iconst 52 hX dX12_readsCompared_51 rfl kI_m1 ?_
          exact q_sub [0] rfl (wfX12_readsCompared_52 hX hq hres)
        · have hres := it_t hc hres
          refine q_bipush 48 hX dX12_readsCompared_46 rfl kB_9 ?_
          refine q_goto 52 hX dX12_readsCompared_48 (by decide) ?_
          exact q_sub [0] rfl (wfX12_readsCompared_52 hX hq hres)
      · have hres := it_t hc hres
        refine q_bipush 34 hX dX12_readsCompared_32 rfl kB_8 ?_
        refine q_goto 52 hX dX12_readsCompared_34 (by decide) ?_
        exact q_sub [0] rfl (wfX12_readsCompared_52 hX hq hres)
    · have hres := it_t hc hres
      refine q_bipush 20 hX dX12_readsCompared_18 rfl kB_7 ?_
      refine q_goto 52 hX dX12_readsCompared_20 (by decide) ?_
      exact q_sub [0] rfl (wfX12_readsCompared_52 hX hq hres)
  · have hres := it_t hc hres
    refine q_iconst 8 hX dX12_readsCompared_7 rfl kI_0 ?_
    exact q_zret hX (by decide) (eqi hq hres) dX12_readsCompared_8
theorem cX12_readsCompared9 {l : Launch} {w : WD} (hj : Dj w 55 40) {rr : Int32 × St} {S : St} (hres : fX12_readsCompared S = some rr) : Ct l yX12_readsCompared cX12_readsCompared 2 (some .boolean) 5 w 55 40 [.ref (w.1 55)] S (some (.int rr.1), rr.2) := by
  refine Ct.of (lv := [(0, .ref (w.1 55))]) hj (by decide +kernel) (Nat.le_of_ble_eq_true rfl) rfl ?_
  rintro X rfl rfl hq hX
  exact wfX12_readsCompared hX hq hres
def fX12_readsCondition_75 (rc40 : St → Option (Int32 × St)) (S : St) (s1 : Int32) : Option (Int32 × St) :=
  bi (fX12_opens S s1) fun r2 S1 => if r2 = 0 then (some ((0 : Int32), S1)) else (rc40 S1)
theorem wfX12_readsCondition_75 {X : CX} (hX : Ok RX12 cX12_readsCondition (some .boolean) 55 40 1 X) {rr : Int32 × St} (hq : rs X = (some (.int rr.1), rr.2)) {rc40 : St → Option (Int32 × St)} (hrc40 : ∀ (S : St), rc40 S = some rr → Wat 55 40 6 1 X 40 [(0, .ref (ad X 55))] [] S) {S : St} {s1 : Int32} (hres : fX12_readsCondition_75 rc40 S s1 = some rr) : Wat 55 40 6 1 X 75 [(0, .ref (ad X 55))] [.int s1, .ref (ad X 55)] S := by
  unfold fX12_readsCondition_75 at hres
  obtain ⟨r2, S1, hk1, hres⟩ := ob hres
  refine q_callVi 78 (st := []) (As := [.int s1]) hX (cX12_opens9 hX.dj hk1) cv_RX12_209 ci12 oB_55 rfl (by decide) rfl (Nat.le_of_ble_eq_true rfl) dX12_readsCondition_75 rfl ?_
  refine q_if_ne 81 hX 40 dX12_readsCondition_78 rfl (by decide) (fun hc => ?_) (fun hc => ?_)
  · have hres := it_f hc hres
    exact q_sub [0] rfl (hrc40 _ hres)
  · have hres := it_t hc hres
    refine q_iconst 82 hX dX12_readsCondition_81 rfl kI_0 ?_
    exact q_zret hX (by decide) (eqi hq hres) dX12_readsCondition_82
def fX12_readsCondition_58 (rc40 : St → Option (Int32 × St)) (S : St) : Option (Int32 × St) :=
  bi (fX12_here S) fun r2 S1 => if r2 = (33 : Int32) then (fX12_readsCondition_75 rc40 S1 (10 : Int32)) else (fX12_readsCondition_75 rc40 S1 (13 : Int32))
theorem wfX12_readsCondition_58 {X : CX} (hX : Ok RX12 cX12_readsCondition (some .boolean) 55 40 1 X) {rr : Int32 × St} (hq : rs X = (some (.int rr.1), rr.2)) {rc40 : St → Option (Int32 × St)} (hrc40 : ∀ (S : St), rc40 S = some rr → Wat 55 40 6 1 X 40 [(0, .ref (ad X 55))] [] S) {S : St} (hres : fX12_readsCondition_58 rc40 S = some rr) : Wat 55 40 6 1 X 58 [(0, .ref (ad X 55))] [] S := by
  unfold fX12_readsCondition_58 at hres
  refine q_aload_n 59 hX 0 dX12_readsCondition_58 rfl rfl rfl ?_
  refine q_aload_n 60 hX 0 dX12_readsCondition_59 rfl rfl rfl ?_
  obtain ⟨r2, S1, hk1, hres⟩ := ob hres
  refine q_callVi 63 (st := [.ref (ad X 55)]) (As := []) hX (cX12_here9 hX.dj hk1) cv_RX12_175 ci12 oB_55 rfl (by decide) rfl (Nat.le_of_ble_eq_true rfl) dX12_readsCondition_60 rfl ?_
  refine q_bipush 65 hX dX12_readsCondition_63 rfl kB_33 ?_
  refine q_icmp_ne 68 hX 73 dX12_readsCondition_65 rfl (by decide) (fun hc => ?_) (fun hc => ?_)
  · have hres := it_f hc hres
    refine q_bipush 75 hX dX12_readsCondition_73 rfl kB_13 ?_
    exact q_sub [0] rfl (wfX12_readsCondition_75 hX hq hrc40 hres)
  · have hres := it_t hc hres
    refine q_bipush 70 hX dX12_readsCondition_68 rfl kB_10 ?_
    refine q_goto 75 hX dX12_readsCondition_70 (by decide) ?_
    exact q_sub [0] rfl (wfX12_readsCondition_75 hX hq hrc40 hres)
def fX12_readsCondition_215 (rc40 : St → Option (Int32 × St)) (S : St) (s1 : Int32) : Option (Int32 × St) :=
  bv (fX12_jumps S s1) fun S1 => rc40 S1
theorem wfX12_readsCondition_215 {X : CX} (hX : Ok RX12 cX12_readsCondition (some .boolean) 55 40 1 X) {rr : Int32 × St} (hq : rs X = (some (.int rr.1), rr.2)) {rc40 : St → Option (Int32 × St)} (hrc40 : ∀ (S : St), rc40 S = some rr → Wat 55 40 6 1 X 40 [(0, .ref (ad X 55))] [] S) {S : St} {s1 : Int32} (hres : fX12_readsCondition_215 rc40 S s1 = some rr) : Wat 55 40 6 1 X 215 [(0, .ref (ad X 55))] [.int s1, .ref (ad X 55)] S := by
  unfold fX12_readsCondition_215 at hres
  obtain ⟨S1, hk1, hres⟩ := obv hres
  refine q_callVv 218 (st := []) (As := [.int s1]) hX (cX12_jumps9 hX.dj hk1) cv_RX12_244 ci12 oB_55 rfl (by decide) rfl (Nat.le_of_ble_eq_true rfl) dX12_readsCondition_215 rfl ?_
  refine q_goto 40 hX dX12_readsCondition_218 (by decide) ?_
  exact q_sub [0] rfl (hrc40 _ hres)
def fX12_readsCondition_195 (rc40 : St → Option (Int32 × St)) (S : St) (s1 : Int32) : Option (Int32 × St) :=
  bv (fX12_lands S s1) fun S1 => bi (fX12_here S1) fun r3 S2 => if r3 = (38 : Int32) then (fX12_readsCondition_215 rc40 S2 (11 : Int32)) else (fX12_readsCondition_215 rc40 S2 (12 : Int32))
theorem wfX12_readsCondition_195 {X : CX} (hX : Ok RX12 cX12_readsCondition (some .boolean) 55 40 1 X) {rr : Int32 × St} (hq : rs X = (some (.int rr.1), rr.2)) {rc40 : St → Option (Int32 × St)} (hrc40 : ∀ (S : St), rc40 S = some rr → Wat 55 40 6 1 X 40 [(0, .ref (ad X 55))] [] S) {S : St} {s1 : Int32} (hres : fX12_readsCondition_195 rc40 S s1 = some rr) : Wat 55 40 6 1 X 195 [(0, .ref (ad X 55))] [.int s1, .ref (ad X 55)] S := by
  unfold fX12_readsCondition_195 at hres
  obtain ⟨S1, hk1, hres⟩ := obv hres
  refine q_callVv 198 (st := []) (As := [.int s1]) hX (cX12_lands9 hX.dj hk1) cv_RX12_241 ci12 oB_55 rfl (by decide) rfl (Nat.le_of_ble_eq_true rfl) dX12_readsCondition_195 rfl ?_
  refine q_aload_n 199 hX 0 dX12_readsCondition_198 rfl rfl rfl ?_
  refine q_aload_n 200 hX 0 dX12_readsCondition_199 rfl rfl rfl ?_
  obtain ⟨r3, S2, hk2, hres⟩ := ob hres
  refine q_callVi 203 (st := [.ref (ad X 55)]) (As := []) hX (cX12_here9 hX.dj hk2) cv_RX12_175 ci12 oB_55 rfl (by decide) rfl (Nat.le_of_ble_eq_true rfl) dX12_readsCondition_200 rfl ?_
  refine q_bipush 205 hX dX12_readsCondition_203 rfl kB_38 ?_
  refine q_icmp_ne 208 hX 213 dX12_readsCondition_205 rfl (by decide) (fun hc => ?_) (fun hc => ?_)
  · have hres := it_f hc hres
    refine q_bipush 215 hX dX12_readsCondition_213 rfl kB_12 ?_
    exact q_sub [0] rfl (wfX12_readsCondition_215 hX hq hrc40 hres)
  · have hres := it_t hc hres
    refine q_bipush 210 hX dX12_readsCondition_208 rfl kB_11 ?_
    refine q_goto 215 hX dX12_readsCondition_210 (by decide) ?_
    exact q_sub [0] rfl (wfX12_readsCondition_215 hX hq hrc40 hres)
def fX12_readsCondition_180 (rc40 : St → Option (Int32 × St)) (S : St) : Option (Int32 × St) :=
  bi (fX12_here S) fun r2 S1 => if r2 = (124 : Int32) then (fX12_readsCondition_195 rc40 S1 (1 : Int32)) else (fX12_readsCondition_195 rc40 S1 (0 : Int32))
theorem wfX12_readsCondition_180 {X : CX} (hX : Ok RX12 cX12_readsCondition (some .boolean) 55 40 1 X) {rr : Int32 × St} (hq : rs X = (some (.int rr.1), rr.2)) {rc40 : St → Option (Int32 × St)} (hrc40 : ∀ (S : St), rc40 S = some rr → Wat 55 40 6 1 X 40 [(0, .ref (ad X 55))] [] S) {S : St} (hres : fX12_readsCondition_180 rc40 S = some rr) : Wat 55 40 6 1 X 180 [(0, .ref (ad X 55))] [] S := by
  unfold fX12_readsCondition_180 at hres
  refine q_aload_n 181 hX 0 dX12_readsCondition_180 rfl rfl rfl ?_
  refine q_aload_n 182 hX 0 dX12_readsCondition_181 rfl rfl rfl ?_
  obtain ⟨r2, S1, hk1, hres⟩ := ob hres
  refine q_callVi 185 (st := [.ref (ad X 55)]) (As := []) hX (cX12_here9 hX.dj hk1) cv_RX12_175 ci12 oB_55 rfl (by decide) rfl (Nat.le_of_ble_eq_true rfl) dX12_readsCondition_182 rfl ?_
  refine q_bipush 187 hX dX12_readsCondition_185 rfl kB_124 ?_
  refine q_icmp_ne 190 hX 194 dX12_readsCondition_187 rfl (by decide) (fun hc => ?_) (fun hc => ?_)
  · have hres := it_f hc hres
    refine q_iconst 195 hX dX12_readsCondition_194 rfl kI_0 ?_
    exact q_sub [0] rfl (wfX12_readsCondition_195 hX hq hrc40 hres)
  · have hres := it_t hc hres
    refine q_iconst 191 hX dX12_readsCondition_190 rfl kI_1 ?_
    refine q_goto 195 hX dX12_readsCondition_191 (by decide) ?_
    exact q_sub [0] rfl (wfX12_readsCondition_195 hX hq hrc40 hres)
def bX12_readsCondition_92 (rc40 : St → Option (Int32 × St)) (rc92 : St → Option (Int32 × St)) (S : St) : Option (Int32 × St) :=
  bi (fX12_here S) fun r2 S1 => if r2 = (41 : Int32) then (bv (fX12_lands S1 (1 : Int32)) fun S5 => bS (pI S5 55 18 ((S5.1 55 18) - (1 : Int32))) fun S6 => bS (pI S6 55 16 ((S6.1 55 16) - (1 : Int32))) fun S7 => bS (pI S7 55 12 ((S7.1 55 12) + (1 : Int32))) fun S8 => if (S8.1 55 18) = 0 then (some ((1 : Int32), S8)) else (bv (fX12_endsPiece S8) fun S9 => rc92 S9)) else (bi (fX12_here S1) fun r4 S2 => if r4 = (38 : Int32) then (fX12_readsCondition_180 rc40 S2) else (bi (fX12_here S2) fun r6 S3 => if r6 = (124 : Int32) then (fX12_readsCondition_180 rc40 S3) else (bi (fX12_wrongAt S3 (1 : Int32) (S3.1 55 12)) fun r8 S4 => if r8 = 0 ∨ r8 = 1 then some (r8, S4) else none)))
theorem wbX12_readsCondition_92 {X : CX} (hX : Ok RX12 cX12_readsCondition (some .boolean) 55 40 1 X) {rr : Int32 × St} (hq : rs X = (some (.int rr.1), rr.2)) {rc40 : St → Option (Int32 × St)} (hrc40 : ∀ (S : St), rc40 S = some rr → Wat 55 40 6 1 X 40 [(0, .ref (ad X 55))] [] S) {rc92 : St → Option (Int32 × St)} (hrc92 : ∀ (S : St), rc92 S = some rr → Wat 55 40 6 1 X 92 [(0, .ref (ad X 55))] [] S) {S : St} (hres : bX12_readsCondition_92 rc40 rc92 S = some rr) : Wat 55 40 6 1 X 92 [(0, .ref (ad X 55))] [] S := by
  unfold bX12_readsCondition_92 at hres
  refine q_aload_n 93 hX 0 dX12_readsCondition_92 rfl rfl rfl ?_
  obtain ⟨r2, S1, hk1, hres⟩ := ob hres
  refine q_callVi 96 (st := []) (As := []) hX (cX12_here9 hX.dj hk1) cv_RX12_175 ci12 oB_55 rfl (by decide) rfl (Nat.le_of_ble_eq_true rfl) dX12_readsCondition_93 rfl ?_
  refine q_bipush 98 hX dX12_readsCondition_96 rfl kB_41 ?_
  refine q_icmp_ne 101 hX 152 dX12_readsCondition_98 rfl (by decide) (fun hc => ?_) (fun hc => ?_)
  · have hres := it_f hc hres
    refine q_aload_n 153 hX 0 dX12_readsCondition_152 rfl rfl rfl ?_
    obtain ⟨r4, S2, hk3, hres⟩ := ob hres
    refine q_callVi 156 (st := []) (As := []) hX (cX12_here9 hX.dj hk3) cv_RX12_175 ci12 oB_55 rfl (by decide) rfl (Nat.le_of_ble_eq_true rfl) dX12_readsCondition_153 rfl ?_
    refine q_bipush 158 hX dX12_readsCondition_156 rfl kB_38 ?_
    refine q_icmp_eq 161 hX 180 dX12_readsCondition_158 rfl (by decide) (fun hc => ?_) (fun hc => ?_)
    · have hres := it_t hc hres
      exact q_sub [0] rfl (wfX12_readsCondition_180 hX hq hrc40 hres)
    · have hres := it_f hc hres
      refine q_aload_n 162 hX 0 dX12_readsCondition_161 rfl rfl rfl ?_
      obtain ⟨r6, S3, hk5, hres⟩ := ob hres
      refine q_callVi 165 (st := []) (As := []) hX (cX12_here9 hX.dj hk5) cv_RX12_175 ci12 oB_55 rfl (by decide) rfl (Nat.le_of_ble_eq_true rfl) dX12_readsCondition_162 rfl ?_
      refine q_bipush 167 hX dX12_readsCondition_165 rfl kB_124 ?_
      refine q_icmp_eq 170 hX 180 dX12_readsCondition_167 rfl (by decide) (fun hc => ?_) (fun hc => ?_)
      · have hres := it_t hc hres
        exact q_sub [0] rfl (wfX12_readsCondition_180 hX hq hrc40 hres)
      · have hres := it_f hc hres
        refine q_aload_n 171 hX 0 dX12_readsCondition_170 rfl rfl rfl ?_
        refine q_iconst 172 hX dX12_readsCondition_171 rfl kI_1 ?_
        refine q_aload_n 173 hX 0 dX12_readsCondition_172 rfl rfl rfl ?_
        refine q_getI 176 hX ci12 lf_RX12_169 fI_55_12 dX12_readsCondition_173 rfl ?_
        obtain ⟨r8, S4, hk7, hres⟩ := ob hres
        refine q_callVi 179 (st := []) (As := [.int (1 : Int32), .int (S3.1 55 12)]) hX (cX12_wrongAt9 hX.dj hk7) cv_RX12_182 ci12 oB_55 rfl (by decide) rfl (Nat.le_of_ble_eq_true rfl) dX12_readsCondition_176 rfl ?_
        obtain ⟨hz9, hres⟩ := gd hres
        exact q_zret hX hz9 (eqi hq hres) dX12_readsCondition_179
  · have hres := it_t hc hres
    refine q_aload_n 102 hX 0 dX12_readsCondition_101 rfl rfl rfl ?_
    refine q_iconst 103 hX dX12_readsCondition_102 rfl kI_1 ?_
    obtain ⟨S5, hk10, hres⟩ := obv hres
    refine q_callVv 106 (st := []) (As := [.int (1 : Int32)]) hX (cX12_lands9 hX.dj hk10) cv_RX12_241 ci12 oB_55 rfl (by decide) rfl (Nat.le_of_ble_eq_true rfl) dX12_readsCondition_103 rfl ?_
    refine q_aload_n 107 hX 0 dX12_readsCondition_106 rfl rfl rfl ?_
    refine q_aload_n 108 hX 0 dX12_readsCondition_107 rfl rfl rfl ?_
    refine q_getI 111 hX ci12 lf_RX12_199 fI_55_18 dX12_readsCondition_108 rfl ?_
    refine q_iconst 112 hX dX12_readsCondition_111 rfl kI_1 ?_
    refine q_isub 113 hX dX12_readsCondition_112 rfl ?_
    refine q_putI 116 hX ci12 lf_RX12_199 fI_55_18 (nar_i rfl) dX12_readsCondition_113 rfl ?_
    refine q_bS hres (fun S6 _ hres => ?_)
    refine q_aload_n 117 hX 0 dX12_readsCondition_116 rfl rfl rfl ?_
    refine q_aload_n 118 hX 0 dX12_readsCondition_117 rfl rfl rfl ?_
    refine q_getI 121 hX ci12 lf_RX12_196 fI_55_16 dX12_readsCondition_118 rfl ?_
    refine q_iconst 122 hX dX12_readsCondition_121 rfl kI_1 ?_
    refine q_isub 123 hX dX12_readsCondition_122 rfl ?_
    refine q_putI 126 hX ci12 lf_RX12_196 fI_55_16 (nar_i rfl) dX12_readsCondition_123 rfl ?_
    refine q_bS hres (fun S7 _ hres => ?_)
    refine q_aload_n 127 hX 0 dX12_readsCondition_126 rfl rfl rfl ?_
    refine q_aload_n 128 hX 0 dX12_readsCondition_127 rfl rfl rfl ?_
    refine q_getI 131 hX ci12 lf_RX12_169 fI_55_12 dX12_readsCondition_128 rfl ?_
    refine q_iconst 132 hX dX12_readsCondition_131 rfl kI_1 ?_
    refine q_iadd 133 hX dX12_readsCondition_132 rfl ?_
    refine q_putI 136 hX ci12 lf_RX12_169 fI_55_12 (nar_i rfl) dX12_readsCondition_133 rfl ?_
    refine q_bS hres (fun S8 _ hres => ?_)
    refine q_aload_n 137 hX 0 dX12_readsCondition_136 rfl rfl rfl ?_
    refine q_getI 140 hX ci12 lf_RX12_199 fI_55_18 dX12_readsCondition_137 rfl ?_
    refine q_if_ne 143 hX 145 dX12_readsCondition_140 rfl (by decide) (fun hc => ?_) (fun hc => ?_)
    · have hres := it_f hc hres
      refine q_aload_n 146 hX 0 dX12_readsCondition_145 rfl rfl rfl ?_
      obtain ⟨S9, hk11, hres⟩ := obv hres
      refine q_callVv 149 (st := []) (As := []) hX (cX12_endsPiece9 hX.dj hk11) cv_RX12_235 ci12 oB_55 rfl (by decide) rfl (Nat.le_of_ble_eq_true rfl) dX12_readsCondition_146 rfl ?_
      refine q_goto 92 hX dX12_readsCondition_149 (by decide) ?_
      exact q_sub [0] rfl (hrc92 _ hres)
    · have hres := it_t hc hres
      refine q_iconst 144 hX dX12_readsCondition_143 rfl kI_1 ?_
      exact q_zret hX (by decide) (eqi hq hres) dX12_readsCondition_144
def fX12_readsCondition_92 (rc40 : St → Option (Int32 × St)) : Nat → St → Option (Int32 × St)
  | 0 => fun _ => none
  | k + 1 => fun S => bX12_readsCondition_92 rc40 (fX12_readsCondition_92 rc40 k) S
theorem wfX12_readsCondition_92 {X : CX} (hX : Ok RX12 cX12_readsCondition (some .boolean) 55 40 1 X) {rr : Int32 × St} (hq : rs X = (some (.int rr.1), rr.2)) {rc40 : St → Option (Int32 × St)} (hrc40 : ∀ (S : St), rc40 S = some rr → Wat 55 40 6 1 X 40 [(0, .ref (ad X 55))] [] S) (k : Nat) : ∀ (S : St), fX12_readsCondition_92 rc40 k S = some rr → Wat 55 40 6 1 X 92 [(0, .ref (ad X 55))] [] S := by
  induction k with
  | zero => intro S hres; exact absurd hres (by simp [fX12_readsCondition_92])
  | succ k ih => intro S hres; exact wbX12_readsCondition_92 hX hq hrc40 ih hres
def bX12_readsCondition_40 (rc40 : St → Option (Int32 × St)) (S : St) : Option (Int32 × St) :=
  bi (fX12_here S) fun r2 S1 => if r2 = (33 : Int32) then (fX12_readsCondition_58 rc40 S1) else (bi (fX12_here S1) fun r4 S2 => if r4 = (40 : Int32) then (fX12_readsCondition_58 rc40 S2) else (bi (fX12_readsCompared S2) fun r6 S3 => if r6 = 0 then (some ((0 : Int32), S3)) else (fX12_readsCondition_92 rc40 260 S3)))
theorem wbX12_readsCondition_40 {X : CX} (hX : Ok RX12 cX12_readsCondition (some .boolean) 55 40 1 X) {rr : Int32 × St} (hq : rs X = (some (.int rr.1), rr.2)) {rc40 : St → Option (Int32 × St)} (hrc40 : ∀ (S : St), rc40 S = some rr → Wat 55 40 6 1 X 40 [(0, .ref (ad X 55))] [] S) {S : St} (hres : bX12_readsCondition_40 rc40 S = some rr) : Wat 55 40 6 1 X 40 [(0, .ref (ad X 55))] [] S := by
  unfold bX12_readsCondition_40 at hres
  refine q_aload_n 41 hX 0 dX12_readsCondition_40 rfl rfl rfl ?_
  obtain ⟨r2, S1, hk1, hres⟩ := ob hres
  refine q_callVi 44 (st := []) (As := []) hX (cX12_here9 hX.dj hk1) cv_RX12_175 ci12 oB_55 rfl (by decide) rfl (Nat.le_of_ble_eq_true rfl) dX12_readsCondition_41 rfl ?_
  refine q_bipush 46 hX dX12_readsCondition_44 rfl kB_33 ?_
  refine q_icmp_eq 49 hX 58 dX12_readsCondition_46 rfl (by decide) (fun hc => ?_) (fun hc => ?_)
  · have hres := it_t hc hres
    exact q_sub [0] rfl (wfX12_readsCondition_58 hX hq hrc40 hres)
  · have hres := it_f hc hres
    refine q_aload_n 50 hX 0 dX12_readsCondition_49 rfl rfl rfl ?_
    obtain ⟨r4, S2, hk3, hres⟩ := ob hres
    refine q_callVi 53 (st := []) (As := []) hX (cX12_here9 hX.dj hk3) cv_RX12_175 ci12 oB_55 rfl (by decide) rfl (Nat.le_of_ble_eq_true rfl) dX12_readsCondition_50 rfl ?_
    refine q_bipush 55 hX dX12_readsCondition_53 rfl kB_40 ?_
    refine q_icmp_ne 58 hX 83 dX12_readsCondition_55 rfl (by decide) (fun hc => ?_) (fun hc => ?_)
    · have hres := it_f hc hres
      refine q_aload_n 84 hX 0 dX12_readsCondition_83 rfl rfl rfl ?_
      obtain ⟨r6, S3, hk5, hres⟩ := ob hres
      refine q_callVi 87 (st := []) (As := []) hX (cX12_readsCompared9 hX.dj hk5) cv_RX12_238 ci12 oB_55 rfl (by decide) rfl (Nat.le_of_ble_eq_true rfl) dX12_readsCondition_84 rfl ?_
      refine q_if_ne 90 hX 92 dX12_readsCondition_87 rfl (by decide) (fun hc => ?_) (fun hc => ?_)
      · have hres := it_f hc hres
        exact q_sub [0] rfl (wfX12_readsCondition_92 hX hq hrc40 _ _ hres)
      · have hres := it_t hc hres
        refine q_iconst 91 hX dX12_readsCondition_90 rfl kI_0 ?_
        exact q_zret hX (by decide) (eqi hq hres) dX12_readsCondition_91
    · have hres := it_t hc hres
      exact q_sub [0] rfl (wfX12_readsCondition_58 hX hq hrc40 hres)
def fX12_readsCondition_40 : Nat → St → Option (Int32 × St)
  | 0 => fun _ => none
  | k + 1 => fun S => bX12_readsCondition_40 (fX12_readsCondition_40 k) S
theorem wfX12_readsCondition_40 {X : CX} (hX : Ok RX12 cX12_readsCondition (some .boolean) 55 40 1 X) {rr : Int32 × St} (hq : rs X = (some (.int rr.1), rr.2)) (k : Nat) : ∀ (S : St), fX12_readsCondition_40 k S = some rr → Wat 55 40 6 1 X 40 [(0, .ref (ad X 55))] [] S := by
  induction k with
  | zero => intro S hres; exact absurd hres (by simp [fX12_readsCondition_40])
  | succ k ih => intro S hres; exact wbX12_readsCondition_40 hX hq ih hres
def fX12_readsCondition (S : St) : Option (Int32 × St) :=
  bi (fX12_here S) fun r2 S1 => if r2 = (40 : Int32) then (bS (pI S1 55 16 (0 : Int32)) fun S2 => bS (pI S2 55 18 (0 : Int32)) fun S3 => bi (fX12_opens S3 (13 : Int32)) fun r4 S4 => if r4 = 0 then (some ((0 : Int32), S4)) else (fX12_readsCondition_40 260 S4)) else (bi (fX12_wrongAt S1 (1 : Int32) (S1.1 55 12)) fun r6 S5 => if r6 = 0 ∨ r6 = 1 then some (r6, S5) else none)
theorem wfX12_readsCondition {X : CX} (hX : Ok RX12 cX12_readsCondition (some .boolean) 55 40 1 X) {rr : Int32 × St} (hq : rs X = (some (.int rr.1), rr.2)) {S : St} (hres : fX12_readsCondition S = some rr) : Wat 55 40 6 1 X 0 [(0, .ref (ad X 55))] [] S := by
  unfold fX12_readsCondition at hres
  refine q_aload_n 1 hX 0 dX12_readsCondition_0 rfl rfl rfl ?_
  obtain ⟨r2, S1, hk1, hres⟩ := ob hres
  refine q_callVi 4 (st := []) (As := []) hX (cX12_here9 hX.dj hk1) cv_RX12_175 ci12 oB_55 rfl (by decide) rfl (Nat.le_of_ble_eq_true rfl) dX12_readsCondition_1 rfl ?_
  refine q_bipush 6 hX dX12_readsCondition_4 rfl kB_40 ?_
  refine q_icmp_eq 9 hX 19 dX12_readsCondition_6 rfl (by decide) (fun hc => ?_) (fun hc => ?_)
  · have hres := it_t hc hres
    refine q_aload_n 20 hX 0 dX12_readsCondition_19 rfl rfl rfl ?_
    refine q_iconst 21 hX dX12_readsCondition_20 rfl kI_0 ?_
    refine q_putI 24 hX ci12 lf_RX12_196 fI_55_16 (nar_i rfl) dX12_readsCondition_21 rfl ?_
    refine q_bS hres (fun S2 _ hres => ?_)
    refine q_aload_n 25 hX 0 dX12_readsCondition_24 rfl rfl rfl ?_
    refine q_iconst 26 hX dX12_readsCondition_25 rfl kI_0 ?_
    refine q_putI 29 hX ci12 lf_RX12_199 fI_55_18 (nar_i rfl) dX12_readsCondition_26 rfl ?_
    refine q_bS hres (fun S3 _ hres => ?_)
    refine q_aload_n 30 hX 0 dX12_readsCondition_29 rfl rfl rfl ?_
    refine q_bipush 32 hX dX12_readsCondition_30 rfl kB_13 ?_
    obtain ⟨r4, S4, hk3, hres⟩ := ob hres
    refine q_callVi 35 (st := []) (As := [.int (13 : Int32)]) hX (cX12_opens9 hX.dj hk3) cv_RX12_209 ci12 oB_55 rfl (by decide) rfl (Nat.le_of_ble_eq_true rfl) dX12_readsCondition_32 rfl ?_
    refine q_if_ne 38 hX 40 dX12_readsCondition_35 rfl (by decide) (fun hc => ?_) (fun hc => ?_)
    · have hres := it_f hc hres
      exact q_sub [0] rfl (wfX12_readsCondition_40 hX hq _ _ hres)
    · have hres := it_t hc hres
      refine q_iconst 39 hX dX12_readsCondition_38 rfl kI_0 ?_
      exact q_zret hX (by decide) (eqi hq hres) dX12_readsCondition_39
  · have hres := it_f hc hres
    refine q_aload_n 10 hX 0 dX12_readsCondition_9 rfl rfl rfl ?_
    refine q_iconst 11 hX dX12_readsCondition_10 rfl kI_1 ?_
    refine q_aload_n 12 hX 0 dX12_readsCondition_11 rfl rfl rfl ?_
    refine q_getI 15 hX ci12 lf_RX12_169 fI_55_12 dX12_readsCondition_12 rfl ?_
    obtain ⟨r6, S5, hk5, hres⟩ := ob hres
    refine q_callVi 18 (st := []) (As := [.int (1 : Int32), .int (S1.1 55 12)]) hX (cX12_wrongAt9 hX.dj hk5) cv_RX12_182 ci12 oB_55 rfl (by decide) rfl (Nat.le_of_ble_eq_true rfl) dX12_readsCondition_15 rfl ?_
    obtain ⟨hz7, hres⟩ := gd hres
    exact q_zret hX hz7 (eqi hq hres) dX12_readsCondition_18
theorem cX12_readsCondition9 {l : Launch} {w : WD} (hj : Dj w 55 40) {rr : Int32 × St} {S : St} (hres : fX12_readsCondition S = some rr) : Ct l yX12_readsCondition cX12_readsCondition 1 (some .boolean) 6 w 55 40 [.ref (w.1 55)] S (some (.int rr.1), rr.2) := by
  refine Ct.of (lv := [(0, .ref (w.1 55))]) hj (by decide +kernel) (Nat.le_of_ble_eq_true rfl) rfl ?_
  rintro X rfl rfl hq hX
  exact wfX12_readsCondition hX hq hres
def fX12_readsRule_110 (S : St) : Option (Int32 × St) :=
  if inb (S.1 55 19) 16 = true then bS (pI S 69 ((S.1 55 19).toNatClampNeg) (S.1 55 17)) fun S1 => bi (fX12_readsCondition S1) fun r3 S2 => if r3 = 0 then (some ((0 : Int32), S2)) else (if inb (S2.1 55 19) 16 = true then bS (pI S2 70 ((S2.1 55 19).toNatClampNeg) (S2.1 55 17)) fun S3 => bS (pI S3 55 19 ((S3.1 55 19) + (1 : Int32))) fun S4 => some ((1 : Int32), S4) else none) else none
theorem wfX12_readsRule_110 {X : CX} (hX : Ok RX12 cX12_readsRule (some .boolean) 55 40 2 X) {rr : Int32 × St} (hq : rs X = (some (.int rr.1), rr.2)) {S : St} (hres : fX12_readsRule_110 S = some rr) : Wat 55 40 7 2 X 110 [(0, .ref (ad X 55))] [] S := by
  unfold fX12_readsRule_110 at hres
  refine q_aload_n 111 hX 0 dX12_readsRule_110 rfl rfl rfl ?_
  refine q_getR 114 hX ci12 lf_RX12_50 fR_55_25 dX12_readsRule_111 rfl ?_
  refine q_aload_n 115 hX 0 dX12_readsRule_114 rfl rfl rfl ?_
  refine q_getI 118 hX ci12 lf_RX12_247 fI_55_19 dX12_readsRule_115 rfl ?_
  refine q_aload_n 119 hX 0 dX12_readsRule_118 rfl rfl rfl ?_
  refine q_getI 122 hX ci12 lf_RX12_192 fI_55_17 dX12_readsRule_119 rfl ?_
  obtain ⟨hb1, hres⟩ := gd hres
  refine q_iast 123 hX rfl aF_69 hb1 dX12_readsRule_122 rfl ?_
  refine q_bS hres (fun S1 _ hres => ?_)
  refine q_aload_n 124 hX 0 dX12_readsRule_123 rfl rfl rfl ?_
  obtain ⟨r3, S2, hk2, hres⟩ := ob hres
  refine q_callVi 127 (st := []) (As := []) hX (cX12_readsCondition9 hX.dj hk2) cv_RX12_250 ci12 oB_55 rfl (by decide) rfl (Nat.le_of_ble_eq_true rfl) dX12_readsRule_124 rfl ?_
  refine q_if_ne 130 hX 132 dX12_readsRule_127 rfl (by decide) (fun hc => ?_) (fun hc => ?_)
  · have hres := it_f hc hres
    refine q_aload_n 133 hX 0 dX12_readsRule_132 rfl rfl rfl ?_
    refine q_getR 136 hX ci12 lf_RX12_53 fR_55_26 dX12_readsRule_133 rfl ?_
    refine q_aload_n 137 hX 0 dX12_readsRule_136 rfl rfl rfl ?_
    refine q_getI 140 hX ci12 lf_RX12_247 fI_55_19 dX12_readsRule_137 rfl ?_
    refine q_aload_n 141 hX 0 dX12_readsRule_140 rfl rfl rfl ?_
    refine q_getI 144 hX ci12 lf_RX12_192 fI_55_17 dX12_readsRule_141 rfl ?_
    obtain ⟨hb4, hres⟩ := gd hres
    refine q_iast 145 hX rfl aF_70 hb4 dX12_readsRule_144 rfl ?_
    refine q_bS hres (fun S3 _ hres => ?_)
    refine q_aload_n 146 hX 0 dX12_readsRule_145 rfl rfl rfl ?_
    refine q_aload_n 147 hX 0 dX12_readsRule_146 rfl rfl rfl ?_
    refine q_getI 150 hX ci12 lf_RX12_247 fI_55_19 dX12_readsRule_147 rfl ?_
    refine q_iconst 151 hX dX12_readsRule_150 rfl kI_1 ?_
    refine q_iadd 152 hX dX12_readsRule_151 rfl ?_
    refine q_putI 155 hX ci12 lf_RX12_247 fI_55_19 (nar_i rfl) dX12_readsRule_152 rfl ?_
    refine q_bS hres (fun S4 _ hres => ?_)
    refine q_iconst 156 hX dX12_readsRule_155 rfl kI_1 ?_
    exact q_zret hX (by decide) (eqi hq hres) dX12_readsRule_156
  · have hres := it_t hc hres
    refine q_iconst 131 hX dX12_readsRule_130 rfl kI_0 ?_
    exact q_zret hX (by decide) (eqi hq hres) dX12_readsRule_131
def fX12_readsRule_33 (S : St) (x1 : Int32) : Option (Int32 × St) :=
  if (S.1 55 19) = (16 : Int32) then (bi (fX12_wrongAt S (4 : Int32) (S.1 55 12)) fun r6 S7 => if r6 = 0 ∨ r6 = 1 then some (r6, S7) else none) else (if inb (S.1 55 19) 16 = true then bS (pI S 67 ((S.1 55 19).toNatClampNeg) x1) fun S1 => bS (pI S1 55 12 ((S1.1 55 12) + (1 : Int32))) fun S2 => if inb (S2.1 55 19) 16 = true then bS (pI S2 68 ((S2.1 55 19).toNatClampNeg) (S2.1 55 17)) fun S3 => bS (pI S3 55 16 (0 : Int32)) fun S4 => bS (pI S4 55 18 (0 : Int32)) fun S5 => if x1 = (120 : Int32) then (fX12_readsRule_110 S5) else (bi (fX12_readsSum S5) fun r4 S6 => if r4 = 0 then (some ((0 : Int32), S6)) else (fX12_readsRule_110 S6)) else none else none)
theorem wfX12_readsRule_33 {X : CX} (hX : Ok RX12 cX12_readsRule (some .boolean) 55 40 2 X) {rr : Int32 × St} (hq : rs X = (some (.int rr.1), rr.2)) {S : St} {x1 : Int32} (hres : fX12_readsRule_33 S x1 = some rr) : Wat 55 40 7 2 X 33 [(0, .ref (ad X 55)), (1, .int x1)] [] S := by
  unfold fX12_readsRule_33 at hres
  refine q_aload_n 34 hX 0 dX12_readsRule_33 rfl rfl rfl ?_
  refine q_getI 37 hX ci12 lf_RX12_247 fI_55_19 dX12_readsRule_34 rfl ?_
  refine q_bipush 39 hX dX12_readsRule_37 rfl kB_16 ?_
  refine q_icmp_ne 42 hX 52 dX12_readsRule_39 rfl (by decide) (fun hc => ?_) (fun hc => ?_)
  · have hres := it_f hc hres
    refine q_aload_n 53 hX 0 dX12_readsRule_52 rfl rfl rfl ?_
    refine q_getR 56 hX ci12 lf_RX12_44 fR_55_23 dX12_readsRule_53 rfl ?_
    refine q_aload_n 57 hX 0 dX12_readsRule_56 rfl rfl rfl ?_
    refine q_getI 60 hX ci12 lf_RX12_247 fI_55_19 dX12_readsRule_57 rfl ?_
    refine q_iload_n 61 hX 1 dX12_readsRule_60 rfl rfl rfl ?_
    obtain ⟨hb1, hres⟩ := gd hres
    refine q_iast 62 hX rfl aF_67 hb1 dX12_readsRule_61 rfl ?_
    refine q_bS hres (fun S1 _ hres => ?_)
    refine q_aload_n 63 hX 0 dX12_readsRule_62 rfl rfl rfl ?_
    refine q_aload_n 64 hX 0 dX12_readsRule_63 rfl rfl rfl ?_
    refine q_getI 67 hX ci12 lf_RX12_169 fI_55_12 dX12_readsRule_64 rfl ?_
    refine q_iconst 68 hX dX12_readsRule_67 rfl kI_1 ?_
    refine q_iadd 69 hX dX12_readsRule_68 rfl ?_
    refine q_putI 72 hX ci12 lf_RX12_169 fI_55_12 (nar_i rfl) dX12_readsRule_69 rfl ?_
    refine q_bS hres (fun S2 _ hres => ?_)
    refine q_aload_n 73 hX 0 dX12_readsRule_72 rfl rfl rfl ?_
    refine q_getR 76 hX ci12 lf_RX12_47 fR_55_24 dX12_readsRule_73 rfl ?_
    refine q_aload_n 77 hX 0 dX12_readsRule_76 rfl rfl rfl ?_
    refine q_getI 80 hX ci12 lf_RX12_247 fI_55_19 dX12_readsRule_77 rfl ?_
    refine q_aload_n 81 hX 0 dX12_readsRule_80 rfl rfl rfl ?_
    refine q_getI 84 hX ci12 lf_RX12_192 fI_55_17 dX12_readsRule_81 rfl ?_
    obtain ⟨hb2, hres⟩ := gd hres
    refine q_iast 85 hX rfl aF_68 hb2 dX12_readsRule_84 rfl ?_
    refine q_bS hres (fun S3 _ hres => ?_)
    refine q_aload_n 86 hX 0 dX12_readsRule_85 rfl rfl rfl ?_
    refine q_iconst 87 hX dX12_readsRule_86 rfl kI_0 ?_
    refine q_putI 90 hX ci12 lf_RX12_196 fI_55_16 (nar_i rfl) dX12_readsRule_87 rfl ?_
    refine q_bS hres (fun S4 _ hres => ?_)
    refine q_aload_n 91 hX 0 dX12_readsRule_90 rfl rfl rfl ?_
    refine q_iconst 92 hX dX12_readsRule_91 rfl kI_0 ?_
    refine q_putI 95 hX ci12 lf_RX12_199 fI_55_18 (nar_i rfl) dX12_readsRule_92 rfl ?_
    refine q_bS hres (fun S5 _ hres => ?_)
    refine q_iload_n 96 hX 1 dX12_readsRule_95 rfl rfl rfl ?_
    refine q_bipush 98 hX dX12_readsRule_96 rfl kB_120 ?_
    refine q_icmp_eq 101 hX 110 dX12_readsRule_98 rfl (by decide) (fun hc => ?_) (fun hc => ?_)
    · have hres := it_t hc hres
      exact q_sub [0] rfl (wfX12_readsRule_110 hX hq hres)
    · have hres := it_f hc hres
      refine q_aload_n 102 hX 0 dX12_readsRule_101 rfl rfl rfl ?_
      obtain ⟨r4, S6, hk3, hres⟩ := ob hres
      refine q_callVi 105 (st := []) (As := []) hX (cX12_readsSum9 hX.dj hk3) cv_RX12_232 ci12 oB_55 rfl (by decide) rfl (Nat.le_of_ble_eq_true rfl) dX12_readsRule_102 rfl ?_
      refine q_if_ne 108 hX 110 dX12_readsRule_105 rfl (by decide) (fun hc => ?_) (fun hc => ?_)
      · have hres := it_f hc hres
        exact q_sub [0] rfl (wfX12_readsRule_110 hX hq hres)
      · have hres := it_t hc hres
        refine q_iconst 109 hX dX12_readsRule_108 rfl kI_0 ?_
        exact q_zret hX (by decide) (eqi hq hres) dX12_readsRule_109
  · have hres := it_t hc hres
    refine q_aload_n 43 hX 0 dX12_readsRule_42 rfl rfl rfl ?_
    refine q_iconst 44 hX dX12_readsRule_43 rfl kI_4 ?_
    refine q_aload_n 45 hX 0 dX12_readsRule_44 rfl rfl rfl ?_
    refine q_getI 48 hX ci12 lf_RX12_169 fI_55_12 dX12_readsRule_45 rfl ?_
    obtain ⟨r6, S7, hk5, hres⟩ := ob hres
    refine q_callVi 51 (st := []) (As := [.int (4 : Int32), .int (S.1 55 12)]) hX (cX12_wrongAt9 hX.dj hk5) cv_RX12_182 ci12 oB_55 rfl (by decide) rfl (Nat.le_of_ble_eq_true rfl) dX12_readsRule_48 rfl ?_
    obtain ⟨hz7, hres⟩ := gd hres
    exact q_zret hX hz7 (eqi hq hres) dX12_readsRule_51
def fX12_readsRule (S : St) : Option (Int32 × St) :=
  bi (fX12_here S) fun r2 S1 => if r2 = (99 : Int32) then (fX12_readsRule_33 S1 r2) else (if r2 = (106 : Int32) then (fX12_readsRule_33 S1 r2) else (if r2 = (120 : Int32) then (fX12_readsRule_33 S1 r2) else (bi (fX12_wrongAt S1 (1 : Int32) (S1.1 55 12)) fun r4 S2 => if r4 = 0 ∨ r4 = 1 then some (r4, S2) else none)))
theorem wfX12_readsRule {X : CX} (hX : Ok RX12 cX12_readsRule (some .boolean) 55 40 2 X) {rr : Int32 × St} (hq : rs X = (some (.int rr.1), rr.2)) {S : St} (hres : fX12_readsRule S = some rr) : Wat 55 40 7 2 X 0 [(0, .ref (ad X 55))] [] S := by
  unfold fX12_readsRule at hres
  refine q_aload_n 1 hX 0 dX12_readsRule_0 rfl rfl rfl ?_
  obtain ⟨r2, S1, hk1, hres⟩ := ob hres
  refine q_callVi 4 (st := []) (As := []) hX (cX12_here9 hX.dj hk1) cv_RX12_175 ci12 oB_55 rfl (by decide) rfl (Nat.le_of_ble_eq_true rfl) dX12_readsRule_1 rfl ?_
  refine q_istore_n 5 (lv' := [(1, .int r2), (0, .ref (ad X 55))]) hX dX12_readsRule_4 rfl rfl (by decide) rfl ?_
  refine q_iload_n 6 hX 0 dX12_readsRule_5 rfl rfl rfl ?_
  refine q_bipush 8 hX dX12_readsRule_6 rfl kB_99 ?_
  refine q_icmp_eq 11 hX 33 dX12_readsRule_8 rfl (by decide) (fun hc => ?_) (fun hc => ?_)
  · have hres := it_t hc hres
    exact q_sub [1, 0] rfl (wfX12_readsRule_33 hX hq hres)
  · have hres := it_f hc hres
    refine q_iload_n 12 hX 0 dX12_readsRule_11 rfl rfl rfl ?_
    refine q_bipush 14 hX dX12_readsRule_12 rfl kB_106 ?_
    refine q_icmp_eq 17 hX 33 dX12_readsRule_14 rfl (by decide) (fun hc => ?_) (fun hc => ?_)
    · have hres := it_t hc hres
      exact q_sub [1, 0] rfl (wfX12_readsRule_33 hX hq hres)
    · have hres := it_f hc hres
      refine q_iload_n 18 hX 0 dX12_readsRule_17 rfl rfl rfl ?_
      refine q_bipush 20 hX dX12_readsRule_18 rfl kB_120 ?_
      refine q_icmp_eq 23 hX 33 dX12_readsRule_20 rfl (by decide) (fun hc => ?_) (fun hc => ?_)
      · have hres := it_t hc hres
        exact q_sub [1, 0] rfl (wfX12_readsRule_33 hX hq hres)
      · have hres := it_f hc hres
        refine q_aload_n 24 hX 1 dX12_readsRule_23 rfl rfl rfl ?_
        refine q_iconst 25 hX dX12_readsRule_24 rfl kI_1 ?_
        refine q_aload_n 26 hX 1 dX12_readsRule_25 rfl rfl rfl ?_
        refine q_getI 29 hX ci12 lf_RX12_169 fI_55_12 dX12_readsRule_26 rfl ?_
        obtain ⟨r4, S2, hk3, hres⟩ := ob hres
        refine q_callVi 32 (st := []) (As := [.int (1 : Int32), .int (S1.1 55 12)]) hX (cX12_wrongAt9 hX.dj hk3) cv_RX12_182 ci12 oB_55 rfl (by decide) rfl (Nat.le_of_ble_eq_true rfl) dX12_readsRule_29 rfl ?_
        obtain ⟨hz5, hres⟩ := gd hres
        exact q_zret hX hz5 (eqi hq hres) dX12_readsRule_32
theorem cX12_readsRule9 {l : Launch} {w : WD} (hj : Dj w 55 40) {rr : Int32 × St} {S : St} (hres : fX12_readsRule S = some rr) : Ct l yX12_readsRule cX12_readsRule 2 (some .boolean) 7 w 55 40 [.ref (w.1 55)] S (some (.int rr.1), rr.2) := by
  refine Ct.of (lv := [(0, .ref (w.1 55))]) hj (by decide +kernel) (Nat.le_of_ble_eq_true rfl) rfl ?_
  rintro X rfl rfl hq hX
  exact wfX12_readsRule hX hq hres
def fX12_beginsText (S : St) (x1 : Int32) : Option (St) :=
  bS (pI S 55 12 (0 : Int32)) fun S1 => bS (pI S1 55 13 x1) fun S2 => bS (pI S2 55 17 (0 : Int32)) fun S3 => bS (pI S3 55 19 (0 : Int32)) fun S4 => some S4
theorem wfX12_beginsText {X : CX} (hX : Ok RX12 cX12_beginsText none 55 40 2 X) {rr : St} (hq : rs X = (none, rr)) {S : St} {x1 : Int32} (hres : fX12_beginsText S x1 = some rr) : Wat 55 40 0 2 X 0 [(0, .ref (ad X 55)), (1, .int x1)] [] S := by
  unfold fX12_beginsText at hres
  refine q_aload_n 1 hX 0 dX12_beginsText_0 rfl rfl rfl ?_
  refine q_iconst 2 hX dX12_beginsText_1 rfl kI_0 ?_
  refine q_putI 5 hX ci12 lf_RX12_169 fI_55_12 (nar_i rfl) dX12_beginsText_2 rfl ?_
  refine q_bS hres (fun S1 _ hres => ?_)
  refine q_aload_n 6 hX 0 dX12_beginsText_5 rfl rfl rfl ?_
  refine q_iload_n 7 hX 1 dX12_beginsText_6 rfl rfl rfl ?_
  refine q_putI 10 hX ci12 lf_RX12_172 fI_55_13 (nar_i rfl) dX12_beginsText_7 rfl ?_
  refine q_bS hres (fun S2 _ hres => ?_)
  refine q_aload_n 11 hX 0 dX12_beginsText_10 rfl rfl rfl ?_
  refine q_iconst 12 hX dX12_beginsText_11 rfl kI_0 ?_
  refine q_putI 15 hX ci12 lf_RX12_192 fI_55_17 (nar_i rfl) dX12_beginsText_12 rfl ?_
  refine q_bS hres (fun S3 _ hres => ?_)
  refine q_aload_n 16 hX 0 dX12_beginsText_15 rfl rfl rfl ?_
  refine q_iconst 17 hX dX12_beginsText_16 rfl kI_0 ?_
  refine q_putI 20 hX ci12 lf_RX12_247 fI_55_19 (nar_i rfl) dX12_beginsText_17 rfl ?_
  refine q_bS hres (fun S4 _ hres => ?_)
  exact q_vret hX (eqv hq hres) dX12_beginsText_20
theorem cX12_beginsText9 {l : Launch} {w : WD} (hj : Dj w 55 40) {rr : St} {S : St} {x1 : Int32} (hres : fX12_beginsText S x1 = some rr) : Ct l yX12_beginsText cX12_beginsText 2 none 0 w 55 40 [.ref (w.1 55), .int x1] S (none, rr) := by
  refine Ct.of (lv := [(0, .ref (w.1 55)), (1, .int x1)]) hj (by decide +kernel) (Nat.le_of_ble_eq_true rfl) rfl ?_
  rintro X rfl rfl hq hX
  exact wfX12_beginsText hX hq hres
def fX12_law_66 (rc31 : St → Int32 → Option (Int32 × St)) (S : St) : Option (Int32 × St) :=
  rc31 S (0 : Int32)
theorem wfX12_law_66 {X : CX} (hX : Ok RX12 cX12_law (some .int) 55 40 4 X) {rr : Int32 × St} (hq : rs X = (some (.int rr.1), rr.2)) {rc31 : St → Int32 → Option (Int32 × St)} (hrc31 : ∀ (S : St) (x2 : Int32), rc31 S x2 = some rr → Wat 55 40 8 4 X 31 [(0, .ref (ad X 55)), (2, .int x2)] [] S) {S : St} (hres : fX12_law_66 rc31 S = some rr) : Wat 55 40 8 4 X 66 [(0, .ref (ad X 55))] [] S := by
  unfold fX12_law_66 at hres
  refine q_iconst 67 hX dX12_law_66 rfl kI_0 ?_
  refine q_istore_n 68 (lv' := [(2, .int (0 : Int32)), (0, .ref (ad X 55))]) hX dX12_law_67 rfl rfl (by decide) rfl ?_
  refine q_goto 31 hX dX12_law_68 (by decide) ?_
  exact q_sub [1, 0] rfl (hrc31 _ _ hres)
def bX12_law_123 (rc123 : St → Int32 → Option (Int32 × St)) (S : St) (x3 : Int32) : Option (Int32 × St) :=
  if (S.1 55 19) ≤ x3 then (some ((S.1 55 19), S)) else (if inb x3 16 = true then if inb x3 16 = true then bS (pI S 72 (x3.toNatClampNeg) (S.1 67 (x3.toNatClampNeg))) fun S1 => if inb x3 16 = true then if inb x3 16 = true then bS (pI S1 73 (x3.toNatClampNeg) (S1.1 68 (x3.toNatClampNeg))) fun S2 => if inb x3 16 = true then if inb x3 16 = true then bS (pI S2 74 (x3.toNatClampNeg) (S2.1 69 (x3.toNatClampNeg))) fun S3 => if inb x3 16 = true then if inb x3 16 = true then bS (pI S3 75 (x3.toNatClampNeg) (S3.1 70 (x3.toNatClampNeg))) fun S4 => bV (x3 + (1 : Int32)) fun v9 => rc123 S4 v9 else none else none else none else none else none else none else none else none)
theorem wbX12_law_123 {X : CX} (hX : Ok RX12 cX12_law (some .int) 55 40 4 X) {rr : Int32 × St} (hq : rs X = (some (.int rr.1), rr.2)) {rc123 : St → Int32 → Option (Int32 × St)} (hrc123 : ∀ (S : St) (x3 : Int32), rc123 S x3 = some rr → Wat 55 40 8 4 X 123 [(0, .ref (ad X 55)), (3, .int x3)] [] S) {S : St} {x3 : Int32} (hres : bX12_law_123 rc123 S x3 = some rr) : Wat 55 40 8 4 X 123 [(0, .ref (ad X 55)), (3, .int x3)] [] S := by
  unfold bX12_law_123 at hres
  refine q_iload_n 124 hX 1 dX12_law_123 rfl rfl rfl ?_
  refine q_aload_n 125 hX 0 dX12_law_124 rfl rfl rfl ?_
  refine q_getI 128 hX ci12 lf_RX12_247 fI_55_19 dX12_law_125 rfl ?_
  refine q_icmp_ge 131 hX 185 dX12_law_128 rfl (by decide) (fun hc => ?_) (fun hc => ?_)
  · have hres := it_t hc hres
    refine q_aload_n 186 hX 0 dX12_law_185 rfl rfl rfl ?_
    refine q_getI 189 hX ci12 lf_RX12_247 fI_55_19 dX12_law_186 rfl ?_
    exact q_iret hX (eqi hq hres) dX12_law_189
  · have hres := it_f hc hres
    refine q_aload_n 132 hX 0 dX12_law_131 rfl rfl rfl ?_
    refine q_getR 135 hX ci12 lf_RX12_59 fR_55_28 dX12_law_132 rfl ?_
    refine q_iload_n 136 hX 1 dX12_law_135 rfl rfl rfl ?_
    refine q_aload_n 137 hX 0 dX12_law_136 rfl rfl rfl ?_
    refine q_getR 140 hX ci12 lf_RX12_44 fR_55_23 dX12_law_137 rfl ?_
    refine q_iload_n 141 hX 1 dX12_law_140 rfl rfl rfl ?_
    obtain ⟨hb1, hres⟩ := gd hres
    refine q_iald 142 hX rfl aF_67 hb1 dX12_law_141 rfl ?_
    obtain ⟨hb2, hres⟩ := gd hres
    refine q_iast 143 hX rfl aF_72 hb2 dX12_law_142 rfl ?_
    refine q_bS hres (fun S1 _ hres => ?_)
    refine q_aload_n 144 hX 0 dX12_law_143 rfl rfl rfl ?_
    refine q_getR 147 hX ci12 lf_RX12_62 fR_55_29 dX12_law_144 rfl ?_
    refine q_iload_n 148 hX 1 dX12_law_147 rfl rfl rfl ?_
    refine q_aload_n 149 hX 0 dX12_law_148 rfl rfl rfl ?_
    refine q_getR 152 hX ci12 lf_RX12_47 fR_55_24 dX12_law_149 rfl ?_
    refine q_iload_n 153 hX 1 dX12_law_152 rfl rfl rfl ?_
    obtain ⟨hb3, hres⟩ := gd hres
    refine q_iald 154 hX rfl aF_68 hb3 dX12_law_153 rfl ?_
    obtain ⟨hb4, hres⟩ := gd hres
    refine q_iast 155 hX rfl aF_73 hb4 dX12_law_154 rfl ?_
    refine q_bS hres (fun S2 _ hres => ?_)
    refine q_aload_n 156 hX 0 dX12_law_155 rfl rfl rfl ?_
    refine q_getR 159 hX ci12 lf_RX12_65 fR_55_30 dX12_law_156 rfl ?_
    refine q_iload_n 160 hX 1 dX12_law_159 rfl rfl rfl ?_
    refine q_aload_n 161 hX 0 dX12_law_160 rfl rfl rfl ?_
    refine q_getR 164 hX ci12 lf_RX12_50 fR_55_25 dX12_law_161 rfl ?_
    refine q_iload_n 165 hX 1 dX12_law_164 rfl rfl rfl ?_
    obtain ⟨hb5, hres⟩ := gd hres
    refine q_iald 166 hX rfl aF_69 hb5 dX12_law_165 rfl ?_
    obtain ⟨hb6, hres⟩ := gd hres
    refine q_iast 167 hX rfl aF_74 hb6 dX12_law_166 rfl ?_
    refine q_bS hres (fun S3 _ hres => ?_)
    refine q_aload_n 168 hX 0 dX12_law_167 rfl rfl rfl ?_
    refine q_getR 171 hX ci12 lf_RX12_68 fR_55_31 dX12_law_168 rfl ?_
    refine q_iload_n 172 hX 1 dX12_law_171 rfl rfl rfl ?_
    refine q_aload_n 173 hX 0 dX12_law_172 rfl rfl rfl ?_
    refine q_getR 176 hX ci12 lf_RX12_53 fR_55_26 dX12_law_173 rfl ?_
    refine q_iload_n 177 hX 1 dX12_law_176 rfl rfl rfl ?_
    obtain ⟨hb7, hres⟩ := gd hres
    refine q_iald 178 hX rfl aF_70 hb7 dX12_law_177 rfl ?_
    obtain ⟨hb8, hres⟩ := gd hres
    refine q_iast 179 hX rfl aF_75 hb8 dX12_law_178 rfl ?_
    refine q_bS hres (fun S4 _ hres => ?_)
    refine q_iincB 182 1 (lv0 := [(0, .ref (ad X 55))]) hX dX12_law_179 rfl rfl kI_1 (by decide) rfl hres (fun v9 hres => ?_)
    refine q_goto 123 hX dX12_law_182 (by decide) ?_
    exact q_sub [1, 0] rfl (hrc123 _ _ hres)
def fX12_law_123 : Nat → St → Int32 → Option (Int32 × St)
  | 0 => fun _ _ => none
  | k + 1 => fun S x3 => bX12_law_123 (fX12_law_123 k) S x3
theorem wfX12_law_123 {X : CX} (hX : Ok RX12 cX12_law (some .int) 55 40 4 X) {rr : Int32 × St} (hq : rs X = (some (.int rr.1), rr.2)) (k : Nat) : ∀ (S : St) (x3 : Int32), fX12_law_123 k S x3 = some rr → Wat 55 40 8 4 X 123 [(0, .ref (ad X 55)), (3, .int x3)] [] S := by
  induction k with
  | zero => intro S x3 hres; exact absurd hres (by simp [fX12_law_123])
  | succ k ih => intro S x3 hres; exact wbX12_law_123 hX hq ih hres
def bX12_law_95 (rc95 : St → Int32 → Option (Int32 × St)) (S : St) (x3 : Int32) : Option (Int32 × St) :=
  if (S.1 55 17) ≤ x3 then (fX12_law_123 300 S (0 : Int32)) else (if inb x3 260 = true then if inb x3 260 = true then bS (pI S 71 (x3.toNatClampNeg) (S.1 65 (x3.toNatClampNeg))) fun S1 => bV (x3 + (1 : Int32)) fun v3 => rc95 S1 v3 else none else none)
theorem wbX12_law_95 {X : CX} (hX : Ok RX12 cX12_law (some .int) 55 40 4 X) {rr : Int32 × St} (hq : rs X = (some (.int rr.1), rr.2)) {rc95 : St → Int32 → Option (Int32 × St)} (hrc95 : ∀ (S : St) (x3 : Int32), rc95 S x3 = some rr → Wat 55 40 8 4 X 95 [(0, .ref (ad X 55)), (3, .int x3)] [] S) {S : St} {x3 : Int32} (hres : bX12_law_95 rc95 S x3 = some rr) : Wat 55 40 8 4 X 95 [(0, .ref (ad X 55)), (3, .int x3)] [] S := by
  unfold bX12_law_95 at hres
  refine q_iload_n 96 hX 1 dX12_law_95 rfl rfl rfl ?_
  refine q_aload_n 97 hX 0 dX12_law_96 rfl rfl rfl ?_
  refine q_getI 100 hX ci12 lf_RX12_192 fI_55_17 dX12_law_97 rfl ?_
  refine q_icmp_ge 103 hX 121 dX12_law_100 rfl (by decide) (fun hc => ?_) (fun hc => ?_)
  · have hres := it_t hc hres
    refine q_iconst 122 hX dX12_law_121 rfl kI_0 ?_
    refine q_istore_n 123 (lv' := [(3, .int (0 : Int32)), (0, .ref (ad X 55))]) hX dX12_law_122 rfl rfl (by decide) rfl ?_
    exact q_sub [1, 0] rfl (wfX12_law_123 hX hq _ _ _ hres)
  · have hres := it_f hc hres
    refine q_aload_n 104 hX 0 dX12_law_103 rfl rfl rfl ?_
    refine q_getR 107 hX ci12 lf_RX12_56 fR_55_27 dX12_law_104 rfl ?_
    refine q_iload_n 108 hX 1 dX12_law_107 rfl rfl rfl ?_
    refine q_aload_n 109 hX 0 dX12_law_108 rfl rfl rfl ?_
    refine q_getR 112 hX ci12 lf_RX12_38 fR_55_21 dX12_law_109 rfl ?_
    refine q_iload_n 113 hX 1 dX12_law_112 rfl rfl rfl ?_
    obtain ⟨hb1, hres⟩ := gd hres
    refine q_iald 114 hX rfl aF_65 hb1 dX12_law_113 rfl ?_
    obtain ⟨hb2, hres⟩ := gd hres
    refine q_iast 115 hX rfl aF_71 hb2 dX12_law_114 rfl ?_
    refine q_bS hres (fun S1 _ hres => ?_)
    refine q_iincB 118 1 (lv0 := [(0, .ref (ad X 55))]) hX dX12_law_115 rfl rfl kI_1 (by decide) rfl hres (fun v3 hres => ?_)
    refine q_goto 95 hX dX12_law_118 (by decide) ?_
    exact q_sub [1, 0] rfl (hrc95 _ _ hres)
def fX12_law_95 : Nat → St → Int32 → Option (Int32 × St)
  | 0 => fun _ _ => none
  | k + 1 => fun S x3 => bX12_law_95 (fX12_law_95 k) S x3
theorem wfX12_law_95 {X : CX} (hX : Ok RX12 cX12_law (some .int) 55 40 4 X) {rr : Int32 × St} (hq : rs X = (some (.int rr.1), rr.2)) (k : Nat) : ∀ (S : St) (x3 : Int32), fX12_law_95 k S x3 = some rr → Wat 55 40 8 4 X 95 [(0, .ref (ad X 55)), (3, .int x3)] [] S := by
  induction k with
  | zero => intro S x3 hres; exact absurd hres (by simp [fX12_law_95])
  | succ k ih => intro S x3 hres; exact wbX12_law_95 hX hq ih hres
def fX12_law_71 (S : St) (x2 : Int32) : Option (Int32 × St) :=
  bS (pI S 55 11 (0 : Int32)) fun S1 => if x2 = 0 then (some ((S1.1 55 14), S1)) else (bS (pI S1 55 20 (S1.1 55 19)) fun S2 => fX12_law_95 300 S2 (0 : Int32))
theorem wfX12_law_71 {X : CX} (hX : Ok RX12 cX12_law (some .int) 55 40 4 X) {rr : Int32 × St} (hq : rs X = (some (.int rr.1), rr.2)) {S : St} {x2 : Int32} (hres : fX12_law_71 S x2 = some rr) : Wat 55 40 8 4 X 71 [(0, .ref (ad X 55)), (2, .int x2)] [] S := by
  unfold fX12_law_71 at hres
  refine q_aload_n 72 hX 0 dX12_law_71 rfl rfl rfl ?_
  refine q_iconst 73 hX dX12_law_72 rfl kI_0 ?_
  refine q_putI 76 hX ci12 lf_RX12_162 fI_55_11 (nar_i rfl) dX12_law_73 rfl ?_
  refine q_bS hres (fun S1 _ hres => ?_)
  refine q_iload_n 77 hX 1 dX12_law_76 rfl rfl rfl ?_
  refine q_if_ne 80 hX 85 dX12_law_77 rfl (by decide) (fun hc => ?_) (fun hc => ?_)
  · have hres := it_f hc hres
    refine q_aload_n 86 hX 0 dX12_law_85 rfl rfl rfl ?_
    refine q_aload_n 87 hX 0 dX12_law_86 rfl rfl rfl ?_
    refine q_getI 90 hX ci12 lf_RX12_247 fI_55_19 dX12_law_87 rfl ?_
    refine q_putI 93 hX ci12 lf_RX12_262 fI_55_20 (nar_i rfl) dX12_law_90 rfl ?_
    refine q_bS hres (fun S2 _ hres => ?_)
    refine q_iconst 94 hX dX12_law_93 rfl kI_0 ?_
    refine q_istore_n 95 (lv' := [(3, .int (0 : Int32)), (0, .ref (ad X 55)), (2, .int x2)]) hX dX12_law_94 rfl rfl (by decide) rfl ?_
    exact q_sub [1, 0] rfl (wfX12_law_95 hX hq _ _ _ hres)
  · have hres := it_t hc hres
    refine q_aload_n 81 hX 0 dX12_law_80 rfl rfl rfl ?_
    refine q_getI 84 hX ci12 lf_RX12_179 fI_55_14 dX12_law_81 rfl ?_
    exact q_iret hX (eqi hq hres) dX12_law_84
def bX12_law_31 (rc31 : St → Int32 → Option (Int32 × St)) (S : St) (x2 : Int32) : Option (Int32 × St) :=
  if x2 = 0 then (fX12_law_71 S x2) else (if (S.1 55 13) ≤ (S.1 55 12) then (fX12_law_71 S x2) else (bi (fX12_takes S (59 : Int32)) fun r2 S1 => if r2 = 0 then (fX12_law_66 rc31 S1) else (bi (fX12_readsRule S1) fun r4 S2 => if r4 = 0 then (fX12_law_66 rc31 S2) else (rc31 S2 (1 : Int32)))))
theorem wbX12_law_31 {X : CX} (hX : Ok RX12 cX12_law (some .int) 55 40 4 X) {rr : Int32 × St} (hq : rs X = (some (.int rr.1), rr.2)) {rc31 : St → Int32 → Option (Int32 × St)} (hrc31 : ∀ (S : St) (x2 : Int32), rc31 S x2 = some rr → Wat 55 40 8 4 X 31 [(0, .ref (ad X 55)), (2, .int x2)] [] S) {S : St} {x2 : Int32} (hres : bX12_law_31 rc31 S x2 = some rr) : Wat 55 40 8 4 X 31 [(0, .ref (ad X 55)), (2, .int x2)] [] S := by
  unfold bX12_law_31 at hres
  refine q_iload_n 32 hX 1 dX12_law_31 rfl rfl rfl ?_
  refine q_if_eq 35 hX 71 dX12_law_32 rfl (by decide) (fun hc => ?_) (fun hc => ?_)
  · have hres := it_t hc hres
    exact q_sub [0, 1] rfl (wfX12_law_71 hX hq hres)
  · have hres := it_f hc hres
    refine q_aload_n 36 hX 0 dX12_law_35 rfl rfl rfl ?_
    refine q_getI 39 hX ci12 lf_RX12_169 fI_55_12 dX12_law_36 rfl ?_
    refine q_aload_n 40 hX 0 dX12_law_39 rfl rfl rfl ?_
    refine q_getI 43 hX ci12 lf_RX12_172 fI_55_13 dX12_law_40 rfl ?_
    refine q_icmp_ge 46 hX 71 dX12_law_43 rfl (by decide) (fun hc => ?_) (fun hc => ?_)
    · have hres := it_t hc hres
      exact q_sub [0, 1] rfl (wfX12_law_71 hX hq hres)
    · have hres := it_f hc hres
      refine q_aload_n 47 hX 0 dX12_law_46 rfl rfl rfl ?_
      refine q_bipush 49 hX dX12_law_47 rfl kB_59 ?_
      obtain ⟨r2, S1, hk1, hres⟩ := ob hres
      refine q_callVi 52 (st := []) (As := [.int (59 : Int32)]) hX (cX12_takes9 hX.dj hk1) cv_RX12_259 ci12 oB_55 rfl (by decide) rfl (Nat.le_of_ble_eq_true rfl) dX12_law_49 rfl ?_
      refine q_if_eq 55 hX 66 dX12_law_52 rfl (by decide) (fun hc => ?_) (fun hc => ?_)
      · have hres := it_t hc hres
        exact q_sub [0] rfl (wfX12_law_66 hX hq hrc31 hres)
      · have hres := it_f hc hres
        refine q_aload_n 56 hX 0 dX12_law_55 rfl rfl rfl ?_
        obtain ⟨r4, S2, hk3, hres⟩ := ob hres
        refine q_callVi 59 (st := []) (As := []) hX (cX12_readsRule9 hX.dj hk3) cv_RX12_256 ci12 oB_55 rfl (by decide) rfl (Nat.le_of_ble_eq_true rfl) dX12_law_56 rfl ?_
        refine q_if_eq 62 hX 66 dX12_law_59 rfl (by decide) (fun hc => ?_) (fun hc => ?_)
        · have hres := it_t hc hres
          exact q_sub [0] rfl (wfX12_law_66 hX hq hrc31 hres)
        · have hres := it_f hc hres
          refine q_iconst 63 hX dX12_law_62 rfl kI_1 ?_
          refine q_goto 67 hX dX12_law_63 (by decide) ?_
          refine q_istore_n 68 (lv' := [(2, .int (1 : Int32)), (0, .ref (ad X 55))]) hX dX12_law_67 rfl rfl (by decide) rfl ?_
          refine q_goto 31 hX dX12_law_68 (by decide) ?_
          exact q_sub [1, 0] rfl (hrc31 _ _ hres)
def fX12_law_31 : Nat → St → Int32 → Option (Int32 × St)
  | 0 => fun _ _ => none
  | k + 1 => fun S x2 => bX12_law_31 (fX12_law_31 k) S x2
theorem wfX12_law_31 {X : CX} (hX : Ok RX12 cX12_law (some .int) 55 40 4 X) {rr : Int32 × St} (hq : rs X = (some (.int rr.1), rr.2)) (k : Nat) : ∀ (S : St) (x2 : Int32), fX12_law_31 k S x2 = some rr → Wat 55 40 8 4 X 31 [(0, .ref (ad X 55)), (2, .int x2)] [] S := by
  induction k with
  | zero => intro S x2 hres; exact absurd hres (by simp [fX12_law_31])
  | succ k ih => intro S x2 hres; exact wbX12_law_31 hX hq ih hres
def fX12_law (S : St) (x1 : Int32) : Option (Int32 × St) :=
  bi (fX12_in S x1 (1 : Int32) (240 : Int32)) fun r2 S1 => if r2 = 0 then (some ((-1 : Int32), S1)) else (if x1 ≤ (S1.1 55 11) then (bv (fX12_beginsText S1 x1) fun S2 => bi (fX12_readsRule S2) fun r5 S3 => fX12_law_31 300 S3 r5) else (some ((-1 : Int32), S1)))
theorem wfX12_law {X : CX} (hX : Ok RX12 cX12_law (some .int) 55 40 4 X) {rr : Int32 × St} (hq : rs X = (some (.int rr.1), rr.2)) {S : St} {x1 : Int32} (hres : fX12_law S x1 = some rr) : Wat 55 40 8 4 X 0 [(0, .ref (ad X 55)), (1, .int x1)] [] S := by
  unfold fX12_law at hres
  refine q_iload_n 1 hX 1 dX12_law_0 rfl rfl rfl ?_
  refine q_iconst 2 hX dX12_law_1 rfl kI_1 ?_
  refine q_sipush 5 hX dX12_law_2 rfl kS_240 ?_
  obtain ⟨r2, S1, hk1, hres⟩ := ob hres
  refine q_callSi 8 (st := []) (As := [.int x1, .int (1 : Int32), .int (240 : Int32)]) hX (cX12_in9 hX.dj hk1) cs_RX12_134 rfl (by decide) rfl (Nat.le_of_ble_eq_true rfl) dX12_law_5 rfl ?_
  refine q_if_eq 11 hX 19 dX12_law_8 rfl (by decide) (fun hc => ?_) (fun hc => ?_)
  · have hres := it_t hc hres
    refine q_iconst 20 hX dX12_law_19 rfl kI_m1 ?_
    exact q_iret hX (eqi hq hres) dX12_law_20
  · have hres := it_f hc hres
    refine q_iload_n 12 hX 1 dX12_law_11 rfl rfl rfl ?_
    refine q_aload_n 13 hX 0 dX12_law_12 rfl rfl rfl ?_
    refine q_getI 16 hX ci12 lf_RX12_162 fI_55_11 dX12_law_13 rfl ?_
    refine q_icmp_le 19 hX 21 dX12_law_16 rfl (by decide) (fun hc => ?_) (fun hc => ?_)
    · have hres := it_t hc hres
      refine q_aload_n 22 hX 0 dX12_law_21 rfl rfl rfl ?_
      refine q_iload_n 23 hX 1 dX12_law_22 rfl rfl rfl ?_
      obtain ⟨S2, hk3, hres⟩ := obv hres
      refine q_callVv 26 (st := []) (As := [.int x1]) hX (cX12_beginsText9 hX.dj hk3) cv_RX12_253 ci12 oB_55 rfl (by decide) rfl (Nat.le_of_ble_eq_true rfl) dX12_law_23 rfl ?_
      refine q_aload_n 27 hX 0 dX12_law_26 rfl rfl rfl ?_
      obtain ⟨r5, S3, hk4, hres⟩ := ob hres
      refine q_callVi 30 (st := []) (As := []) hX (cX12_readsRule9 hX.dj hk4) cv_RX12_256 ci12 oB_55 rfl (by decide) rfl (Nat.le_of_ble_eq_true rfl) dX12_law_27 rfl ?_
      refine q_istore_n 31 (lv' := [(2, .int r5), (0, .ref (ad X 55)), (1, .int x1)]) hX dX12_law_30 rfl rfl (by decide) rfl ?_
      exact q_sub [1, 0] rfl (wfX12_law_31 hX hq _ _ _ hres)
    · have hres := it_f hc hres
      refine q_iconst 20 hX dX12_law_19 rfl kI_m1 ?_
      exact q_iret hX (eqi hq hres) dX12_law_20
theorem cX12_law9 {l : Launch} {w : WD} (hj : Dj w 55 40) {rr : Int32 × St} {S : St} {x1 : Int32} (hres : fX12_law S x1 = some rr) : Ct l yX12_law cX12_law 4 (some .int) 8 w 55 40 [.ref (w.1 55), .int x1] S (some (.int rr.1), rr.2) := by
  refine Ct.of (lv := [(0, .ref (w.1 55)), (1, .int x1)]) hj (by decide +kernel) (Nat.le_of_ble_eq_true rfl) rfl ?_
  rintro X rfl rfl hq hX
  exact wfX12_law hX hq hres
def fX12_reckon (S : St) (x0 : Int32) (x1 : Int32) (x2 : Int32) : Option (Int32 × St) :=
  if x0 = (2 : Int32) then (some ((x1 + x2), S)) else (if x0 = (3 : Int32) then (some ((x1 - x2), S)) else (if x0 = (4 : Int32) then (some ((x1 * x2), S)) else (if x0 = (5 : Int32) then (if x2 = 0 then none else some ((x1 / x2), S)) else (if x0 = (6 : Int32) then (if x2 = 0 then none else some ((x1 - x1 / x2 * x2), S)) else (if x0 = (7 : Int32) then (if x2 ≤ x1 then (some ((0 : Int32), S)) else (some ((1 : Int32), S))) else (if x0 = (8 : Int32) then (if x1 ≤ x2 then (some ((0 : Int32), S)) else (some ((1 : Int32), S))) else (if x1 = x2 then (some ((1 : Int32), S)) else (some ((0 : Int32), S)))))))))
theorem wfX12_reckon {X : CX} (hX : Ok RX12 cX12_reckon (some .int) 55 40 3 X) {rr : Int32 × St} (hq : rs X = (some (.int rr.1), rr.2)) {S : St} {x0 : Int32} {x1 : Int32} {x2 : Int32} (hres : fX12_reckon S x0 x1 x2 = some rr) : Wat 55 40 0 3 X 0 [(0, .int x0), (1, .int x1), (2, .int x2)] [] S := by
  unfold fX12_reckon at hres
  refine q_iload_n 1 hX 0 dX12_reckon_0 rfl rfl rfl ?_
  by_cases hc2 : x0 = (2 : Int32)
  · have hres := it_t hc2 hres
    refine q_tabIn 44 hX dX12_reckon_1 (by rw [hc2]; decide) (by rw [hc2]; decide) (by rw [hc2]; rfl) (by decide) ?_
    refine q_iload_n 45 hX 1 dX12_reckon_44 rfl rfl rfl ?_
    refine q_iload_n 46 hX 2 dX12_reckon_45 rfl rfl rfl ?_
    refine q_iadd 47 hX dX12_reckon_46 rfl ?_
    exact q_iret hX (eqi hq hres) dX12_reckon_47
  have hres := it_f hc2 hres
  have hn2 := ne_ti (k := 2) hc2 (by decide)
  by_cases hc3 : x0 = (3 : Int32)
  · have hres := it_t hc3 hres
    refine q_tabIn 48 hX dX12_reckon_1 (by rw [hc3]; decide) (by rw [hc3]; decide) (by rw [hc3]; rfl) (by decide) ?_
    refine q_iload_n 49 hX 1 dX12_reckon_48 rfl rfl rfl ?_
    refine q_iload_n 50 hX 2 dX12_reckon_49 rfl rfl rfl ?_
    refine q_isub 51 hX dX12_reckon_50 rfl ?_
    exact q_iret hX (eqi hq hres) dX12_reckon_51
  have hres := it_f hc3 hres
  have hn3 := ne_ti (k := 3) hc3 (by decide)
  by_cases hc4 : x0 = (4 : Int32)
  · have hres := it_t hc4 hres
    refine q_tabIn 52 hX dX12_reckon_1 (by rw [hc4]; decide) (by rw [hc4]; decide) (by rw [hc4]; rfl) (by decide) ?_
    refine q_iload_n 53 hX 1 dX12_reckon_52 rfl rfl rfl ?_
    refine q_iload_n 54 hX 2 dX12_reckon_53 rfl rfl rfl ?_
    refine q_imul 55 hX dX12_reckon_54 rfl ?_
    exact q_iret hX (eqi hq hres) dX12_reckon_55
  have hres := it_f hc4 hres
  have hn4 := ne_ti (k := 4) hc4 (by decide)
  by_cases hc5 : x0 = (5 : Int32)
  · have hres := it_t hc5 hres
    refine q_tabIn 56 hX dX12_reckon_1 (by rw [hc5]; decide) (by rw [hc5]; decide) (by rw [hc5]; rfl) (by decide) ?_
    refine q_iload_n 57 hX 1 dX12_reckon_56 rfl rfl rfl ?_
    refine q_iload_n 58 hX 2 dX12_reckon_57 rfl rfl rfl ?_
    obtain ⟨hn1, hres⟩ := gdn hres
    refine q_idiv 59 hX dX12_reckon_58 rfl hn1 ?_
    exact q_iret hX (eqi hq hres) dX12_reckon_59
  have hres := it_f hc5 hres
  have hn5 := ne_ti (k := 5) hc5 (by decide)
  by_cases hc6 : x0 = (6 : Int32)
  · have hres := it_t hc6 hres
    refine q_tabIn 60 hX dX12_reckon_1 (by rw [hc6]; decide) (by rw [hc6]; decide) (by rw [hc6]; rfl) (by decide) ?_
    refine q_iload_n 61 hX 1 dX12_reckon_60 rfl rfl rfl ?_
    refine q_iload_n 62 hX 2 dX12_reckon_61 rfl rfl rfl ?_
    obtain ⟨hn2, hres⟩ := gdn hres
    refine q_irem 63 hX dX12_reckon_62 rfl hn2 ?_
    exact q_iret hX (eqi hq hres) dX12_reckon_63
  have hres := it_f hc6 hres
  have hn6 := ne_ti (k := 6) hc6 (by decide)
  by_cases hc7 : x0 = (7 : Int32)
  · have hres := it_t hc7 hres
    refine q_tabIn 64 hX dX12_reckon_1 (by rw [hc7]; decide) (by rw [hc7]; decide) (by rw [hc7]; rfl) (by decide) ?_
    refine q_iload_n 65 hX 1 dX12_reckon_64 rfl rfl rfl ?_
    refine q_iload_n 66 hX 2 dX12_reckon_65 rfl rfl rfl ?_
    refine q_icmp_ge 69 hX 73 dX12_reckon_66 rfl (by decide) (fun hc => ?_) (fun hc => ?_)
    · have hres := it_t hc hres
      refine q_iconst 74 hX dX12_reckon_73 rfl kI_0 ?_
      exact q_iret hX (eqi hq hres) dX12_reckon_74
    · have hres := it_f hc hres
      refine q_iconst 70 hX dX12_reckon_69 rfl kI_1 ?_
      refine q_goto 74 hX dX12_reckon_70 (by decide) ?_
      exact q_iret hX (eqi hq hres) dX12_reckon_74
  have hres := it_f hc7 hres
  have hn7 := ne_ti (k := 7) hc7 (by decide)
  by_cases hc8 : x0 = (8 : Int32)
  · have hres := it_t hc8 hres
    refine q_tabIn 75 hX dX12_reckon_1 (by rw [hc8]; decide) (by rw [hc8]; decide) (by rw [hc8]; rfl) (by decide) ?_
    refine q_iload_n 76 hX 1 dX12_reckon_75 rfl rfl rfl ?_
    refine q_iload_n 77 hX 2 dX12_reckon_76 rfl rfl rfl ?_
    refine q_icmp_le 80 hX 84 dX12_reckon_77 rfl (by decide) (fun hc => ?_) (fun hc => ?_)
    · have hres := it_t hc hres
      refine q_iconst 85 hX dX12_reckon_84 rfl kI_0 ?_
      exact q_iret hX (eqi hq hres) dX12_reckon_85
    · have hres := it_f hc hres
      refine q_iconst 81 hX dX12_reckon_80 rfl kI_1 ?_
      refine q_goto 85 hX dX12_reckon_81 (by decide) ?_
      exact q_iret hX (eqi hq hres) dX12_reckon_85
  have hres := it_f hc8 hres
  have hn8 := ne_ti (k := 8) hc8 (by decide)
  refine q_tabOut 86 hX dX12_reckon_1 (by omega) (by decide) ?_
  refine q_iload_n 87 hX 1 dX12_reckon_86 rfl rfl rfl ?_
  refine q_iload_n 88 hX 2 dX12_reckon_87 rfl rfl rfl ?_
  refine q_icmp_ne 91 hX 95 dX12_reckon_88 rfl (by decide) (fun hc => ?_) (fun hc => ?_)
  · have hres := it_f hc hres
    refine q_iconst 96 hX dX12_reckon_95 rfl kI_0 ?_
    exact q_iret hX (eqi hq hres) dX12_reckon_96
  · have hres := it_t hc hres
    refine q_iconst 92 hX dX12_reckon_91 rfl kI_1 ?_
    refine q_goto 96 hX dX12_reckon_92 (by decide) ?_
    exact q_iret hX (eqi hq hres) dX12_reckon_96
theorem cX12_reckon9 {l : Launch} {w : WD} (hj : Dj w 55 40) {rr : Int32 × St} {S : St} {x0 : Int32} {x1 : Int32} {x2 : Int32} (hres : fX12_reckon S x0 x1 x2 = some rr) : Ct l yX12_reckon cX12_reckon 3 (some .int) 0 w 55 40 [.int x0, .int x1, .int x2] S (some (.int rr.1), rr.2) := by
  refine Ct.of (lv := [(0, .int x0), (1, .int x1), (2, .int x2)]) hj (by decide +kernel) (Nat.le_of_ble_eq_true rfl) rfl ?_
  rintro X rfl rfl hq hX
  exact wfX12_reckon hX hq hres
def fX12_reckonsTo_85 (rc16 : St → Int32 → Int32 → Int32 → Int32 → Option (Int32 × St)) (S : St) (x2 : Int32) (x3 : Int32) (x4 : Int32) (x5 : Int32) (s1 : Int32) (s2 : Int32) : Option (Int32 × St) :=
  if inb s1 260 = true then bS (pI S 76 (s1.toNatClampNeg) s2) fun S1 => bV ((x3 + (1 : Int32))) fun v2 => rc16 S1 x2 v2 x4 x5 else none
theorem wfX12_reckonsTo_85 {X : CX} (hX : Ok RX12 cX12_reckonsTo (some .int) 55 40 8 X) {rr : Int32 × St} (hq : rs X = (some (.int rr.1), rr.2)) {rc16 : St → Int32 → Int32 → Int32 → Int32 → Option (Int32 × St)} (hrc16 : ∀ (S : St) (x2 : Int32) (x3 : Int32) (x4 : Int32) (x5 : Int32), rc16 S x2 x3 x4 x5 = some rr → Wat 55 40 1 8 X 16 [(0, .ref (ad X 55)), (2, .int x2), (3, .int x3), (4, .int x4), (5, .int x5)] [] S) {S : St} {x2 : Int32} {x3 : Int32} {x4 : Int32} {x5 : Int32} {s1 : Int32} {s2 : Int32} (hres : fX12_reckonsTo_85 rc16 S x2 x3 x4 x5 s1 s2 = some rr) : Wat 55 40 1 8 X 85 [(0, .ref (ad X 55)), (2, .int x2), (3, .int x3), (4, .int x4), (5, .int x5)] [.int s2, .int s1, .ref (ad X 76)] S := by
  unfold fX12_reckonsTo_85 at hres
  obtain ⟨hb1, hres⟩ := gd hres
  refine q_iast 86 hX rfl aF_76 hb1 dX12_reckonsTo_85 rfl ?_
  refine q_bS hres (fun S1 _ hres => ?_)
  refine q_iload_n 87 hX 2 dX12_reckonsTo_86 rfl rfl rfl ?_
  refine q_iconst 88 hX dX12_reckonsTo_87 rfl kI_1 ?_
  refine q_iadd 89 hX dX12_reckonsTo_88 rfl ?_
  refine q_istoreB_n 90 (lv0 := [(0, .ref (ad X 55)), (2, .int x2), (4, .int x4), (5, .int x5)]) hX dX12_reckonsTo_89 rfl rfl (by decide) rfl hres (fun v2 hres => ?_)
  refine q_goto 230 hX dX12_reckonsTo_90 (by decide) ?_
  refine q_goto 16 hX dX12_reckonsTo_230 (by decide) ?_
  exact q_sub [1, 2, 0, 3, 4] rfl (hrc16 _ _ _ _ _ hres)
def fX12_reckonsTo_63 (rc16 : St → Int32 → Int32 → Int32 → Int32 → Option (Int32 × St)) (S : St) (x2 : Int32) (x3 : Int32) (x4 : Int32) (x5 : Int32) (x6 : Int32) (x7 : Int32) : Option (Int32 × St) :=
  if x6 = 0 then (fX12_reckonsTo_85 rc16 S x2 x3 x4 x5 x3 x7) else (if inb x7 9 = true then fX12_reckonsTo_85 rc16 S x2 x3 x4 x5 x3 (S.1 77 (x7.toNatClampNeg)) else none)
theorem wfX12_reckonsTo_63 {X : CX} (hX : Ok RX12 cX12_reckonsTo (some .int) 55 40 8 X) {rr : Int32 × St} (hq : rs X = (some (.int rr.1), rr.2)) {rc16 : St → Int32 → Int32 → Int32 → Int32 → Option (Int32 × St)} (hrc16 : ∀ (S : St) (x2 : Int32) (x3 : Int32) (x4 : Int32) (x5 : Int32), rc16 S x2 x3 x4 x5 = some rr → Wat 55 40 1 8 X 16 [(0, .ref (ad X 55)), (2, .int x2), (3, .int x3), (4, .int x4), (5, .int x5)] [] S) {S : St} {x2 : Int32} {x3 : Int32} {x4 : Int32} {x5 : Int32} {x6 : Int32} {x7 : Int32} (hres : fX12_reckonsTo_63 rc16 S x2 x3 x4 x5 x6 x7 = some rr) : Wat 55 40 1 8 X 63 [(0, .ref (ad X 55)), (2, .int x2), (3, .int x3), (4, .int x4), (5, .int x5), (6, .int x6), (7, .int x7)] [] S := by
  unfold fX12_reckonsTo_63 at hres
  refine q_aload_n 64 hX 0 dX12_reckonsTo_63 rfl rfl rfl ?_
  refine q_getR 67 hX ci12 lf_RX12_71 fR_55_32 dX12_reckonsTo_64 rfl ?_
  refine q_iload_n 68 hX 2 dX12_reckonsTo_67 rfl rfl rfl ?_
  refine q_iload 70 hX 5 dX12_reckonsTo_68 rfl rfl ?_
  refine q_if_ne 73 hX 78 dX12_reckonsTo_70 rfl (by decide) (fun hc => ?_) (fun hc => ?_)
  · have hres := it_f hc hres
    refine q_aload_n 79 hX 0 dX12_reckonsTo_78 rfl rfl rfl ?_
    refine q_getR 82 hX ci12 lf_RX12_74 fR_55_33 dX12_reckonsTo_79 rfl ?_
    refine q_iload 84 hX 6 dX12_reckonsTo_82 rfl rfl ?_
    obtain ⟨hb1, hres⟩ := gd hres
    refine q_iald 85 hX rfl aF_77 hb1 dX12_reckonsTo_84 rfl ?_
    exact q_sub [0, 1, 2, 3, 4] rfl (wfX12_reckonsTo_85 hX hq hrc16 hres)
  · have hres := it_t hc hres
    refine q_iload 75 hX 6 dX12_reckonsTo_73 rfl rfl ?_
    refine q_goto 85 hX dX12_reckonsTo_75 (by decide) ?_
    exact q_sub [0, 1, 2, 3, 4] rfl (wfX12_reckonsTo_85 hX hq hrc16 hres)
def fX12_reckonsTo_155 (rc16 : St → Int32 → Int32 → Int32 → Int32 → Option (Int32 × St)) (S : St) (x2 : Int32) (x3 : Int32) (x4 : Int32) (x5 : Int32) (x7 : Int32) (s0 : Int32) (s1 : Int32) : Option (Int32 × St) :=
  if s0 = s1 then (bV ((x4 + x7)) fun v2 => rc16 S x2 x3 x4 v2) else (bV ((x3 - (1 : Int32))) fun v1 => rc16 S x2 v1 x4 x5)
theorem wfX12_reckonsTo_155 {X : CX} (hX : Ok RX12 cX12_reckonsTo (some .int) 55 40 8 X) {rr : Int32 × St} (hq : rs X = (some (.int rr.1), rr.2)) {rc16 : St → Int32 → Int32 → Int32 → Int32 → Option (Int32 × St)} (hrc16 : ∀ (S : St) (x2 : Int32) (x3 : Int32) (x4 : Int32) (x5 : Int32), rc16 S x2 x3 x4 x5 = some rr → Wat 55 40 1 8 X 16 [(0, .ref (ad X 55)), (2, .int x2), (3, .int x3), (4, .int x4), (5, .int x5)] [] S) {S : St} {x2 : Int32} {x3 : Int32} {x4 : Int32} {x5 : Int32} {x7 : Int32} {s0 : Int32} {s1 : Int32} (hres : fX12_reckonsTo_155 rc16 S x2 x3 x4 x5 x7 s0 s1 = some rr) : Wat 55 40 1 8 X 155 [(0, .ref (ad X 55)), (2, .int x2), (3, .int x3), (4, .int x4), (5, .int x5), (7, .int x7)] [.int s1, .int s0] S := by
  unfold fX12_reckonsTo_155 at hres
  refine q_icmp_ne 158 hX 168 dX12_reckonsTo_155 rfl (by decide) (fun hc => ?_) (fun hc => ?_)
  · have hres := it_f hc hres
    refine q_iload_n 169 hX 2 dX12_reckonsTo_168 rfl rfl rfl ?_
    refine q_iconst 170 hX dX12_reckonsTo_169 rfl kI_1 ?_
    refine q_isub 171 hX dX12_reckonsTo_170 rfl ?_
    refine q_istoreB_n 172 (lv0 := [(0, .ref (ad X 55)), (2, .int x2), (4, .int x4), (5, .int x5), (7, .int x7)]) hX dX12_reckonsTo_171 rfl rfl (by decide) rfl hres (fun v1 hres => ?_)
    refine q_goto 230 hX dX12_reckonsTo_172 (by decide) ?_
    refine q_goto 16 hX dX12_reckonsTo_230 (by decide) ?_
    exact q_sub [1, 2, 0, 3, 4] rfl (hrc16 _ _ _ _ _ hres)
  · have hres := it_t hc hres
    refine q_iload 160 hX 3 dX12_reckonsTo_158 rfl rfl ?_
    refine q_iload 162 hX 5 dX12_reckonsTo_160 rfl rfl ?_
    refine q_iadd 163 hX dX12_reckonsTo_162 rfl ?_
    refine q_istoreB 165 (lv0 := [(0, .ref (ad X 55)), (2, .int x2), (3, .int x3), (4, .int x4), (7, .int x7)]) hX dX12_reckonsTo_163 rfl (by decide) rfl hres (fun v2 hres => ?_)
    refine q_goto 230 hX dX12_reckonsTo_165 (by decide) ?_
    refine q_goto 16 hX dX12_reckonsTo_230 (by decide) ?_
    exact q_sub [1, 2, 3, 4, 0] rfl (hrc16 _ _ _ _ _ hres)
def fX12_reckonsTo_135 (rc16 : St → Int32 → Int32 → Int32 → Int32 → Option (Int32 × St)) (S : St) (x2 : Int32) (x3 : Int32) (x4 : Int32) (x5 : Int32) (x6 : Int32) (x7 : Int32) : Option (Int32 × St) :=
  if inb (x3 - (1 : Int32)) 260 = true then if x6 = (12 : Int32) then (fX12_reckonsTo_155 rc16 S x2 x3 x4 x5 x7 (S.1 76 ((x3 - (1 : Int32)).toNatClampNeg)) (1 : Int32)) else (fX12_reckonsTo_155 rc16 S x2 x3 x4 x5 x7 (S.1 76 ((x3 - (1 : Int32)).toNatClampNeg)) (0 : Int32)) else none
theorem wfX12_reckonsTo_135 {X : CX} (hX : Ok RX12 cX12_reckonsTo (some .int) 55 40 8 X) {rr : Int32 × St} (hq : rs X = (some (.int rr.1), rr.2)) {rc16 : St → Int32 → Int32 → Int32 → Int32 → Option (Int32 × St)} (hrc16 : ∀ (S : St) (x2 : Int32) (x3 : Int32) (x4 : Int32) (x5 : Int32), rc16 S x2 x3 x4 x5 = some rr → Wat 55 40 1 8 X 16 [(0, .ref (ad X 55)), (2, .int x2), (3, .int x3), (4, .int x4), (5, .int x5)] [] S) {S : St} {x2 : Int32} {x3 : Int32} {x4 : Int32} {x5 : Int32} {x6 : Int32} {x7 : Int32} (hres : fX12_reckonsTo_135 rc16 S x2 x3 x4 x5 x6 x7 = some rr) : Wat 55 40 1 8 X 135 [(0, .ref (ad X 55)), (2, .int x2), (3, .int x3), (4, .int x4), (5, .int x5), (6, .int x6), (7, .int x7)] [] S := by
  unfold fX12_reckonsTo_135 at hres
  refine q_aload_n 136 hX 0 dX12_reckonsTo_135 rfl rfl rfl ?_
  refine q_getR 139 hX ci12 lf_RX12_71 fR_55_32 dX12_reckonsTo_136 rfl ?_
  refine q_iload_n 140 hX 2 dX12_reckonsTo_139 rfl rfl rfl ?_
  refine q_iconst 141 hX dX12_reckonsTo_140 rfl kI_1 ?_
  refine q_isub 142 hX dX12_reckonsTo_141 rfl ?_
  obtain ⟨hb1, hres⟩ := gd hres
  refine q_iald 143 hX rfl aF_76 hb1 dX12_reckonsTo_142 rfl ?_
  refine q_iload 145 hX 5 dX12_reckonsTo_143 rfl rfl ?_
  refine q_bipush 147 hX dX12_reckonsTo_145 rfl kB_12 ?_
  refine q_icmp_ne 150 hX 154 dX12_reckonsTo_147 rfl (by decide) (fun hc => ?_) (fun hc => ?_)
  · have hres := it_f hc hres
    refine q_iconst 155 hX dX12_reckonsTo_154 rfl kI_0 ?_
    exact q_sub [0, 1, 2, 3, 4, 6] rfl (wfX12_reckonsTo_155 hX hq hrc16 hres)
  · have hres := it_t hc hres
    refine q_iconst 151 hX dX12_reckonsTo_150 rfl kI_1 ?_
    refine q_goto 155 hX dX12_reckonsTo_151 (by decide) ?_
    exact q_sub [0, 1, 2, 3, 4, 6] rfl (wfX12_reckonsTo_155 hX hq hrc16 hres)
def fX12_reckonsTo_203 (rc16 : St → Int32 → Int32 → Int32 → Int32 → Option (Int32 × St)) (S : St) (x2 : Int32) (x3 : Int32) (x4 : Int32) (x5 : Int32) (x6 : Int32) : Option (Int32 × St) :=
  if inb (x3 - (1 : Int32)) 260 = true then if inb x3 260 = true then bi (fX12_reckon S x6 (S.1 76 ((x3 - (1 : Int32)).toNatClampNeg)) (S.1 76 (x3.toNatClampNeg))) fun r4 S1 => if inb (x3 - (1 : Int32)) 260 = true then bS (pI S1 76 ((x3 - (1 : Int32)).toNatClampNeg) r4) fun S2 => rc16 S2 x2 x3 x4 x5 else none else none else none
theorem wfX12_reckonsTo_203 {X : CX} (hX : Ok RX12 cX12_reckonsTo (some .int) 55 40 8 X) {rr : Int32 × St} (hq : rs X = (some (.int rr.1), rr.2)) {rc16 : St → Int32 → Int32 → Int32 → Int32 → Option (Int32 × St)} (hrc16 : ∀ (S : St) (x2 : Int32) (x3 : Int32) (x4 : Int32) (x5 : Int32), rc16 S x2 x3 x4 x5 = some rr → Wat 55 40 1 8 X 16 [(0, .ref (ad X 55)), (2, .int x2), (3, .int x3), (4, .int x4), (5, .int x5)] [] S) {S : St} {x2 : Int32} {x3 : Int32} {x4 : Int32} {x5 : Int32} {x6 : Int32} (hres : fX12_reckonsTo_203 rc16 S x2 x3 x4 x5 x6 = some rr) : Wat 55 40 1 8 X 203 [(0, .ref (ad X 55)), (2, .int x2), (3, .int x3), (4, .int x4), (5, .int x5), (6, .int x6)] [] S := by
  unfold fX12_reckonsTo_203 at hres
  refine q_aload_n 204 hX 0 dX12_reckonsTo_203 rfl rfl rfl ?_
  refine q_getR 207 hX ci12 lf_RX12_71 fR_55_32 dX12_reckonsTo_204 rfl ?_
  refine q_iload_n 208 hX 2 dX12_reckonsTo_207 rfl rfl rfl ?_
  refine q_iconst 209 hX dX12_reckonsTo_208 rfl kI_1 ?_
  refine q_isub 210 hX dX12_reckonsTo_209 rfl ?_
  refine q_iload 212 hX 5 dX12_reckonsTo_210 rfl rfl ?_
  refine q_aload_n 213 hX 0 dX12_reckonsTo_212 rfl rfl rfl ?_
  refine q_getR 216 hX ci12 lf_RX12_71 fR_55_32 dX12_reckonsTo_213 rfl ?_
  refine q_iload_n 217 hX 2 dX12_reckonsTo_216 rfl rfl rfl ?_
  refine q_iconst 218 hX dX12_reckonsTo_217 rfl kI_1 ?_
  refine q_isub 219 hX dX12_reckonsTo_218 rfl ?_
  obtain ⟨hb1, hres⟩ := gd hres
  refine q_iald 220 hX rfl aF_76 hb1 dX12_reckonsTo_219 rfl ?_
  refine q_aload_n 221 hX 0 dX12_reckonsTo_220 rfl rfl rfl ?_
  refine q_getR 224 hX ci12 lf_RX12_71 fR_55_32 dX12_reckonsTo_221 rfl ?_
  refine q_iload_n 225 hX 2 dX12_reckonsTo_224 rfl rfl rfl ?_
  obtain ⟨hb2, hres⟩ := gd hres
  refine q_iald 226 hX rfl aF_76 hb2 dX12_reckonsTo_225 rfl ?_
  obtain ⟨r4, S1, hk3, hres⟩ := ob hres
  refine q_callSi 229 (st := [.int (x3 - (1 : Int32)), .ref (ad X 76)]) (As := [.int x6, .int (S.1 76 ((x3 - (1 : Int32)).toNatClampNeg)), .int (S.1 76 (x3.toNatClampNeg))]) hX (cX12_reckon9 hX.dj hk3) cs_RX12_265 rfl (by decide) rfl (Nat.le_of_ble_eq_true rfl) dX12_reckonsTo_226 rfl ?_
  obtain ⟨hb5, hres⟩ := gd hres
  refine q_iast 230 hX rfl aF_76 hb5 dX12_reckonsTo_229 rfl ?_
  refine q_bS hres (fun S2 _ hres => ?_)
  refine q_goto 16 hX dX12_reckonsTo_230 (by decide) ?_
  exact q_sub [0, 1, 2, 3, 4] rfl (hrc16 _ _ _ _ _ hres)
def fX12_reckonsTo_192 (rc16 : St → Int32 → Int32 → Int32 → Int32 → Option (Int32 × St)) (S : St) (x2 : Int32) (x3 : Int32) (x4 : Int32) (x5 : Int32) (x6 : Int32) : Option (Int32 × St) :=
  if inb x3 260 = true then if (S.1 76 (x3.toNatClampNeg)) = 0 then (some ((0 : Int32), S)) else (fX12_reckonsTo_203 rc16 S x2 x3 x4 x5 x6) else none
theorem wfX12_reckonsTo_192 {X : CX} (hX : Ok RX12 cX12_reckonsTo (some .int) 55 40 8 X) {rr : Int32 × St} (hq : rs X = (some (.int rr.1), rr.2)) {rc16 : St → Int32 → Int32 → Int32 → Int32 → Option (Int32 × St)} (hrc16 : ∀ (S : St) (x2 : Int32) (x3 : Int32) (x4 : Int32) (x5 : Int32), rc16 S x2 x3 x4 x5 = some rr → Wat 55 40 1 8 X 16 [(0, .ref (ad X 55)), (2, .int x2), (3, .int x3), (4, .int x4), (5, .int x5)] [] S) {S : St} {x2 : Int32} {x3 : Int32} {x4 : Int32} {x5 : Int32} {x6 : Int32} (hres : fX12_reckonsTo_192 rc16 S x2 x3 x4 x5 x6 = some rr) : Wat 55 40 1 8 X 192 [(0, .ref (ad X 55)), (2, .int x2), (3, .int x3), (4, .int x4), (5, .int x5), (6, .int x6)] [] S := by
  unfold fX12_reckonsTo_192 at hres
  refine q_aload_n 193 hX 0 dX12_reckonsTo_192 rfl rfl rfl ?_
  refine q_getR 196 hX ci12 lf_RX12_71 fR_55_32 dX12_reckonsTo_193 rfl ?_
  refine q_iload_n 197 hX 2 dX12_reckonsTo_196 rfl rfl rfl ?_
  obtain ⟨hb1, hres⟩ := gd hres
  refine q_iald 198 hX rfl aF_76 hb1 dX12_reckonsTo_197 rfl ?_
  refine q_if_ne 201 hX 203 dX12_reckonsTo_198 rfl (by decide) (fun hc => ?_) (fun hc => ?_)
  · have hres := it_f hc hres
    exact q_sub [0, 1, 2, 3, 4, 5] rfl (wfX12_reckonsTo_203 hX hq hrc16 hres)
  · have hres := it_t hc hres
    refine q_iconst 202 hX dX12_reckonsTo_201 rfl kI_0 ?_
    exact q_iret hX (eqi hq hres) dX12_reckonsTo_202
def bX12_reckonsTo_16 (rc16 : St → Int32 → Int32 → Int32 → Int32 → Option (Int32 × St)) (S : St) (x2 : Int32) (x3 : Int32) (x4 : Int32) (x5 : Int32) : Option (Int32 × St) :=
  if x2 ≤ x5 then (some ((S.1 76 0), S)) else (if inb x5 260 = true then bV (((S.1 71 (x5.toNatClampNeg)) / (1048576 : Int32))) fun v2 => if inb x5 260 = true then bV (((S.1 71 (x5.toNatClampNeg)) - (S.1 71 (x5.toNatClampNeg)) / (1048576 : Int32) * (1048576 : Int32))) fun v4 => bV ((x5 + (1 : Int32))) fun v5 => if v2 = 0 then (fX12_reckonsTo_63 rc16 S x2 x3 x4 v5 v2 v4) else (if v2 = (1 : Int32) then (fX12_reckonsTo_63 rc16 S x2 x3 x4 v5 v2 v4) else (if v2 = (10 : Int32) then (if inb (x3 - (1 : Int32)) 260 = true then if inb (x3 - (1 : Int32)) 260 = true then bS (pI S 76 ((x3 - (1 : Int32)).toNatClampNeg) ((1 : Int32) - (S.1 76 ((x3 - (1 : Int32)).toNatClampNeg)))) fun S1 => rc16 S1 x2 x3 x4 v5 else none else none) else (if v2 = (11 : Int32) then (fX12_reckonsTo_135 rc16 S x2 x3 x4 v5 v2 v4) else (if v2 = (12 : Int32) then (fX12_reckonsTo_135 rc16 S x2 x3 x4 v5 v2 v4) else (bV ((x3 - (1 : Int32))) fun v6 => if v2 = (5 : Int32) then (fX12_reckonsTo_192 rc16 S x2 v6 x4 v5 v2) else (if v2 = (6 : Int32) then (fX12_reckonsTo_192 rc16 S x2 v6 x4 v5 v2) else (fX12_reckonsTo_203 rc16 S x2 v6 x4 v5 v2))))))) else none else none)
theorem wbX12_reckonsTo_16 {X : CX} (hX : Ok RX12 cX12_reckonsTo (some .int) 55 40 8 X) {rr : Int32 × St} (hq : rs X = (some (.int rr.1), rr.2)) {rc16 : St → Int32 → Int32 → Int32 → Int32 → Option (Int32 × St)} (hrc16 : ∀ (S : St) (x2 : Int32) (x3 : Int32) (x4 : Int32) (x5 : Int32), rc16 S x2 x3 x4 x5 = some rr → Wat 55 40 1 8 X 16 [(0, .ref (ad X 55)), (2, .int x2), (3, .int x3), (4, .int x4), (5, .int x5)] [] S) {S : St} {x2 : Int32} {x3 : Int32} {x4 : Int32} {x5 : Int32} (hres : bX12_reckonsTo_16 rc16 S x2 x3 x4 x5 = some rr) : Wat 55 40 1 8 X 16 [(0, .ref (ad X 55)), (2, .int x2), (3, .int x3), (4, .int x4), (5, .int x5)] [] S := by
  unfold bX12_reckonsTo_16 at hres
  refine q_iload 18 hX 4 dX12_reckonsTo_16 rfl rfl ?_
  refine q_iload_n 19 hX 1 dX12_reckonsTo_18 rfl rfl rfl ?_
  refine q_icmp_ge 22 hX 233 dX12_reckonsTo_19 rfl (by decide) (fun hc => ?_) (fun hc => ?_)
  · have hres := it_t hc hres
    refine q_aload_n 234 hX 0 dX12_reckonsTo_233 rfl rfl rfl ?_
    refine q_getR 237 hX ci12 lf_RX12_71 fR_55_32 dX12_reckonsTo_234 rfl ?_
    refine q_iconst 238 hX dX12_reckonsTo_237 rfl kI_0 ?_
    refine q_iald 239 hX kU_0 aF_76 kN_0_260 dX12_reckonsTo_238 rfl ?_
    exact q_iret hX (eqi hq hres) dX12_reckonsTo_239
  · have hres := it_f hc hres
    refine q_aload_n 23 hX 0 dX12_reckonsTo_22 rfl rfl rfl ?_
    refine q_getR 26 hX ci12 lf_RX12_56 fR_55_27 dX12_reckonsTo_23 rfl ?_
    refine q_iload 28 hX 4 dX12_reckonsTo_26 rfl rfl ?_
    obtain ⟨hb1, hres⟩ := gd hres
    refine q_iald 29 hX rfl aF_71 hb1 dX12_reckonsTo_28 rfl ?_
    refine q_ldc 31 hX dX12_reckonsTo_29 rfl gw748 ?_
    refine q_idiv 32 hX dX12_reckonsTo_31 rfl (by decide) ?_
    refine q_istoreB 34 (lv0 := [(0, .ref (ad X 55)), (2, .int x2), (3, .int x3), (4, .int x4), (5, .int x5)]) hX dX12_reckonsTo_32 rfl (by decide) rfl hres (fun v2 hres => ?_)
    refine q_aload_n 35 hX 1 dX12_reckonsTo_34 rfl rfl rfl ?_
    refine q_getR 38 hX ci12 lf_RX12_56 fR_55_27 dX12_reckonsTo_35 rfl ?_
    refine q_iload 40 hX 5 dX12_reckonsTo_38 rfl rfl ?_
    obtain ⟨hb3, hres⟩ := gd hres
    refine q_iald 41 hX rfl aF_71 hb3 dX12_reckonsTo_40 rfl ?_
    refine q_ldc 43 hX dX12_reckonsTo_41 rfl gw748 ?_
    refine q_irem 44 hX dX12_reckonsTo_43 rfl (by decide) ?_
    refine q_istoreB 46 (lv0 := [(6, .int v2), (0, .ref (ad X 55)), (2, .int x2), (3, .int x3), (4, .int x4), (5, .int x5)]) hX dX12_reckonsTo_44 rfl (by decide) rfl hres (fun v4 hres => ?_)
    refine q_iload 48 hX 6 dX12_reckonsTo_46 rfl rfl ?_
    refine q_iconst 49 hX dX12_reckonsTo_48 rfl kI_1 ?_
    refine q_iadd 50 hX dX12_reckonsTo_49 rfl ?_
    refine q_istoreB 52 (lv0 := [(7, .int v4), (6, .int v2), (0, .ref (ad X 55)), (2, .int x2), (3, .int x3), (4, .int x4)]) hX dX12_reckonsTo_50 rfl (by decide) rfl hres (fun v5 hres => ?_)
    refine q_iload 54 hX 2 dX12_reckonsTo_52 rfl rfl ?_
    refine q_if_eq 57 hX 63 dX12_reckonsTo_54 rfl (by decide) (fun hc => ?_) (fun hc => ?_)
    · have hres := it_t hc hres
      exact q_sub [3, 4, 5, 6, 0, 2, 1] rfl (wfX12_reckonsTo_63 hX hq hrc16 hres)
    · have hres := it_f hc hres
      refine q_iload 59 hX 2 dX12_reckonsTo_57 rfl rfl ?_
      refine q_iconst 60 hX dX12_reckonsTo_59 rfl kI_1 ?_
      refine q_icmp_ne 63 hX 93 dX12_reckonsTo_60 rfl (by decide) (fun hc => ?_) (fun hc => ?_)
      · have hres := it_f hc hres
        refine q_iload 95 hX 2 dX12_reckonsTo_93 rfl rfl ?_
        refine q_bipush 97 hX dX12_reckonsTo_95 rfl kB_10 ?_
        refine q_icmp_ne 100 hX 121 dX12_reckonsTo_97 rfl (by decide) (fun hc => ?_) (fun hc => ?_)
        · have hres := it_f hc hres
          refine q_iload 123 hX 2 dX12_reckonsTo_121 rfl rfl ?_
          refine q_bipush 125 hX dX12_reckonsTo_123 rfl kB_11 ?_
          refine q_icmp_eq 128 hX 135 dX12_reckonsTo_125 rfl (by decide) (fun hc => ?_) (fun hc => ?_)
          · have hres := it_t hc hres
            exact q_sub [3, 4, 5, 6, 0, 2, 1] rfl (wfX12_reckonsTo_135 hX hq hrc16 hres)
          · have hres := it_f hc hres
            refine q_iload 130 hX 2 dX12_reckonsTo_128 rfl rfl ?_
            refine q_bipush 132 hX dX12_reckonsTo_130 rfl kB_12 ?_
            refine q_icmp_ne 135 hX 175 dX12_reckonsTo_132 rfl (by decide) (fun hc => ?_) (fun hc => ?_)
            · have hres := it_f hc hres
              refine q_iload_n 176 hX 5 dX12_reckonsTo_175 rfl rfl rfl ?_
              refine q_iconst 177 hX dX12_reckonsTo_176 rfl kI_1 ?_
              refine q_isub 178 hX dX12_reckonsTo_177 rfl ?_
              refine q_istoreB_n 179 (lv0 := [(5, .int v5), (7, .int v4), (6, .int v2), (0, .ref (ad X 55)), (2, .int x2), (4, .int x4)]) hX dX12_reckonsTo_178 rfl rfl (by decide) rfl hres (fun v6 hres => ?_)
              refine q_iload 181 hX 3 dX12_reckonsTo_179 rfl rfl ?_
              refine q_iconst 182 hX dX12_reckonsTo_181 rfl kI_5 ?_
              refine q_icmp_eq 185 hX 192 dX12_reckonsTo_182 rfl (by decide) (fun hc => ?_) (fun hc => ?_)
              · have hres := it_t hc hres
                exact q_sub [4, 5, 0, 6, 1, 3] rfl (wfX12_reckonsTo_192 hX hq hrc16 hres)
              · have hres := it_f hc hres
                refine q_iload 187 hX 3 dX12_reckonsTo_185 rfl rfl ?_
                refine q_bipush 189 hX dX12_reckonsTo_187 rfl kB_6 ?_
                refine q_icmp_ne 192 hX 203 dX12_reckonsTo_189 rfl (by decide) (fun hc => ?_) (fun hc => ?_)
                · have hres := it_f hc hres
                  exact q_sub [4, 5, 0, 6, 1, 3] rfl (wfX12_reckonsTo_203 hX hq hrc16 hres)
                · have hres := it_t hc hres
                  exact q_sub [4, 5, 0, 6, 1, 3] rfl (wfX12_reckonsTo_192 hX hq hrc16 hres)
            · have hres := it_t hc hres
              exact q_sub [3, 4, 5, 6, 0, 2, 1] rfl (wfX12_reckonsTo_135 hX hq hrc16 hres)
        · have hres := it_t hc hres
          refine q_aload_n 101 hX 3 dX12_reckonsTo_100 rfl rfl rfl ?_
          refine q_getR 104 hX ci12 lf_RX12_71 fR_55_32 dX12_reckonsTo_101 rfl ?_
          refine q_iload_n 105 hX 5 dX12_reckonsTo_104 rfl rfl rfl ?_
          refine q_iconst 106 hX dX12_reckonsTo_105 rfl kI_1 ?_
          refine q_isub 107 hX dX12_reckonsTo_106 rfl ?_
          refine q_iconst 108 hX dX12_reckonsTo_107 rfl kI_1 ?_
          refine q_aload_n 109 hX 3 dX12_reckonsTo_108 rfl rfl rfl ?_
          refine q_getR 112 hX ci12 lf_RX12_71 fR_55_32 dX12_reckonsTo_109 rfl ?_
          refine q_iload_n 113 hX 5 dX12_reckonsTo_112 rfl rfl rfl ?_
          refine q_iconst 114 hX dX12_reckonsTo_113 rfl kI_1 ?_
          refine q_isub 115 hX dX12_reckonsTo_114 rfl ?_
          obtain ⟨hb7, hres⟩ := gd hres
          refine q_iald 116 hX rfl aF_76 hb7 dX12_reckonsTo_115 rfl ?_
          refine q_isub 117 hX dX12_reckonsTo_116 rfl ?_
          obtain ⟨hb8, hres⟩ := gd hres
          refine q_iast 118 hX rfl aF_76 hb8 dX12_reckonsTo_117 rfl ?_
          refine q_bS hres (fun S1 _ hres => ?_)
          refine q_goto 230 hX dX12_reckonsTo_118 (by decide) ?_
          refine q_goto 16 hX dX12_reckonsTo_230 (by decide) ?_
          exact q_sub [3, 4, 5, 6, 0] rfl (hrc16 _ _ _ _ _ hres)
      · have hres := it_t hc hres
        exact q_sub [3, 4, 5, 6, 0, 2, 1] rfl (wfX12_reckonsTo_63 hX hq hrc16 hres)
def fX12_reckonsTo_16 : Nat → St → Int32 → Int32 → Int32 → Int32 → Option (Int32 × St)
  | 0 => fun _ _ _ _ _ => none
  | k + 1 => fun S x2 x3 x4 x5 => bX12_reckonsTo_16 (fX12_reckonsTo_16 k) S x2 x3 x4 x5
theorem wfX12_reckonsTo_16 {X : CX} (hX : Ok RX12 cX12_reckonsTo (some .int) 55 40 8 X) {rr : Int32 × St} (hq : rs X = (some (.int rr.1), rr.2)) (k : Nat) : ∀ (S : St) (x2 : Int32) (x3 : Int32) (x4 : Int32) (x5 : Int32), fX12_reckonsTo_16 k S x2 x3 x4 x5 = some rr → Wat 55 40 1 8 X 16 [(0, .ref (ad X 55)), (2, .int x2), (3, .int x3), (4, .int x4), (5, .int x5)] [] S := by
  induction k with
  | zero => intro S x2 x3 x4 x5 hres; exact absurd hres (by simp [fX12_reckonsTo_16])
  | succ k ih => intro S x2 x3 x4 x5 hres; exact wbX12_reckonsTo_16 hX hq ih hres
def fX12_reckonsTo (S : St) (x1 : Int32) (x2 : Int32) : Option (Int32 × St) :=
  bV (((260 : Int32) * (x1 / (260 : Int32)))) fun v1 => fX12_reckonsTo_16 300 S x2 (0 : Int32) v1 x1
theorem wfX12_reckonsTo {X : CX} (hX : Ok RX12 cX12_reckonsTo (some .int) 55 40 8 X) {rr : Int32 × St} (hq : rs X = (some (.int rr.1), rr.2)) {S : St} {x1 : Int32} {x2 : Int32} (hres : fX12_reckonsTo S x1 x2 = some rr) : Wat 55 40 1 8 X 0 [(0, .ref (ad X 55)), (1, .int x1), (2, .int x2)] [] S := by
  unfold fX12_reckonsTo at hres
  refine q_iconst 1 hX dX12_reckonsTo_0 rfl kI_0 ?_
  refine q_istore_n 2 (lv' := [(3, .int (0 : Int32)), (0, .ref (ad X 55)), (1, .int x1), (2, .int x2)]) hX dX12_reckonsTo_1 rfl rfl (by decide) rfl ?_
  refine q_sipush 5 hX dX12_reckonsTo_2 rfl kS_260 ?_
  refine q_iload_n 6 hX 2 dX12_reckonsTo_5 rfl rfl rfl ?_
  refine q_sipush 9 hX dX12_reckonsTo_6 rfl kS_260 ?_
  refine q_idiv 10 hX dX12_reckonsTo_9 rfl (by decide) ?_
  refine q_imul 11 hX dX12_reckonsTo_10 rfl ?_
  refine q_istoreB 13 (lv0 := [(3, .int (0 : Int32)), (0, .ref (ad X 55)), (1, .int x1), (2, .int x2)]) hX dX12_reckonsTo_11 rfl (by decide) rfl hres (fun v1 hres => ?_)
  refine q_iload_n 14 hX 3 dX12_reckonsTo_13 rfl rfl rfl ?_
  refine q_istore 16 (lv' := [(5, .int x1), (4, .int v1), (3, .int (0 : Int32)), (0, .ref (ad X 55)), (1, .int x1), (2, .int x2)]) hX dX12_reckonsTo_14 rfl (by decide) rfl ?_
  exact q_sub [3, 5, 2, 1, 0] rfl (wfX12_reckonsTo_16 hX hq _ _ _ _ _ _ hres)
theorem cX12_reckonsTo9 {l : Launch} {w : WD} (hj : Dj w 55 40) {rr : Int32 × St} {S : St} {x1 : Int32} {x2 : Int32} (hres : fX12_reckonsTo S x1 x2 = some rr) : Ct l yX12_reckonsTo cX12_reckonsTo 8 (some .int) 1 w 55 40 [.ref (w.1 55), .int x1, .int x2] S (some (.int rr.1), rr.2) := by
  refine Ct.of (lv := [(0, .ref (w.1 55)), (1, .int x1), (2, .int x2)]) hj (by decide +kernel) (Nat.le_of_ble_eq_true rfl) rfl ?_
  rintro X rfl rfl hq hX
  exact wfX12_reckonsTo hX hq hres
