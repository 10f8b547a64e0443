-- steps of the model's machine
theorem mk_end {f to n k : Nat} {M : St} (hf : 0 < f) (h : to ≤ k) (hk : k < 2 ^ 31) : mk f M to n k = some (M.1 76 0, M) := by
  unfold mk
  obtain ⟨f, rfl⟩ : ∃ f', f = f' + 1 := ⟨f - 1, by omega⟩
  show bX12_reckonsTo_16 _ _ _ _ _ _ = _
  unfold bX12_reckonsTo_16
  rw [if_pos (by rw [nle (by omega) hk]; exact h)]
theorem mk_hd {f to n k op v : Nat} {M : St} (h : k < to) (hto : to ≤ 260) (hc : M.1 71 k = cw op v) (ho : op < 13) (hv : v < 1048576) : mk (f + 1) M to n k = (if op = 0 ∨ op = 1 then fX12_reckonsTo_63 (fX12_reckonsTo_16 f) M (nI to) (nI n) 0 (nI (k + 1)) (nI op) (nI v) else if op = 10 then (if inb (nI n - 1) 260 = true then bS (pI M 76 ((nI n - 1).toNatClampNeg) ((1 : Int32) - (M.1 76 ((nI n - 1).toNatClampNeg)))) fun S1 => fX12_reckonsTo_16 f S1 (nI to) (nI n) 0 (nI (k + 1)) else none) else if op = 11 ∨ op = 12 then fX12_reckonsTo_135 (fX12_reckonsTo_16 f) M (nI to) (nI n) 0 (nI (k + 1)) (nI op) (nI v) else if op = 5 ∨ op = 6 then fX12_reckonsTo_192 (fX12_reckonsTo_16 f) M (nI to) (nI n - 1) 0 (nI (k + 1)) (nI op) else fX12_reckonsTo_203 (fX12_reckonsTo_16 f) M (nI to) (nI n - 1) 0 (nI (k + 1)) (nI op)) := by
  have ek : ∀ q, q < 20 → (nI op = (OfNat.ofNat q : Int32)) = (op = q) := fun q hq => by rw [li q]; exact neq (by omega) (by omega)
  unfold mk
  show bX12_reckonsTo_16 _ _ _ _ _ _ = _
  unfold bX12_reckonsTo_16
  rw [if_neg (by rw [nle (by omega) (by omega)]; omega), if_pos (inbT (show k < 260 by omega) (by decide)), nI_clamp (by omega), hc, cw_op (by omega) hv, bV_e, if_pos (inbT (show k < 260 by omega) (by decide)), show cw op v - nI op * 1048576 = nI v from by rw [← cw_op (v := v) (show op < 16 by omega) hv]; exact cw_v (by omega) hv, bV_e, nI_1, bV_e, bV_e]
  by_cases c0 : op = 0
  · rw [if_pos (show nI op = 0 by rw [ek 0 (by decide)]; exact c0), if_pos (Or.inl c0)]
  · rw [if_neg (show ¬ nI op = 0 by rw [ek 0 (by decide)]; exact c0)]
    by_cases c1 : op = 1
    · rw [if_pos (show nI op = 1 by rw [ek 1 (by decide)]; exact c1), if_pos (Or.inr c1)]
    · rw [if_neg (show ¬ nI op = 1 by rw [ek 1 (by decide)]; exact c1), if_neg (show ¬ (op = 0 ∨ op = 1) by omega)]
      by_cases c10 : op = 10
      · rw [if_pos (show nI op = 10 by rw [ek 10 (by decide)]; exact c10), if_pos c10]
        by_cases q : inb (nI n - 1) 260 = true
        · rw [if_pos q, if_pos q]
        · rw [if_neg q, if_neg q]
      · rw [if_neg (show ¬ nI op = 10 by rw [ek 10 (by decide)]; exact c10), if_neg c10]
        by_cases c11 : op = 11
        · rw [if_pos (show nI op = 11 by rw [ek 11 (by decide)]; exact c11), if_pos (Or.inl c11)]
        · rw [if_neg (show ¬ nI op = 11 by rw [ek 11 (by decide)]; exact c11)]
          by_cases c12 : op = 12
          · rw [if_pos (show nI op = 12 by rw [ek 12 (by decide)]; exact c12), if_pos (Or.inr c12)]
          · rw [if_neg (show ¬ nI op = 12 by rw [ek 12 (by decide)]; exact c12), if_neg (show ¬ (op = 11 ∨ op = 12) by omega)]
            by_cases c5 : op = 5
            · rw [if_pos (show nI op = 5 by rw [ek 5 (by decide)]; exact c5), if_pos (Or.inl c5)]
            · rw [if_neg (show ¬ nI op = 5 by rw [ek 5 (by decide)]; exact c5)]
              by_cases c6 : op = 6
              · rw [if_pos (show nI op = 6 by rw [ek 6 (by decide)]; exact c6), if_pos (Or.inr c6)]
              · rw [if_neg (show ¬ nI op = 6 by rw [ek 6 (by decide)]; exact c6), if_neg (show ¬ (op = 5 ∨ op = 6) by omega)]
theorem mk_num {f to n k v : Nat} {M : St} (h : k < to) (hto : to ≤ 260) (hn : n < 260) (hc : M.1 71 k = cw 0 v) (hv : v < 1048576) : mk (f + 1) M to n k = mk f (pI M 76 n (nI v)) to (n + 1) (k + 1) := by
  rw [mk_hd h hto hc (by decide) hv, if_pos (Or.inl rfl)]
  unfold fX12_reckonsTo_63 fX12_reckonsTo_85 mk
  rw [if_pos (show nI 0 = 0 from rfl), if_pos (inbT hn (by decide)), nI_clamp (by omega), bS_e, nI_1, bV_e]
theorem mk_let {f to n k v : Nat} {M : St} (h : k < to) (hto : to ≤ 260) (hn : n < 260) (hc : M.1 71 k = cw 1 v) (hv : v < 9) : mk (f + 1) M to n k = mk f (pI M 76 n (M.1 77 v)) to (n + 1) (k + 1) := by
  rw [mk_hd h hto hc (by decide) (by omega), if_pos (Or.inr rfl)]
  unfold fX12_reckonsTo_63 fX12_reckonsTo_85 mk
  rw [if_neg (by decide), if_pos (inbT hv (by decide)), nI_clamp (by omega), if_pos (inbT hn (by decide)), nI_clamp (by omega), bS_e, nI_1, bV_e]
theorem mk_not {f to k : Nat} {M : St} {q : Bool} (h : k < to) (hto : to ≤ 260) (hc : M.1 71 k = cw 10 0) (hq : M.1 76 0 = b2i q) : mk (f + 1) M to 1 k = mk f (pI M 76 0 (b2i (!q))) to 1 (k + 1) := by
  rw [mk_hd h hto hc (by decide) (by decide), if_neg (by decide), if_pos rfl]
  have e : nI 1 - 1 = nI 0 := by decide
  rw [e, if_pos (inbT (show 0 < 260 by decide) (by decide)), nI_clamp (by decide), hq, bS_e]
  cases q <;> rfl
theorem mk_jmp {f to k op v : Nat} {M : St} {q : Bool} (h : k < to) (hto : to ≤ 260) (hop : op = 11 ∨ op = 12) (hc : M.1 71 k = cw op v) (hv : v < 1048576) (hq : M.1 76 0 = b2i q) : mk (f + 1) M to 1 k = if q = decide (op = 12) then mk f M to 1 v else mk f M to 0 (k + 1) := by
  rw [mk_hd h hto hc (by omega) hv, if_neg (by omega), if_neg (by omega), if_pos hop]
  have e : nI 1 - 1 = nI 0 := by decide
  unfold fX12_reckonsTo_135 fX12_reckonsTo_155 mk
  rw [e, if_pos (inbT (show 0 < 260 by decide) (by decide)), nI_clamp (by decide), hq, za, bV_e, bV_e]
  rcases hop with rfl | rfl
  · rw [if_neg (by decide)]
    cases q
    · rw [b2i_f, if_pos rfl, if_pos (by decide)]
    · rw [b2i_t, if_neg (by decide), if_neg (by decide)]
  · rw [if_pos (show nI 12 = 12 from rfl)]
    cases q
    · rw [b2i_f, if_neg (by decide), if_neg (by decide)]
    · rw [b2i_t, if_pos rfl, if_pos (by decide)]
theorem rk_op {op : Nat} {a c r : Int32} (S : St) (h2 : 2 ≤ op) (h6 : op ≤ 6) (hr : opV op a c = some r) : fX12_reckon S (nI op) a c = some (r, S) := by
  unfold fX12_reckon
  unfold opV at hr
  have h : op = 2 ∨ op = 3 ∨ op = 4 ∨ op = 5 ∨ op = 6 := by omega
  rcases h with rfl | rfl | rfl | rfl | rfl
  · rw [if_pos rfl] at hr
    rw [if_pos (show nI 2 = 2 from rfl), Option.some.inj hr]
  · rw [if_neg (by decide), if_pos rfl] at hr
    rw [if_neg (by decide), if_pos (show nI 3 = 3 from rfl), Option.some.inj hr]
  · rw [if_neg (by decide), if_neg (by decide), if_pos rfl] at hr
    rw [if_neg (by decide), if_neg (by decide), if_pos (show nI 4 = 4 from rfl), Option.some.inj hr]
  · rw [if_neg (by decide), if_neg (by decide), if_neg (by decide)] at hr
    by_cases c0 : c = 0
    · rw [if_pos c0] at hr; cases hr
    · rw [if_neg c0, if_pos rfl] at hr
      rw [if_neg (by decide), if_neg (by decide), if_neg (by decide), if_pos (show nI 5 = 5 from rfl), if_neg c0, Option.some.inj hr]
  · rw [if_neg (by decide), if_neg (by decide), if_neg (by decide)] at hr
    by_cases c0 : c = 0
    · rw [if_pos c0] at hr; cases hr
    · rw [if_neg c0, if_neg (by decide)] at hr
      rw [if_neg (by decide), if_neg (by decide), if_neg (by decide), if_neg (by decide), if_pos (show nI 6 = 6 from rfl), if_neg c0, Option.some.inj hr]
theorem mk_bin {f to n k op : Nat} {M : St} (h : k < to) (hto : to ≤ 260) (hn : n + 2 ≤ 260) (h2 : 2 ≤ op) (h6 : op ≤ 6) (hc : M.1 71 k = cw op 0) : mk (f + 1) M to (n + 2) k = match opV op (M.1 76 n) (M.1 76 (n + 1)) with
    | some r => mk f (pI M 76 n r) to (n + 1) (k + 1)
    | none => some (0, M) := by
  rw [mk_hd h hto hc (by omega) (by decide), if_neg (by omega), if_neg (by omega), if_neg (by omega)]
  have e1 : nI (n + 2) - 1 = nI (n + 1) := by rw [Int32.sub_eq_add_neg, pk_m1]
  have e2 : nI (n + 1) - 1 = nI n := by rw [Int32.sub_eq_add_neg, pk_m1]
  have e203 : ∀ r, opV op (M.1 76 n) (M.1 76 (n + 1)) = some r → fX12_reckonsTo_203 (fX12_reckonsTo_16 f) M (nI to) (nI (n + 1)) 0 (nI (k + 1)) (nI op) = mk f (pI M 76 n r) to (n + 1) (k + 1) := fun r hr => by
    unfold fX12_reckonsTo_203 mk
    rw [e2, if_pos (inbT (show n < 260 by omega) (by decide)), if_pos (inbT (show n + 1 < 260 by omega) (by decide)), nI_clamp (by omega), nI_clamp (by omega), rk_op M h2 h6 hr, bi_some, if_pos (inbT (show n < 260 by omega) (by decide)), bS_e]
  rw [e1]
  by_cases c : op = 5 ∨ op = 6
  · rw [if_pos c]
    unfold fX12_reckonsTo_192
    rw [if_pos (inbT (show n + 1 < 260 by omega) (by decide)), nI_clamp (by omega)]
    by_cases c0 : M.1 76 (n + 1) = 0
    · have : opV op (M.1 76 n) (M.1 76 (n + 1)) = none := by
        unfold opV
        rw [if_neg (by omega), if_neg (by omega), if_neg (by omega), if_pos c0]
      rw [if_pos c0, this]
    · rw [if_neg c0]
      obtain ⟨r, hr⟩ : ∃ r, opV op (M.1 76 n) (M.1 76 (n + 1)) = some r := by
        unfold opV
        rw [if_neg (by omega), if_neg (by omega), if_neg (by omega), if_neg c0]
        by_cases c5 : op = 5
        · exact ⟨_, if_pos c5⟩
        · exact ⟨_, if_neg c5⟩
      rw [e203 r hr, hr]
  · rw [if_neg c]
    obtain ⟨r, hr⟩ : ∃ r, opV op (M.1 76 n) (M.1 76 (n + 1)) = some r := by
      unfold opV
      have : op = 2 ∨ op = 3 ∨ op = 4 := by omega
      rcases this with e | e | e
      · exact ⟨_, if_pos e⟩
      · rw [if_neg (by omega)]; exact ⟨_, if_pos e⟩
      · rw [if_neg (by omega), if_neg (by omega)]; exact ⟨_, if_pos e⟩
    rw [e203 r hr, hr]
theorem mk_cmp {f to k op : Nat} {M : St} (h : k < to) (hto : to ≤ 260) (h7 : 7 ≤ op) (h9 : op ≤ 9) (hc : M.1 71 k = cw op 0) : mk (f + 1) M to 2 k = mk f (pI M 76 0 (b2i (cmB op (M.1 76 0) (M.1 76 1)))) to 1 (k + 1) := by
  have hle : ∀ a c : Int32, (a ≤ c) = ¬ (c < a) := fun a c => by rw [Ile, Ilt]; exact propext (by omega)
  rw [mk_hd h hto hc (by omega) (by decide), if_neg (by omega), if_neg (by omega), if_neg (by omega), if_neg (by omega), show nI 2 - 1 = nI 1 from by decide]
  have er : fX12_reckon M (nI op) (M.1 76 0) (M.1 76 1) = some (b2i (cmB op (M.1 76 0) (M.1 76 1)), M) := by
    unfold fX12_reckon cmB
    generalize M.1 76 0 = a
    generalize M.1 76 1 = c
    have hq : op = 7 ∨ op = 8 ∨ op = 9 := by omega
    rcases hq with rfl | rfl | rfl
    · rw [if_neg (by decide), if_neg (by decide), if_neg (by decide), if_neg (by decide), if_neg (by decide), if_pos (show nI 7 = 7 from rfl), if_pos rfl]
      by_cases q : a < c
      · rw [if_neg (by rw [hle]; exact fun w => w q), show decide (a < c) = true by simpa using q]; rfl
      · rw [if_pos (by rw [hle]; exact q), show decide (a < c) = false by simpa using q]; rfl
    · rw [if_neg (by decide), if_neg (by decide), if_neg (by decide), if_neg (by decide), if_neg (by decide), if_neg (by decide), if_pos (show nI 8 = 8 from rfl), if_neg (show ¬ (8 : Nat) = 7 by decide), if_pos rfl]
      by_cases q : c < a
      · rw [if_neg (by rw [hle]; exact fun w => w q), show decide (c < a) = true by simpa using q]; rfl
      · rw [if_pos (by rw [hle]; exact q), show decide (c < a) = false by simpa using q]; rfl
    · rw [if_neg (by decide), if_neg (by decide), if_neg (by decide), if_neg (by decide), if_neg (by decide), if_neg (by decide), if_neg (by decide), if_neg (show ¬ (9 : Nat) = 7 by decide), if_neg (show ¬ (9 : Nat) = 8 by decide)]
      by_cases q : a = c
      · rw [if_pos q, show decide (a = c) = true by simpa using q]; rfl
      · rw [if_neg q, show decide (a = c) = false by simpa using q]; rfl
  unfold fX12_reckonsTo_203 mk
  rw [show nI 1 - 1 = nI 0 from by decide, if_pos (inbT (show 0 < 260 by decide) (by decide)), if_pos (inbT (show 1 < 260 by decide) (by decide)), nI_clamp (by decide), nI_clamp (by decide), er, bi_some, if_pos (inbT (show 0 < 260 by decide) (by decide)), bS_e]
