-- pieces of code that come to the same
def RunC (o : Nat) (S : St) (i : Nat) (S' : St) (j : Nat) : Prop := ∀ t, t ≤ i → ∃ t', t' ≤ j ∧ wk o S i t = wk o S' j t'
def RunM (to : Nat) (M : St) (n k : Nat) (M' : St) (n' l : Nat) : Prop := ∀ f, 300 ≤ f + k → ∃ f', 300 ≤ f' + l ∧ mk f M to n k = mk f' M' to n' l
def RefC (o : Nat) (S : St) (i : Nat) : Prop := ∀ t, t ≤ i → ∃ S', wk o S i t = some S' ∧ FrL o S S' ∧ S'.1 o 10 ≠ 0
def RefM (to : Nat) (M : St) (n k : Nat) : Prop := ∀ f, 300 ≤ f + k → ∃ M', mk f M to n k = some (0, M') ∧ FrK M M'
theorem RunC.tr {o i j q : Nat} {S S1 S2 : St} (h : RunC o S i S1 j) (h2 : RunC o S1 j S2 q) : RunC o S i S2 q := fun t ht => by
  obtain ⟨t1, a1, a2⟩ := h t ht
  obtain ⟨t2, b1, b2⟩ := h2 t1 a1
  exact ⟨t2, b1, a2.trans b2⟩
theorem RunM.tr {to n k n1 k1 n2 k2 : Nat} {M M1 M2 : St} (h : RunM to M n k M1 n1 k1) (h2 : RunM to M1 n1 k1 M2 n2 k2) : RunM to M n k M2 n2 k2 := fun f hf => by
  obtain ⟨f1, a1, a2⟩ := h f hf
  obtain ⟨f2, b1, b2⟩ := h2 f1 a1
  exact ⟨f2, b1, a2.trans b2⟩
theorem RefC.pre {o i j : Nat} {S S1 : St} (h : RunC o S i S1 j) (e : FrL o S S1) (h2 : RefC o S1 j) : RefC o S i := fun t ht => by
  obtain ⟨t1, a1, a2⟩ := h t ht
  obtain ⟨S', b1, b2, b3⟩ := h2 t1 a1
  exact ⟨S', a2.trans b1, e.tr b2, b3⟩
theorem RefM.pre {to n k n1 k1 : Nat} {M M1 : St} (h : RunM to M n k M1 n1 k1) (e : FrK M M1) (h2 : RefM to M1 n1 k1) : RefM to M n k := fun f hf => by
  obtain ⟨f1, a1, a2⟩ := h f hf
  obtain ⟨M', b1, b2⟩ := h2 f1 a1
  exact ⟨M', a2.trans b1, e.tr b2⟩
def CSt (st F : Nat → Int32) (o sc i j : Nat) (S : St) (s : Nat) : Prop := isL o ∧ sc ≤ 288 ∧ j ≤ sc ∧ S.1 o 7 = nI sc ∧ (∀ q, i ≤ q → q < j → S.1 (o + 4) q = st q) ∧ (∀ k, k < 9 → S.1 (o + 5) k = F k) ∧ S.1 o 10 = 0 ∧ S.1 o 8 = nI s
def MSt (cd F : Nat → Int32) (k l to : Nat) (M : St) : Prop := l ≤ to ∧ to ≤ 260 ∧ (∀ q, k ≤ q → q < l → M.1 71 q = cd q) ∧ ∀ k, k < 9 → M.1 77 k = F k
theorem CSt.mv {st F : Nat → Int32} {o sc i j i' j' s s' : Nat} {S S' : St} (h : CSt st F o sc i j S s) (e : FrL o S S') (h1 : i ≤ i') (h2 : j' ≤ j) (h10 : S'.1 o 10 = 0) (h8 : S'.1 o 8 = nI s') : CSt st F o sc i' j' S' s' := by
  obtain ⟨a1, a2, a3, a4, a5, a6, _, _⟩ := h
  refine ⟨a1, a2, by omega, ?_, fun q q1 q2 => ?_, fun k hk => ?_, h10, h8⟩
  · rw [e.2 o 7 (by omega) (by omega)]; exact a4
  · rw [e.2 (o + 4) q (by omega) (by omega)]; exact a5 q (by omega) (by omega)
  · rw [e.2 (o + 5) k (by omega) (by omega)]; exact a6 k hk
theorem MSt.mv {cd F : Nat → Int32} {k l k' l' to : Nat} {M M' : St} (h : MSt cd F k l to M) (e : FrK M M') (h1 : k ≤ k') (h2 : l' ≤ l) : MSt cd F k' l' to M' := by
  obtain ⟨a1, a2, a3, a4⟩ := h
  refine ⟨by omega, a2, fun q q1 q2 => ?_, fun k hk => ?_⟩
  · rw [e.2 71 q (by decide)]; exact a3 q (by omega) (by omega)
  · rw [e.2 77 k (by decide)]; exact a4 k hk
/-- a sum's code -/
def EA (st cd : Nat → Int32) (i j k l m : Nat) : Prop := i < j ∧ k < l ∧ ∀ F o sc S s M n to, CSt st F o sc i j S s → MSt cd F k l to M → s + m ≤ 32 → n + m ≤ 260 → (∃ v S' M', FrL o S S' ∧ S'.1 o 8 = nI (s + 1) ∧ S'.1 (o + 6) s = v ∧ (∀ q, q < s → S'.1 (o + 6) q = S.1 (o + 6) q) ∧ S'.1 o 10 = 0 ∧ FrK M M' ∧ M'.1 76 n = v ∧ (∀ q, q < n → M'.1 76 q = M.1 76 q) ∧ RunC o S i S' j ∧ RunM to M n k M' (n + 1) l) ∨ (RefC o S i ∧ RefM to M n k)
/-- a test's code -/
def EB (st cd : Nat → Int32) (i j k l : Nat) : Prop := i < j ∧ k < l ∧ ∀ F o sc S M to, CSt st F o sc i j S 0 → MSt cd F k l to M → (∃ h S' M', FrL o S S' ∧ S'.1 o 8 = nI 0 ∧ S'.1 o 9 = b2i h ∧ S'.1 o 10 = 0 ∧ FrK M M' ∧ M'.1 76 0 = b2i h ∧ RunC o S i S' j ∧ RunM to M 0 k M' 1 l) ∨ (RefC o S i ∧ RefM to M 0 k)
theorem EA.cg {st cd st' cd' : Nat → Int32} {i j k l m m' : Nat} (h : EA st cd i j k l m) (h1 : ∀ q, i ≤ q → q < j → st' q = st q) (h2 : ∀ q, k ≤ q → q < l → cd' q = cd q) (hm : m ≤ m') : EA st' cd' i j k l m' := by
  refine ⟨h.1, h.2.1, fun F o sc S s M n to hS hM a b => ?_⟩
  obtain ⟨a1, a2, a3, a4, a5, a6, a7, a8⟩ := hS
  obtain ⟨b1, b2, b3, b4⟩ := hM
  exact h.2.2 F o sc S s M n to ⟨a1, a2, a3, a4, fun q q1 q2 => (a5 q q1 q2).trans (h1 q q1 q2), a6, a7, a8⟩ ⟨b1, b2, fun q q1 q2 => (b3 q q1 q2).trans (h2 q q1 q2), b4⟩ (by omega) (by omega)
theorem EB.cg {st cd st' cd' : Nat → Int32} {i j k l : Nat} (h : EB st cd i j k l) (h1 : ∀ q, i ≤ q → q < j → st' q = st q) (h2 : ∀ q, k ≤ q → q < l → cd' q = cd q) : EB st' cd' i j k l := by
  refine ⟨h.1, h.2.1, fun F o sc S M to hS hM => ?_⟩
  obtain ⟨a1, a2, a3, a4, a5, a6, a7, a8⟩ := hS
  obtain ⟨b1, b2, b3, b4⟩ := hM
  exact h.2.2 F o sc S M to ⟨a1, a2, a3, a4, fun q q1 q2 => (a5 q q1 q2).trans (h1 q q1 q2), a6, a7, a8⟩ ⟨b1, b2, fun q q1 q2 => (b3 q q1 q2).trans (h2 q q1 q2), b4⟩
/-- one step of each -/
theorem RunC.one {o i sc kind num : Nat} {S S' : St} (hi : i < sc) (hs : sc ≤ 288) (h7 : S.1 o 7 = nI sc) (h10 : S.1 o 10 = 0) (hc : S.1 (o + 4) i = wd kind num) (h0 : 0 < kind) (hk : kind < 12) (hn : num < 1000000) (ht : fX2_takeStep o S (nI kind) (nI num) = some S') : RunC o S i S' (i + 1) := fun t ht2 => ⟨t + 1, by omega, by rw [wk_st ht2 hi hs h7 h10 hc h0 (by omega) hn, if_neg (by omega), if_neg (by omega), ht, bv_some]⟩
theorem RunM.one {to n k n' k' : Nat} {M M' : St} (hk : k < 260) (hl : k < k') (h : ∀ f, mk (f + 1) M to n k = mk f M' to n' k') : RunM to M n k M' n' k' := fun f hf => by
  obtain ⟨f, rfl⟩ : ∃ f', f = f' + 1 := ⟨f - 1, by omega⟩
  exact ⟨f, by omega, h f⟩
theorem FrL.st {o : Nat} (S : St) (k : Nat) (v w : Int32) : FrL o S (pI (pI S (o + 6) k v) o 8 w) := ⟨rfl, fun a q h1 h2 => by rw [pI_cell _ _ (by omega), pI_row _ _ h2]⟩
theorem FrK.st (M : St) (k : Nat) (v : Int32) : FrK M (pI M 76 k v) := ⟨rfl, fun a q h => by rw [pI_row _ _ h]⟩
theorem EA.num {st cd : Nat → Int32} {i k v : Nat} (h1 : st i = wd 1 v) (h2 : cd k = cw 0 v) (hv : v < 1000000) : EA st cd i (i + 1) k (k + 1) 1 := by
  refine ⟨by omega, by omega, fun F o sc S s M n to hS hM a b => Or.inl ?_⟩
  obtain ⟨a1, a2, a3, a4, a5, a6, a7, a8⟩ := hS
  obtain ⟨b1, b2, b3, b4⟩ := hM
  refine ⟨nI v, pI (pI S (o + 6) s (nI v)) o 8 (nI (s + 1)), pI M 76 n (nI v), FrL.st _ _ _ _, pI_same _ _ _ _, ?_, fun q hq => ?_, ?_, FrK.st _ _ _, pI_same _ _ _ _, fun q hq => pI_cell _ _ (by omega), ?_, ?_⟩
  · rw [pI_row _ _ (by omega), pI_same]
  · rw [pI_row _ _ (by omega), pI_cell _ _ (by omega)]
  · rw [pI_cell _ _ (by omega), pI_row _ _ (by omega)]; exact a7
  · exact RunC.one (by omega) a2 a4 a7 ((a5 i (by omega) (by omega)).trans h1) (by decide) (by decide) hv (tk_num a8 (by omega))
  · exact RunM.one (by omega) (by omega) (fun f => mk_num (by omega) b2 (by omega) ((b3 k (by omega) (by omega)).trans h2) (by omega))
theorem EA.lett {st cd : Nat → Int32} {i k v : Nat} (h1 : st i = wd 2 v) (h2 : cd k = cw 1 v) (hv : v < 9) : EA st cd i (i + 1) k (k + 1) 1 := by
  refine ⟨by omega, by omega, fun F o sc S s M n to hS hM a b => Or.inl ?_⟩
  obtain ⟨a1, a2, a3, a4, a5, a6, a7, a8⟩ := hS
  obtain ⟨b1, b2, b3, b4⟩ := hM
  refine ⟨F v, pI (pI S (o + 6) s (F v)) o 8 (nI (s + 1)), pI M 76 n (F v), FrL.st _ _ _ _, pI_same _ _ _ _, ?_, fun q hq => ?_, ?_, FrK.st _ _ _, pI_same _ _ _ _, fun q hq => pI_cell _ _ (by omega), ?_, ?_⟩
  · rw [pI_row _ _ (by omega), pI_same]
  · rw [pI_row _ _ (by omega), pI_cell _ _ (by omega)]
  · rw [pI_cell _ _ (by omega), pI_row _ _ (by omega)]; exact a7
  · exact RunC.one (by omega) a2 a4 a7 ((a5 i (by omega) (by omega)).trans h1) (by decide) (by decide) (by omega) (by rw [tk_let a8 (by omega) hv, a6 v hv])
  · exact RunM.one (by omega) (by omega) (fun f => by rw [mk_let (by omega) b2 (by omega) ((b3 k (by omega) (by omega)).trans h2) hv, b4 v hv])
theorem EA.bin {st cd : Nat → Int32} {i j e k l d m op : Nat} (hx : EA st cd i j k l (m + 1)) (hy : EA st cd j e l d m) (h1 : st e = wd (op + 1) 0) (h2 : cd d = cw op 0) (hop : 2 ≤ op) (hop2 : op ≤ 6) (hm1 : 1 ≤ m) : EA st cd i (e + 1) k (d + 1) (m + 1) := by
  have hxi := hx.1
  have hxk := hx.2.1
  have hyi := hy.1
  have hyk := hy.2.1
  refine ⟨by omega, by omega, fun F o sc S s M n to hS hM a b => ?_⟩
  rcases hx.2.2 F o sc S s M n to (hS.mv (FrL.rf o S) (Nat.le_refl _) (by omega) hS.2.2.2.2.2.2.1 hS.2.2.2.2.2.2.2) (hM.mv (FrK.rf M) (Nat.le_refl _) (by omega)) (by omega) (by omega) with ⟨v, S1, M1, x1, x2, x3, x4, x5, x6, x7, x8, x9, x10⟩ | ⟨r1, r2⟩
  · rcases hy.2.2 F o sc S1 (s + 1) M1 (n + 1) to (hS.mv x1 (by omega) (by omega) x5 x2) (hM.mv x6 (by omega) (by omega)) (by omega) (by omega) with ⟨w, S2, M2, y1, y2, y3, y4, y5, y6, y7, y8, y9, y10⟩ | ⟨r1, r2⟩
    · have hS2 := hS.mv (i' := e) (j' := e + 1) (x1.tr y1) (by omega) (by omega) y5 y2
      have hM2 := hM.mv (k' := d) (l' := d + 1) (x6.tr y6) (by omega) (by omega)
      have va : S2.1 (o + 6) s = v := by rw [y4 s (by omega)]; exact x3
      have ma : M2.1 76 n = v := by rw [y8 n (by omega)]; exact x7
      have hc : S2.1 (o + 4) e = wd (op + 1) 0 := (hS2.2.2.2.2.1 e (by omega) (by omega)).trans h1
      have hcm : M2.1 71 d = cw op 0 := (hM2.2.2.1 d (by omega) (by omega)).trans h2
      have tk := tk_bin (s := s) (op := op) (S := S2) (o := o) y2 (by omega) hop hop2 (nI 0)
      rw [va, y3] at tk
      have h8e : e < sc := by have := hS.2.2.1; omega
      have hd := hM.1
      have hto := hM.2.1
      cases q : opV op v w with
      | some r =>
        rw [q] at tk
        left
        refine ⟨r, pI (pI S2 o 8 (nI (s + 1))) (o + 6) s r, pI M2 76 n r, (x1.tr y1).tr ⟨rfl, fun a k h1 h2 => by rw [pI_row _ _ h2, pI_cell _ _ (by omega)]⟩, ?_, pI_same _ _ _ _, fun q hq => ?_, ?_, (x6.tr y6).tr (FrK.st _ _ _), pI_same _ _ _ _, fun q hq => ?_, ?_, ?_⟩
        · rw [pI_row _ _ (by omega), pI_same]
        · rw [pI_cell _ _ (by omega), pI_row _ _ (by omega), y4 q (by omega), x4 q hq]
        · rw [pI_row _ _ (by omega), pI_cell _ _ (by omega)]; exact y5
        · rw [pI_cell _ _ (by omega), y8 q (by omega), x8 q hq]
        · exact (x9.tr y9).tr (RunC.one h8e hS.2.1 hS2.2.2.2.1 y5 hc (by omega) (by omega) (by decide) tk)
        · refine (x10.tr y10).tr (RunM.one (by omega) (by omega) (fun f => ?_))
          rw [mk_bin (by omega) hto (by omega) hop hop2 hcm, ma, y7, q]
      | none =>
        rw [q] at tk
        right
        refine ⟨RefC.pre (x9.tr y9) (x1.tr y1) (fun t ht => ?_), RefM.pre (x10.tr y10) (x6.tr y6) (fun f hf => ?_)⟩
        · refine ⟨pI (pI (pI S2 o 8 (nI (s + 1))) o 10 1) (o + 6) s 0, ?_, ⟨rfl, fun a k h1 h2 => by rw [pI_row _ _ h2, pI_cell _ _ (by omega), pI_cell _ _ (by omega)]⟩, by rw [pI_row _ _ (by omega), pI_same]; decide⟩
          rw [wk_st ht h8e hS.2.1 hS2.2.2.2.1 y5 hc (by omega) (by omega) (by decide), if_neg (by omega), if_neg (by omega), tk, bv_some]
          exact wk_ref (by rw [pI_row _ _ (by omega), pI_same]; decide) (by have := hS.2.1; omega)
        · obtain ⟨f, rfl⟩ : ∃ f', f = f' + 1 := ⟨f - 1, by omega⟩
          refine ⟨M2, ?_, FrK.rf _⟩
          rw [mk_bin (by omega) hto (by omega) hop hop2 hcm, ma, y7, q]
    · exact Or.inr ⟨RefC.pre x9 x1 r1, RefM.pre x10 x6 r2⟩
  · exact Or.inr ⟨r1, r2⟩
theorem EB.cmp {st cd : Nat → Int32} {i j e k l d m op : Nat} (hx : EA st cd i j k l m) (hy : EA st cd j e l d m) (hm : m + 1 ≤ 32) (h1 : st e = wd (op + 1) 0) (h2 : cd d = cw op 0) (hop : 7 ≤ op) (hop2 : op ≤ 9) : EB st cd i (e + 1) k (d + 1) := by
  have hxi := hx.1
  have hxk := hx.2.1
  have hyi := hy.1
  have hyk := hy.2.1
  refine ⟨by omega, by omega, fun F o sc S M to hS hM => ?_⟩
  rcases hx.2.2 F o sc S 0 M 0 to (hS.mv (FrL.rf o S) (Nat.le_refl _) (by omega) hS.2.2.2.2.2.2.1 hS.2.2.2.2.2.2.2) (hM.mv (FrK.rf M) (Nat.le_refl _) (by omega)) (by omega) (by omega) with ⟨v, S1, M1, x1, x2, x3, x4, x5, x6, x7, x8, x9, x10⟩ | ⟨r1, r2⟩
  · rcases hy.2.2 F o sc S1 1 M1 1 to (hS.mv x1 (by omega) (by omega) x5 x2) (hM.mv x6 (by omega) (by omega)) (by omega) (by omega) with ⟨w, S2, M2, y1, y2, y3, y4, y5, y6, y7, y8, y9, y10⟩ | ⟨r1, r2⟩
    · have hS2 := hS.mv (i' := e) (j' := e + 1) (x1.tr y1) (by omega) (by omega) y5 y2
      have hM2 := hM.mv (k' := d) (l' := d + 1) (x6.tr y6) (by omega) (by omega)
      have va : S2.1 (o + 6) 0 = v := by rw [y4 0 (by omega)]; exact x3
      have ma : M2.1 76 0 = v := by rw [y8 0 (by omega)]; exact x7
      have hc : S2.1 (o + 4) e = wd (op + 1) 0 := (hS2.2.2.2.2.1 e (by omega) (by omega)).trans h1
      have hcm : M2.1 71 d = cw op 0 := (hM2.2.2.1 d (by omega) (by omega)).trans h2
      have tk := tk_cmp (op := op) (S := S2) (o := o) y2 hop hop2 (nI 0)
      rw [va, y3] at tk
      have h8e : e < sc := by have := hS.2.2.1; omega
      have hd := hM.1
      have hto := hM.2.1
      left
      refine ⟨cmB op v w, pI (pI (pI S2 o 8 (nI 1)) o 8 (nI 0)) o 9 (b2i (cmB op v w)), pI M2 76 0 (b2i (cmB op v w)), (x1.tr y1).tr ⟨rfl, fun a k h1 h2 => by rw [pI_cell _ _ (by omega), pI_cell _ _ (by omega), pI_cell _ _ (by omega)]⟩, ?_, pI_same _ _ _ _, ?_, (x6.tr y6).tr (FrK.st _ _ _), pI_same _ _ _ _, (x9.tr y9).tr (RunC.one h8e hS.2.1 hS2.2.2.2.1 y5 hc (by omega) (by omega) (by decide) tk), ?_⟩
      · rw [pI_cell _ _ (by omega), pI_same]
      · rw [pI_cell _ _ (by omega), pI_cell _ _ (by omega), pI_cell _ _ (by omega)]; exact y5
      · refine (x10.tr y10).tr (RunM.one (by omega) (by omega) (fun f => ?_))
        rw [mk_cmp (by omega) hto hop hop2 hcm, ma, y7]
    · exact Or.inr ⟨RefC.pre x9 x1 r1, RefM.pre x10 x6 r2⟩
  · exact Or.inr ⟨r1, r2⟩
theorem EB.not {st cd : Nat → Int32} {i j k l : Nat} (hx : EB st cd i j k l) (h1 : st j = wd 11 0) (h2 : cd l = cw 10 0) : EB st cd i (j + 1) k (l + 1) := by
  have hxi := hx.1
  have hxk := hx.2.1
  refine ⟨by omega, by omega, fun F o sc S M to hS hM => ?_⟩
  rcases hx.2.2 F o sc S M to (hS.mv (FrL.rf o S) (Nat.le_refl _) (by omega) hS.2.2.2.2.2.2.1 hS.2.2.2.2.2.2.2) (hM.mv (FrK.rf M) (Nat.le_refl _) (by omega)) with ⟨h, S1, M1, x1, x2, x3, x4, x5, x6, x7, x8⟩ | ⟨r1, r2⟩
  · have hS2 := hS.mv (i' := j) (j' := j + 1) x1 (by omega) (by omega) x4 x2
    have hM2 := hM.mv (k' := l) (l' := l + 1) x5 (by omega) (by omega)
    have hc : S1.1 (o + 4) j = wd 11 0 := (hS2.2.2.2.2.1 j (by omega) (by omega)).trans h1
    have hcm : M1.1 71 l = cw 10 0 := (hM2.2.2.1 l (by omega) (by omega)).trans h2
    have h8e : j < sc := by have := hS.2.2.1; omega
    have hd := hM.1
    have hto := hM.2.1
    left
    refine ⟨!h, pI S1 o 9 (b2i (!h)), pI M1 76 0 (b2i (!h)), x1.tr ⟨rfl, fun a k h1 h2 => pI_cell _ _ (by omega)⟩, ?_, pI_same _ _ _ _, ?_, x5.tr (FrK.st _ _ _), pI_same _ _ _ _, x7.tr (RunC.one h8e hS.2.1 hS2.2.2.2.1 x4 hc (by decide) (by decide) (by decide) (tk_not x3 _)), x8.tr (RunM.one (by omega) (by omega) (fun f => mk_not (by omega) hto hcm x6))⟩
    · rw [pI_cell _ _ (by omega)]; exact x2
    · rw [pI_cell _ _ (by omega)]; exact x4
  · exact Or.inr ⟨r1, r2⟩
/-- x & y (op 11, kind 13) or x | y (op 12, kind 12) -/
theorem EB.jmp {st cd : Nat → Int32} {i j e k l d op : Nat} (hx : EB st cd i j k l) (hy : EB st cd (j + 1) e (l + 1) d) (hop : op = 11 ∨ op = 12) (h1 : st j = wd (24 - op) e) (h2 : cd l = cw op d) : EB st cd i e k d := by
  have hxi := hx.1
  have hxk := hx.2.1
  have hyi := hy.1
  have hyk := hy.2.1
  refine ⟨by omega, by omega, fun F o sc S M to hS hM => ?_⟩
  rcases hx.2.2 F o sc S M to (hS.mv (FrL.rf o S) (Nat.le_refl _) (by omega) hS.2.2.2.2.2.2.1 hS.2.2.2.2.2.2.2) (hM.mv (FrK.rf M) (Nat.le_refl _) (by omega)) with ⟨h, S1, M1, x1, x2, x3, x4, x5, x6, x7, x8⟩ | ⟨r1, r2⟩
  · have hS2 := hS.mv (i' := j) (j' := e) x1 (by omega) (by omega) x4 x2
    have hM2 := hM.mv (k' := l) (l' := d) x5 (by omega) (by omega)
    have hc : S1.1 (o + 4) j = wd (24 - op) e := (hS2.2.2.2.2.1 j (by omega) (by omega)).trans h1
    have hcm : M1.1 71 l = cw op d := (hM2.2.2.1 l (by omega) (by omega)).trans h2
    have hsc := hS.2.2.1
    have h288 := hS.2.1
    have h8e : j < sc := by omega
    have hd := hM.1
    have hto := hM.2.1
    -- the jump of the class
    have wj : ∀ t, t ≤ j → wk o S1 j t = if h = decide (op = 12) then wk o S1 e (t + 1) else wk o S1 (j + 1) (t + 1) := fun t ht => by
      rw [wk_st ht h8e h288 hS2.2.2.2.1 x4 hc (by omega) (by omega) (by omega), x3]
      rcases hop with rfl | rfl
      · rw [if_neg (by decide), if_pos rfl]
        cases h
        · rw [b2i_f, if_pos rfl, if_pos (by decide)]
        · rw [b2i_t, if_neg (by decide), if_neg (by decide)]
      · rw [if_pos rfl]
        cases h
        · rw [b2i_f, if_pos rfl, if_neg (by decide)]
        · rw [b2i_t, if_neg (by decide), if_pos (by decide)]
    have mj : ∀ f, mk (f + 1) M1 to 1 l = if h = decide (op = 12) then mk f M1 to 1 d else mk f M1 to 0 (l + 1) := fun f => mk_jmp (by omega) hto hop hcm (by omega) x6
    by_cases c : h = decide (op = 12)
    · left
      refine ⟨h, S1, M1, x1, x2, x3, x4, x5, x6, x7.tr (fun t ht => ⟨t + 1, by omega, by rw [wj t ht, if_pos c]⟩), x8.tr (RunM.one (by omega) (by omega) (fun f => by rw [mj f, if_pos c]))⟩
    · have rc : RunC o S1 j S1 (j + 1) := fun t ht => ⟨t + 1, by omega, by rw [wj t ht, if_neg c]⟩
      have rm : RunM to M1 1 l M1 0 (l + 1) := RunM.one (by omega) (by omega) (fun f => by rw [mj f, if_neg c])
      rcases hy.2.2 F o sc S1 M1 to (hS2.mv (FrL.rf o S1) (by omega) (Nat.le_refl _) x4 x2) (hM2.mv (FrK.rf M1) (by omega) (Nat.le_refl _)) with ⟨g, S2, M2, y1, y2, y3, y4, y5, y6, y7, y8⟩ | ⟨r1, r2⟩
      · exact Or.inl ⟨g, S2, M2, x1.tr y1, y2, y3, y4, x5.tr y5, y6, (x7.tr rc).tr y7, (x8.tr rm).tr y8⟩
      · exact Or.inr ⟨RefC.pre (x7.tr rc) x1 r1, RefM.pre (x8.tr rm) x5 r2⟩
  · exact Or.inr ⟨r1, r2⟩
