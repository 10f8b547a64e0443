-- panes
theorem nI_mx {a b : Nat} (ha : a < 2 ^ 31) (hb : b < 2 ^ 31) : (if nI a < nI b then nI b else nI a) = nI (max a b) := by
  simp only [nlt ha hb]
  split
  · congr 1; omega
  · congr 1; omega
theorem nI_mx2 {a b : Nat} (ha : a < 2 ^ 31) (hb : b < 2 ^ 31) : (if nI a ≤ nI b then nI b else nI a) = nI (max a b) := by
  simp only [nle ha hb]
  split
  · congr 1; omega
  · congr 1; omega
def Mx (P : Nat → Prop) (v : Nat) : Prop := (v = 0 ∨ P v) ∧ ∀ w, P w → w ≤ v
theorem Mx.un {P Q : Nat → Prop} {v u : Nat} (h : Mx P v) (g : Mx Q u) {R : Nat → Prop} (hr : ∀ w, R w ↔ P w ∨ Q w) : Mx R (max v u) := by
  refine ⟨?_, fun w hw => ?_⟩
  · rcases Nat.le_total v u with q | q
    · rw [Nat.max_eq_right q]
      rcases g.1 with z | z
      · exact Or.inl z
      · exact Or.inr ((hr _).mpr (Or.inr z))
    · rw [Nat.max_eq_left q]
      rcases h.1 with z | z
      · exact Or.inl z
      · exact Or.inr ((hr _).mpr (Or.inl z))
  · rcases (hr w).mp hw with z | z
    · have := h.2 w z; omega
    · have := g.2 w z; omega
theorem Mx.cg {P Q : Nat → Prop} {v : Nat} (h : Mx P v) (e : ∀ w, Q w ↔ P w) : Mx Q v := ⟨h.1.imp id (fun z => (e _).mpr z), fun w hw => h.2 w ((e w).mp hw)⟩
theorem Mx.uniq {P : Nat → Prop} {v u : Nat} (h : Mx P v) (g : Mx P u) : v = u := by
  have h1 : v ≤ u := by
    rcases h.1 with z | z
    · omega
    · exact g.2 v z
  have h2 : u ≤ v := by
    rcases g.1 with z | z
    · omega
    · exact h.2 u z
  omega
theorem Mx.emp {P : Nat → Prop} (h : ∀ w, ¬ P w) : Mx P 0 := ⟨Or.inl rfl, fun w hw => absurd hw (h w)⟩
def clr (m a t : Nat) : Prop := ∀ c, a ≤ c → c ≤ t → m.testBit c = false
def WP (m N w : Nat) : Prop := ∃ a t, a ≤ t ∧ t < N ∧ clr m a t ∧ w = t - a + 1
def WI (m i : Nat) (s : Nat × Nat) : Prop := s.1 ≤ i ∧ (∀ c, i - s.1 ≤ c → c < i → m.testBit c = false) ∧ (s.1 = i ∨ (0 < i - s.1 ∧ m.testBit (i - s.1 - 1) = true)) ∧ Mx (WP m i) s.2 ∧ s.2 ≤ i
theorem WI_set {m i : Nat} {s : Nat × Nat} (h : WI m i s) (hq : m.testBit i = true) : WI m (i + 1) (0, s.2) := by
  obtain ⟨h1, h2, h3, h4, h5⟩ := h
  refine ⟨Nat.zero_le _, fun c c1 c2 => ?_, Or.inr ⟨by omega, by simpa using hq⟩, h4.cg (fun w => ?_), by show s.2 ≤ i + 1; omega⟩
  · have c1 : i + 1 ≤ c := c1
    omega
  · constructor
    · rintro ⟨a, t, q1, q2, q3, q4⟩
      have : t ≠ i := fun e => by
        have := q3 t q1 (Nat.le_refl _)
        rw [e, hq] at this
        cases this
      exact ⟨a, t, q1, by omega, q3, q4⟩
    · rintro ⟨a, t, q1, q2, q3, q4⟩
      exact ⟨a, t, q1, by omega, q3, q4⟩
theorem WI_clr {m i : Nat} {s : Nat × Nat} (h : WI m i s) (hq : m.testBit i = false) : WI m (i + 1) (s.1 + 1, max s.2 (s.1 + 1)) := by
  obtain ⟨h1, h2, h3, h4, h5⟩ := h
  have hg : Mx (fun w => ∃ a, a ≤ i ∧ clr m a i ∧ w = i - a + 1) (s.1 + 1) := by
    refine ⟨Or.inr ⟨i - s.1, by omega, fun c c1 c2 => ?_, by omega⟩, ?_⟩
    · by_cases e : c = i
      · subst e; exact hq
      · exact h2 c c1 (by omega)
    · rintro w ⟨a, q1, q2, rfl⟩
      rcases h3 with z | ⟨z1, z2⟩
      · omega
      · by_cases e : a ≤ i - s.1 - 1
        · have := q2 (i - s.1 - 1) e (by omega)
          rw [z2] at this
          cases this
        · omega
  refine ⟨by show s.1 + 1 ≤ i + 1; omega, fun c c1 c2 => ?_, ?_, h4.un hg (fun w => ?_), by show max s.2 (s.1 + 1) ≤ i + 1; omega⟩
  · have c1 : i + 1 - (s.1 + 1) ≤ c := c1
    by_cases e : c = i
    · subst e; exact hq
    · exact h2 c (by omega) (by omega)
  · show s.1 + 1 = i + 1 ∨ (0 < i + 1 - (s.1 + 1) ∧ m.testBit (i + 1 - (s.1 + 1) - 1) = true)
    rw [show i + 1 - (s.1 + 1) = i - s.1 by omega]
    rcases h3 with z | z
    · left; omega
    · right; exact z
  · constructor
    · rintro ⟨a, t, q1, q2, q3, q4⟩
      by_cases e : t = i
      · subst e; exact Or.inr ⟨a, q1, q3, q4⟩
      · exact Or.inl ⟨a, t, q1, by omega, q3, q4⟩
    · rintro (⟨a, t, q1, q2, q3, q4⟩ | ⟨a, q1, q3, q4⟩)
      · exact ⟨a, t, q1, by omega, q3, q4⟩
      · exact ⟨a, i, q1, by omega, q3, q4⟩
theorem hs0 (x k : Int32) : ((x >>> (k &&& 31)) &&& (1 : Int32) = 0) = (hsB x k = false) := by
  have h1 : ∀ y : Int32, (y &&& 1 = 0) = ¬ (y &&& 1 = 1) := by
    intro y
    rw [pk_and y 1 (by decide)]
    have : y.toBitVec.toNat % 2 ^ 1 < 2 := Nat.mod_lt _ (by decide)
    generalize y.toBitVec.toNat % 2 ^ 1 = v at this
    have : v = 0 ∨ v = 1 := by omega
    rcases this with rfl | rfl <;> decide
  rw [h1]
  unfold hsB
  simp
theorem widest {S : St} {m wide : Nat} (hm : m < 65536) (hw : wide ≤ 6) : ∃ w, w ≤ 6 ∧ Mx (WP m wide) w ∧ fX1_widestClear S (nI m) (nI wide) = some (nI w, S) := by
  obtain ⟨s, p1, p2⟩ := loop_inv (F := fun f (s : Nat × Nat) i => fX1_widestClear_7 f S (nI m) (nI wide) (nI s.1) (nI s.2) (nI i)) (fun i s => WI m i s) (fun s => some (nI s.2, S)) wide (fun f s i hi hp => by
      have h1 := hp.1
      have h5 := hp.2.2.2.2
      cases hb : m.testBit i with
      | true =>
        refine ⟨(0, s.2), ?_, WI_set hp hb⟩
        show bX1_widestClear_7 _ _ _ _ _ _ _ = _
        unfold bX1_widestClear_7 fX1_widestClear_29
        rw [if_neg (by rw [nle (by omega) (by omega)]; omega)]
        simp only [hs0, hsB_nI (show m < 2 ^ 31 by omega) (show i < 32 by omega), hb, bV_e, nI_1]
        rw [if_neg (by decide)]
        have : ¬ nI s.2 < 0 := nI_pos (by omega)
        rw [if_neg this]
        rfl
      | false =>
        refine ⟨(s.1 + 1, max s.2 (s.1 + 1)), ?_, WI_clr hp hb⟩
        show bX1_widestClear_7 _ _ _ _ _ _ _ = _
        unfold bX1_widestClear_7 fX1_widestClear_29
        rw [if_neg (by rw [nle (by omega) (by omega)]; omega)]
        simp only [hs0, hsB_nI (show m < 2 ^ 31 by omega) (show i < 32 by omega), hb, if_true, bV_e, nI_1]
        rw [nI_mx (by omega) (by omega)]) (fun f s hp => by
      show bX1_widestClear_7 _ _ _ _ _ _ _ = _
      unfold bX1_widestClear_7
      rw [if_pos (by rw [nle (by omega) (by omega)]; omega)]) wide 100 (0, 0) 0 (by omega) (by omega) ⟨Nat.le_refl _, fun c _ c2 => absurd c2 (Nat.not_lt_zero c), Or.inl rfl, Mx.emp (fun w ⟨a, t, _, q, _⟩ => absurd q (Nat.not_lt_zero t)), Nat.le_refl _⟩
  exact ⟨s.2, by have := p1.2.2.2.2; omega, p1.2.2.2.1, p2⟩
/-- a clear pane -/
def Ar (b : Nat → Nat) (n wide tp rw_ a t w : Nat) : Prop := tp ≤ rw_ ∧ rw_ < n ∧ a ≤ t ∧ t < wide ∧ (∀ r, tp ≤ r → r ≤ rw_ → clr (b r) a t) ∧ w = (rw_ - tp + 1) * (t - a + 1)
def ClG (b : Nat → Nat) (n wide top row : Nat) (g : Nat) : Prop := Mx (fun w => ∃ tp rw_ a t, (tp < top ∨ (tp = top ∧ rw_ < row)) ∧ Ar b n wide tp rw_ a t w) g ∧ g ≤ 36
def orR (b : Nat → Nat) (top : Nat) : Nat → Nat
  | 0 => 0
  | k + 1 => orR b top k ||| b (top + k)
theorem orR_lt {b : Nat → Nat} (hb : ∀ j, b j < 256) (top : Nat) : ∀ k, orR b top k < 65536
  | 0 => by show 0 < 65536; decide
  | k + 1 => Nat.or_lt_two_pow (n := 16) (orR_lt hb top k) (by have := hb (top + k); omega)
theorem orR_clr {b : Nat → Nat} (top a t : Nat) : ∀ k, clr (orR b top k) a t ↔ ∀ r, top ≤ r → r < top + k → clr (b r) a t
  | 0 => ⟨fun _ r h1 h2 => by omega, fun _ c _ _ => Nat.zero_testBit c⟩
  | k + 1 => by
    constructor
    · intro h r h1 h2 c c1 c2
      have := h c c1 c2
      rw [orR, Nat.testBit_or, Bool.or_eq_false_iff] at this
      by_cases e : r = top + k
      · subst e; exact this.2
      · have h3 : clr (orR b top k) a t := fun c c1 c2 => by
          have := h c c1 c2
          rw [orR, Nat.testBit_or, Bool.or_eq_false_iff] at this
          exact this.1
        exact (orR_clr top a t k).mp h3 r h1 (by omega) c c1 c2
    · intro h c c1 c2
      rw [orR, Nat.testBit_or, Bool.or_eq_false_iff]
      exact ⟨(orR_clr top a t k).mpr (fun r h1 h2 => h r h1 (by omega)) c c1 c2, h (top + k) (by omega) (by omega) c c1 c2⟩
theorem pane18 {S : St} {b : Nat → Nat} {z n wide top : Nat} (rc : St → Int32 → Int32 → Int32 → Int32 → Option (Int32 × St)) (hb : ∀ j, b j < 256) (hT : TapS b z S) (hz : z ≤ 260) (hn : n ≤ z) (h6 : n ≤ 6) (hw : wide ≤ 6) (ht : top < n) {g : Nat} (hg : ClG b n wide top top g) : ∃ g', ClG b n wide top n g' ∧ fX1_greatestPane_18 rc 100 S (nI n) (nI wide) (nI g) (nI top) 0 (nI top) = rc S (nI n) (nI wide) (nI g') (nI top + 1) := by
  have key := loop_inv (F := fun f (s : Nat) i => fX1_greatestPane_18 rc f S (nI n) (nI wide) (nI s) (nI top) (nI (orR b top (i - top))) (nI i)) (fun i s => top ≤ i ∧ ClG b n wide top i s) (fun s => rc S (nI n) (nI wide) (nI s) (nI top + 1)) n (fun f s i hi hp => by
      obtain ⟨hti, hp, h36⟩ := hp
      have hor := orR_lt hb top (i - top + 1)
      obtain ⟨w, w6, wm, we⟩ := widest (S := S) hor hw
      have hmul : (i - top + 1) * w ≤ 36 := Nat.mul_le_mul (show i - top + 1 ≤ 6 by omega) w6
      refine ⟨max s ((i - top + 1) * w), ?_, by omega, ?_, by omega⟩
      · show bX1_greatestPane_18 _ _ _ _ _ _ _ _ _ = _
        unfold bX1_greatestPane_18
        rw [if_neg (by rw [nle (by omega) (by omega)]; omega)]
        have e0 : orR b top (i - top) ||| b i = orR b top (i - top + 1) := by
          rw [orR, show top + (i - top) = i by omega]
        have e1 : nI i - nI top = nI (i - top) := pk_sub hti
        simp only [byte7 hT hz (show i < z by omega), bi_some, bV_e, or_nI, e0, we, e1, nI_1, pk_mul]
        rw [show i + 1 - top = i - top + 1 by omega]
        rw [nI_mx (by omega) (by omega)]
      · refine hp.un (Q := fun v => ∃ a t, Ar b n wide top i a t v) ⟨?_, ?_⟩ (fun v => ?_)
        · rcases wm.1 with q | ⟨a, t, q1, q2, q3, q4⟩
          · left; rw [q]; rfl
          · right
            exact ⟨a, t, hti, hi, q1, q2, fun r r1 r2 => (orR_clr top a t _).mp q3 r r1 (by omega), by rw [q4]⟩
        · rintro v ⟨a, t, q1, q2, q3, q4, q5, rfl⟩
          exact Nat.mul_le_mul_left _ (wm.2 _ ⟨a, t, q3, q4, (orR_clr top a t _).mpr (fun r r1 r2 => q5 r r1 (by omega)), rfl⟩)
        · constructor
          · rintro ⟨tp, rw_, a, t, q, q2⟩
            by_cases e : tp = top ∧ rw_ = i
            · obtain ⟨rfl, rfl⟩ := e
              exact Or.inr ⟨a, t, q2⟩
            · exact Or.inl ⟨tp, rw_, a, t, by omega, q2⟩
          · rintro (⟨tp, rw_, a, t, q, q2⟩ | ⟨a, t, q2⟩)
            · exact ⟨tp, rw_, a, t, by omega, q2⟩
            · exact ⟨top, i, a, t, by omega, q2⟩) (fun f s hp => by
      show bX1_greatestPane_18 _ _ _ _ _ _ _ _ _ = _
      unfold bX1_greatestPane_18
      rw [if_pos (by rw [nle (by omega) (by omega)]; omega)]
      rfl) (n - top) 100 g top (by omega) (by omega) ⟨Nat.le_refl _, hg⟩
  obtain ⟨g', ⟨_, k2⟩, k3⟩ := key
  refine ⟨g', k2, ?_⟩
  rw [Nat.sub_self] at k3
  exact k3
theorem pane1 {S : St} {b : Nat → Nat} {z n wide : Nat} (hb : ∀ j, b j < 256) (hT : TapS b z S) (hz : z ≤ 260) (hn : n ≤ z) (h6 : n ≤ 6) (hw : wide ≤ 6) : ∃ g, Mx (fun w => ∃ tp rw_ a t, Ar b n wide tp rw_ a t w) g ∧ fX1_greatestPane S (nI n) (nI wide) = some (nI g, S) := by
  have key := loop_inv (F := fun f (s : Nat) i => fX1_greatestPane_5 f S (nI n) (nI wide) (nI s) (nI i)) (fun i s => ClG b n wide i i s) (fun s => some (nI s, S)) n (fun f s i hi hp => by
      obtain ⟨g', q1, q2⟩ := pane18 (fX1_greatestPane_5 f) hb hT hz hn h6 hw hi hp
      refine ⟨g', ?_, q1.1.cg (fun w => ?_), q1.2⟩
      · show bX1_greatestPane_5 _ _ _ _ _ _ = _
        unfold bX1_greatestPane_5
        rw [if_neg (by rw [nle (by omega) (by omega)]; omega), q2, nI_1]
      · constructor
        · rintro ⟨tp, rw_, a, t, q, q2⟩
          have := q2.1
          have := q2.2.1
          exact ⟨tp, rw_, a, t, by omega, q2⟩
        · rintro ⟨tp, rw_, a, t, q, q2⟩
          exact ⟨tp, rw_, a, t, by omega, q2⟩) (fun f s hp => by
      show bX1_greatestPane_5 _ _ _ _ _ _ = _
      unfold bX1_greatestPane_5
      rw [if_pos (by rw [nle (by omega) (by omega)]; omega)]) n 100 0 0 (by omega) (by omega) ⟨Mx.emp (fun w ⟨tp, rw_, a, t, q, _⟩ => by omega), by omega⟩
  obtain ⟨g, k1, k2⟩ := key
  refine ⟨g, k1.1.cg (fun w => ?_), k2⟩
  constructor
  · rintro ⟨tp, rw_, a, t, q2⟩
    have := q2.1
    have := q2.2.1
    exact ⟨tp, rw_, a, t, by omega, q2⟩
  · rintro ⟨tp, rw_, a, t, q, q2⟩
    exact ⟨tp, rw_, a, t, q2⟩
theorem clear12 {M : St} {m a t : Nat} (hm : m < 65536) (ht : t < 32) : ∀ k c f, c + k = t + 1 → a ≤ c → k < f → (∀ d, a ≤ d → d < c → m.testBit d = false) → ∃ bl : Bool, (bl = true ↔ clr m a t) ∧ fX12_areClear_2 f M (nI m) (nI t) (nI c) = some (b2i bl, M) := by
  intro k
  induction k with
  | zero =>
    intro c f h1 h2 h3 h4
    obtain ⟨f, rfl⟩ : ∃ k', f = k' + 1 := ⟨f - 1, by omega⟩
    refine ⟨true, ⟨fun _ d d1 d2 => h4 d d1 (by omega), fun _ => rfl⟩, ?_⟩
    show bX12_areClear_2 _ _ _ _ _ = _
    unfold bX12_areClear_2
    rw [if_pos (by rw [nlt (by omega) (by omega)]; omega)]
    rfl
  | succ k ih =>
    intro c f h1 h2 h3 h4
    obtain ⟨f, rfl⟩ : ∃ k', f = k' + 1 := ⟨f - 1, by omega⟩
    have e : fX12_areClear_2 (f + 1) M (nI m) (nI t) (nI c) = (if m.testBit c = true then some (0, M) else fX12_areClear_2 f M (nI m) (nI t) (nI (c + 1))) := by
      show bX12_areClear_2 _ _ _ _ _ = _
      unfold bX12_areClear_2
      rw [if_neg (by rw [nlt (by omega) (by omega)]; omega)]
      simp only [has12, hsB_nI (show m < 2 ^ 31 by omega) (show c < 32 by omega), bi_some, ite_b2i, bV_e, nI_1]
    rw [e]
    cases hb : m.testBit c with
    | true =>
      refine ⟨false, ⟨fun q => absurd q (by decide), fun q => ?_⟩, ?_⟩
      · have := q c h2 (by omega)
        rw [hb] at this
        cases this
      · simp
        rfl
    | false =>
      obtain ⟨bl, p1, p2⟩ := ih (c + 1) f (by omega) (by omega) (by omega) (fun d d1 d2 => by
        by_cases e : d = c
        · subst e; exact hb
        · exact h4 d d1 (by omega))
      exact ⟨bl, p1, by simpa using p2⟩
theorem tall12 {M : St} {b : Nat → Nat} {n row a t : Nat} (hb : ∀ j, b j < 256) (hT : TapM b M) (h6 : n ≤ 6) (hr : row < n) (hat : a ≤ t) (ht : t < 6) : ∀ k tl f, row + tl + k = n → k < f → (∀ r, row ≤ r → r < row + tl → clr (b r) a t) → ∃ tl', row + tl' ≤ n ∧ (∀ r, row ≤ r → r < row + tl' → clr (b r) a t) ∧ (row + tl' < n → ¬ clr (b (row + tl')) a t) ∧ fX12_tallFrom_3 f M (nI row) (nI n) (nI a) (nI t) (nI tl) = some (nI tl', M) := by
  intro k
  induction k with
  | zero =>
    intro tl f h1 h2 h3
    obtain ⟨f, rfl⟩ : ∃ k', f = k' + 1 := ⟨f - 1, by omega⟩
    refine ⟨tl, by omega, h3, fun q => by omega, ?_⟩
    show bX12_tallFrom_3 _ _ _ _ _ _ _ = _
    unfold bX12_tallFrom_3
    rw [nI_add, if_pos (by rw [nle (by omega) (by omega)]; omega)]
  | succ k ih =>
    intro tl f h1 h2 h3
    obtain ⟨f, rfl⟩ : ∃ k', f = k' + 1 := ⟨f - 1, by omega⟩
    have hb1 := hb (row + tl)
    obtain ⟨bl, p1, p2⟩ := clear12 (M := M) (m := b (row + tl)) (a := a) (t := t) (by omega) (by omega) (t + 1 - a) a 100 (by omega) (Nat.le_refl _) (by omega) (fun d d1 d2 => by omega)
    have p2 : fX12_areClear M (nI (b (row + tl))) (nI a) (nI t) = some (b2i bl, M) := p2
    have e : fX12_tallFrom_3 (f + 1) M (nI row) (nI n) (nI a) (nI t) (nI tl) = (if bl = true then fX12_tallFrom_3 f M (nI row) (nI n) (nI a) (nI t) (nI (tl + 1)) else some (nI tl, M)) := by
      show bX12_tallFrom_3 _ _ _ _ _ _ _ = _
      unfold bX12_tallFrom_3
      rw [nI_add, if_neg (by rw [nle (by omega) (by omega)]; omega)]
      simp only [oct12 hb hT (show row + tl < 260 by omega), p2, bi_some, ite_b2i, bV_e, nI_1]
    rw [e]
    by_cases hc : bl = true
    · rw [if_pos hc]
      exact ih (tl + 1) f (by omega) (by omega) (fun r r1 r2 => by
        by_cases e : r = row + tl
        · subst e; exact p1.mp hc
        · exact h3 r r1 (by omega))
    · rw [if_neg hc]
      exact ⟨tl, by omega, h3, fun _ q => hc (p1.mpr q), rfl⟩
def MoG (b : Nat → Nat) (n wide c row : Nat) (g : Nat) : Prop := Mx (fun w => ∃ tp rw_ a t, (a * wide + t < c ∨ (a * wide + t = c ∧ tp < row)) ∧ Ar b n wide tp rw_ a t w) g ∧ g ≤ 36
theorem pane63 {M : St} {b : Nat → Nat} {n wide c : Nat} (rc : St → Int32 → Int32 → Int32 → Int32 → Option (Int32 × St)) (hb : ∀ j, b j < 256) (hT : TapM b M) (h6 : n ≤ 6) (hw : wide ≤ 6) (hw0 : 0 < wide) (hc : c < wide * wide) (h36 : wide * wide ≤ 36) {g : Nat} (hg : MoG b n wide c 0 g) : ∃ g', MoG b n wide c n g' ∧ fX12_panes_63 rc 100 M (nI n) (nI wide) (nI g) (nI c) (nI (c / wide)) (nI (c % wide)) 0 = rc M (nI n) (nI wide) (nI g') (nI c + 1) := by
  have hmod : c % wide < wide := Nat.mod_lt _ hw0
  have hdm : c / wide * wide + c % wide = c := by rw [Nat.mul_comm]; exact Nat.div_add_mod c wide
  have hdiv : c / wide < wide := Nat.div_lt_of_lt_mul hc
  have huniq : ∀ a t, t < wide → a * wide + t = c → a = c / wide ∧ t = c % wide := by
    intro a t ht e
    rw [← e]
    constructor
    · rw [Nat.mul_comm, Nat.mul_add_div hw0, Nat.div_eq_of_lt ht]; rfl
    · rw [Nat.mul_comm, Nat.mul_add_mod, Nat.mod_eq_of_lt ht]
  by_cases hft : c / wide ≤ c % wide
  · refine loop_inv (F := fun f (s : Nat) i => fX12_panes_63 rc f M (nI n) (nI wide) (nI s) (nI c) (nI (c / wide)) (nI (c % wide)) (nI i)) (fun i s => MoG b n wide c i s) (fun s => rc M (nI n) (nI wide) (nI s) (nI c + 1)) n (fun f s i hi hp => by
      obtain ⟨hp, hs36⟩ := hp
      obtain ⟨tl, t1, t2, t3, t4⟩ := tall12 (M := M) hb hT h6 hi hft (show c % wide < 6 by omega) (n - i) 0 100 (by omega) (by omega) (fun r r1 r2 => by omega)
      have t4 : fX12_tallFrom M (nI i) (nI n) (nI (c / wide)) (nI (c % wide)) = some (nI tl, M) := t4
      have hmul : tl * (c % wide - c / wide + 1) ≤ 36 := Nat.mul_le_mul (show tl ≤ 6 by omega) (Nat.succ_le_of_lt (Nat.lt_of_le_of_lt (Nat.sub_le _ _) (Nat.lt_of_lt_of_le hmod hw)))
      refine ⟨max s (tl * (c % wide - c / wide + 1)), ?_, ?_, by omega⟩
      · show bX12_panes_63 _ _ _ _ _ _ _ _ _ _ = _
        unfold bX12_panes_63
        rw [if_neg (by rw [nle (by omega) (by omega)]; omega), if_neg (by rw [nlt (by omega) (by omega)]; omega)]
        simp only [t4, bi_some, pk_sub hft, nI_1, pk_mul, max12, bV_e]
        rw [nI_mx2 (by omega) (by omega)]
      · refine hp.un (Q := fun v => ∃ rw_, Ar b n wide i rw_ (c / wide) (c % wide) v) ⟨?_, ?_⟩ (fun v => ?_)
        · by_cases e : tl = 0
          · left; rw [e, Nat.zero_mul]
          · right
            exact ⟨i + tl - 1, by omega, by omega, hft, hmod, fun r r1 r2 => t2 r r1 (by omega), by rw [show i + tl - 1 - i + 1 = tl by omega]⟩
        · rintro v ⟨rw_, q1, q2, q3, q4, q5, rfl⟩
          apply Nat.mul_le_mul_right
          by_cases e : rw_ - i + 1 ≤ tl
          · exact e
          · exfalso
            exact t3 (by omega) (q5 (i + tl) (by omega) (by omega))
        · constructor
          · rintro ⟨tp, rw_, a, t, q, q2⟩
            by_cases e : a * wide + t = c ∧ tp = i
            · obtain ⟨e1, rfl⟩ := e
              obtain ⟨rfl, rfl⟩ := huniq a t q2.2.2.2.1 e1
              exact Or.inr ⟨rw_, q2⟩
            · exact Or.inl ⟨tp, rw_, a, t, by omega, q2⟩
          · rintro (⟨tp, rw_, a, t, q, q2⟩ | ⟨rw_, q2⟩)
            · exact ⟨tp, rw_, a, t, by omega, q2⟩
            · exact ⟨i, rw_, c / wide, c % wide, by omega, q2⟩) (fun f s hp => by
      show bX12_panes_63 _ _ _ _ _ _ _ _ _ _ = _
      unfold bX12_panes_63
      rw [if_pos (by rw [nle (by omega) (by omega)]; omega)]
      rfl) n 100 g 0 (by omega) (by omega) hg
  · refine ⟨g, ⟨hg.1.cg (fun w => ?_), hg.2⟩, ?_⟩
    · constructor
      · rintro ⟨tp, rw_, a, t, q, q2⟩
        refine ⟨tp, rw_, a, t, ?_, q2⟩
        rcases q with q | ⟨q, _⟩
        · exact Or.inl q
        · exfalso
          obtain ⟨rfl, rfl⟩ := huniq a t q2.2.2.2.1 q
          exact hft q2.2.2.1
      · rintro ⟨tp, rw_, a, t, q, q2⟩
        exact ⟨tp, rw_, a, t, by omega, q2⟩
    · show bX12_panes_63 _ _ _ _ _ _ _ _ _ _ = _
      unfold bX12_panes_63
      by_cases hn0 : nI n ≤ 0
      · rw [if_pos hn0]
        rfl
      · rw [if_neg hn0, if_pos (by rw [nlt (by omega) (by omega)]; omega)]
        rfl
theorem pane12 {M : St} {b : Nat → Nat} {n wide : Nat} (hb : ∀ j, b j < 256) (hT : TapM b M) (h6 : n ≤ 6) (hw : wide ≤ 6) (hw0 : 0 < wide) : ∃ g, Mx (fun w => ∃ tp rw_ a t, Ar b n wide tp rw_ a t w) g ∧ fX12_panes_40 100 M (nI n) (nI wide) 0 0 = some (nI g, M) := by
  have h36 : wide * wide ≤ 36 := Nat.mul_le_mul hw hw
  have key := loop_inv (F := fun f (s : Nat) i => fX12_panes_40 f M (nI n) (nI wide) (nI s) (nI i)) (fun i s => MoG b n wide i 0 s) (fun s => some (nI s, M)) (wide * wide) (fun f s i hi hp => by
      obtain ⟨g', q1, q2⟩ := pane63 (fX12_panes_40 f) hb hT h6 hw hw0 hi h36 hp
      refine ⟨g', ?_, q1.1.cg (fun w => ?_), q1.2⟩
      · show bX12_panes_40 _ _ _ _ _ _ = _
        unfold bX12_panes_40
        have hne : ¬ nI wide = 0 := by rw [li 0, neq (by omega) (Nat.le_of_ble_eq_true rfl)]; omega
        rw [pk_mul, if_neg (by rw [nle (by omega) (by omega)]; omega), if_neg hne]
        simp only [bV_e, hne, if_false]
        rw [pk_rem (by omega) hw0 (by omega), pk_div (by omega) hw0 (by omega), q2, nI_1]
      · constructor
        · rintro ⟨tp, rw_, a, t, q, q2⟩
          have := q2.1
          have := q2.2.1
          exact ⟨tp, rw_, a, t, by omega, q2⟩
        · rintro ⟨tp, rw_, a, t, q, q2⟩
          exact ⟨tp, rw_, a, t, by omega, q2⟩) (fun f s hp => by
      show bX12_panes_40 _ _ _ _ _ _ = _
      unfold bX12_panes_40
      rw [pk_mul, if_pos (by rw [nle (by omega) (by omega)]; omega)]) (wide * wide) 100 0 0 (by omega) (by omega) ⟨Mx.emp (fun w ⟨tp, rw_, a, t, q, _⟩ => by omega), by omega⟩
  obtain ⟨g, k1, k2⟩ := key
  refine ⟨g, k1.1.cg (fun w => ?_), k2⟩
  constructor
  · rintro ⟨tp, rw_, a, t, q2⟩
    have ht := q2.2.2.2.1
    have hat := q2.2.2.1
    have : a * wide + t < wide * wide := by
      have h1 : (a + 1) * wide ≤ wide * wide := Nat.mul_le_mul_right _ (by omega)
      rw [Nat.succ_mul] at h1
      omega
    exact ⟨tp, rw_, a, t, Or.inl this, q2⟩
  · rintro ⟨tp, rw_, a, t, q, q2⟩
    exact ⟨tp, rw_, a, t, q2⟩
theorem sim_panes (S M : St) (x y : Int32) (h : Rel S M) : ∃ v S1 M1, fX11_panes S x y = some (v, S1) ∧ fX12_panes M x y = some (v, M1) ∧ Rel S1 M1 := by
  obtain ⟨b, z, hz, hb, hT, hT2, hz2⟩ := h.tap
  unfold fX11_panes fX12_panes
  simp only [in12, bi_some, ite_b2i, rng2, i1, i6]
  by_cases hx : inR x 1 6 = true
  · obtain ⟨n, h0, h6, rfl⟩ := inR_natL (m := 1) (n := 6) hx (by decide)
    by_cases hy : inR y 1 6 = true
    · obtain ⟨wide, w0, w6, rfl⟩ := inR_natL (m := 1) (n := 6) hy (by decide)
      simp only [hx, hy, if_true, holds7 hT hz (show n < 2 ^ 31 by omega), bi_some, ite_b2i, hz2, nle (show n < 2 ^ 31 by omega) (show z < 2 ^ 31 by omega), bS_e]
      by_cases hn : n ≤ z
      · obtain ⟨g1, a1, a2⟩ := pane1 hb hT hz hn h6 w6
        obtain ⟨g2, b1, b2⟩ := pane12 (M := pI M 55 11 0) hb (hT2.clr 0) h6 w6 w0
        have e := a1.uniq b1
        subst e
        simp only [hn, decide_true, if_true, a2, b2, bi_some, clear7, bv_some]
        exact ⟨_, _, _, rfl, rfl, h.clr⟩
      · simp only [hn, decide_false, Bool.false_eq_true, if_false]
        exact ⟨_, _, _, rfl, rfl, h⟩
    · simp only [hx, hy, if_true]
      exact ⟨_, _, _, rfl, rfl, h⟩
  · simp only [hx]
    exact ⟨_, _, _, rfl, rfl, h⟩
