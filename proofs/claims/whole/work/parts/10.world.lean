-- states: int cells (fields and arrays) by id and place, long cells, the changing references
abbrev St : Type := (Nat → Nat → Int32) × (Nat → Nat → Int64) × (Nat → Nat)
def pI (S : St) (o k : Nat) (v : Int32) : St := (fun a b => if a = o ∧ b = k then v else S.1 a b, S.2)
def pL (S : St) (o k : Nat) (v : Int64) : St := (S.1, (fun a b => if a = o ∧ b = k then v else S.2.1 a b), S.2.2)
def pR (S : St) (k v : Nat) : St := (S.1, S.2.1, fun a => if a = k then v else S.2.2 a)
def cpA (S : St) (o o2 n : Nat) : St := (fun a b => if a = o2 ∧ b < n then S.1 o b else S.1 a b, S.2)
-- pure combinators
def bV {α β : Type} (e : α) (k : α → Option β) : Option β := k e
def bS {β : Type} (e : St) (k : St → Option β) : Option β := k e
def bi {α β : Type} (o : Option (α × St)) (k : α → St → Option β) : Option β := match o with
  | none => none
  | some (a, b) => k a b
def bv {β : Type} (o : Option St) (k : St → Option β) : Option β := match o with
  | none => none
  | some b => k b
def inb (i : Int32) (n : Nat) : Bool := decide (0 ≤ i) && decide (i.toNatClampNeg < n)
theorem ob {α β : Type} {o : Option (α × St)} {k : α → St → Option β} {r : β} (h : bi o k = some r) : ∃ a b, o = some (a, b) ∧ k a b = some r := by
  match o, h with
  | none, h => cases h
  | some (a, b), h => exact ⟨a, b, rfl, h⟩
theorem obv {β : Type} {o : Option St} {k : St → Option β} {r : β} (h : bv o k = some r) : ∃ b, o = some b ∧ k b = some r := by
  match o, h with
  | none, h => cases h
  | some b, h => exact ⟨b, rfl, h⟩
theorem it_t {c : Prop} {d : Decidable c} {β : Type} {a b : Option β} {r : β} (hc : c) (h : (if c then a else b) = some r) : a = some r := by rw [if_pos hc] at h; exact h
theorem it_f {c : Prop} {d : Decidable c} {β : Type} {a b : Option β} {r : β} (hc : ¬ c) (h : (if c then a else b) = some r) : b = some r := by rw [if_neg hc] at h; exact h
theorem gd {c : Prop} {d : Decidable c} {β : Type} {a : Option β} {r : β} (h : (if c then a else none) = some r) : c ∧ a = some r := by
  by_cases hc : c
  · exact ⟨hc, it_t hc h⟩
  · have := it_f hc h; cases this
theorem gdn {c : Prop} {d : Decidable c} {β : Type} {a : Option β} {r : β} (h : (if c then none else a) = some r) : ¬ c ∧ a = some r := by
  by_cases hc : c
  · have := it_t hc h; cases this
  · exact ⟨hc, it_f hc h⟩
theorem inb_vp {i : Int32} {n : Nat} (h : inb i n = true) : vp_in i n := by
  unfold inb at h
  simp only [Bool.and_eq_true, decide_eq_true_eq] at h
  intro h2
  rcases h2 with h2 | h2
  · exact absurd h.1 (Int32.not_le.mpr h2)
  · exact absurd h.2 (Nat.not_lt.mpr h2)
-- words
def isNest : Cond → Bool
  | .fieldLinkNest _ _ _ _ _ _ => true
  | .methodLinkNest _ _ _ _ => true
  | _ => false
def Gw : List Cond := lw_tbl.filter goodWord
def NW : List Cond := lw_tbl.filter isNest
theorem inGw {w : Cond} (h : w ∈ lw_tbl) (h2 : goodWord w = true) : w ∈ Gw := List.mem_filter.mpr ⟨h, h2⟩
theorem inNW {w : Cond} (h : w ∈ lw_tbl) (h2 : isNest w = true) : w ∈ NW := List.mem_filter.mpr ⟨h, h2⟩
theorem Gw_good {w : Cond} (h : w ∈ Gw) : (w.onTables && w.keeps) = true ∨ ∃ ty, w = .arrayClass ty := good_of_word (List.mem_filter.mp h).2
theorem NW_on {w : Cond} (h : w ∈ NW) : w.onTables = true := by
  have h2 := (List.mem_filter.mp h).2
  cases w <;> first | rfl | (cases h2)
theorem NW_warm {w : Cond} (h : w ∈ NW) {s U : State} (hW : s.WarmedH U.vm) (hz : va_Nw w s) : va_Nw w U := by
  have h2 := (List.mem_filter.mp h).2
  cases w <;> first | exact va_Nw.warmF hW hz | exact va_Nw.warmM hW hz | (cases h2)
theorem in_t1 {w : Cond} (h : w ∈ tables_1_1) : w ∈ lw_tbl := List.mem_append_right _ (List.mem_append_left _ h)
theorem in_t2 {w : Cond} (h : w ∈ tables_1_2) : w ∈ lw_tbl := List.mem_append_right _ (List.mem_append_right _ (List.mem_append_left _ h))
theorem in_t3 {w : Cond} (h : w ∈ tables_1_3) : w ∈ lw_tbl := List.mem_append_right _ (List.mem_append_right _ (List.mem_append_right _ (List.mem_append_left _ h)))
theorem in_t4 {w : Cond} (h : w ∈ tables_1_4) : w ∈ lw_tbl := List.mem_append_right _ (List.mem_append_right _ (List.mem_append_right _ (List.mem_append_right _ (List.mem_append_left _ h))))
theorem in_t5 {w : Cond} (h : w ∈ tables_1_5) : w ∈ lw_tbl := List.mem_append_right _ (List.mem_append_right _ (List.mem_append_right _ (List.mem_append_right _ (List.mem_append_right _ (List.mem_append_left _ h)))))
theorem in_t6 {w : Cond} (h : w ∈ tables_1_6) : w ∈ lw_tbl := List.mem_append_right _ (List.mem_append_right _ (List.mem_append_right _ (List.mem_append_right _ (List.mem_append_right _ (List.mem_append_right _ (List.mem_append_left _ h))))))
theorem in_t7 {w : Cond} (h : w ∈ tables_1_7) : w ∈ lw_tbl := List.mem_append_right _ (List.mem_append_right _ (List.mem_append_right _ (List.mem_append_right _ (List.mem_append_right _ (List.mem_append_right _ (List.mem_append_right _ (List.mem_append_left _ h)))))))
theorem in_t8 {w : Cond} (h : w ∈ tables_1_8) : w ∈ lw_tbl := List.mem_append_right _ (List.mem_append_right _ (List.mem_append_right _ (List.mem_append_right _ (List.mem_append_right _ (List.mem_append_right _ (List.mem_append_right _ (List.mem_append_right _ h)))))))
theorem in_sel {q : MethodName × Nat} (h : q ∈ lw_privs) : Cond.selects q.1.cls q.1 q.1 ∈ lw_tbl := List.mem_append_left _ (List.mem_map.mpr ⟨q, h, rfl⟩)
-- the world
-- ids: kinds (100 int[], 101 byte[], 102 long[]; else the class number), lengths, fields (0 int, 1 a fixed cell, 2 a cell by S.2.2)
def kdL : List Nat := [11, 7, 100, 0, 9, 5, 100, 3, 4, 100, 10, 100, 100, 100, 100, 1, 100, 100, 102, 6, 100, 6, 100, 6, 100, 8, 100, 100, 100, 100, 100, 100, 100, 8, 100, 100, 100, 100, 100, 100, 100, 2, 100, 100, 100, 100, 100, 100, 2, 100, 100, 100, 100, 100, 100, 12, 100, 100, 100, 100, 100, 100, 100, 100, 101, 100, 100, 100, 100, 100, 100, 100, 100, 100, 100, 100, 100, 100, 100, 100, 100, 100, 100, 100, 100, 100, 100, 100, 100, 100, 100, 100, 100, 102, 102]
def lnL : List Nat := [0, 0, 260, 0, 0, 0, 12, 0, 0, 12, 0, 6, 6, 6, 384, 0, 12, 256, 13, 0, 16, 0, 16, 0, 16, 0, 16, 16, 16, 16, 192, 16, 16, 0, 16, 16, 16, 16, 192, 16, 16, 0, 16, 16, 16, 288, 9, 32, 0, 16, 16, 16, 288, 9, 32, 0, 21, 21, 21, 12, 16, 16, 16, 16, 260, 260, 260, 16, 16, 16, 16, 260, 16, 16, 16, 16, 260, 9, 16, 16, 16, 16, 12, 12, 2, 2, 2, 1088, 1088, 16, 65536, 144, 256, 13, 13]
def ftL : List (List (Nat × Nat)) := [[(1, 1), (1, 4), (1, 5), (1, 7), (1, 8), (1, 10), (1, 15), (1, 19), (1, 21), (1, 23), (2, 0), (2, 1), (2, 2), (2, 3), (0, 0)], [(1, 2), (0, 0)], [], [(1, 1), (0, 0), (0, 0), (0, 0), (0, 0)], [(1, 3)], [(1, 3), (1, 6), (0, 0), (0, 0)], [], [(1, 3)], [(1, 9)], [], [(1, 11), (1, 12), (1, 13), (1, 14), (0, 0)], [], [], [], [], [(1, 1), (1, 16), (1, 17), (1, 18)], [], [], [], [(1, 20), (0, 0), (0, 0), (0, 0), (0, 0), (0, 0)], [], [(1, 22), (0, 0), (0, 0), (0, 0), (0, 0), (0, 0)], [], [(1, 24), (0, 0), (0, 0), (0, 0), (0, 0), (0, 0)], [], [(1, 26), (1, 27), (1, 28), (1, 29), (1, 30), (1, 31), (1, 32), (0, 0), (0, 0)], [], [], [], [], [], [], [], [(1, 34), (1, 35), (1, 36), (1, 37), (1, 38), (1, 39), (1, 40), (0, 0), (0, 0)], [], [], [], [], [], [], [], [(1, 42), (1, 43), (1, 44), (1, 45), (1, 46), (1, 47), (0, 0), (0, 0), (0, 0), (0, 0), (0, 0)], [], [], [], [], [], [], [(1, 49), (1, 50), (1, 51), (1, 52), (1, 53), (1, 54), (0, 0), (0, 0), (0, 0), (0, 0), (0, 0)], [], [], [], [], [], [], [(1, 56), (1, 57), (1, 58), (1, 59), (1, 60), (1, 61), (1, 62), (1, 63), (0, 0), (0, 0), (1, 64), (0, 0), (0, 0), (0, 0), (0, 0), (0, 0), (0, 0), (0, 0), (0, 0), (0, 0), (0, 0), (1, 65), (1, 66), (1, 67), (1, 68), (1, 69), (1, 70), (1, 71), (1, 72), (1, 73), (1, 74), (1, 75), (1, 76), (1, 77), (1, 78), (1, 79), (1, 80), (1, 81), (0, 0), (0, 0), (0, 0), (1, 82), (1, 83), (1, 84), (1, 85), (1, 86), (0, 0), (0, 0), (0, 0), (0, 0), (0, 0), (1, 87), (1, 88), (1, 89), (1, 90), (1, 91), (1, 92), (1, 93), (1, 94), (0, 0), (0, 0)], [], [], [], [], [], [], [], [], [], [], [], [], [], [], [], [], [], [], [], [], [], [], [], [], [], [], [], [], [], [], [], [], [], [], [], [], [], [], []]
def kd (o : Nat) : Nat := kdL.getD o 999
def ln (o : Nat) : Nat := lnL.getD o 0
def nf (o : Nat) : Nat := (ftL.getD o []).length
def ft (o k : Nat) : Nat × Nat := (ftL.getD o []).getD k (0, 0)
abbrev WD : Type := (Nat → Nat) × va_G × ClassId × ClassId × ClassId × Nat × Nat
def fv (w : WD) (S : St) (o k : Nat) : Value := if (ft o k).1 = 0 then .int (S.1 o k) else if (ft o k).1 = 1 then .ref (w.1 (ft o k).2) else .ref (w.1 (S.2.2 (ft o k).2))
def ent (w : WD) (S : St) (o : Nat) : va_E := if kd o = 100 then .inl (w.2.2.2.1, ln o, .inl (S.1 o)) else if kd o = 101 then .inl (w.2.2.1, ln o, .inl (S.1 o)) else if kd o = 102 then .inl (w.2.2.2.2.1, ln o, .inr (.inl (S.2.1 o))) else .inr (kd o, (List.range (nf o)).map (fv w S o))
def ww (w : WD) (lo n : Nat) (S : St) : va_W := (List.range n).map (fun i => (w.1 (lo + i), ent w S (lo + i)))
def Aw (w : WD) (lo n : Nat) : Nat → Prop := fun q => ∃ i, i < n ∧ q = w.1 (lo + i)
def Dj (w : WD) (lo n : Nat) : Prop := ∀ i j, i < n → j < n → w.1 (lo + i) = w.1 (lo + j) → i = j
abbrev wtys (w : WD) : List (ClassId × FieldType) := [(w.2.2.1, .byte), (w.2.2.2.1, .int), (w.2.2.2.2.1, .long)]
theorem ww_at (w : WD) {lo n o : Nat} (S : St) (h1 : lo ≤ o) (h2 : o < lo + n) : (ww w lo n S)[o - lo]? = some (w.1 o, ent w S o) := by
  have h3 : o - lo < n := by omega
  have h4 : lo + (o - lo) = o := by omega
  simp [ww, h3, h4]
theorem ww_set (w : WD) {lo n o : Nat} {S S' : St} {e : va_E} (h1 : lo ≤ o) (h2 : o < lo + n) (he : ent w S' o = e) (hj : ∀ j, j ≠ o → ent w S' j = ent w S j) : (ww w lo n S).set (o - lo) (w.1 o, e) = ww w lo n S' := by
  have h4 : lo + (o - lo) = o := by omega
  apply List.ext_getElem?
  intro k
  by_cases hk : k = o - lo
  · subst hk
    have h5 : o - lo < (ww w lo n S).length := by simp [ww]; omega
    rw [List.getElem?_set_self h5, ww_at w S' h1 h2, he]
  · rw [List.getElem?_set_ne (Ne.symm hk)]
    by_cases hn : k < n
    · simp only [ww, List.getElem?_map, List.getElem?_range hn, Option.map_some]
      rw [hj (lo + k) (by omega)]
    · have h6 : (ww w lo n S).length ≤ k := by simp [ww]; omega
      have h7 : (ww w lo n S').length ≤ k := by simp [ww]; omega
      rw [List.getElem?_eq_none h6, List.getElem?_eq_none h7]
theorem ww_D {w : WD} {lo n : Nat} (S : St) (h : Dj w lo n) : va_D (Aw w lo n) (ww w lo n S) := by
  have key : ∀ (k : Nat) (q : Nat × va_E), (ww w lo n S)[k]? = some q → k < n ∧ q.1 = w.1 (lo + k) := by
    intro k q hk
    have hl : k < (ww w lo n S).length := (List.getElem?_eq_some_iff.mp hk).1
    have hn : k < n := by simpa [ww] using hl
    simp only [ww, List.getElem?_map, List.getElem?_range hn, Option.map_some] at hk
    cases hk
    exact ⟨hn, rfl⟩
  refine ⟨fun i j p q hi hj e => ?_, fun k q hk => ?_⟩
  · obtain ⟨a1, a2⟩ := key i p hi
    obtain ⟨b1, b2⟩ := key j q hj
    exact h i j a1 b1 (by rw [← a2, ← b2]; exact e)
  · obtain ⟨a1, a2⟩ := key k q hk
    exact ⟨k, a1, a2⟩
theorem Aw_in {w : WD} {lo n o : Nat} (h1 : lo ≤ o) (h2 : o < lo + n) : Aw w lo n (w.1 o) := ⟨o - lo, by omega, by rw [show lo + (o - lo) = o by omega]⟩
theorem ent_pI_ne (w : WD) (S : St) {o k : Nat} {v : Int32} {j : Nat} (h : j ≠ o) : ent w (pI S o k v) j = ent w S j := by
  have e1 : (pI S o k v).1 j = S.1 j := by funext b; simp [pI, h]
  have e2 : fv w (pI S o k v) j = fv w S j := by
    funext b
    simp only [fv, e1]
    rfl
  unfold ent
  rw [e1, e2]
  rfl
theorem ent_pL_ne (w : WD) (S : St) {o k : Nat} {v : Int64} {j : Nat} (h : j ≠ o) : ent w (pL S o k v) j = ent w S j := by
  have e1 : (pL S o k v).2.1 j = S.2.1 j := by funext b; simp [pL, h]
  unfold ent
  rw [e1]
  rfl
theorem pI_arr (S : St) (o k : Nat) (v : Int32) : (pI S o k v).1 o = upd (S.1 o) k v := by funext b; simp [pI, upd]
theorem pL_arr (S : St) (o k : Nat) (v : Int64) : (pL S o k v).2.1 o = vp_updL (S.2.1 o) k v := by funext b; simp [pL, vp_updL]
-- facts of ids
abbrev AI (lo n o len : Nat) : Prop := lo ≤ o ∧ o < lo + n ∧ kd o = 100 ∧ ln o = len
abbrev AB (lo n o len : Nat) : Prop := lo ≤ o ∧ o < lo + n ∧ kd o = 101 ∧ ln o = len
abbrev AJ (lo n o len : Nat) : Prop := lo ≤ o ∧ o < lo + n ∧ kd o = 102 ∧ ln o = len
abbrev OB (lo n o ci : Nat) : Prop := lo ≤ o ∧ o < lo + n ∧ kd o = ci ∧ ci < 100
abbrev FI (lo n o ci k : Nat) : Prop := OB lo n o ci ∧ k < nf o ∧ (ft o k).1 = 0
abbrev FR (lo n o ci k j : Nat) : Prop := OB lo n o ci ∧ k < nf o ∧ (ft o k).1 = 1 ∧ (ft o k).2 = j
abbrev FD (lo n o ci k j : Nat) : Prop := OB lo n o ci ∧ k < nf o ∧ (ft o k).1 = 2 ∧ (ft o k).2 = j
theorem ent_I {w : WD} {S : St} {lo n o len : Nat} (h : AI lo n o len) : ent w S o = .inl (w.2.2.2.1, len, .inl (S.1 o)) := by
  unfold ent; rw [if_pos h.2.2.1, h.2.2.2]
theorem ent_B {w : WD} {S : St} {lo n o len : Nat} (h : AB lo n o len) : ent w S o = .inl (w.2.2.1, len, .inl (S.1 o)) := by
  unfold ent; rw [if_neg (by rw [h.2.2.1]; decide), if_pos h.2.2.1, h.2.2.2]
theorem ent_J {w : WD} {S : St} {lo n o len : Nat} (h : AJ lo n o len) : ent w S o = .inl (w.2.2.2.2.1, len, .inr (.inl (S.2.1 o))) := by
  unfold ent; rw [if_neg (by rw [h.2.2.1]; decide), if_neg (by rw [h.2.2.1]; decide), if_pos h.2.2.1, h.2.2.2]
theorem ent_O {w : WD} {S : St} {lo n o ci : Nat} (h : OB lo n o ci) : ent w S o = .inr (ci, (List.range (nf o)).map (fv w S o)) := by
  obtain ⟨-, -, h1, h2⟩ := h
  unfold ent; rw [if_neg (by omega), if_neg (by omega), if_neg (by omega), h1]
theorem fl_set {α : Type} {n k : Nat} {f g : Nat → α} {x : α} (h : k < n) (hk : g k = x) (hj : ∀ j, j ≠ k → g j = f j) : ((List.range n).map f).set k x = (List.range n).map g := by
  apply List.ext_getElem?
  intro j
  by_cases hj2 : j = k
  · subst hj2
    rw [List.getElem?_set_self (by simpa using h)]
    simp [h, hk]
  · rw [List.getElem?_set_ne (Ne.symm hj2)]
    by_cases hn : j < n
    · simp [hn, hj j hj2]
    · simp [hn]
theorem fv_pI {w : WD} {S : St} {o k : Nat} {v : Int32} (h : k < nf o) (h0 : (ft o k).1 = 0) : ((List.range (nf o)).map (fv w S o)).set k (.int v) = (List.range (nf o)).map (fv w (pI S o k v) o) := by
  refine fl_set h ?_ (fun j hj => ?_)
  · simp [fv, h0, pI]
  · simp [fv, pI, hj]
-- what the tables and the statics say at a state
def lenS : List Nat := [9]
def bytS : List (List Int32) := [[104, 103, 115, 100, 110, 98, 107, 116, 119]]
def Sx (w : WD) (A : Nat → Prop) (U : State) : Prop := vk_S 1 lenS bytS (fun _ => w.2.2.2.2.2.1) (fun _ => w.2.2.2.2.2.2) A U U.heap ∧ vk_R RX3 106 "hgsdnbktw" w.2.2.2.2.2.1 U ∧ va_Z "java/lang/String" "COMPACT_STRINGS" "Z" (.int 1) A U U.heap
def Kk (w : WD) (lo n : Nat) (U : State) : Prop := va_K w.2.1 vwCl (wtys w) U ∧ (∀ q ∈ NW, va_Nw q U) ∧ Sx w (Aw w lo n) U
theorem Kk.blind {w : WD} {lo n : Nat} {U : State} {g : JFrame} {mk : MethodId} {a : Array Value} (h : Kk w lo n U) : Kk w lo n (U.calling g mk a) :=
  ⟨va_K.moved (u := U) (U := U.calling g mk a) (Vm.Alike.refl U.vm) h.1, fun q hq => va_Nw.same (NW_on hq) (u := U) rfl (h.2.1 q hq), vk_S.moved (u := U) (U := U.calling g mk a) (Vm.Alike.refl U.vm) h.2.2.1, vk_R.same (u := U) rfl h.2.2.2.1, va_Z.moved (u := U) (U := U.calling g mk a) (Vm.Alike.refl U.vm) h.2.2.2.2⟩
theorem Kk.warm {w : WD} {lo n : Nat} {s U : State} {H : Heap} {locs : List Loc} (h : Kk w lo n s) (hS : va_S (Aw w lo n) s.heap H locs) (hU : U.heap = H) (hW : s.WarmedH U.vm) : Kk w lo n U :=
  ⟨va_K.moved hW.alike h.1, fun q hq => NW_warm hq hW (h.2.1 q hq), by rw [hU]; exact vk_S.moved hW.alike (h.2.2.1.kept hS.2.1), vk_R.warm hW h.2.2.2.1, by rw [hU]; exact va_Z.moved hW.alike (h.2.2.2.2.kept hS.2.1)⟩
def rmD (d : Nat) : Room := { frames := d, cells := 0, slots := 0, locals := 60 * d }
def Rq (w : WD) (lo n : Nat) (r : Option Value × St) : Array Value → State → Outcome → State → Prop := fun _ st oc t => (oc = .returned r.1 ∧ va_P w.2.1 vwCl (ww w lo n r.2) t.heap) ∧ va_F (Aw w lo n) st t
/-- a contract: from the picture S with these arguments, the answer r and the picture S' -/
def Ct (l : Launch) (y : MethodName) (cy : ByteArray) (ny : Nat) (ret : Option FieldType) (d : Nat) (w : WD) (lo n : Nat) (av : List Value) (S : St) (r : Option Value × St) : Prop :=
  Met l y (Cond.code y cy ny ret :: Gw) (rmD d) (va_Pc av (fun U => va_P w.2.1 vwCl (ww w lo n S) U.heap ∧ Kk w lo n U)) (Rq w lo n r) 0 0 (Aw w lo n)
abbrev CX : Type := Launch × WD × Program × Env × State × MethodId × Array Value × List Frame × Method × Code × (Option Value × St)
def ad (X : CX) (o : Nat) : Nat := X.2.1.1 o
def rs (X : CX) : Option Value × St := X.2.2.2.2.2.2.2.2.2.2
def Ok (own : String) (cc : ByteArray) (ret : Option FieldType) (lo n nL : Nat) (X : CX) : Prop := match X with
  | (_, w, p, _, s, m, args, _, meth, c, _) => p.tables.exec = Jvm.exec ∧ c.code = cc ∧ c.maxLocals = nL ∧ meth.sig.returnType = ret ∧ meth.locks = false ∧ s.vm.findClass own = some m.cls ∧ (∀ q ∈ Gw, q.before args s = true) ∧ Kk w lo n s ∧ Dj w lo n
def Wat (lo n d nL : Nat) (X : CX) (pc : Nat) (lv : List (Nat × Value)) (st : List Value) (S : St) : Prop := match X with
  | (l, w, p, e, s, m, args, below, meth, c, r) => ∀ (H : Heap) (locs : List Loc) (ls : Array Slot), va_P w.2.1 vwCl (ww w lo n S) H → va_S (Aw w lo n) s.heap H locs → lv_has ls nL lv → W p l e (rmD d) s m args below meth c H locs 0 0 (MQ below (Rq w lo n r) args s 0 0 (Aw w lo n)) (F0 m pc ls st)
theorem Ok.dj {own : String} {cc : ByteArray} {ret : Option FieldType} {lo n nL : Nat} {X : CX} (h : Ok own cc ret lo n nL X) : Dj X.2.1 lo n := by
  obtain ⟨l, w, p, e, s, m, args, below, meth, c, r⟩ := X
  exact h.2.2.2.2.2.2.2.2
theorem Ct.of {l : Launch} {y : MethodName} {cy : ByteArray} {ny d : Nat} {ret : Option FieldType} {w : WD} {lo n : Nat} {av : List Value} {S : St} {r : Option Value × St} {lv : List (Nat × Value)} (hj : Dj w lo n) (hy : plainName y.cls = true) (hn : (lg_sl av).length ≤ ny) (hlv : lv_args 0 av = lv)
    (k : ∀ X : CX, X.1 = l → X.2.1 = w → rs X = r → Ok y.cls cy ret lo n ny X → Wat lo n d ny X 0 lv [] S) : Ct l y cy ny ret d w lo n av S r := by
  refine Met.ofW (cc := cy) (maxL := ny) (ret := ret) hy rfl ?_
  intro p e s m args below meth c s₁ B hml hv
  obtain ⟨rfl, hP, hK⟩ := hv
  have hts := atoms_spec (ws := Cond.code y cy ny ret :: Gw) B.pre
  have hl := lv_entry av (n := ny) hn
  rw [lg_entry_eq]
  rw [hlv] at hl
  exact k (l, w, p, e, s, m, av.toArray, below, meth, c, r) rfl rfl rfl ⟨B.exec, B.bytes, hml, B.returns, B.notSynchronized, findClass_of_methodNamed B.named, fun q hq => hts q (List.mem_cons_of_mem _ hq), hK, hj⟩ s.heap [] _ hP va_S.rf hl
