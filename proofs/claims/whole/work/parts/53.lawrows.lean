-- the law: two worlds, the class's (ids 0..54) and the model's (55..94)
abbrev LX : Type := Launch × WD × Program × Env × State × MethodId × List Frame × Method × Code × Nat × Nat × (Nat → Int32)
def R_law9 : String := "SharedWindowLaw"
def bigA (s : State) : Nat → Prop := fun q => s.heap.size ≤ q
def SxL (w : WD) (s : State) : Prop := vk_S 1 lenS bytS (fun _ => w.2.2.2.2.2.1) (fun _ => w.2.2.2.2.2.2) (bigA s) s s.heap ∧ vk_R RX3 106 "hgsdnbktw" w.2.2.2.2.2.1 s ∧ va_Z "java/lang/String" "COMPACT_STRINGS" "Z" (.int 1) (bigA s) s s.heap
def LOk (X : LX) : Prop := match X with
  | (_, w, p, _, s, m, _, meth, c, b, L, xs) => p.tables.exec = Jvm.exec ∧ c.code = cL_law ∧ c.maxLocals = 4 ∧ meth.sig.returnType = some .boolean ∧ meth.locks = false ∧ s.vm.findClass RL = some m.cls ∧ (∀ q ∈ Gw, q.before #[Value.ref b] s = true) ∧ va_K w.2.1 vwCl (wtys w) s ∧ (∀ q ∈ NW, va_Nw q s) ∧ SxL w s ∧ va_X b L xs s s.heap ∧ b < s.heap.size ∧ Dj w 0 95 ∧ (∀ o, o < 95 → s.heap.size ≤ w.1 o) ∧ L ≤ 3072
def lwZ (below : List Frame) (a : Array Value) (s : State) : State → Prop := fun t => ∃ o, t.status = .running ∧ Ended t below o ∧ (o = .returned (some (.int 1)) ∧ Framed s o t [] 600000 7302249)
def Lat (X : LX) (pc : Nat) (lv : List (Nat × Value)) (st : List Value) (S M : St) : Prop := match X with
  | (l, w, p, e, s, m, below, meth, c, b, _, _) => ∀ (H : Heap) (locs : List Loc) (ls : Array Slot), va_P w.2.1 vwCl (ww w 0 55 S) H → va_P w.2.1 vwCl (ww w 55 40 M) H → va_S (bigA s) s.heap H locs → lv_has ls 4 lv → W p l e room_1 s m #[Value.ref b] below meth c H locs 200 80000 (lwZ below #[Value.ref b] s) (F0 m pc ls st)
def adL (X : LX) (o : Nat) : Nat := X.2.1.1 o
def bL (X : LX) : Nat := X.2.2.2.2.2.2.2.2.2.1
def lenL (X : LX) : Nat := X.2.2.2.2.2.2.2.2.2.2.1
def xsL (X : LX) : Nat → Int32 := X.2.2.2.2.2.2.2.2.2.2.2
theorem Kk_law {w : WD} {lo n : Nat} {s U : State} {H : Heap} (hK : va_K w.2.1 vwCl (wtys w) s) (hN : ∀ q ∈ NW, va_Nw q s) (hX : SxL w s) (hq : ∀ q : Nat, q < s.heap.size → H[q]? = s.heap[q]?) (hA : ∀ q, Aw w lo n q → bigA s q) (hU : U.heap = H) (hW : s.WarmedH U.vm) : Kk w lo n U :=
  ⟨va_K.moved hW.alike hK, fun q hq9 => NW_warm hq9 hW (hN q hq9), by rw [hU]; exact (vk_S.moved hW.alike (hX.1.kept (fun a h _ => hq a h))).narrow hA, vk_R.warm hW hX.2.1, by rw [hU]; exact (va_Z.moved hW.alike (hX.2.2.kept (fun a h _ => hq a h))).narrow hA⟩
section QL
variable {X : LX} {pc : Nat} {lv : List (Nat × Value)} {st : List Value} {S M : St}
theorem l_sub (z : List Nat) {lv' : List (Nat × Value)} (hl : lv_pick lv z = lv') (kk : Lat X pc lv' st S M) : Lat X pc lv st S M := by
  obtain ⟨l, w, p, e, s, m, below, meth, c, b, L, xs⟩ := X
  intro H locs ls hP hP2 hS hv
  exact kk H locs ls hP hP2 hS (lv_sub hv z hl)
theorem l_aload_n (z : Nat) (hX : LOk X) (j : Nat) {k : Fin 4} {i : Nat} {x : Nat} (hd : decode cL_law pc = .ok (.aload_n k, 1)) (hz : pc + 1 = z) (hi : (k : Nat) = i) (hk : lv[j]? = some (i, .ref x)) (kk : Lat X z lv (.ref x :: st) S M) : Lat X pc lv st S M := by
  obtain ⟨l, w, p, e, s, m, below, meth, c, b, L, xs⟩ := X
  obtain ⟨hx, hb, -⟩ := hX
  subst hz
  intro H locs ls hP hP2 hS hh
  exact lv_aload_n hx hb hd hi (lv_at hh j hk) (kk H locs ls hP hP2 hS hh)
theorem l_iload_n (z : Nat) (hX : LOk X) (j : Nat) {k : Fin 4} {i : Nat} {x : Int32} (hd : decode cL_law pc = .ok (.iload_n k, 1)) (hz : pc + 1 = z) (hi : (k : Nat) = i) (hk : lv[j]? = some (i, .int x)) (kk : Lat X z lv (.int x :: st) S M) : Lat X pc lv st S M := by
  obtain ⟨l, w, p, e, s, m, below, meth, c, b, L, xs⟩ := X
  obtain ⟨hx, hb, -⟩ := hX
  subst hz
  intro H locs ls hP hP2 hS hh
  exact lv_iload_n hx hb hd hi (lv_at hh j hk) (kk H locs ls hP hP2 hS hh)
theorem l_iconst (z : Nat) (hX : LOk X) {k : Int} {v : Int32} (hd : decode cL_law pc = .ok (.iconst k, 1)) (hz : pc + 1 = z) (hv : Int32.ofInt k = v) (kk : Lat X z lv (.int v :: st) S M) : Lat X pc lv st S M := by
  obtain ⟨l, w, p, e, s, m, below, meth, c, b, L, xs⟩ := X
  obtain ⟨hx, hb, -⟩ := hX
  subst hz
  intro H locs ls hP hP2 hS hh
  exact lv_iconst hx hb hd hv (kk H locs ls hP hP2 hS hh)
theorem l_bipush (z : Nat) (hX : LOk X) {k : Int} {v : Int32} (hd : decode cL_law pc = .ok (.bipush k, 2)) (hz : pc + 2 = z) (hv : (Int8.ofInt k).toInt32 = v) (kk : Lat X z lv (.int v :: st) S M) : Lat X pc lv st S M := by
  obtain ⟨l, w, p, e, s, m, below, meth, c, b, L, xs⟩ := X
  obtain ⟨hx, hb, -⟩ := hX
  subst hz
  intro H locs ls hP hP2 hS hh
  exact lv_bipush hx hb hd hv (kk H locs ls hP hP2 hS hh)
theorem l_iadd (z : Nat) (hX : LOk X) {x y : Int32} (hd : decode cL_law pc = .ok (.iadd, 1)) (hz : pc + 1 = z) (kk : Lat X z lv (.int (x + y) :: st) S M) : Lat X pc lv (.int y :: .int x :: st) S M := by
  obtain ⟨l, w, p, e, s, m, below, meth, c, b, L, xs⟩ := X
  obtain ⟨hx, hb, -⟩ := hX
  subst hz
  intro H locs ls hP hP2 hS hh
  exact lv_iadd hx hb hd (kk H locs ls hP hP2 hS hh)
theorem l_isub (z : Nat) (hX : LOk X) {x y : Int32} (hd : decode cL_law pc = .ok (.isub, 1)) (hz : pc + 1 = z) (kk : Lat X z lv (.int (x - y) :: st) S M) : Lat X pc lv (.int y :: .int x :: st) S M := by
  obtain ⟨l, w, p, e, s, m, below, meth, c, b, L, xs⟩ := X
  obtain ⟨hx, hb, -⟩ := hX
  subst hz
  intro H locs ls hP hP2 hS hh
  exact lv_isub hx hb hd (kk H locs ls hP hP2 hS hh)
theorem l_iand (z : Nat) (hX : LOk X) {x y : Int32} (hd : decode cL_law pc = .ok (.iand, 1)) (hz : pc + 1 = z) (kk : Lat X z lv (.int (x &&& y) :: st) S M) : Lat X pc lv (.int y :: .int x :: st) S M := by
  obtain ⟨l, w, p, e, s, m, below, meth, c, b, L, xs⟩ := X
  obtain ⟨hx, hb, -⟩ := hX
  subst hz
  intro H locs ls hP hP2 hS hh
  exact lv_iand hx hb hd (kk H locs ls hP hP2 hS hh)
theorem l_lcmp (z : Nat) (hX : LOk X) {x y : Int64} (hd : decode cL_law pc = .ok (.lcmp, 1)) (hz : pc + 1 = z) (kk : Lat X z lv (.int (lg_cmp x y) :: st) S M) : Lat X pc lv (.long y :: .long x :: st) S M := by
  obtain ⟨l, w, p, e, s, m, below, meth, c, b, L, xs⟩ := X
  obtain ⟨hx, hb, -⟩ := hX
  subst hz
  intro H locs ls hP hP2 hS hh
  exact W.lcmp hx hb hd (kk H locs ls hP hP2 hS hh)
theorem l_slen (z : Nat) (hX : LOk X) (hd : decode cL_law pc = .ok (.arraylength, 1)) (hz : pc + 1 = z) (kk : Lat X z lv (.int (nI (lenL X)) :: st) S M) : Lat X pc lv (.ref (bL X) :: st) S M := by
  obtain ⟨l, w, p, e, s, m, below, meth, c, b, L, xs⟩ := X
  obtain ⟨hx, hb, -, -, -, hown, hts, hK, hN, hSx, hXs, hbl, hj, had, hL⟩ := hX
  subst hz
  intro H locs ls hP hP2 hS hh
  exact va_slen hx hb hXs hbl (Nat.not_le.mpr hbl) hS hd (kk H locs ls hP hP2 hS hh)
theorem l_sld (z : Nat) (hX : LOk X) {i : Int32} {j : Nat} (hi : i = nI j) (hj : j < lenL X) (hd : decode cL_law pc = .ok (.iaload, 1)) (hz : pc + 1 = z) (kk : Lat X z lv (.int (xsL X j) :: st) S M) : Lat X pc lv (.int i :: .ref (bL X) :: st) S M := by
  obtain ⟨l, w, p, e, s, m, below, meth, c, b, L, xs⟩ := X
  obtain ⟨hx, hb, -, -, -, hown, hts, hK, hN, hSx, hXs, hbl, hdj, had, hL⟩ := hX
  subst hz
  subst hi
  have hj : j < L := hj
  have hc : (nI j).toNatClampNeg = j := nI_clamp (by omega)
  intro H locs ls hP hP2 hS hh
  refine va_sld hx hb hXs hbl (Nat.not_le.mpr hbl) hS (vp_in_nI hj (by omega)) hd ?_
  rw [hc]
  exact kk H locs ls hP hP2 hS hh
/-- aload_0, iload_3, iconst k, iadd, iaload: the int at j + k -/
theorem l_arg (z : Nat) (hX : LOk X) {j k : Nat} {ki : Int} (h0 : lv[3]? = some (0, .ref (bL X))) (h3 : lv[0]? = some (3, .int (nI j))) (hk : Int32.ofInt ki = nI k) (hj : j + k < lenL X) (d0 : decode cL_law pc = .ok (.aload_n 0, 1)) (d1 : decode cL_law (pc + 1) = .ok (.iload_n 3, 1)) (d2 : decode cL_law (pc + 2) = .ok (.iconst ki, 1)) (d3 : decode cL_law (pc + 3) = .ok (.iadd, 1)) (d4 : decode cL_law (pc + 4) = .ok (.iaload, 1)) (hz : pc + 5 = z) (kk : Lat X z lv (.int (xsL X (j + k)) :: st) S M) : Lat X pc lv st S M := by
  refine l_aload_n (pc + 1) hX 3 d0 rfl rfl h0 ?_
  refine l_iload_n (pc + 2) hX 0 d1 rfl rfl h3 ?_
  refine l_iconst (pc + 3) hX d2 rfl hk ?_
  refine l_iadd (pc + 4) hX d3 rfl ?_
  exact l_sld z hX (nI_add j k) hj d4 hz kk
theorem l_icmp_eq (z : Nat) (hX : LOk X) (tg : Nat) {x : Int32} {off : Int} (hd : decode cL_law pc = .ok (.if_icmp .eq off, 3)) (ht : (pc : Int) + off = (tg : Int)) (kt : Lat X tg lv st S M) : Lat X pc lv (.int x :: .int x :: st) S M := by
  obtain ⟨l, w, p, e, s, m, below, meth, c, b, L, xs⟩ := X
  obtain ⟨hx, hb, -⟩ := hX
  intro H locs ls hP hP2 hS hh
  exact lv_icmp_eq hx hb hd ht (fun h => kt H locs ls hP hP2 hS hh) (fun h => absurd rfl h)
theorem l_if_eq (z : Nat) (hX : LOk X) (tg : Nat) {x : Int32} {off : Int} (h0 : x = 0) (hd : decode cL_law pc = .ok (.ifCond .eq off, 3)) (ht : (pc : Int) + off = (tg : Int)) (kt : Lat X tg lv st S M) : Lat X pc lv (.int x :: st) S M := by
  obtain ⟨l, w, p, e, s, m, below, meth, c, b, L, xs⟩ := X
  obtain ⟨hx, hb, -⟩ := hX
  intro H locs ls hP hP2 hS hh
  exact lv_if_eq hx hb hd ht (fun h => kt H locs ls hP hP2 hS hh) (fun h => absurd h0 h)
theorem l_icmp_gt (z : Nat) (hX : LOk X) (tg : Nat) {x y : Int32} {off : Int} (hd : decode cL_law pc = .ok (.if_icmp .gt off, 3)) (hz : pc + 3 = z) (ht : (pc : Int) + off = (tg : Int)) (kt : y < x → Lat X tg lv st S M) (kf : ¬ y < x → Lat X z lv st S M) : Lat X pc lv (.int y :: .int x :: st) S M := by
  obtain ⟨l, w, p, e, s, m, below, meth, c, b, L, xs⟩ := X
  obtain ⟨hx, hb, -⟩ := hX
  subst hz
  intro H locs ls hP hP2 hS hh
  exact lv_icmp_gt hx hb hd ht (fun h => kt h H locs ls hP hP2 hS hh) (fun h => kf h H locs ls hP hP2 hS hh)
theorem l_goto (z : Nat) (hX : LOk X) {off : Int} (hd : decode cL_law pc = .ok (.goto off, 3)) (ht : (pc : Int) + off = (z : Int)) (kk : Lat X z lv st S M) : Lat X pc lv st S M := by
  obtain ⟨l, w, p, e, s, m, below, meth, c, b, L, xs⟩ := X
  obtain ⟨hx, hb, -⟩ := hX
  intro H locs ls hP hP2 hS hh
  exact lv_goto hx hb hd ht (kk H locs ls hP hP2 hS hh)
theorem l_iinc (z : Nat) (j : Nat) (hX : LOk X) {i : Nat} {k : Int} {x v : Int32} {lv' : List (Nat × Value)} (hd : decode cL_law pc = .ok (.iinc i k, 3)) (hz : pc + 3 = z) (hk : lv[j]? = some (i, .int x)) (hv : x + Int32.ofInt k = v) (hn : i < 4) (hl : (i, Value.int v) :: lv.filter (fun q => !(q.1 == i) && !(q.1 + 1 == i && q.2.category == 2)) = lv') (kk : Lat X z lv' st S M) : Lat X pc lv st S M := by
  obtain ⟨l, w, p, e, s, m, below, meth, c, b, L, xs⟩ := X
  obtain ⟨hx, hb, -⟩ := hX
  subst hz
  intro H locs ls hP hP2 hS hh
  exact lv_iinc hx hb hd hh hk hv hn hl (fun ls' hl' => kk H locs ls' hP hP2 hS hl')
theorem l_tabIn (z : Nat) (hX : LOk X) {dflt lo2 hi2 : Int} {offs : Array Int} {len : Nat} {x : Int32} {off : Int} (hd : decode cL_law pc = .ok (.tableswitch dflt lo2 hi2 offs, len)) (h1 : ¬ x.toInt < lo2) (h2 : ¬ hi2 < x.toInt) (ho : offs[(x.toInt - lo2).toNat]? = some off) (ht : (pc : Int) + off = (z : Int)) (kk : Lat X z lv st S M) : Lat X pc lv (.int x :: st) S M := by
  obtain ⟨l, w, p, e, s, m, below, meth, c, b, L, xs⟩ := X
  obtain ⟨hx, hb, -⟩ := hX
  intro H locs ls hP hP2 hS hh
  exact lv_tableIn hx hb hd h1 h2 ho ht (kk H locs ls hP hP2 hS hh)
theorem l_tabOut (z : Nat) (hX : LOk X) {dflt lo2 hi2 : Int} {offs : Array Int} {len : Nat} {x : Int32} (hd : decode cL_law pc = .ok (.tableswitch dflt lo2 hi2 offs, len)) (h : x.toInt < lo2 ∨ hi2 < x.toInt) (ht : (pc : Int) + dflt = (z : Int)) (kk : Lat X z lv st S M) : Lat X pc lv (.int x :: st) S M := by
  obtain ⟨l, w, p, e, s, m, below, meth, c, b, L, xs⟩ := X
  obtain ⟨hx, hb, -⟩ := hX
  intro H locs ls hP hP2 hS hh
  exact lv_tableOut hx hb hd h ht (kk H locs ls hP hP2 hS hh)
theorem l_ret1 (hX : LOk X) (hd : decode cL_law pc = .ok (.ireturn, 1)) : Lat X pc lv [.int 1] S M := by
  obtain ⟨l, w, p, e, s, m, below, meth, c, b, L, xs⟩ := X
  obtain ⟨hx, hb, -, hr, hlk, -⟩ := hX
  intro H locs ls hP hP2 hS hh
  refine va_forget (fun q hq => hS.2.2 q hq) ?_
  refine W.widen (k := 600000) (n := 7302249) (Nat.le_of_ble_eq_true rfl) (Nat.le_of_ble_eq_true rfl) ?_
  intro T hT Y
  obtain ⟨fs, hret, hrun, hended, hW, hframe⟩ := Y.leave (v := some (.int 1)) (hlocks := hlk) (fun h => by rw [hr] at h; cases h)
  have hmeth' : T.vm.method? m = some meth := Y.method'
  refine ⟨T.setFrames fs, ?_, .returned (some (.int 1)), hrun, hended, rfl, ⟨_, rfl⟩, hW, hframe⟩
  jvm_step Y.here [Y.here.top, hx, hb, hd, hmeth', hr, narrow_b1]
  (try refine ⟨rfl, ?_⟩); (try refine ⟨rfl, ?_⟩)
  first | (intro acts; rw [hret _ acts rfl rfl rfl]) | rw [hret _ _ rfl rfl rfl]
  exact Steps.refl _
theorem run_L {p : Program} {l : Launch} {e : Env} {R : Room} {s : State} {m : MethodId} {args : Array Value} {below : List Frame} {meth : Method} {c : Code} {H : Heap} {locs : List Loc} {Q : State → Prop} {ls : Array Slot} {rest st0 : List Value} {a : Array Value} {w : WD} {lo n lo2 n2 : Nat} {r : Option Value × St} {M2 : St}
    (hr : va_Run p l e R s m args below meth c H locs 200 80000 0 0 (F0 m pc ls st0) rest (Rq w lo n r a) (Aw w lo n)) (hS : va_S (bigA s) s.heap H locs) (hA : ∀ q, Aw w lo n q → bigA s q) (hP2 : va_P w.2.1 vwCl (ww w lo2 n2 M2) H) (hD2 : va_D (Aw w lo2 n2) (ww w lo2 n2 M2)) (hdis : ∀ q, Aw w lo2 n2 q → ¬ Aw w lo n q)
    (kk : ∀ (H1 : Heap) (locs1 : List Loc), va_P w.2.1 vwCl (ww w lo n r.2) H1 → va_P w.2.1 vwCl (ww w lo2 n2 M2) H1 → va_S (bigA s) s.heap H1 locs1 → W p l e R s m args below meth c H1 locs1 200 80000 Q (F0 m (pc + 3) ls (r.1.toList ++ rest))) : W p l e R s m args below meth c H locs 200 80000 Q (F0 m pc ls st0) := by
  intro T hT Y
  obtain ⟨v, st₀, t, T', L, h0, Y', hL, e1, e2, ⟨⟨hv, hp⟩, hz, hk⟩, stp⟩ := hr T hT Y
  cases hv
  rw [h0] at hz hk
  obtain ⟨t2, a1, b1⟩ := kk T'.heap (locs ++ L) (by rw [e1]; exact hp) (hP2.kept (fun k q hq => by rw [e1]; exact hk q.1 ((hP2 k q hq).lt) (hdis q.1 (hD2.2 k q hq))))
    ⟨Nat.le_trans hS.1 (by rw [e1]; exact hz), fun q h1 h2 => by rw [e1, hk q (Nat.lt_of_lt_of_le h1 hS.1) (fun h3 => h2 (hA q h3))]; exact hS.2.1 q h1 h2, fun q hq => by
      rcases List.mem_append.mp hq with h | h
      · exact hS.2.2 q h
      · exact hA _ (hL q h)⟩ T' rfl Y'
  exact ⟨t2, stp t2 a1, b1⟩
theorem Aw_big {w : WD} {s : State} {lo n : Nat} (h : ∀ o, o < 95 → s.heap.size ≤ w.1 o) (hn : lo + n ≤ 95) : ∀ q, Aw w lo n q → bigA s q := by
  rintro q ⟨i, hi, rfl⟩
  exact h (lo + i) (by omega)
theorem Aw_dis {w : WD} {lo n lo2 n2 : Nat} (hj : Dj w 0 95) (hn : lo + n ≤ 95) (hn2 : lo2 + n2 ≤ 95) (hd : lo + n ≤ lo2 ∨ lo2 + n2 ≤ lo) : ∀ q, Aw w lo2 n2 q → ¬ Aw w lo n q := by
  rintro q ⟨i, hi, rfl⟩ ⟨j, hj2, e⟩
  have := hj (lo2 + i) (lo + j) (by omega) (by omega) (by rw [Nat.zero_add, Nat.zero_add]; exact e)
  omega
theorem Dj_sub {w : WD} {lo n : Nat} (hj : Dj w 0 95) (hn : lo + n ≤ 95) : Dj w lo n := by
  intro i j hi hj2 e
  have := hj (lo + i) (lo + j) (by omega) (by omega) (by rw [Nat.zero_add, Nat.zero_add]; exact e)
  omega
theorem LOk.djC (hX : LOk X) : Dj X.2.1 0 55 := by
  obtain ⟨l, w, p, e, s, m, below, meth, c, b, L, xs⟩ := X
  exact Dj_sub hX.2.2.2.2.2.2.2.2.2.2.2.2.1 (by decide)
theorem LOk.djM (hX : LOk X) : Dj X.2.1 55 40 := by
  obtain ⟨l, w, p, e, s, m, below, meth, c, b, L, xs⟩ := X
  exact Dj_sub hX.2.2.2.2.2.2.2.2.2.2.2.2.1 (by decide)
/-- the law calls the class -/
theorem l_callC (z : Nat) (hX : LOk X) {idx dy : Nat} {y : MethodName} {cy : ByteArray} {ny k : Nat} {rety : Option FieldType} {As : List Value} {r : Option Value × St} {st0 : List Value}
    (hM : Ct X.1 y cy ny rety dy X.2.1 0 55 (.ref (adL X 0) :: As) S r) (hc : CV RL RX11 idx y cy ny rety k) (hk : As.length = k) (hdd : dy + 1 ≤ 1000) (hst : st0 = As.reverse ++ .ref (adL X 0) :: st) (hs : (st.map fun v => v.category).sum ≤ 8) (hd : decode cL_law pc = .ok (.invokevirtual idx, 3)) (hz : pc + 3 = z)
    (kk : Lat X z lv (r.1.toList ++ st) r.2 M) : Lat X pc lv st0 S M := by
  obtain ⟨l, w, p, e, s, m, below, meth, c, b, L, xs⟩ := X
  obtain ⟨hx, hb, hml, -, -, hown, hts, hK, hN, hSx, hXs, hbl, hdj, had, hL⟩ := hX
  subst hz
  intro H locs ls hP hP2 hS hh
  obtain ⟨hl, h1, h2, h3, h4, h5, h6, h7⟩ := hc
  have hq : ∀ q : Nat, q < s.heap.size → H[q]? = s.heap[q]? := fun q h => hS.2.1 q h (Nat.not_le.mpr h)
  have hA := Aw_big (lo := 0) (n := 55) had (by decide)
  have he : (ww w 0 55 S)[0 - 0]? = some (w.1 0, .inr (11, (List.range (nf 0)).map (fv w S 0))) := by rw [ww_at w S (by decide) (by decide), ent_O oB_0]
  have hp : PreV s H RX11 (w.1 0) (va_Pc (.ref (w.1 0) :: As) (fun U => va_P w.2.1 vwCl (ww w 0 55 S) U.heap ∧ Kk w 0 55 U)) As := ⟨fun a U g mk q => ⟨q.1, q.2.1, q.2.2.blind⟩, va_recv hK hP ci11.1 he, fun U hU hW => ⟨rfl, by rw [hU]; exact hP, Kk_law hK hN hSx hq hA hU hW⟩⟩
  have hR : (rmD dy).frames + 1 ≤ room_1.frames ∧ 8 + (ny + 11) + (rmD dy).locals ≤ room_1.locals := ⟨by show dy + 1 ≤ 2048; omega, by show 8 + (ny + 11) + 60 * dy ≤ 84000; omega⟩
  have hini := hts _ h3
  rw [← h5] at hini
  rcases hl with hl | ⟨host, hl⟩
  · exact run_L (va_runV (rest := st) ⟨hx, hb, hml, hown, hts⟩ hM (by exact ⟨callB_of k hts (GwIn h4) rfl rfl rfl hini (hts _ hl) ⟨by rw [h5]; exact h6.1, by rw [h5]; exact h6.2.1, h6.2.2⟩ hR, hts _ h1, hts _ h2⟩) hp rfl hk hh.1 hst (lv_room hs) hd ⟨Nat.le_of_ble_eq_true rfl, Nat.le_of_ble_eq_true rfl⟩) hS hA hP2 (ww_D M (Dj_sub hdj (by decide))) (Aw_dis hdj (by decide) (by decide) (by decide)) (fun H1 locs1 hP1 hP3 hS1 => kk H1 locs1 ls hP1 hP3 hS1 hh)
  · exact run_L (va_runVN (rest := st) ⟨hx, hb, hml, hown, hts⟩ hM ⟨va_cnB (host := host) k hts (GwIn h4) rfl rfl rfl (hN _ hl) hini ⟨by rw [h5]; exact h6.1, by rw [h5]; exact h6.2.1, h6.2.2⟩ hR, hts _ h1, hts _ h2⟩ hp rfl hk hh.1 hst (lv_room hs) hd ⟨Nat.le_of_ble_eq_true rfl, Nat.le_of_ble_eq_true rfl⟩) hS hA hP2 (ww_D M (Dj_sub hdj (by decide))) (Aw_dis hdj (by decide) (by decide) (by decide)) (fun H1 locs1 hP1 hP3 hS1 => kk H1 locs1 ls hP1 hP3 hS1 hh)
/-- the law calls the model -/
theorem l_callM (z : Nat) (hX : LOk X) {idx dy : Nat} {y : MethodName} {cy : ByteArray} {ny k : Nat} {rety : Option FieldType} {As : List Value} {r : Option Value × St} {st0 : List Value}
    (hM : Ct X.1 y cy ny rety dy X.2.1 55 40 (.ref (adL X 55) :: As) M r) (hc : CV RL RX12 idx y cy ny rety k) (hk : As.length = k) (hdd : dy + 1 ≤ 1000) (hst : st0 = As.reverse ++ .ref (adL X 55) :: st) (hs : (st.map fun v => v.category).sum ≤ 8) (hd : decode cL_law pc = .ok (.invokevirtual idx, 3)) (hz : pc + 3 = z)
    (kk : Lat X z lv (r.1.toList ++ st) S r.2) : Lat X pc lv st0 S M := by
  obtain ⟨l, w, p, e, s, m, below, meth, c, b, L, xs⟩ := X
  obtain ⟨hx, hb, hml, -, -, hown, hts, hK, hN, hSx, hXs, hbl, hdj, had, hL⟩ := hX
  subst hz
  intro H locs ls hP hP2 hS hh
  obtain ⟨hl, h1, h2, h3, h4, h5, h6, h7⟩ := hc
  have hq : ∀ q : Nat, q < s.heap.size → H[q]? = s.heap[q]? := fun q h => hS.2.1 q h (Nat.not_le.mpr h)
  have hA := Aw_big (lo := 55) (n := 40) had (by decide)
  have he : (ww w 55 40 M)[55 - 55]? = some (w.1 55, .inr (12, (List.range (nf 55)).map (fv w M 55))) := by rw [ww_at w M (by decide) (by decide), ent_O oB_55]
  have hp : PreV s H RX12 (w.1 55) (va_Pc (.ref (w.1 55) :: As) (fun U => va_P w.2.1 vwCl (ww w 55 40 M) U.heap ∧ Kk w 55 40 U)) As := ⟨fun a U g mk q => ⟨q.1, q.2.1, q.2.2.blind⟩, va_recv hK hP2 ci12.1 he, fun U hU hW => ⟨rfl, by rw [hU]; exact hP2, Kk_law hK hN hSx hq hA hU hW⟩⟩
  have hR : (rmD dy).frames + 1 ≤ room_1.frames ∧ 8 + (ny + 11) + (rmD dy).locals ≤ room_1.locals := ⟨by show dy + 1 ≤ 2048; omega, by show 8 + (ny + 11) + 60 * dy ≤ 84000; omega⟩
  have hini := hts _ h3
  rw [← h5] at hini
  rcases hl with hl | ⟨host, hl⟩
  · exact run_L (va_runV (rest := st) ⟨hx, hb, hml, hown, hts⟩ hM (by exact ⟨callB_of k hts (GwIn h4) rfl rfl rfl hini (hts _ hl) ⟨by rw [h5]; exact h6.1, by rw [h5]; exact h6.2.1, h6.2.2⟩ hR, hts _ h1, hts _ h2⟩) hp rfl hk hh.1 hst (lv_room hs) hd ⟨Nat.le_of_ble_eq_true rfl, Nat.le_of_ble_eq_true rfl⟩) hS hA hP (ww_D S (Dj_sub hdj (by decide))) (Aw_dis hdj (by decide) (by decide) (by decide)) (fun H1 locs1 hP1 hP3 hS1 => kk H1 locs1 ls hP3 hP1 hS1 hh)
  · exact run_L (va_runVN (rest := st) ⟨hx, hb, hml, hown, hts⟩ hM ⟨va_cnB (host := host) k hts (GwIn h4) rfl rfl rfl (hN _ hl) hini ⟨by rw [h5]; exact h6.1, by rw [h5]; exact h6.2.1, h6.2.2⟩ hR, hts _ h1, hts _ h2⟩ hp rfl hk hh.1 hst (lv_room hs) hd ⟨Nat.le_of_ble_eq_true rfl, Nat.le_of_ble_eq_true rfl⟩) hS hA hP (ww_D S (Dj_sub hdj (by decide))) (Aw_dis hdj (by decide) (by decide) (by decide)) (fun H1 locs1 hP1 hP3 hS1 => kk H1 locs1 ls hP3 hP1 hS1 hh)
end QL
