-- constructors: worlds told as lists
abbrev KX : Type := Launch × WD × Program × Env × State × MethodId × Array Value × List Frame × Method × Code × va_W × (va_W → Prop)
def rmC (d mc ms : Nat) : Room := { frames := d, cells := mc, slots := ms, locals := 60 * d }
def KOk (own : String) (cc : ByteArray) (nL : Nat) (X : KX) : Prop := match X with
  | (_, w, p, _, s, m, args, _, meth, c, _, _) => p.tables.exec = Jvm.exec ∧ c.code = cc ∧ c.maxLocals = nL ∧ meth.sig.returnType = none ∧ meth.locks = false ∧ s.vm.findClass own = some m.cls ∧ (∀ q ∈ Gw, q.before args s = true) ∧ va_K w.2.1 vwCl (wtys w) s ∧ (∀ q ∈ NW, va_Nw q s) ∧ meth.name = "<init>"
def Cat (d mc ms nL : Nat) (X : KX) (cells slots pc : Nat) (lv : List (Nat × Value)) (st : List Value) (ws : va_W) : Prop := match X with
  | (l, w, p, e, s, m, args, below, meth, c, ws0, out) => ∀ (H : Heap) (locs : List Loc) (ls : Array Slot), va_P w.2.1 vwCl ws H → va_D (va_A ws0 s.heap.size) ws → va_S (va_A ws0 s.heap.size) s.heap H locs → lv_has ls nL lv → W p l e (rmC d mc ms) s m args below meth c H locs cells slots (MQ below (va_Qv out (fun w1 t => va_P w.2.1 vwCl w1 t.heap ∧ va_D (va_A ws0 s.heap.size) w1) (va_A ws0 s.heap.size)) args s mc ms (va_A ws0 s.heap.size)) (F0 m pc ls st)
def Kc (l : Launch) (y : MethodName) (cy : ByteArray) (ny d : Nat) (w : WD) (av : List Value) (ws0 : va_W) (out : va_W → Prop) (mc ms : Nat) : Prop := ∀ sz, Met l y (Cond.code y cy ny none :: Gw) (rmC d mc ms) (va_Pc av (fun U => U.heap.size = sz ∧ va_P w.2.1 vwCl ws0 U.heap ∧ va_K w.2.1 vwCl (wtys w) U ∧ (∀ q ∈ NW, va_Nw q U) ∧ va_D (fun _ => True) ws0)) (va_Qv out (fun w1 t => va_P w.2.1 vwCl w1 t.heap ∧ va_D (va_A ws0 sz) w1) (va_A ws0 sz)) mc ms (va_A ws0 sz)
theorem Kc.of {l : Launch} {y : MethodName} {cy : ByteArray} {ny d : Nat} {w : WD} {av : List Value} {ws0 : va_W} {out : va_W → Prop} {mc ms : Nat} {lv : List (Nat × Value)} (hy : plainName y.cls = true) (hyn : y.name = "<init>") (hn : (lg_sl av).length ≤ ny) (hlv : lv_args 0 av = lv)
    (k : ∀ X : KX, X.1 = l → X.2.1 = w → X.2.2.2.2.2.2.2.2.2.2.1 = ws0 → X.2.2.2.2.2.2.2.2.2.2.2 = out → KOk y.cls cy ny X → Cat d mc ms ny X 0 0 0 lv [] ws0) : Kc l y cy ny d w av ws0 out mc ms := by
  intro sz
  refine Met.ofW (cc := cy) (maxL := ny) (ret := none) hy rfl ?_
  intro p e s m args below meth c s₁ B hml hv
  obtain ⟨rfl, hsz, hP, hK, hN, hD⟩ := hv
  subst hsz
  have hts := atoms_spec (ws := Cond.code y cy ny none :: Gw) B.pre
  have hl := lv_entry av (n := ny) hn
  rw [lg_entry_eq]
  rw [hlv] at hl
  exact k (l, w, p, e, s, m, av.toArray, below, meth, c, ws0, out) rfl rfl rfl rfl ⟨B.exec, B.bytes, hml, B.returns, B.notSynchronized, findClass_of_methodNamed B.named, fun q hq => hts q (List.mem_cons_of_mem _ hq), hK, hN, (name_of_methodNamed B.named B.method).1.trans hyn⟩ s.heap [] _ hP hD.self va_S.rf hl
section QK
variable {own : String} {cc : ByteArray} {d mc ms nL : Nat} {X : KX} {cells slots pc : Nat} {lv : List (Nat × Value)} {st : List Value} {ws : va_W}
theorem k_lv (z : List Nat) {lv' : List (Nat × Value)} (hl : lv_pick lv z = lv') (kk : Cat d mc ms nL X cells slots pc lv' st ws) : Cat d mc ms nL X cells slots pc lv st ws := by
  obtain ⟨l, w, p, e, s, m, args, below, meth, c, ws0, out⟩ := X
  intro H locs ls hP hD hS hv
  exact kk H locs ls hP hD hS (lv_sub hv z hl)
theorem k_iconst (z : Nat) (hX : KOk own cc nL X) {k : Int} {v : Int32} (hd : decode cc pc = .ok (.iconst k, 1)) (hz : pc + 1 = z) (hv : Int32.ofInt k = v) (kk : Cat d mc ms nL X cells slots z lv (.int v :: st) ws) : Cat d mc ms nL X cells slots pc lv (st) ws := by
  obtain ⟨l, w, p, e, s, m, args, below, meth, c, ws0, out⟩ := X
  obtain ⟨hx, hb, -, -, -, hown, hts, -⟩ := hX
  subst hz
  intro H locs ls hP hD hS hh
  exact lv_iconst hx hb hd hv (kk H locs ls hP hD hS hh)
theorem k_bipush (z : Nat) (hX : KOk own cc nL X) {k : Int} {v : Int32} (hd : decode cc pc = .ok (.bipush k, 2)) (hz : pc + 2 = z) (hv : (Int8.ofInt k).toInt32 = v) (kk : Cat d mc ms nL X cells slots z lv (.int v :: st) ws) : Cat d mc ms nL X cells slots pc lv (st) ws := by
  obtain ⟨l, w, p, e, s, m, args, below, meth, c, ws0, out⟩ := X
  obtain ⟨hx, hb, -, -, -, hown, hts, -⟩ := hX
  subst hz
  intro H locs ls hP hD hS hh
  exact lv_bipush hx hb hd hv (kk H locs ls hP hD hS hh)
theorem k_sipush (z : Nat) (hX : KOk own cc nL X) {k : Int} {v : Int32} (hd : decode cc pc = .ok (.sipush k, 3)) (hz : pc + 3 = z) (hv : (Int16.ofInt k).toInt32 = v) (kk : Cat d mc ms nL X cells slots z lv (.int v :: st) ws) : Cat d mc ms nL X cells slots pc lv (st) ws := by
  obtain ⟨l, w, p, e, s, m, args, below, meth, c, ws0, out⟩ := X
  obtain ⟨hx, hb, -, -, -, hown, hts, -⟩ := hX
  subst hz
  intro H locs ls hP hD hS hh
  exact lv_sipush hx hb hd hv (kk H locs ls hP hD hS hh)
theorem k_ldc (z : Nat) (hX : KOk own cc nL X) {k : Nat} {v : Int32} (hd : decode cc pc = .ok (.ldc k, 2)) (hz : pc + 2 = z) (hv : Cond.constant own k v ∈ Gw) (kk : Cat d mc ms nL X cells slots z lv (.int v :: st) ws) : Cat d mc ms nL X cells slots pc lv (st) ws := by
  obtain ⟨l, w, p, e, s, m, args, below, meth, c, ws0, out⟩ := X
  obtain ⟨hx, hb, -, -, -, hown, hts, -⟩ := hX
  subst hz
  intro H locs ls hP hD hS hh
  exact lv_ldc hx hb hown (hts _ hv) hd (kk H locs ls hP hD hS hh)
theorem k_iload_n (z : Nat) (hX : KOk own cc nL X) (j : Nat) {k : Fin 4} {i : Nat} {x : Int32} (hd : decode cc pc = .ok (.iload_n k, 1)) (hz : pc + 1 = z) (hi : (k : Nat) = i) (hk : lv[j]? = some (i, .int x)) (kk : Cat d mc ms nL X cells slots z lv (.int x :: st) ws) : Cat d mc ms nL X cells slots pc lv (st) ws := by
  obtain ⟨l, w, p, e, s, m, args, below, meth, c, ws0, out⟩ := X
  obtain ⟨hx, hb, -, -, -, hown, hts, -⟩ := hX
  subst hz
  intro H locs ls hP hD hS hh
  exact lv_iload_n hx hb hd hi (lv_at hh j hk) (kk H locs ls hP hD hS hh)
theorem k_aload_n (z : Nat) (hX : KOk own cc nL X) (j : Nat) {k : Fin 4} {i : Nat} {x : Nat} (hd : decode cc pc = .ok (.aload_n k, 1)) (hz : pc + 1 = z) (hi : (k : Nat) = i) (hk : lv[j]? = some (i, .ref x)) (kk : Cat d mc ms nL X cells slots z lv (.ref x :: st) ws) : Cat d mc ms nL X cells slots pc lv (st) ws := by
  obtain ⟨l, w, p, e, s, m, args, below, meth, c, ws0, out⟩ := X
  obtain ⟨hx, hb, -, -, -, hown, hts, -⟩ := hX
  subst hz
  intro H locs ls hP hD hS hh
  exact lv_aload_n hx hb hd hi (lv_at hh j hk) (kk H locs ls hP hD hS hh)
theorem k_dup (z : Nat) (hX : KOk own cc nL X) {va : Value} (hd : decode cc pc = .ok (.dup, 1)) (hz : pc + 1 = z) (hva : va.category = 1) (kk : Cat d mc ms nL X cells slots z lv (va :: va :: st) ws) : Cat d mc ms nL X cells slots pc lv (va :: st) ws := by
  obtain ⟨l, w, p, e, s, m, args, below, meth, c, ws0, out⟩ := X
  obtain ⟨hx, hb, -, -, -, hown, hts, -⟩ := hX
  subst hz
  intro H locs ls hP hD hS hh
  exact lv_dup hx hb hd hva (kk H locs ls hP hD hS hh)
theorem k_istore_n (z : Nat) (hX : KOk own cc nL X) {k : Fin 4} {i : Nat} {x : Int32} {lv' : List (Nat × Value)} (hd : decode cc pc = .ok (.istore_n k, 1)) (hz : pc + 1 = z) (hi : (k : Nat) = i) (hn : i < nL) (hl : (i, Value.int x) :: lv.filter (fun q => !(q.1 == i) && !(q.1 + 1 == i && q.2.category == 2)) = lv') (kk : Cat d mc ms nL X cells slots z lv' st ws) : Cat d mc ms nL X cells slots pc lv (.int x :: st) ws := by
  obtain ⟨l, w, p, e, s, m, args, below, meth, c, ws0, out⟩ := X
  obtain ⟨hx, hb, -⟩ := hX
  subst hz
  intro H locs ls hP hD hS hh
  exact lv_istore_n hx hb hd hi hh hn hl (fun ls' hl' => kk H locs ls' hP hD hS hl')
theorem k_astore_n (z : Nat) (hX : KOk own cc nL X) {k : Fin 4} {i : Nat} {x : Nat} {lv' : List (Nat × Value)} (hd : decode cc pc = .ok (.astore_n k, 1)) (hz : pc + 1 = z) (hi : (k : Nat) = i) (hn : i < nL) (hl : (i, Value.ref x) :: lv.filter (fun q => !(q.1 == i) && !(q.1 + 1 == i && q.2.category == 2)) = lv') (kk : Cat d mc ms nL X cells slots z lv' st ws) : Cat d mc ms nL X cells slots pc lv (.ref x :: st) ws := by
  obtain ⟨l, w, p, e, s, m, args, below, meth, c, ws0, out⟩ := X
  obtain ⟨hx, hb, -⟩ := hX
  subst hz
  intro H locs ls hP hD hS hh
  exact lv_astore_n hx hb hd hi hh hn hl (fun ls' hl' => kk H locs ls' hP hD hS hl')
theorem k_goto (z : Nat) (hX : KOk own cc nL X) {off : Int} (hd : decode cc pc = .ok (.goto off, 3)) (ht : (pc : Int) + off = (z : Int)) (kk : Cat d mc ms nL X cells slots z lv st ws) : Cat d mc ms nL X cells slots pc lv st ws := by
  obtain ⟨l, w, p, e, s, m, args, below, meth, c, ws0, out⟩ := X
  obtain ⟨hx, hb, -⟩ := hX
  intro H locs ls hP hD hS hh
  exact lv_goto hx hb hd ht (kk H locs ls hP hD hS hh)
theorem k_icmp_ge (z : Nat) (hX : KOk own cc nL X) (tg : Nat) {x y : Int32} {off : Int} (hd : decode cc pc = .ok (.if_icmp .ge off, 3)) (hz : pc + 3 = z) (ht : (pc : Int) + off = (tg : Int)) (kt : y ≤ x → Cat d mc ms nL X cells slots tg lv st ws) (kf : ¬ y ≤ x → Cat d mc ms nL X cells slots z lv st ws) : Cat d mc ms nL X cells slots pc lv (.int y :: .int x :: st) ws := by
  obtain ⟨l, w, p, e, s, m, args, below, meth, c, ws0, out⟩ := X
  obtain ⟨hx, hb, -⟩ := hX
  subst hz
  intro H locs ls hP hD hS hh
  exact lv_icmp_ge hx hb hd ht (fun h => kt h H locs ls hP hD hS hh) (fun h => kf h H locs ls hP hD hS hh)
theorem k_iinc (z : Nat) (j : Nat) (hX : KOk own cc nL X) {i : Nat} {k : Int} {x v : Int32} {lv' : List (Nat × Value)} (hd : decode cc pc = .ok (.iinc i k, 3)) (hz : pc + 3 = z) (hk : lv[j]? = some (i, .int x)) (hv : x + Int32.ofInt k = v) (hn : i < nL) (hl : (i, Value.int v) :: lv.filter (fun q => !(q.1 == i) && !(q.1 + 1 == i && q.2.category == 2)) = lv') (kk : Cat d mc ms nL X cells slots z lv' st ws) : Cat d mc ms nL X cells slots pc lv st ws := by
  obtain ⟨l, w, p, e, s, m, args, below, meth, c, ws0, out⟩ := X
  obtain ⟨hx, hb, -⟩ := hX
  subst hz
  intro H locs ls hP hD hS hh
  exact lv_iinc hx hb hd hh hk hv hn hl (fun ls' hl' => kk H locs ls' hP hD hS hl')
theorem k_objInit (z : Nat) (hX : KOk own cc nL X) {idx a : Nat} (h1 : Cond.methodLink own idx Lib.objectInit ∈ Gw) (h2 : Cond.instanceMethod Lib.objectInit ∈ Gw) (h3 : Cond.code Lib.objectInit ⟨#[0xb1]⟩ 1 none ∈ Gw) (hd1 : 1 ≤ d) (hd : decode cc pc = .ok (.invokespecial idx, 3)) (hz : pc + 3 = z) (kk : Cat d mc ms nL X cells slots z lv [] ws) : Cat d mc ms nL X cells slots pc lv [.ref a] ws := by
  obtain ⟨l, w, p, e, s, m, args, below, meth, c, ws0, out⟩ := X
  obtain ⟨hx, hb, hml, -, -, hown, hts, -⟩ := hX
  subst hz
  intro H locs ls hP hD hS hh
  refine W.objInit hx hb hown (hts _ h1) (hts _ h2) (hts _ h3) rfl (by rw [hml]; exact hh.1) rfl hd hd1 (by show 2 * 0 + 0 + 12 ≤ 60 * d; omega) ?_
  exact kk H locs ls hP hD hS hh
theorem k_putF (z : Nat) (q0 : Nat) (hX : KOk own cc nL X) {ci : Nat} {T : u_T} {N : Nat} {ty : Nat → FieldType} {idx k a : Nat} {fs : List Value} {v : Value} {ws' : va_W} (hc : CI ci own T N ty) (h1 : k < N) (h2 : (T k).1 = own) (h4 : (T k).2.2.2 = true) (h3 : Cond.fieldLink own idx own (T k).2.1 (T k).2.2.1 ∈ Gw) (he : ws[q0]? = some (a, .inr (ci, fs))) (hn : narrow (ty k) v = v ∧ fits (ty k) v = true) (hl : k < fs.length) (hw : ws.set q0 (a, .inr (ci, fs.set k v)) = ws') (hd : decode cc pc = .ok (.putfield idx, 3)) (hz : pc + 3 = z) (kk : Cat d mc ms nL X cells slots z lv st ws') : Cat d mc ms nL X cells slots pc lv (v :: .ref a :: st) ws := by
  obtain ⟨l, w, p, e, s, m, args, below, meth, c, ws0, out⟩ := X
  obtain ⟨hx, hb, hml, -, -, hown, hts, hK, hN, hnm⟩ := hX
  subst hz
  subst hw
  intro H locs ls hP hD hS hh
  exact va_putF hx hb hts hc.2.1 ty hc.2.2.1 hc.2.2.2 hown hK hP hD hS q0 he hc.1 k h1 (hts _ h3) (by rw [h2]; exact fun _ h => h) h4 hnm h2 (hc.2.2.1 k h1) hn.1 hn.2 hl hd (fun H1 locs1 hP1 hD1 hS1 => kk H1 locs1 ls hP1 hD1 hS1 hh)
theorem k_put (z : Nat) (q0 : Nat) (hX : KOk own cc nL X) {ci : Nat} {C : String} {T : u_T} {N : Nat} {ty : Nat → FieldType} {idx k a : Nat} {fs : List Value} {v : Value} {ws' : va_W} (hc : CI ci C T N ty) (hL : LF own idx C T N k false) (he : ws[q0]? = some (a, .inr (ci, fs))) (hn : narrow (ty k) v = v ∧ fits (ty k) v = true) (hl : k < fs.length) (hw : ws.set q0 (a, .inr (ci, fs.set k v)) = ws') (hd : decode cc pc = .ok (.putfield idx, 3)) (hz : pc + 3 = z) (kk : Cat d mc ms nL X cells slots z lv st ws') : Cat d mc ms nL X cells slots pc lv (v :: .ref a :: st) ws := by
  obtain ⟨l, w, p, e, s, m, args, below, meth, c, ws0, out⟩ := X
  obtain ⟨hx, hb, hml, -, -, hown, hts, hK, hN, hnm⟩ := hX
  subst hz
  subst hw
  intro H locs ls hP hD hS hh
  obtain ⟨h1, h2, h4, h3⟩ := hL
  rcases h3 with h3 | ⟨host, h3⟩
  · exact va_put hx hb hts hc.2.1 ty hc.2.2.1 hc.2.2.2 hown hK hP hD hS q0 he hc.1 k h1 (hts _ h3) (by rw [h2]; exact fun _ h => h) h4 (hc.2.2.1 k h1) hn.1 hn.2 hl hd (fun H1 locs1 hP1 hD1 hS1 => kk H1 locs1 ls hP1 hD1 hS1 hh)
  · exact va_putN (host := host) hx hb hts hc.2.1 ty hc.2.2.1 hc.2.2.2 hown hK hP hD hS q0 he hc.1 k h1 (va_Nw.use rfl (hN _ h3)) (by rw [h2]; exact fun _ h => h) h4 (hc.2.2.1 k h1) hn.1 hn.2 hl hd (fun H1 locs1 hP1 hD1 hS1 => kk H1 locs1 ls hP1 hD1 hS1 hh)
theorem k_get (z : Nat) (q0 : Nat) (hX : KOk own cc nL X) {ci : Nat} {C : String} {T : u_T} {N : Nat} {ty : Nat → FieldType} {idx k a : Nat} {fin : Bool} {fs : List Value} {v : Value} (hc : CI ci C T N ty) (hL : LF own idx C T N k fin) (he : ws[q0]? = some (a, .inr (ci, fs))) (hv : fs[k]? = some v) (hd : decode cc pc = .ok (.getfield idx, 3)) (hz : pc + 3 = z) (kk : Cat d mc ms nL X cells slots z lv (v :: st) ws) : Cat d mc ms nL X cells slots pc lv (.ref a :: st) ws := by
  obtain ⟨l, w, p, e, s, m, args, below, meth, c, ws0, out⟩ := X
  obtain ⟨hx, hb, hml, -, -, hown, hts, hK, hN, hnm⟩ := hX
  subst hz
  intro H locs ls hP hD hS hh
  obtain ⟨h1, h2, -, h3⟩ := hL
  rcases h3 with h3 | ⟨host, h3⟩
  · exact va_get hx hb hts hc.2.1 hown hK hP q0 he hc.1 k h1 (hts _ h3) (by rw [h2]; exact fun _ h => h) hv hd (kk H locs ls hP hD hS hh)
  · exact va_getN (host := host) hx hb hts hc.2.1 hown hK hP q0 he hc.1 k h1 (va_Nw.use rfl (hN _ h3)) (by rw [h2]; exact fun _ h => h) hv hd (kk H locs ls hP hD hS hh)
theorem k_newI (z N' : Nat) (hX : KOk own cc nL X) {n : Int32} (hw : Cond.arrayClass .int ∈ Gw) (hn : ¬ n < 0) (hN : n.toNatClampNeg = N') (hb9 : N' * componentBytes .int ≤ 536870912) (hc9 : cells + 1 ≤ mc) (hs9 : slots + N' ≤ ms) (hd : decode cc pc = .ok (.newarray .int, 2)) (hz : pc + 2 = z) (kk : ∀ q, Cat d mc ms nL X (cells + 1) (slots + N') z lv (.ref q :: st) (ws ++ [(q, .inl (X.2.1.2.2.2.1, N', .inl (fun _ => 0)))])) : Cat d mc ms nL X cells slots pc lv (.int n :: st) ws := by
  obtain ⟨l, w, p, e, s, m, args, below, meth, c, ws0, out⟩ := X
  obtain ⟨hx, hb, hml, -, -, hown, hts, hK, hNw, hnm⟩ := hX
  subst hz
  intro H locs ls hP hD hS hh
  refine va_newa (atype := .int) (ty := .int) (a0 := (N', .inl (fun _ => 0))) hx hb (hts _ hw) rfl hK hP hD hS (fun q hq => Or.inr hq) (fun cA => rfl) hn hN hb9 hc9 hs9 hd (fun q cA H1 hK1 hP1 hD1 hS1 => ?_)
  have e1 : cA = w.2.2.2.1 := by
    have g1 := (hK1.2 3 (cA, .int) rfl).2
    have g2 := (hK.2 1 (w.2.2.2.1, .int) rfl).2
    exact Option.some.inj (g1.symm.trans g2)
  subst e1
  exact kk q H1 locs ls hP1 hD1 hS1 hh
theorem k_newB (z N' : Nat) (hX : KOk own cc nL X) {n : Int32} (hw : Cond.arrayClass .byte ∈ Gw) (hn : ¬ n < 0) (hN : n.toNatClampNeg = N') (hb9 : N' * componentBytes .byte ≤ 536870912) (hc9 : cells + 1 ≤ mc) (hs9 : slots + N' ≤ ms) (hd : decode cc pc = .ok (.newarray .byte, 2)) (hz : pc + 2 = z) (kk : ∀ q, Cat d mc ms nL X (cells + 1) (slots + N') z lv (.ref q :: st) (ws ++ [(q, .inl (X.2.1.2.2.1, N', .inl (fun _ => 0)))])) : Cat d mc ms nL X cells slots pc lv (.int n :: st) ws := by
  obtain ⟨l, w, p, e, s, m, args, below, meth, c, ws0, out⟩ := X
  obtain ⟨hx, hb, hml, -, -, hown, hts, hK, hNw, hnm⟩ := hX
  subst hz
  intro H locs ls hP hD hS hh
  refine va_newa (atype := .byte) (ty := .byte) (a0 := (N', .inl (fun _ => 0))) hx hb (hts _ hw) rfl hK hP hD hS (fun q hq => Or.inr hq) (fun cA => rfl) hn hN hb9 hc9 hs9 hd (fun q cA H1 hK1 hP1 hD1 hS1 => ?_)
  have e1 : cA = w.2.2.1 := by
    have g1 := (hK1.2 3 (cA, .byte) rfl).2
    have g2 := (hK.2 0 (w.2.2.1, .byte) rfl).2
    exact Option.some.inj (g1.symm.trans g2)
  subst e1
  exact kk q H1 locs ls hP1 hD1 hS1 hh
theorem k_newJ (z N' : Nat) (hX : KOk own cc nL X) {n : Int32} (hw : Cond.arrayClass .long ∈ Gw) (hn : ¬ n < 0) (hN : n.toNatClampNeg = N') (hb9 : N' * componentBytes .long ≤ 536870912) (hc9 : cells + 1 ≤ mc) (hs9 : slots + N' ≤ ms) (hd : decode cc pc = .ok (.newarray .long, 2)) (hz : pc + 2 = z) (kk : ∀ q, Cat d mc ms nL X (cells + 1) (slots + N') z lv (.ref q :: st) (ws ++ [(q, .inl (X.2.1.2.2.2.2.1, N', .inr (.inl (fun _ => 0))))])) : Cat d mc ms nL X cells slots pc lv (.int n :: st) ws := by
  obtain ⟨l, w, p, e, s, m, args, below, meth, c, ws0, out⟩ := X
  obtain ⟨hx, hb, hml, -, -, hown, hts, hK, hNw, hnm⟩ := hX
  subst hz
  intro H locs ls hP hD hS hh
  refine va_newa (atype := .long) (ty := .long) (a0 := (N', .inr (.inl (fun _ => 0)))) hx hb (hts _ hw) rfl hK hP hD hS (fun q hq => Or.inr hq) (fun cA => rfl) hn hN hb9 hc9 hs9 hd (fun q cA H1 hK1 hP1 hD1 hS1 => ?_)
  have e1 : cA = w.2.2.2.2.1 := by
    have g1 := (hK1.2 3 (cA, .long) rfl).2
    have g2 := (hK.2 2 (w.2.2.2.2.1, .long) rfl).2
    exact Option.some.inj (g1.symm.trans g2)
  subst e1
  exact kk q H1 locs ls hP1 hD1 hS1 hh
theorem k_iast (z q0 : Nat) (hX : KOk own cc nL X) {i v : Int32} {j a N' : Nat} {f : Nat → Int32} {ws' : va_W} (hj : i.toNatClampNeg = j) (he : ws[q0]? = some (a, .inl (X.2.1.2.2.2.1, N', .inl f))) (hi : inb i N' = true) (hw : ws.set q0 (a, .inl (X.2.1.2.2.2.1, N', .inl (upd f j v))) = ws') (hd : decode cc pc = .ok (.iastore, 1)) (hz : pc + 1 = z) (kk : Cat d mc ms nL X cells slots z lv st ws') : Cat d mc ms nL X cells slots pc lv (.int v :: .int i :: .ref a :: st) ws := by
  obtain ⟨l, w, p, e, s, m, args, below, meth, c, ws0, out⟩ := X
  obtain ⟨hx, hb, hml, -, -, hown, hts, hK, hNw, hnm⟩ := hX
  subst hz
  subst hj
  subst hw
  intro H locs ls hP hD hS hh
  exact va_iast hx hb hK hP hD hS q0 1 he rfl (inb_vp hi) hd (fun H1 locs1 hP1 hD1 hS1 => kk H1 locs1 ls hP1 hD1 hS1 hh)
theorem k_new (z : Nat) (hX : KOk own cc nL X) {ci : Nat} {C : String} {T : u_T} {N : Nat} {ty : Nat → FieldType} {idx : Nat} {fs : List Value} (hc : CI ci C T N ty) (h1 : Cond.classLink own idx C ∈ Gw) (h2 : Cond.instantiable C N ∈ Gw) (h3 : Cond.initialized C ∈ Gw) (hfs : ∀ j, j < N → defaultValue (ty j) = vp_V fs j) (hc9 : cells + 1 ≤ mc) (hs9 : slots + N ≤ ms) (hd : decode cc pc = .ok (.new idx, 3)) (hz : pc + 3 = z) (kk : ∀ q, Cat d mc ms nL X (cells + 1) (slots + N) z lv (.ref q :: st) (ws ++ [(q, .inr (ci, fs))])) : Cat d mc ms nL X cells slots pc lv st ws := by
  obtain ⟨l, w, p, e, s, m, args, below, meth, c, ws0, out⟩ := X
  obtain ⟨hx, hb, hml, -, -, hown, hts, hK, hNw, hnm⟩ := hX
  subst hz
  intro H locs ls hP hD hS hh
  exact va_new hx hb hts hc.2.1 ty hc.2.2.1 hown (hts _ h1) (hts _ h2) (hts _ h3) hK hP hD hS (fun q hq => Or.inr hq) hc.1 hfs hc9 hs9 hd (fun q H1 hP1 hD1 hS1 => kk q H1 locs ls hP1 hD1 hS1 hh)
theorem k_ret (hX : KOk own cc nL X) (hout : X.2.2.2.2.2.2.2.2.2.2.2 ws) (hc9 : cells ≤ mc) (hs9 : slots ≤ ms) (hd : decode cc pc = .ok (.return_, 1)) : Cat d mc ms nL X cells slots pc lv [] ws := by
  obtain ⟨l, w, p, e, s, m, args, below, meth, c, ws0, out⟩ := X
  obtain ⟨hx, hb, hml, hr, hlk, hown, hts, hK, hNw, hnm⟩ := hX
  intro H locs ls hP hD hS hh
  refine W.widen (k := mc) (n := ms) hc9 hs9 ?_
  exact W.vret hx hb hr (fun t ht hW => ⟨⟨ws, rfl, hout, by rw [ht]; exact hP, hD⟩, hS.F ht⟩) hS.2.2 hd hlk
abbrev CK (own C : String) (idx : Nat) (y : MethodName) (cy : ByteArray) (ny : Nat) (k : Nat) : Prop := (Cond.methodLink own idx y ∈ Gw ∨ ∃ host, Cond.methodLinkNest own idx y host ∈ NW) ∧ Cond.instanceMethod y ∈ Gw ∧ Cond.initialized C ∈ Gw ∧ Cond.code y cy ny none ∈ Gw ∧ y.cls = C ∧ y.name = "<init>" ∧ (C ≠ "java/lang/invoke/MethodHandle" ∧ C ≠ "java/lang/invoke/VarHandle" ∧ (parseMethodDescriptor y.desc).map (fun d => d.parameters.length) = some k) ∧ ny ≤ 41
theorem k_call (z : Nat) (isC isR : List Nat) {wc wr : va_W} (hX : KOk own cc nL X) {C : String} {idx dy mc1 ms1 : Nat} {y : MethodName} {cy : ByteArray} {ny k b : Nat} {As : List Value} {out1 : va_W → Prop} {st0 : List Value} (hM : Kc X.1 y cy ny dy X.2.1 (.ref b :: As) wc out1 mc1 ms1) (hc : CK own C idx y cy ny k) (hC : isC.map (fun i => ws[i]?) = wc.map some) (hR : isR.map (fun i => ws[i]?) = wr.map some) (hn : va_nd isR = true) (hnC : va_nd isC = true) (hdis : ∀ i ∈ isR, i ∉ isC) (hk : As.length = k) (hdd : dy + 1 ≤ d) (hst : st0 = As.reverse ++ .ref b :: st) (hs : (st.map fun v => v.category).sum ≤ 8) (hc9 : cells + mc1 ≤ mc) (hs9 : slots + ms1 ≤ ms) (hd : decode cc pc = .ok (.invokespecial idx, 3)) (hz : pc + 3 = z)
    (kk : ∀ w1, out1 w1 → Cat d mc ms nL X (cells + mc1) (slots + ms1) z lv st (wr ++ w1)) : Cat d mc ms nL X cells slots pc lv st0 ws := by
  obtain ⟨l, w, p, e, s, m, args, below, meth, c, ws0, out⟩ := X
  obtain ⟨hx, hb, hml, hr, hlk, hown, hts, hK, hNw, hnm⟩ := hX
  subst hz
  intro H locs ls hP hD hS hh
  obtain ⟨hl, h1, h3, h4, h5, h8, h6, h7⟩ := hc
  have hPc : va_P w.2.1 vwCl wc H := by
    intro k q hq
    have g1 : (isC.map (fun i => ws[i]?))[k]? = some (some q) := by rw [hC, List.getElem?_map, hq]; rfl
    rw [List.getElem?_map] at g1
    cases hi : isC[k]? with
    | none => rw [hi] at g1; cases g1
    | some i => rw [hi] at g1; exact hP i q (Option.some.inj g1)
  have hDc : va_D (va_A ws0 s.heap.size) wc := hD.sub isC hnC hC
  have hFc := va_free (wc := wc) hD hS (fun q hq => Or.inr hq) isC hC
  have hp : PreS s H (va_Pc (.ref b :: As) (fun U => U.heap.size = H.size ∧ va_P w.2.1 vwCl wc U.heap ∧ va_K w.2.1 vwCl (wtys w) U ∧ (∀ q ∈ NW, va_Nw q U) ∧ va_D (fun _ => True) wc)) (.ref b :: As) :=
    ⟨fun a U g mk q => by
      obtain ⟨q0, q1, q2, q3, q4, q5⟩ := q
      exact ⟨q0, q1, q2, va_K.moved (u := U) (U := U.calling g mk a) (Vm.Alike.refl U.vm) q3, fun x hx9 => va_Nw.same (NW_on hx9) (u := U) rfl (q4 x hx9), q5⟩, fun U hU hW => ⟨rfl, by rw [hU], by rw [hU]; exact hPc, va_K.moved hW.alike hK, fun x hx9 => NW_warm hx9 hW (hNw x hx9), hDc.weaken (fun _ _ _ _ => trivial)⟩⟩
  have hR9 : (rmC dy mc1 ms1).frames + 1 ≤ (rmC d mc ms).frames ∧ 8 + (ny + 11) + (rmC dy mc1 ms1).locals ≤ (rmC d mc ms).locals := ⟨hdd, by show 8 + (ny + 11) + 60 * dy ≤ 60 * d; omega⟩
  subst h5
  have hini := hts _ h3
  have fin : ∀ (u : va_W) (t : State) (H1 : Heap) (locs1 : List Loc), t.heap = H1 → s.vm.Alike t.vm → out1 u → (va_P w.2.1 vwCl u t.heap ∧ va_D (va_A wc H.size) u) → H.size ≤ H1.size → (∀ q : Nat, q < H.size → ¬ va_A wc H.size q → H1[q]? = H[q]?) → va_S (va_A ws0 s.heap.size) s.heap H1 locs1 → W p l e (rmC d mc ms) s m args below meth c H1 locs1 (cells + mc1) (slots + ms1) (MQ below (va_Qv out (fun w1 t => va_P w.2.1 vwCl w1 t.heap ∧ va_D (va_A ws0 s.heap.size) w1) (va_A ws0 s.heap.size)) args s mc ms (va_A ws0 s.heap.size)) (F0 m (pc + 3) ls st) := by
    intro u t H1 locs1 ht hvm hw hB hz1 hk1 hS1
    rw [ht] at hB
    obtain ⟨g1, g2⟩ := va_join hP hD isC isR hC hR hn hdis hk1 hFc hB.1 hB.2
    exact kk u hw H1 locs1 ls g1 g2 hS1 hh
  rcases hl with hl | ⟨host, hl⟩
  · exact va_callv (va_runI (rest := st) ⟨hx, hb, hml, hown, hts⟩ (hM H.size) ⟨callB_of k hts (GwIn h4) rfl rfl rfl hini (hts _ hl) ⟨h6.1, h6.2.1, h6.2.2⟩ hR9, h8, hts _ h1⟩ hp rfl hk hh.1 hst (lv_room hs) hd ⟨hc9, hs9⟩) hS (fun q _ h => hFc q h) hFc fin
  · exact va_callv (va_runIN (rest := st) ⟨hx, hb, hml, hown, hts⟩ (hM H.size) ⟨va_cnB (host := host) k hts (GwIn h4) rfl rfl rfl (hNw _ hl) hini ⟨h6.1, h6.2.1, h6.2.2⟩ hR9, h8, hts _ h1⟩ hp rfl hk hh.1 hst (lv_room hs) hd ⟨hc9, hs9⟩) hS (fun q _ h => hFc q h) hFc fin
end QK
