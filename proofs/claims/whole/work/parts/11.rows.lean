section QQ
variable {own : String} {cc : ByteArray} {ret : Option FieldType} {lo n nL d : Nat} {X : CX} {pc : Nat} {lv : List (Nat × Value)} {st : List Value} {S : St}
theorem q_sub (z : List Nat) {lv' : List (Nat × Value)} (hl : lv_pick lv z = lv') (kk : Wat lo n d nL X pc lv' st S) : Wat lo n d nL X pc lv st S := by
  obtain ⟨l, w, p, e, s, m, args, below, meth, c, r⟩ := X
  intro H locs ls hP hS hv
  exact kk H locs ls hP hS (lv_sub hv z hl)
theorem q_bS {β : Type} {e : St} {k : St → Option β} {r : β} (hr : bS e k = some r) (kk : ∀ S1, S1 = e → k S1 = some r → Wat lo n d nL X pc lv st S1) : Wat lo n d nL X pc lv st e := kk e rfl hr
theorem q_bV {α β : Type} {e : α} {k : α → Option β} {r : β} {F : α → Prop} (hr : bV e k = some r) (kk : ∀ x, x = e → k x = some r → F x) : F e := kk e rfl hr
theorem q_iconst (z : Nat) (hX : Ok own cc ret lo n nL X) {k : Int} {v : Int32} (hd : decode cc pc = .ok (.iconst k, 1)) (hz : pc + 1 = z) (hv : Int32.ofInt k = v) (kk : Wat lo n d nL X z lv (.int v :: st) S) : Wat lo n d nL X pc lv (st) S := by
  obtain ⟨l, w, p, e, s, m, args, below, meth, c, r⟩ := X
  obtain ⟨hx, hb, -, -, -, hown, hts, -⟩ := hX
  subst hz
  intro H locs ls hP hS hh
  exact lv_iconst hx hb hd hv (kk H locs ls hP hS hh)
theorem q_bipush (z : Nat) (hX : Ok own cc ret lo n nL X) {k : Int} {v : Int32} (hd : decode cc pc = .ok (.bipush k, 2)) (hz : pc + 2 = z) (hv : (Int8.ofInt k).toInt32 = v) (kk : Wat lo n d nL X z lv (.int v :: st) S) : Wat lo n d nL X pc lv (st) S := by
  obtain ⟨l, w, p, e, s, m, args, below, meth, c, r⟩ := X
  obtain ⟨hx, hb, -, -, -, hown, hts, -⟩ := hX
  subst hz
  intro H locs ls hP hS hh
  exact lv_bipush hx hb hd hv (kk H locs ls hP hS hh)
theorem q_sipush (z : Nat) (hX : Ok own cc ret lo n nL X) {k : Int} {v : Int32} (hd : decode cc pc = .ok (.sipush k, 3)) (hz : pc + 3 = z) (hv : (Int16.ofInt k).toInt32 = v) (kk : Wat lo n d nL X z lv (.int v :: st) S) : Wat lo n d nL X pc lv (st) S := by
  obtain ⟨l, w, p, e, s, m, args, below, meth, c, r⟩ := X
  obtain ⟨hx, hb, -, -, -, hown, hts, -⟩ := hX
  subst hz
  intro H locs ls hP hS hh
  exact lv_sipush hx hb hd hv (kk H locs ls hP hS hh)
theorem q_lconst (z : Nat) (hX : Ok own cc ret lo n nL X) {k : Fin 2} {v : Int64} (hd : decode cc pc = .ok (.lconst k, 1)) (hz : pc + 1 = z) (hv : Int64.ofNat (k : Nat) = v) (kk : Wat lo n d nL X z lv (.long v :: st) S) : Wat lo n d nL X pc lv (st) S := by
  obtain ⟨l, w, p, e, s, m, args, below, meth, c, r⟩ := X
  obtain ⟨hx, hb, -, -, -, hown, hts, -⟩ := hX
  subst hz
  intro H locs ls hP hS hh
  exact lv_lconst hx hb hd hv (kk H locs ls hP hS hh)
theorem q_ldc (z : Nat) (hX : Ok own cc ret lo n nL X) {k : Nat} {v : Int32} (hd : decode cc pc = .ok (.ldc k, 2)) (hz : pc + 2 = z) (hv : Cond.constant own k v ∈ Gw) (kk : Wat lo n d nL X z lv (.int v :: st) S) : Wat lo n d nL X pc lv (st) S := by
  obtain ⟨l, w, p, e, s, m, args, below, meth, c, r⟩ := X
  obtain ⟨hx, hb, -, -, -, hown, hts, -⟩ := hX
  subst hz
  intro H locs ls hP hS hh
  exact lv_ldc hx hb hown (hts _ hv) hd (kk H locs ls hP hS hh)
theorem q_ldcw (z : Nat) (hX : Ok own cc ret lo n nL X) {k : Nat} {v : Int32} (hd : decode cc pc = .ok (.ldc_w k, 3)) (hz : pc + 3 = z) (hv : Cond.constant own k v ∈ Gw) (kk : Wat lo n d nL X z lv (.int v :: st) S) : Wat lo n d nL X pc lv (st) S := by
  obtain ⟨l, w, p, e, s, m, args, below, meth, c, r⟩ := X
  obtain ⟨hx, hb, -, -, -, hown, hts, -⟩ := hX
  subst hz
  intro H locs ls hP hS hh
  exact lv_ldcw hx hb hown (hts _ hv) hd (kk H locs ls hP hS hh)
theorem q_ldc2 (z : Nat) (hX : Ok own cc ret lo n nL X) {k : Nat} {v : Int64} (hd : decode cc pc = .ok (.ldc2_w k, 3)) (hz : pc + 3 = z) (hv : Cond.constantLong own k v ∈ Gw) (kk : Wat lo n d nL X z lv (.long v :: st) S) : Wat lo n d nL X pc lv (st) S := by
  obtain ⟨l, w, p, e, s, m, args, below, meth, c, r⟩ := X
  obtain ⟨hx, hb, -, -, -, hown, hts, -⟩ := hX
  subst hz
  intro H locs ls hP hS hh
  exact lv_ldc2 hx hb hown (hts _ hv) hd (kk H locs ls hP hS hh)
theorem q_iload_n (z : Nat) (hX : Ok own cc ret lo n nL X) (j : Nat) {k : Fin 4} {i : Nat} {x : Int32} (hd : decode cc pc = .ok (.iload_n k, 1)) (hz : pc + 1 = z) (hi : (k : Nat) = i) (hk : lv[j]? = some (i, .int x)) (kk : Wat lo n d nL X z lv (.int x :: st) S) : Wat lo n d nL X pc lv (st) S := by
  obtain ⟨l, w, p, e, s, m, args, below, meth, c, r⟩ := X
  obtain ⟨hx, hb, -, -, -, hown, hts, -⟩ := hX
  subst hz
  intro H locs ls hP hS hh
  exact lv_iload_n hx hb hd hi (lv_at hh j hk) (kk H locs ls hP hS hh)
theorem q_iload (z : Nat) (hX : Ok own cc ret lo n nL X) (j : Nat) {i : Nat} {x : Int32} (hd : decode cc pc = .ok (.iload i, 2)) (hz : pc + 2 = z) (hk : lv[j]? = some (i, .int x)) (kk : Wat lo n d nL X z lv (.int x :: st) S) : Wat lo n d nL X pc lv (st) S := by
  obtain ⟨l, w, p, e, s, m, args, below, meth, c, r⟩ := X
  obtain ⟨hx, hb, -, -, -, hown, hts, -⟩ := hX
  subst hz
  intro H locs ls hP hS hh
  exact lv_iload hx hb hd (lv_at hh j hk) (kk H locs ls hP hS hh)
theorem q_aload_n (z : Nat) (hX : Ok own cc ret lo n nL X) (j : Nat) {k : Fin 4} {i : Nat} {x : Nat} (hd : decode cc pc = .ok (.aload_n k, 1)) (hz : pc + 1 = z) (hi : (k : Nat) = i) (hk : lv[j]? = some (i, .ref x)) (kk : Wat lo n d nL X z lv (.ref x :: st) S) : Wat lo n d nL X pc lv (st) S := by
  obtain ⟨l, w, p, e, s, m, args, below, meth, c, r⟩ := X
  obtain ⟨hx, hb, -, -, -, hown, hts, -⟩ := hX
  subst hz
  intro H locs ls hP hS hh
  exact lv_aload_n hx hb hd hi (lv_at hh j hk) (kk H locs ls hP hS hh)
theorem q_aload (z : Nat) (hX : Ok own cc ret lo n nL X) (j : Nat) {i : Nat} {x : Nat} (hd : decode cc pc = .ok (.aload i, 2)) (hz : pc + 2 = z) (hk : lv[j]? = some (i, .ref x)) (kk : Wat lo n d nL X z lv (.ref x :: st) S) : Wat lo n d nL X pc lv (st) S := by
  obtain ⟨l, w, p, e, s, m, args, below, meth, c, r⟩ := X
  obtain ⟨hx, hb, -, -, -, hown, hts, -⟩ := hX
  subst hz
  intro H locs ls hP hS hh
  exact lv_aload hx hb hd (lv_at hh j hk) (kk H locs ls hP hS hh)
theorem q_iadd (z : Nat) (hX : Ok own cc ret lo n nL X) {x y : Int32} (hd : decode cc pc = .ok (.iadd, 1)) (hz : pc + 1 = z)  (kk : Wat lo n d nL X z lv (.int (x + y) :: st) S) : Wat lo n d nL X pc lv (.int y :: .int x :: st) S := by
  obtain ⟨l, w, p, e, s, m, args, below, meth, c, r⟩ := X
  obtain ⟨hx, hb, -, -, -, hown, hts, -⟩ := hX
  subst hz
  intro H locs ls hP hS hh
  exact lv_iadd hx hb hd (kk H locs ls hP hS hh)
theorem q_isub (z : Nat) (hX : Ok own cc ret lo n nL X) {x y : Int32} (hd : decode cc pc = .ok (.isub, 1)) (hz : pc + 1 = z)  (kk : Wat lo n d nL X z lv (.int (x - y) :: st) S) : Wat lo n d nL X pc lv (.int y :: .int x :: st) S := by
  obtain ⟨l, w, p, e, s, m, args, below, meth, c, r⟩ := X
  obtain ⟨hx, hb, -, -, -, hown, hts, -⟩ := hX
  subst hz
  intro H locs ls hP hS hh
  exact lv_isub hx hb hd (kk H locs ls hP hS hh)
theorem q_imul (z : Nat) (hX : Ok own cc ret lo n nL X) {x y : Int32} (hd : decode cc pc = .ok (.imul, 1)) (hz : pc + 1 = z)  (kk : Wat lo n d nL X z lv (.int (x * y) :: st) S) : Wat lo n d nL X pc lv (.int y :: .int x :: st) S := by
  obtain ⟨l, w, p, e, s, m, args, below, meth, c, r⟩ := X
  obtain ⟨hx, hb, -, -, -, hown, hts, -⟩ := hX
  subst hz
  intro H locs ls hP hS hh
  exact lv_imul hx hb hd (kk H locs ls hP hS hh)
theorem q_iand (z : Nat) (hX : Ok own cc ret lo n nL X) {x y : Int32} (hd : decode cc pc = .ok (.iand, 1)) (hz : pc + 1 = z)  (kk : Wat lo n d nL X z lv (.int (x &&& y) :: st) S) : Wat lo n d nL X pc lv (.int y :: .int x :: st) S := by
  obtain ⟨l, w, p, e, s, m, args, below, meth, c, r⟩ := X
  obtain ⟨hx, hb, -, -, -, hown, hts, -⟩ := hX
  subst hz
  intro H locs ls hP hS hh
  exact lv_iand hx hb hd (kk H locs ls hP hS hh)
theorem q_ior (z : Nat) (hX : Ok own cc ret lo n nL X) {x y : Int32} (hd : decode cc pc = .ok (.ior, 1)) (hz : pc + 1 = z)  (kk : Wat lo n d nL X z lv (.int (x ||| y) :: st) S) : Wat lo n d nL X pc lv (.int y :: .int x :: st) S := by
  obtain ⟨l, w, p, e, s, m, args, below, meth, c, r⟩ := X
  obtain ⟨hx, hb, -, -, -, hown, hts, -⟩ := hX
  subst hz
  intro H locs ls hP hS hh
  exact lv_ior hx hb hd (kk H locs ls hP hS hh)
theorem q_ixor (z : Nat) (hX : Ok own cc ret lo n nL X) {x y : Int32} (hd : decode cc pc = .ok (.ixor, 1)) (hz : pc + 1 = z)  (kk : Wat lo n d nL X z lv (.int (x ^^^ y) :: st) S) : Wat lo n d nL X pc lv (.int y :: .int x :: st) S := by
  obtain ⟨l, w, p, e, s, m, args, below, meth, c, r⟩ := X
  obtain ⟨hx, hb, -, -, -, hown, hts, -⟩ := hX
  subst hz
  intro H locs ls hP hS hh
  exact lv_ixor hx hb hd (kk H locs ls hP hS hh)
theorem q_ishl (z : Nat) (hX : Ok own cc ret lo n nL X) {x y : Int32} (hd : decode cc pc = .ok (.ishl, 1)) (hz : pc + 1 = z)  (kk : Wat lo n d nL X z lv (.int (x <<< (y &&& 31)) :: st) S) : Wat lo n d nL X pc lv (.int y :: .int x :: st) S := by
  obtain ⟨l, w, p, e, s, m, args, below, meth, c, r⟩ := X
  obtain ⟨hx, hb, -, -, -, hown, hts, -⟩ := hX
  subst hz
  intro H locs ls hP hS hh
  exact lv_ishl hx hb hd (kk H locs ls hP hS hh)
theorem q_ishr (z : Nat) (hX : Ok own cc ret lo n nL X) {x y : Int32} (hd : decode cc pc = .ok (.ishr, 1)) (hz : pc + 1 = z)  (kk : Wat lo n d nL X z lv (.int (x >>> (y &&& 31)) :: st) S) : Wat lo n d nL X pc lv (.int y :: .int x :: st) S := by
  obtain ⟨l, w, p, e, s, m, args, below, meth, c, r⟩ := X
  obtain ⟨hx, hb, -, -, -, hown, hts, -⟩ := hX
  subst hz
  intro H locs ls hP hS hh
  exact lv_ishr hx hb hd (kk H locs ls hP hS hh)
theorem q_iushr (z : Nat) (hX : Ok own cc ret lo n nL X) {x y : Int32} (hd : decode cc pc = .ok (.iushr, 1)) (hz : pc + 1 = z)  (kk : Wat lo n d nL X z lv (.int ((x.toUInt32 >>> (y.toUInt32 &&& Int32.toUInt32 31)).toInt32) :: st) S) : Wat lo n d nL X pc lv (.int y :: .int x :: st) S := by
  obtain ⟨l, w, p, e, s, m, args, below, meth, c, r⟩ := X
  obtain ⟨hx, hb, -, -, -, hown, hts, -⟩ := hX
  subst hz
  intro H locs ls hP hS hh
  exact lv_iushr hx hb hd rfl (kk H locs ls hP hS hh)
theorem q_idiv (z : Nat) (hX : Ok own cc ret lo n nL X) {x y : Int32} (hd : decode cc pc = .ok (.idiv, 1)) (hz : pc + 1 = z) (hne : ¬ y = 0) (kk : Wat lo n d nL X z lv (.int (x / y) :: st) S) : Wat lo n d nL X pc lv (.int y :: .int x :: st) S := by
  obtain ⟨l, w, p, e, s, m, args, below, meth, c, r⟩ := X
  obtain ⟨hx, hb, -, -, -, hown, hts, -⟩ := hX
  subst hz
  intro H locs ls hP hS hh
  exact lv_idiv hx hb hd hne (kk H locs ls hP hS hh)
theorem q_irem (z : Nat) (hX : Ok own cc ret lo n nL X) {x y : Int32} (hd : decode cc pc = .ok (.irem, 1)) (hz : pc + 1 = z) (hne : ¬ y = 0) (kk : Wat lo n d nL X z lv (.int (x - x / y * y) :: st) S) : Wat lo n d nL X pc lv (.int y :: .int x :: st) S := by
  obtain ⟨l, w, p, e, s, m, args, below, meth, c, r⟩ := X
  obtain ⟨hx, hb, -, -, -, hown, hts, -⟩ := hX
  subst hz
  intro H locs ls hP hS hh
  exact lv_irem hx hb hd hne (kk H locs ls hP hS hh)
theorem q_ineg (z : Nat) (hX : Ok own cc ret lo n nL X) {x : Int32} (hd : decode cc pc = .ok (.ineg, 1)) (hz : pc + 1 = z)  (kk : Wat lo n d nL X z lv (.int (-x) :: st) S) : Wat lo n d nL X pc lv (.int x :: st) S := by
  obtain ⟨l, w, p, e, s, m, args, below, meth, c, r⟩ := X
  obtain ⟨hx, hb, -, -, -, hown, hts, -⟩ := hX
  subst hz
  intro H locs ls hP hS hh
  exact lv_ineg hx hb hd (kk H locs ls hP hS hh)
theorem q_ladd (z : Nat) (hX : Ok own cc ret lo n nL X) {x y : Int64} (hd : decode cc pc = .ok (.ladd, 1)) (hz : pc + 1 = z)  (kk : Wat lo n d nL X z lv (.long (x + y) :: st) S) : Wat lo n d nL X pc lv (.long y :: .long x :: st) S := by
  obtain ⟨l, w, p, e, s, m, args, below, meth, c, r⟩ := X
  obtain ⟨hx, hb, -, -, -, hown, hts, -⟩ := hX
  subst hz
  intro H locs ls hP hS hh
  exact lv_ladd hx hb hd (kk H locs ls hP hS hh)
theorem q_lmul (z : Nat) (hX : Ok own cc ret lo n nL X) {x y : Int64} (hd : decode cc pc = .ok (.lmul, 1)) (hz : pc + 1 = z)  (kk : Wat lo n d nL X z lv (.long (x * y) :: st) S) : Wat lo n d nL X pc lv (.long y :: .long x :: st) S := by
  obtain ⟨l, w, p, e, s, m, args, below, meth, c, r⟩ := X
  obtain ⟨hx, hb, -, -, -, hown, hts, -⟩ := hX
  subst hz
  intro H locs ls hP hS hh
  exact lv_lmul hx hb hd (kk H locs ls hP hS hh)
theorem q_i2l (z : Nat) (hX : Ok own cc ret lo n nL X) {x : Int32} (hd : decode cc pc = .ok (.i2l, 1)) (hz : pc + 1 = z)  (kk : Wat lo n d nL X z lv (.long x.toInt64 :: st) S) : Wat lo n d nL X pc lv (.int x :: st) S := by
  obtain ⟨l, w, p, e, s, m, args, below, meth, c, r⟩ := X
  obtain ⟨hx, hb, -, -, -, hown, hts, -⟩ := hX
  subst hz
  intro H locs ls hP hS hh
  exact lv_i2l hx hb hd rfl (kk H locs ls hP hS hh)
theorem q_i2b (z : Nat) (hX : Ok own cc ret lo n nL X) {x : Int32} (hd : decode cc pc = .ok (.i2b, 1)) (hz : pc + 1 = z)  (kk : Wat lo n d nL X z lv (.int x.toInt8.toInt32 :: st) S) : Wat lo n d nL X pc lv (.int x :: st) S := by
  obtain ⟨l, w, p, e, s, m, args, below, meth, c, r⟩ := X
  obtain ⟨hx, hb, -, -, -, hown, hts, -⟩ := hX
  subst hz
  intro H locs ls hP hS hh
  exact lv_i2b hx hb hd rfl (kk H locs ls hP hS hh)
theorem q_i2c (z : Nat) (hX : Ok own cc ret lo n nL X) {x : Int32} (hd : decode cc pc = .ok (.i2c, 1)) (hz : pc + 1 = z)  (kk : Wat lo n d nL X z lv (.int (x.toUInt32 % 65536).toInt32 :: st) S) : Wat lo n d nL X pc lv (.int x :: st) S := by
  obtain ⟨l, w, p, e, s, m, args, below, meth, c, r⟩ := X
  obtain ⟨hx, hb, -, -, -, hown, hts, -⟩ := hX
  subst hz
  intro H locs ls hP hS hh
  exact lv_i2c hx hb hd rfl (kk H locs ls hP hS hh)
theorem q_dup (z : Nat) (hX : Ok own cc ret lo n nL X) {va : Value} (hd : decode cc pc = .ok (.dup, 1)) (hz : pc + 1 = z) (hva : va.category = 1) (kk : Wat lo n d nL X z lv (va :: va :: st) S) : Wat lo n d nL X pc lv (va :: st) S := by
  obtain ⟨l, w, p, e, s, m, args, below, meth, c, r⟩ := X
  obtain ⟨hx, hb, -, -, -, hown, hts, -⟩ := hX
  subst hz
  intro H locs ls hP hS hh
  exact lv_dup hx hb hd hva (kk H locs ls hP hS hh)
theorem q_pop (z : Nat) (hX : Ok own cc ret lo n nL X) {va : Value} (hd : decode cc pc = .ok (.pop, 1)) (hz : pc + 1 = z) (hva : va.category = 1) (kk : Wat lo n d nL X z lv (st) S) : Wat lo n d nL X pc lv (va :: st) S := by
  obtain ⟨l, w, p, e, s, m, args, below, meth, c, r⟩ := X
  obtain ⟨hx, hb, -, -, -, hown, hts, -⟩ := hX
  subst hz
  intro H locs ls hP hS hh
  exact lv_pop hx hb hd hva (kk H locs ls hP hS hh)
theorem q_istore_n (z : Nat) (hX : Ok own cc ret lo n nL X) {k : Fin 4} {i : Nat} {x : Int32} {lv' : List (Nat × Value)} (hd : decode cc pc = .ok (.istore_n k, 1)) (hz : pc + 1 = z) (hi : (k : Nat) = i) (hn : i < nL) (hl : (i, Value.int x) :: lv.filter (fun q => !(q.1 == i) && !(q.1 + 1 == i && q.2.category == 2)) = lv') (kk : Wat lo n d nL X z lv' st S) : Wat lo n d nL X pc lv (.int x :: st) S := by
  obtain ⟨l, w, p, e, s, m, args, below, meth, c, r⟩ := X
  obtain ⟨hx, hb, -⟩ := hX
  subst hz
  intro H locs ls hP hS hh
  exact lv_istore_n hx hb hd hi hh hn hl (fun ls' hl' => kk H locs ls' hP hS hl')
theorem q_istore (z : Nat) (hX : Ok own cc ret lo n nL X) {i : Nat} {x : Int32} {lv' : List (Nat × Value)} (hd : decode cc pc = .ok (.istore i, 2)) (hz : pc + 2 = z) (hn : i < nL) (hl : (i, Value.int x) :: lv.filter (fun q => !(q.1 == i) && !(q.1 + 1 == i && q.2.category == 2)) = lv') (kk : Wat lo n d nL X z lv' st S) : Wat lo n d nL X pc lv (.int x :: st) S := by
  obtain ⟨l, w, p, e, s, m, args, below, meth, c, r⟩ := X
  obtain ⟨hx, hb, -⟩ := hX
  subst hz
  intro H locs ls hP hS hh
  exact lv_istore hx hb hd hh hn hl (fun ls' hl' => kk H locs ls' hP hS hl')
theorem q_astore_n (z : Nat) (hX : Ok own cc ret lo n nL X) {k : Fin 4} {i : Nat} {x : Nat} {lv' : List (Nat × Value)} (hd : decode cc pc = .ok (.astore_n k, 1)) (hz : pc + 1 = z) (hi : (k : Nat) = i) (hn : i < nL) (hl : (i, Value.ref x) :: lv.filter (fun q => !(q.1 == i) && !(q.1 + 1 == i && q.2.category == 2)) = lv') (kk : Wat lo n d nL X z lv' st S) : Wat lo n d nL X pc lv (.ref x :: st) S := by
  obtain ⟨l, w, p, e, s, m, args, below, meth, c, r⟩ := X
  obtain ⟨hx, hb, -⟩ := hX
  subst hz
  intro H locs ls hP hS hh
  exact lv_astore_n hx hb hd hi hh hn hl (fun ls' hl' => kk H locs ls' hP hS hl')
theorem q_astore (z : Nat) (hX : Ok own cc ret lo n nL X) {i : Nat} {x : Nat} {lv' : List (Nat × Value)} (hd : decode cc pc = .ok (.astore i, 2)) (hz : pc + 2 = z) (hn : i < nL) (hl : (i, Value.ref x) :: lv.filter (fun q => !(q.1 == i) && !(q.1 + 1 == i && q.2.category == 2)) = lv') (kk : Wat lo n d nL X z lv' st S) : Wat lo n d nL X pc lv (.ref x :: st) S := by
  obtain ⟨l, w, p, e, s, m, args, below, meth, c, r⟩ := X
  obtain ⟨hx, hb, -⟩ := hX
  subst hz
  intro H locs ls hP hS hh
  exact lv_astore hx hb hd hh hn hl (fun ls' hl' => kk H locs ls' hP hS hl')
theorem q_if_eq (z : Nat) (hX : Ok own cc ret lo n nL X) (tg : Nat) {x : Int32} {off : Int} (hd : decode cc pc = .ok (.ifCond .eq off, 3)) (hz : pc + 3 = z) (ht : (pc : Int) + off = (tg : Int)) (kt : x = 0 → Wat lo n d nL X tg lv st S) (kf : ¬ x = 0 → Wat lo n d nL X z lv st S) : Wat lo n d nL X pc lv (.int x :: st) S := by
  obtain ⟨l, w, p, e, s, m, args, below, meth, c, r⟩ := X
  obtain ⟨hx, hb, -⟩ := hX
  subst hz
  intro H locs ls hP hS hh
  exact lv_if_eq hx hb hd ht (fun h => kt h H locs ls hP hS hh) (fun h => kf h H locs ls hP hS hh)
theorem q_if_ne (z : Nat) (hX : Ok own cc ret lo n nL X) (tg : Nat) {x : Int32} {off : Int} (hd : decode cc pc = .ok (.ifCond .ne off, 3)) (hz : pc + 3 = z) (ht : (pc : Int) + off = (tg : Int)) (kt : ¬ x = 0 → Wat lo n d nL X tg lv st S) (kf : x = 0 → Wat lo n d nL X z lv st S) : Wat lo n d nL X pc lv (.int x :: st) S := by
  obtain ⟨l, w, p, e, s, m, args, below, meth, c, r⟩ := X
  obtain ⟨hx, hb, -⟩ := hX
  subst hz
  intro H locs ls hP hS hh
  exact lv_if_ne hx hb hd ht (fun h => kt h H locs ls hP hS hh) (fun h => kf h H locs ls hP hS hh)
theorem q_if_lt (z : Nat) (hX : Ok own cc ret lo n nL X) (tg : Nat) {x : Int32} {off : Int} (hd : decode cc pc = .ok (.ifCond .lt off, 3)) (hz : pc + 3 = z) (ht : (pc : Int) + off = (tg : Int)) (kt : x < 0 → Wat lo n d nL X tg lv st S) (kf : ¬ x < 0 → Wat lo n d nL X z lv st S) : Wat lo n d nL X pc lv (.int x :: st) S := by
  obtain ⟨l, w, p, e, s, m, args, below, meth, c, r⟩ := X
  obtain ⟨hx, hb, -⟩ := hX
  subst hz
  intro H locs ls hP hS hh
  exact lv_if_lt hx hb hd ht (fun h => kt h H locs ls hP hS hh) (fun h => kf h H locs ls hP hS hh)
theorem q_if_ge (z : Nat) (hX : Ok own cc ret lo n nL X) (tg : Nat) {x : Int32} {off : Int} (hd : decode cc pc = .ok (.ifCond .ge off, 3)) (hz : pc + 3 = z) (ht : (pc : Int) + off = (tg : Int)) (kt : 0 ≤ x → Wat lo n d nL X tg lv st S) (kf : ¬ 0 ≤ x → Wat lo n d nL X z lv st S) : Wat lo n d nL X pc lv (.int x :: st) S := by
  obtain ⟨l, w, p, e, s, m, args, below, meth, c, r⟩ := X
  obtain ⟨hx, hb, -⟩ := hX
  subst hz
  intro H locs ls hP hS hh
  exact lv_if_ge hx hb hd ht (fun h => kt h H locs ls hP hS hh) (fun h => kf h H locs ls hP hS hh)
theorem q_if_gt (z : Nat) (hX : Ok own cc ret lo n nL X) (tg : Nat) {x : Int32} {off : Int} (hd : decode cc pc = .ok (.ifCond .gt off, 3)) (hz : pc + 3 = z) (ht : (pc : Int) + off = (tg : Int)) (kt : 0 < x → Wat lo n d nL X tg lv st S) (kf : ¬ 0 < x → Wat lo n d nL X z lv st S) : Wat lo n d nL X pc lv (.int x :: st) S := by
  obtain ⟨l, w, p, e, s, m, args, below, meth, c, r⟩ := X
  obtain ⟨hx, hb, -⟩ := hX
  subst hz
  intro H locs ls hP hS hh
  exact lv_if_gt hx hb hd ht (fun h => kt h H locs ls hP hS hh) (fun h => kf h H locs ls hP hS hh)
theorem q_if_le (z : Nat) (hX : Ok own cc ret lo n nL X) (tg : Nat) {x : Int32} {off : Int} (hd : decode cc pc = .ok (.ifCond .le off, 3)) (hz : pc + 3 = z) (ht : (pc : Int) + off = (tg : Int)) (kt : x ≤ 0 → Wat lo n d nL X tg lv st S) (kf : ¬ x ≤ 0 → Wat lo n d nL X z lv st S) : Wat lo n d nL X pc lv (.int x :: st) S := by
  obtain ⟨l, w, p, e, s, m, args, below, meth, c, r⟩ := X
  obtain ⟨hx, hb, -⟩ := hX
  subst hz
  intro H locs ls hP hS hh
  exact lv_if_le hx hb hd ht (fun h => kt h H locs ls hP hS hh) (fun h => kf h H locs ls hP hS hh)
theorem q_icmp_eq (z : Nat) (hX : Ok own cc ret lo n nL X) (tg : Nat) {x y : Int32} {off : Int} (hd : decode cc pc = .ok (.if_icmp .eq off, 3)) (hz : pc + 3 = z) (ht : (pc : Int) + off = (tg : Int)) (kt : x = y → Wat lo n d nL X tg lv st S) (kf : ¬ x = y → Wat lo n d nL X z lv st S) : Wat lo n d nL X pc lv (.int y :: .int x :: st) S := by
  obtain ⟨l, w, p, e, s, m, args, below, meth, c, r⟩ := X
  obtain ⟨hx, hb, -⟩ := hX
  subst hz
  intro H locs ls hP hS hh
  exact lv_icmp_eq hx hb hd ht (fun h => kt h H locs ls hP hS hh) (fun h => kf h H locs ls hP hS hh)
theorem q_icmp_ne (z : Nat) (hX : Ok own cc ret lo n nL X) (tg : Nat) {x y : Int32} {off : Int} (hd : decode cc pc = .ok (.if_icmp .ne off, 3)) (hz : pc + 3 = z) (ht : (pc : Int) + off = (tg : Int)) (kt : ¬ x = y → Wat lo n d nL X tg lv st S) (kf : x = y → Wat lo n d nL X z lv st S) : Wat lo n d nL X pc lv (.int y :: .int x :: st) S := by
  obtain ⟨l, w, p, e, s, m, args, below, meth, c, r⟩ := X
  obtain ⟨hx, hb, -⟩ := hX
  subst hz
  intro H locs ls hP hS hh
  exact lv_icmp_ne hx hb hd ht (fun h => kt h H locs ls hP hS hh) (fun h => kf h H locs ls hP hS hh)
theorem q_icmp_lt (z : Nat) (hX : Ok own cc ret lo n nL X) (tg : Nat) {x y : Int32} {off : Int} (hd : decode cc pc = .ok (.if_icmp .lt off, 3)) (hz : pc + 3 = z) (ht : (pc : Int) + off = (tg : Int)) (kt : x < y → Wat lo n d nL X tg lv st S) (kf : ¬ x < y → Wat lo n d nL X z lv st S) : Wat lo n d nL X pc lv (.int y :: .int x :: st) S := by
  obtain ⟨l, w, p, e, s, m, args, below, meth, c, r⟩ := X
  obtain ⟨hx, hb, -⟩ := hX
  subst hz
  intro H locs ls hP hS hh
  exact lv_icmp_lt hx hb hd ht (fun h => kt h H locs ls hP hS hh) (fun h => kf h H locs ls hP hS hh)
theorem q_icmp_ge (z : Nat) (hX : Ok own cc ret lo n nL X) (tg : Nat) {x y : Int32} {off : Int} (hd : decode cc pc = .ok (.if_icmp .ge off, 3)) (hz : pc + 3 = z) (ht : (pc : Int) + off = (tg : Int)) (kt : y ≤ x → Wat lo n d nL X tg lv st S) (kf : ¬ y ≤ x → Wat lo n d nL X z lv st S) : Wat lo n d nL X pc lv (.int y :: .int x :: st) S := by
  obtain ⟨l, w, p, e, s, m, args, below, meth, c, r⟩ := X
  obtain ⟨hx, hb, -⟩ := hX
  subst hz
  intro H locs ls hP hS hh
  exact lv_icmp_ge hx hb hd ht (fun h => kt h H locs ls hP hS hh) (fun h => kf h H locs ls hP hS hh)
theorem q_icmp_gt (z : Nat) (hX : Ok own cc ret lo n nL X) (tg : Nat) {x y : Int32} {off : Int} (hd : decode cc pc = .ok (.if_icmp .gt off, 3)) (hz : pc + 3 = z) (ht : (pc : Int) + off = (tg : Int)) (kt : y < x → Wat lo n d nL X tg lv st S) (kf : ¬ y < x → Wat lo n d nL X z lv st S) : Wat lo n d nL X pc lv (.int y :: .int x :: st) S := by
  obtain ⟨l, w, p, e, s, m, args, below, meth, c, r⟩ := X
  obtain ⟨hx, hb, -⟩ := hX
  subst hz
  intro H locs ls hP hS hh
  exact lv_icmp_gt hx hb hd ht (fun h => kt h H locs ls hP hS hh) (fun h => kf h H locs ls hP hS hh)
theorem q_icmp_le (z : Nat) (hX : Ok own cc ret lo n nL X) (tg : Nat) {x y : Int32} {off : Int} (hd : decode cc pc = .ok (.if_icmp .le off, 3)) (hz : pc + 3 = z) (ht : (pc : Int) + off = (tg : Int)) (kt : x ≤ y → Wat lo n d nL X tg lv st S) (kf : ¬ x ≤ y → Wat lo n d nL X z lv st S) : Wat lo n d nL X pc lv (.int y :: .int x :: st) S := by
  obtain ⟨l, w, p, e, s, m, args, below, meth, c, r⟩ := X
  obtain ⟨hx, hb, -⟩ := hX
  subst hz
  intro H locs ls hP hS hh
  exact lv_icmp_le hx hb hd ht (fun h => kt h H locs ls hP hS hh) (fun h => kf h H locs ls hP hS hh)
theorem q_iinc (z : Nat) (j : Nat) (hX : Ok own cc ret lo n nL X) {i : Nat} {k : Int} {x v : Int32} {lv' : List (Nat × Value)} (hd : decode cc pc = .ok (.iinc i k, 3)) (hz : pc + 3 = z) (hk : lv[j]? = some (i, .int x)) (hv : Int32.ofInt k = v) (hn : i < nL) (hl : (i, Value.int (x + v)) :: lv.filter (fun q => !(q.1 == i) && !(q.1 + 1 == i && q.2.category == 2)) = lv') (kk : Wat lo n d nL X z lv' st S) : Wat lo n d nL X pc lv st S := by
  obtain ⟨l, w, p, e, s, m, args, below, meth, c, r⟩ := X
  obtain ⟨hx, hb, -⟩ := hX
  subst hz
  intro H locs ls hP hS hh
  exact lv_iinc hx hb hd hh hk (by rw [hv]) hn hl (fun ls' hl' => kk H locs ls' hP hS hl')
theorem q_goto (z : Nat) (hX : Ok own cc ret lo n nL X) {off : Int} (hd : decode cc pc = .ok (.goto off, 3)) (ht : (pc : Int) + off = (z : Int)) (kk : Wat lo n d nL X z lv st S) : Wat lo n d nL X pc lv st S := by
  obtain ⟨l, w, p, e, s, m, args, below, meth, c, r⟩ := X
  obtain ⟨hx, hb, -⟩ := hX
  intro H locs ls hP hS hh
  exact lv_goto hx hb hd ht (kk H locs ls hP hS hh)
theorem q_tabIn (z : Nat) (hX : Ok own cc ret lo n nL X) {dflt lo2 hi2 : Int} {offs : Array Int} {len : Nat} {x : Int32} {off : Int} (hd : decode cc pc = .ok (.tableswitch dflt lo2 hi2 offs, len)) (h1 : ¬ x.toInt < lo2) (h2 : ¬ hi2 < x.toInt) (ho : offs[(x.toInt - lo2).toNat]? = some off) (ht : (pc : Int) + off = (z : Int)) (kk : Wat lo n d nL X z lv st S) : Wat lo n d nL X pc lv (.int x :: st) S := by
  obtain ⟨l, w, p, e, s, m, args, below, meth, c, r⟩ := X
  obtain ⟨hx, hb, -⟩ := hX
  intro H locs ls hP hS hh
  exact lv_tableIn hx hb hd h1 h2 ho ht (kk H locs ls hP hS hh)
theorem q_tabOut (z : Nat) (hX : Ok own cc ret lo n nL X) {dflt lo2 hi2 : Int} {offs : Array Int} {len : Nat} {x : Int32} (hd : decode cc pc = .ok (.tableswitch dflt lo2 hi2 offs, len)) (h : x.toInt < lo2 ∨ hi2 < x.toInt) (ht : (pc : Int) + dflt = (z : Int)) (kk : Wat lo n d nL X z lv st S) : Wat lo n d nL X pc lv (.int x :: st) S := by
  obtain ⟨l, w, p, e, s, m, args, below, meth, c, r⟩ := X
  obtain ⟨hx, hb, -⟩ := hX
  intro H locs ls hP hS hh
  exact lv_tableOut hx hb hd h ht (kk H locs ls hP hS hh)
theorem q_look (z : Nat) (hX : Ok own cc ret lo n nL X) {dflt : Int} {ps : Array (Int × Int)} {len : Nat} {x : Int32} {off : Int} (hd : decode cc pc = .ok (.lookupswitch dflt ps, len)) (hp : (ps.toList.zip (ps.toList.drop 1)).all (fun (a, next) => a.1 < next.1) = true) (ho : Op.lookupswitch.offset ps.toList dflt x.toInt = off) (ht : (pc : Int) + off = (z : Int)) (kk : Wat lo n d nL X z lv st S) : Wat lo n d nL X pc lv (.int x :: st) S := by
  obtain ⟨l, w, p, e, s, m, args, below, meth, c, r⟩ := X
  obtain ⟨hx, hb, -⟩ := hX
  intro H locs ls hP hS hh
  exact lv_lookup hx hb hd hp ho ht (kk H locs ls hP hS hh)
-- fields and arrays
abbrev CI (ci : Nat) (C : String) (T : u_T) (N : Nat) (ty : Nat → FieldType) : Prop := vwCl[ci]? = some (C, T, N) ∧ (∀ w ∈ u_ws C T N, w ∈ Gw) ∧ (∀ k, k < N → parseFieldDescriptor (T k).2.2.1 = some (ty k)) ∧ (∀ a, a < N → ∀ b, b < N → a ≠ b → (T a).2.1 ≠ (T b).2.1)
/-- a link to field k of class C: plain, or a nest mate's -/
abbrev LF (own : String) (idx : Nat) (C : String) (T : u_T) (N k : Nat) (fin : Bool) : Prop := k < N ∧ (T k).1 = C ∧ (T k).2.2.2 = fin ∧ (Cond.fieldLink own idx C (T k).2.1 (T k).2.2.1 ∈ Gw ∨ ∃ host, Cond.fieldLinkNest own idx C (T k).2.1 (T k).2.2.1 host ∈ NW)
theorem q_getV (z : Nat) (hX : Ok own cc ret lo n nL X) {ci : Nat} {C : String} {T : u_T} {N : Nat} {ty : Nat → FieldType} {idx k : Nat} {fin : Bool} {o : Nat} {v : Value} (hc : CI ci C T N ty) (hL : LF own idx C T N k fin) (ho : OB lo n o ci) (hk : k < nf o) (hv : fv X.2.1 S o k = v) (hd : decode cc pc = .ok (.getfield idx, 3)) (hz : pc + 3 = z) (kk : Wat lo n d nL X z lv (v :: st) S) : Wat lo n d nL X pc lv (.ref (ad X o) :: st) S := by
  obtain ⟨l, w, p, e, s, m, args, below, meth, c, r⟩ := X
  obtain ⟨hx, hb, -, -, -, hown, hts, hK, hj⟩ := hX
  subst hz
  intro H locs ls hP hS hh
  obtain ⟨h1, h2, -, h3⟩ := hL
  have he : (ww w lo n S)[o - lo]? = some (w.1 o, .inr (ci, (List.range (nf o)).map (fv w S o))) := by rw [ww_at w S ho.1 ho.2.1, ent_O ho]
  have hf : ((List.range (nf o)).map (fv w S o))[k]? = some v := by
    rw [List.getElem?_map, List.getElem?_range hk]
    exact congrArg some hv
  rcases h3 with h3 | ⟨host, h3⟩
  · exact va_get hx hb hts hc.2.1 hown hK.1 hP (o - lo) he hc.1 k h1 (hts _ h3) (by rw [h2]; exact fun _ h => h) hf hd (kk H locs ls hP hS hh)
  · exact va_getN (host := host) hx hb hts hc.2.1 hown hK.1 hP (o - lo) he hc.1 k h1 (va_Nw.use rfl (hK.2.1 _ h3)) (by rw [h2]; exact fun _ h => h) hf hd (kk H locs ls hP hS hh)
theorem q_getI (z : Nat) (hX : Ok own cc ret lo n nL X) {ci : Nat} {C : String} {T : u_T} {N : Nat} {ty : Nat → FieldType} {idx k : Nat} {fin : Bool} {o : Nat} (hc : CI ci C T N ty) (hL : LF own idx C T N k fin) (ho : FI lo n o ci k) (hd : decode cc pc = .ok (.getfield idx, 3)) (hz : pc + 3 = z) (kk : Wat lo n d nL X z lv (.int (S.1 o k) :: st) S) : Wat lo n d nL X pc lv (.ref (ad X o) :: st) S :=
  q_getV z hX hc hL ho.1 ho.2.1 (by simp [fv, ho.2.2]) hd hz kk
theorem q_getR (z : Nat) (hX : Ok own cc ret lo n nL X) {ci : Nat} {C : String} {T : u_T} {N : Nat} {ty : Nat → FieldType} {idx k : Nat} {fin : Bool} {o j : Nat} (hc : CI ci C T N ty) (hL : LF own idx C T N k fin) (ho : FR lo n o ci k j) (hd : decode cc pc = .ok (.getfield idx, 3)) (hz : pc + 3 = z) (kk : Wat lo n d nL X z lv (.ref (ad X j) :: st) S) : Wat lo n d nL X pc lv (.ref (ad X o) :: st) S :=
  q_getV z hX hc hL ho.1 ho.2.1 (by simp [fv, ho.2.2, ad]) hd hz kk
theorem q_getD (z : Nat) (hX : Ok own cc ret lo n nL X) {ci : Nat} {C : String} {T : u_T} {N : Nat} {ty : Nat → FieldType} {idx k : Nat} {fin : Bool} {o j : Nat} (hc : CI ci C T N ty) (hL : LF own idx C T N k fin) (ho : FD lo n o ci k j) (hd : decode cc pc = .ok (.getfield idx, 3)) (hz : pc + 3 = z) (kk : Wat lo n d nL X z lv (.ref (ad X (S.2.2 j)) :: st) S) : Wat lo n d nL X pc lv (.ref (ad X o) :: st) S :=
  q_getV z hX hc hL ho.1 ho.2.1 (by simp [fv, ho.2.2, ad]) hd hz kk
theorem q_putV (z : Nat) (hX : Ok own cc ret lo n nL X) {ci : Nat} {C : String} {T : u_T} {N : Nat} {ty : Nat → FieldType} {idx k : Nat} {o : Nat} {v : Value} {S' : St} (hc : CI ci C T N ty) (hL : LF own idx C T N k false) (ho : OB lo n o ci) (hk : k < nf o) (hn : narrow (ty k) v = v) (hfit : fits (ty k) v = true) (he1 : (List.range (nf o)).map (fv X.2.1 S' o) = ((List.range (nf o)).map (fv X.2.1 S o)).set k v) (he2 : ∀ j, j ≠ o → ent X.2.1 S' j = ent X.2.1 S j) (hd : decode cc pc = .ok (.putfield idx, 3)) (hz : pc + 3 = z) (kk : Wat lo n d nL X z lv st S') : Wat lo n d nL X pc lv (v :: .ref (ad X o) :: st) S := by
  obtain ⟨l, w, p, e, s, m, args, below, meth, c, r⟩ := X
  obtain ⟨hx, hb, -, -, -, hown, hts, hK, hj⟩ := hX
  subst hz
  intro H locs ls hP hS hh
  obtain ⟨h1, h2, h4, h3⟩ := hL
  have he : (ww w lo n S)[o - lo]? = some (w.1 o, .inr (ci, (List.range (nf o)).map (fv w S o))) := by rw [ww_at w S ho.1 ho.2.1, ent_O ho]
  have hw : (ww w lo n S).set (o - lo) (w.1 o, .inr (ci, ((List.range (nf o)).map (fv w S o)).set k v)) = ww w lo n S' := ww_set w ho.1 ho.2.1 (by rw [ent_O ho]; exact congrArg (fun q => Sum.inr (ci, q)) he1) he2
  rcases h3 with h3 | ⟨host, h3⟩
  · exact va_put hx hb hts hc.2.1 ty hc.2.2.1 hc.2.2.2 hown hK.1 hP (ww_D S hj) hS (o - lo) he hc.1 k h1 (hts _ h3) (by rw [h2]; exact fun _ h => h) h4 (hc.2.2.1 k h1) hn hfit (by simpa using hk) hd (fun H1 locs1 hP1 _ hS1 => kk H1 locs1 ls (by rw [hw] at hP1; exact hP1) hS1 hh)
  · exact va_putN (host := host) hx hb hts hc.2.1 ty hc.2.2.1 hc.2.2.2 hown hK.1 hP (ww_D S hj) hS (o - lo) he hc.1 k h1 (va_Nw.use rfl (hK.2.1 _ h3)) (by rw [h2]; exact fun _ h => h) h4 (hc.2.2.1 k h1) hn hfit (by simpa using hk) hd (fun H1 locs1 hP1 _ hS1 => kk H1 locs1 ls (by rw [hw] at hP1; exact hP1) hS1 hh)
theorem nar_i {t : FieldType} {v : Int32} (h : t = .int) : narrow t (.int v) = .int v ∧ fits t (.int v) = true := by subst h; exact ⟨rfl, rfl⟩
theorem nar_z {t : FieldType} {v : Int32} (h : t = .boolean) (hv : v = 0 ∨ v = 1) : narrow t (.int v) = .int v ∧ fits t (.int v) = true := by subst h; rcases hv with rfl | rfl <;> exact ⟨by decide, by decide⟩
theorem q_putI (z : Nat) (hX : Ok own cc ret lo n nL X) {ci : Nat} {C : String} {T : u_T} {N : Nat} {ty : Nat → FieldType} {idx k : Nat} {o : Nat} {v : Int32} (hc : CI ci C T N ty) (hL : LF own idx C T N k false) (ho : FI lo n o ci k) (hn : narrow (ty k) (.int v) = .int v ∧ fits (ty k) (.int v) = true) (hd : decode cc pc = .ok (.putfield idx, 3)) (hz : pc + 3 = z) (kk : Wat lo n d nL X z lv st (pI S o k v)) : Wat lo n d nL X pc lv (.int v :: .ref (ad X o) :: st) S :=
  q_putV z hX hc hL ho.1 ho.2.1 hn.1 hn.2 (fv_pI ho.2.1 ho.2.2).symm (fun _ hj => ent_pI_ne _ S hj) hd hz kk
theorem q_iald (z : Nat) {o i9 : Nat} (hX : Ok own cc ret lo n nL X) {i : Int32} {j : Nat} (hj9 : i.toNatClampNeg = j) (ho : AI lo n o i9) (hi : inb i i9 = true) (hd : decode cc pc = .ok (.iaload, 1)) (hz : pc + 1 = z) (kk : Wat lo n d nL X z lv (.int (S.1 o j) :: st) S) : Wat lo n d nL X pc lv (.int i :: .ref (ad X o) :: st) S := by
  obtain ⟨l, w, p, e, s, m, args, below, meth, c, r⟩ := X
  obtain ⟨hx, hb, -, -, -, hown, hts, hK, hj⟩ := hX
  subst hz
  subst hj9
  intro H locs ls hP hS hh
  exact va_iald hx hb hK.1 hP (o - lo) 1 (by rw [ww_at w S ho.1 ho.2.1, ent_I ho]; rfl) rfl (inb_vp hi) hd (kk H locs ls hP hS hh)
theorem q_bald (z : Nat) {o i9 : Nat} (hX : Ok own cc ret lo n nL X) {i : Int32} {j : Nat} (hj9 : i.toNatClampNeg = j) (ho : AB lo n o i9) (hi : inb i i9 = true) (hd : decode cc pc = .ok (.baload, 1)) (hz : pc + 1 = z) (kk : Wat lo n d nL X z lv (.int (S.1 o j) :: st) S) : Wat lo n d nL X pc lv (.int i :: .ref (ad X o) :: st) S := by
  obtain ⟨l, w, p, e, s, m, args, below, meth, c, r⟩ := X
  obtain ⟨hx, hb, -, -, -, hown, hts, hK, hj⟩ := hX
  subst hz
  subst hj9
  intro H locs ls hP hS hh
  exact va_bald hx hb hK.1 hP (o - lo) 0 (by rw [ww_at w S ho.1 ho.2.1, ent_B ho]; rfl) rfl (inb_vp hi) hd (kk H locs ls hP hS hh)
theorem q_lald (z : Nat) {o i9 : Nat} (hX : Ok own cc ret lo n nL X) {i : Int32} {j : Nat} (hj9 : i.toNatClampNeg = j) (ho : AJ lo n o i9) (hi : inb i i9 = true) (hd : decode cc pc = .ok (.laload, 1)) (hz : pc + 1 = z) (kk : Wat lo n d nL X z lv (.long (S.2.1 o j) :: st) S) : Wat lo n d nL X pc lv (.int i :: .ref (ad X o) :: st) S := by
  obtain ⟨l, w, p, e, s, m, args, below, meth, c, r⟩ := X
  obtain ⟨hx, hb, -, -, -, hown, hts, hK, hj⟩ := hX
  subst hz
  subst hj9
  intro H locs ls hP hS hh
  exact va_lald hx hb hK.1 hP (o - lo) 2 (by rw [ww_at w S ho.1 ho.2.1, ent_J ho]; rfl) rfl (inb_vp hi) hd (kk H locs ls hP hS hh)
theorem q_iast (z : Nat) {o i9 : Nat} (hX : Ok own cc ret lo n nL X) {j : Nat} {i v : Int32} (hj9 : i.toNatClampNeg = j) (ho : AI lo n o i9) (hi : inb i i9 = true) (hd : decode cc pc = .ok (.iastore, 1)) (hz : pc + 1 = z) (kk : Wat lo n d nL X z lv st (pI S o j v)) : Wat lo n d nL X pc lv (.int v :: .int i :: .ref (ad X o) :: st) S := by
  obtain ⟨l, w, p, e, s, m, args, below, meth, c, r⟩ := X
  obtain ⟨hx, hb, -, -, -, hown, hts, hK, hj⟩ := hX
  subst hz
  subst hj9
  intro H locs ls hP hS hh
  have hw : (ww w lo n S).set (o - lo) (w.1 o, .inl (w.2.2.2.1, i9, .inl (upd (S.1 o) i.toNatClampNeg v))) = ww w lo n (pI S o i.toNatClampNeg v) := ww_set w ho.1 ho.2.1 (by rw [ent_I ho, pI_arr]) (fun _ hj => ent_pI_ne _ S hj)
  exact va_iast hx hb hK.1 hP (ww_D S hj) hS (o - lo) 1 (by rw [ww_at w S ho.1 ho.2.1, ent_I ho]; rfl) rfl (inb_vp hi) hd (fun H1 locs1 hP1 _ hS1 => kk H1 locs1 ls (by rw [show (ad (l, w, p, e, s, m, args, below, meth, c, r) o) = w.1 o from rfl, hw] at hP1; exact hP1) hS1 hh)
theorem q_bast (z : Nat) {o i9 : Nat} (hX : Ok own cc ret lo n nL X) {j : Nat} {i v : Int32} (hj9 : i.toNatClampNeg = j) (ho : AB lo n o i9) (hi : inb i i9 = true) (hd : decode cc pc = .ok (.bastore, 1)) (hz : pc + 1 = z) (kk : Wat lo n d nL X z lv st (pI S o j (vp_nar .byte v))) : Wat lo n d nL X pc lv (.int v :: .int i :: .ref (ad X o) :: st) S := by
  obtain ⟨l, w, p, e, s, m, args, below, meth, c, r⟩ := X
  obtain ⟨hx, hb, -, -, -, hown, hts, hK, hj⟩ := hX
  subst hz
  subst hj9
  intro H locs ls hP hS hh
  have hw : (ww w lo n S).set (o - lo) (w.1 o, .inl (w.2.2.1, i9, .inl (upd (S.1 o) i.toNatClampNeg (vp_nar .byte v)))) = ww w lo n (pI S o i.toNatClampNeg (vp_nar .byte v)) := ww_set w ho.1 ho.2.1 (by rw [ent_B ho, pI_arr]) (fun _ hj => ent_pI_ne _ S hj)
  exact va_bast hx hb hK.1 hP (ww_D S hj) hS (o - lo) 0 (by rw [ww_at w S ho.1 ho.2.1, ent_B ho]; rfl) rfl (inb_vp hi) hd (fun H1 locs1 hP1 _ hS1 => kk H1 locs1 ls (by rw [show (ad (l, w, p, e, s, m, args, below, meth, c, r) o) = w.1 o from rfl, hw] at hP1; exact hP1) hS1 hh)
theorem q_last (z : Nat) {o i9 : Nat} (hX : Ok own cc ret lo n nL X) {j : Nat} {i : Int32} {v : Int64} (hj9 : i.toNatClampNeg = j) (ho : AJ lo n o i9) (hi : inb i i9 = true) (hd : decode cc pc = .ok (.lastore, 1)) (hz : pc + 1 = z) (kk : Wat lo n d nL X z lv st (pL S o j v)) : Wat lo n d nL X pc lv (.long v :: .int i :: .ref (ad X o) :: st) S := by
  obtain ⟨l, w, p, e, s, m, args, below, meth, c, r⟩ := X
  obtain ⟨hx, hb, -, -, -, hown, hts, hK, hj⟩ := hX
  subst hz
  subst hj9
  intro H locs ls hP hS hh
  have hw : (ww w lo n S).set (o - lo) (w.1 o, .inl (w.2.2.2.2.1, i9, .inr (.inl (vp_updL (S.2.1 o) i.toNatClampNeg v)))) = ww w lo n (pL S o i.toNatClampNeg v) := ww_set w ho.1 ho.2.1 (by rw [ent_J ho, pL_arr]) (fun _ hj => ent_pL_ne _ S hj)
  exact va_last hx hb hK.1 hP (ww_D S hj) hS (o - lo) 2 (by rw [ww_at w S ho.1 ho.2.1, ent_J ho]; rfl) rfl (inb_vp hi) hd (fun H1 locs1 hP1 _ hS1 => kk H1 locs1 ls (by rw [show (ad (l, w, p, e, s, m, args, below, meth, c, r) o) = w.1 o from rfl, hw] at hP1; exact hP1) hS1 hh)
-- ends
theorem q_iret (hX : Ok own cc (some .int) lo n nL X) {v : Int32} (hq : rs X = (some (.int v), S)) (hd : decode cc pc = .ok (.ireturn, 1)) : Wat lo n d nL X pc lv [.int v] S := by
  obtain ⟨l, w, p, e, s, m, args, below, meth, c, r⟩ := X
  obtain ⟨hx, hb, -, hr, hlk, -⟩ := hX
  have hq : r = (some (.int v), S) := hq
  subst hq
  intro H locs ls hP hS hh
  exact W.iret hx hb hr (fun t ht hW => ⟨⟨rfl, by rw [ht]; exact hP⟩, hS.F ht⟩) hS.2.2 hd hlk
theorem q_zret (hX : Ok own cc (some .boolean) lo n nL X) {v : Int32} (hv : v = 0 ∨ v = 1) (hq : rs X = (some (.int v), S)) (hd : decode cc pc = .ok (.ireturn, 1)) : Wat lo n d nL X pc lv [.int v] S := by
  obtain ⟨l, w, p, e, s, m, args, below, meth, c, r⟩ := X
  obtain ⟨hx, hb, -, hr, hlk, -⟩ := hX
  have hq : r = (some (.int v), S) := hq
  subst hq
  intro H locs ls hP hS hh
  exact W.zret hx hb hr (nar_z rfl hv).1 (fun t ht hW => ⟨⟨rfl, by rw [ht]; exact hP⟩, hS.F ht⟩) hS.2.2 hd hlk
theorem q_lret (hX : Ok own cc (some .long) lo n nL X) {v : Int64} (hq : rs X = (some (.long v), S)) (hd : decode cc pc = .ok (.lreturn, 1)) : Wat lo n d nL X pc lv [.long v] S := by
  obtain ⟨l, w, p, e, s, m, args, below, meth, c, r⟩ := X
  obtain ⟨hx, hb, -, hr, hlk, -⟩ := hX
  have hq : r = (some (.long v), S) := hq
  subst hq
  intro H locs ls hP hS hh
  exact W.lret hx hb hr (fun t ht hW => ⟨⟨rfl, by rw [ht]; exact hP⟩, hS.F ht⟩) hS.2.2 hd hlk
theorem q_vret (hX : Ok own cc none lo n nL X) (hq : rs X = (none, S)) (hd : decode cc pc = .ok (.return_, 1)) : Wat lo n d nL X pc lv [] S := by
  obtain ⟨l, w, p, e, s, m, args, below, meth, c, r⟩ := X
  obtain ⟨hx, hb, -, hr, hlk, -⟩ := hX
  have hq : r = (none, S) := hq
  subst hq
  intro H locs ls hP hS hh
  exact W.vret hx hb hr (fun t ht hW => ⟨⟨rfl, by rw [ht]; exact hP⟩, hS.F ht⟩) hS.2.2 hd hlk
-- Math
abbrev MW (own : String) (idx : Nat) (y : MethodName) (by9 : ByteArray) (k : Nat) : Prop := Cond.methodLink own idx y ∈ Gw ∧ Cond.static y ∈ Gw ∧ Cond.initialized "java/lang/Math" ∈ Gw ∧ Cond.code y by9 k (some .int) ∈ Gw
theorem q_max (z : Nat) (hX : Ok own cc ret lo n nL X) {idx : Nat} {x y : Int32} (hm : MW own idx Lib.Math.max.name Lib.Math.max.code 2) (hr : 1 ≤ d) (hs : (st.map fun v => v.category).sum ≤ 40) (hd : decode cc pc = .ok (.invokestatic idx, 3)) (hz : pc + 3 = z) (kk : Wat lo n d nL X z lv (.int (if x < y then y else x) :: st) S) : Wat lo n d nL X pc lv (.int y :: .int x :: st) S := by
  obtain ⟨l, w, p, e, s, m, args, below, meth, c, r⟩ := X
  obtain ⟨hx, hb, hml, -, -, hown, hts, hK, hj⟩ := hX
  subst hz
  intro H locs ls hP hS hh
  exact va_mmax hx hb (by rw [hml]; exact hh.1.symm) hown (hts _ hm.1) (hts _ hm.2.1) (hts _ hm.2.2.1) (hts _ hm.2.2.2) hr (by show _ ≤ 60 * d; omega) (Nat.le_refl _) (Nat.le_refl _) hd (kk H locs ls hP hS hh)
theorem q_min (z : Nat) (hX : Ok own cc ret lo n nL X) {idx : Nat} {x y : Int32} (hm : MW own idx Lib.Math.min.name Lib.Math.min.code 2) (hr : 1 ≤ d) (hs : (st.map fun v => v.category).sum ≤ 40) (hd : decode cc pc = .ok (.invokestatic idx, 3)) (hz : pc + 3 = z) (kk : Wat lo n d nL X z lv (.int (if y < x then y else x) :: st) S) : Wat lo n d nL X pc lv (.int y :: .int x :: st) S := by
  obtain ⟨l, w, p, e, s, m, args, below, meth, c, r⟩ := X
  obtain ⟨hx, hb, hml, -, -, hown, hts, hK, hj⟩ := hX
  subst hz
  intro H locs ls hP hS hh
  exact va_mmin hx hb (by rw [hml]; exact hh.1.symm) hown (hts _ hm.1) (hts _ hm.2.1) (hts _ hm.2.2.1) (hts _ hm.2.2.2) hr (by show _ ≤ 60 * d; omega) (Nat.le_refl _) (Nat.le_refl _) hd (kk H locs ls hP hS hh)
theorem q_abs (z : Nat) (hX : Ok own cc ret lo n nL X) {idx : Nat} {x : Int32} (hm : MW own idx Lib.Math.abs.name Lib.Math.abs.code 1) (hr : 1 ≤ d) (hs : (st.map fun v => v.category).sum ≤ 40) (hd : decode cc pc = .ok (.invokestatic idx, 3)) (hz : pc + 3 = z) (kk : Wat lo n d nL X z lv (.int (if 0 ≤ x then x else 0 - x) :: st) S) : Wat lo n d nL X pc lv (.int x :: st) S := by
  obtain ⟨l, w, p, e, s, m, args, below, meth, c, r⟩ := X
  obtain ⟨hx, hb, hml, -, -, hown, hts, hK, hj⟩ := hX
  subst hz
  intro H locs ls hP hS hh
  exact va_mabs hx hb (by rw [hml]; exact hh.1.symm) hown (hts _ hm.1) (hts _ hm.2.1) (hts _ hm.2.2.1) (hts _ hm.2.2.2) hr (by show _ ≤ 60 * d; omega) (Nat.le_refl _) (Nat.le_refl _) hd (kk H locs ls hP hS hh)
theorem q_istoreB (z : Nat) (hX : Ok own cc ret lo n nL X) {β : Type} {i : Nat} {x : Int32} {lv0 : List (Nat × Value)} {k : Int32 → Option β} {r : β} (hd : decode cc pc = .ok (.istore i, 2)) (hz : pc + 2 = z) (hn : i < nL) (hl : lv.filter (fun q => !(q.1 == i) && !(q.1 + 1 == i && q.2.category == 2)) = lv0) (hr : bV x k = some r) (kk : ∀ x', k x' = some r → Wat lo n d nL X z ((i, .int x') :: lv0) st S) : Wat lo n d nL X pc lv (.int x :: st) S :=
  q_istore z hX hd hz hn (by rw [hl]) (kk x hr)
theorem q_istoreB_n (z : Nat) (hX : Ok own cc ret lo n nL X) {β : Type} {k9 : Fin 4} {i : Nat} {x : Int32} {lv0 : List (Nat × Value)} {k : Int32 → Option β} {r : β} (hd : decode cc pc = .ok (.istore_n k9, 1)) (hz : pc + 1 = z) (hi : (k9 : Nat) = i) (hn : i < nL) (hl : lv.filter (fun q => !(q.1 == i) && !(q.1 + 1 == i && q.2.category == 2)) = lv0) (hr : bV x k = some r) (kk : ∀ x', k x' = some r → Wat lo n d nL X z ((i, .int x') :: lv0) st S) : Wat lo n d nL X pc lv (.int x :: st) S :=
  q_istore_n z hX hd hz hi hn (by rw [hl]) (kk x hr)
theorem q_iincB (z : Nat) (j : Nat) (hX : Ok own cc ret lo n nL X) {β : Type} {i : Nat} {k9 : Int} {x v : Int32} {lv0 : List (Nat × Value)} {k : Int32 → Option β} {r : β} (hd : decode cc pc = .ok (.iinc i k9, 3)) (hz : pc + 3 = z) (hk : lv[j]? = some (i, .int x)) (hv : Int32.ofInt k9 = v) (hn : i < nL) (hl : lv.filter (fun q => !(q.1 == i) && !(q.1 + 1 == i && q.2.category == 2)) = lv0) (hr : bV (x + v) k = some r) (kk : ∀ x', k x' = some r → Wat lo n d nL X z ((i, .int x') :: lv0) st S) : Wat lo n d nL X pc lv st S :=
  q_iinc z j hX hd hz hk hv hn (by rw [hl]) (kk (x + v) hr)
theorem eqi {e : Int32} {rr : Int32 × St} (hq : rs X = (some (.int rr.1), rr.2)) (h : some (e, S) = some rr) : rs X = (some (.int e), S) := by cases h; exact hq
theorem eql {e : Int64} {rr : Int64 × St} (hq : rs X = (some (.long rr.1), rr.2)) (h : some (e, S) = some rr) : rs X = (some (.long e), S) := by cases h; exact hq
theorem eqv {rr : St} (hq : rs X = (none, rr)) (h : some S = some rr) : rs X = (none, S) := by cases h; exact hq
theorem ne_ti {x c : Int32} {k : Int} (h : ¬ x = c) (hk : c.toInt = k) : x.toInt ≠ k := by
  intro h2
  exact h (Int32.toInt_inj.mp (h2.trans hk.symm))
end QQ
section QC
variable {own : String} {cc : ByteArray} {ret : Option FieldType} {lo n nL d : Nat} {X : CX} {pc : Nat} {lv : List (Nat × Value)} {st : List Value} {S : St}
theorem run_W {p : Program} {l : Launch} {e : Env} {R : Room} {s : State} {m : MethodId} {args : Array Value} {below : List Frame} {meth : Method} {c : Code} {H : Heap} {locs : List Loc} {Q : State → Prop} {ls : Array Slot} {rest st0 : List Value} {a : Array Value} {H0 : Heap} {w : WD} {r : Option Value × St}
    (hr : va_Run p l e R s m args below meth c H locs 0 0 0 0 (F0 m pc ls st0) rest (Rq w lo n r a) (Aw w lo n)) (hS : va_S (Aw w lo n) H0 H locs)
    (kk : ∀ (H1 : Heap) (locs1 : List Loc), va_P w.2.1 vwCl (ww w lo n r.2) H1 → va_S (Aw w lo n) H0 H1 locs1 → W p l e R s m args below meth c H1 locs1 0 0 Q (F0 m (pc + 3) ls (r.1.toList ++ rest))) : W p l e R s m args below meth c H locs 0 0 Q (F0 m pc ls st0) := by
  intro T hT Y
  obtain ⟨v, st₀, t, T', L, h0, Y', hL, e1, e2, ⟨⟨hv, hp⟩, hz, hk⟩, stp⟩ := hr T hT Y
  cases hv
  rw [h0] at hz hk
  obtain ⟨t2, a1, b1⟩ := kk T'.heap (locs ++ L) (by rw [e1]; exact hp)
    ⟨Nat.le_trans hS.1 (by rw [e1]; exact hz), fun q h1 h2 => by rw [e1, hk q (Nat.lt_of_lt_of_le h1 hS.1) h2]; exact hS.2.1 q h1 h2, fun q hq => by
      rcases List.mem_append.mp hq with h | h
      · exact hS.2.2 q h
      · exact hL q h⟩ T' rfl Y'
  exact ⟨t2, stp t2 a1, b1⟩
theorem GwIn {y : MethodName} {cy : ByteArray} {ny : Nat} {rety : Option FieldType} (h : Cond.code y cy ny rety ∈ Gw) : GoodIn Gw (Cond.code y cy ny rety :: Gw) := by
  intro w hw
  rcases List.mem_cons.mp hw with rfl | hw
  · exact ⟨h, Gw_good h⟩
  · exact ⟨hw, Gw_good hw⟩
/-- an instance method of class C that own calls at idx with k arguments -/
abbrev CV (own C : String) (idx : Nat) (y : MethodName) (cy : ByteArray) (ny : Nat) (rety : Option FieldType) (k : Nat) : Prop := (Cond.methodLink own idx y ∈ Gw ∨ ∃ host, Cond.methodLinkNest own idx y host ∈ NW) ∧ Cond.instanceMethod y ∈ Gw ∧ Cond.selects C y y ∈ Gw ∧ Cond.initialized C ∈ Gw ∧ Cond.code y cy ny rety ∈ Gw ∧ y.cls = C ∧ (C ≠ "java/lang/invoke/MethodHandle" ∧ C ≠ "java/lang/invoke/VarHandle" ∧ (parseMethodDescriptor y.desc).map (fun d => d.parameters.length) = some k) ∧ ny ≤ 41
abbrev CS (own C : String) (idx : Nat) (y : MethodName) (cy : ByteArray) (ny : Nat) (rety : Option FieldType) (k : Nat) : Prop := (Cond.methodLink own idx y ∈ Gw ∨ ∃ host, Cond.methodLinkNest own idx y host ∈ NW) ∧ Cond.static y ∈ Gw ∧ Cond.initialized C ∈ Gw ∧ Cond.code y cy ny rety ∈ Gw ∧ y.cls = C ∧ (C ≠ "java/lang/invoke/MethodHandle" ∧ C ≠ "java/lang/invoke/VarHandle" ∧ (parseMethodDescriptor y.desc).map (fun d => d.parameters.length) = some k) ∧ ny ≤ 41
theorem q_callV (z : Nat) (hX : Ok own cc ret lo n nL X) {ci : Nat} {C : String} {T : u_T} {N : Nat} {ty : Nat → FieldType} {idx o dy : Nat} {y : MethodName} {cy : ByteArray} {ny k : Nat} {rety : Option FieldType} {As : List Value} {r : Option Value × St} {st0 : List Value}
    (hM : Ct X.1 y cy ny rety dy X.2.1 lo n (.ref (ad X o) :: As) S r) (hc : CV own C idx y cy ny rety k) (hi : CI ci C T N ty) (ho : OB lo n o ci) (hk : As.length = k) (hdd : dy + 1 ≤ d) (hst : st0 = As.reverse ++ .ref (ad X o) :: st) (hs : (st.map fun v => v.category).sum ≤ 8) (hd : decode cc pc = .ok (.invokevirtual idx, 3)) (hz : pc + 3 = z)
    (kk : Wat lo n d nL X z lv (r.1.toList ++ st) r.2) : Wat lo n d nL X pc lv st0 S := by
  obtain ⟨l, w, p, e, s, m, args, below, meth, c, r9⟩ := X
  obtain ⟨hx, hb, hml, -, -, hown, hts, hK, hj⟩ := hX
  subst hz
  intro H locs ls hP hS hh
  obtain ⟨hl, h1, h2, h3, h4, h5, h6, h7⟩ := hc
  have he : (ww w lo n S)[o - lo]? = some (w.1 o, .inr (ci, (List.range (nf o)).map (fv w S o))) := by rw [ww_at w S ho.1 ho.2.1, ent_O ho]
  have hp : PreV s H C (w.1 o) (va_Pc (.ref (w.1 o) :: As) (fun U => va_P w.2.1 vwCl (ww w lo n S) U.heap ∧ Kk w lo n U)) As := ⟨fun a U g mk q => ⟨q.1, q.2.1, q.2.2.blind⟩, va_recv hK.1 hP hi.1 he, fun U hU hW => ⟨rfl, by rw [hU]; exact hP, hK.warm hS hU hW⟩⟩
  have hR : (rmD dy).frames + 1 ≤ (rmD d).frames ∧ 8 + (ny + 11) + (rmD dy).locals ≤ (rmD d).locals := ⟨hdd, by show 8 + (ny + 11) + 60 * dy ≤ 60 * d; omega⟩
  subst h5
  have hini := hts _ h3
  rcases hl with hl | ⟨host, hl⟩
  · exact run_W (va_runV (rest := st) ⟨hx, hb, hml, hown, hts⟩ hM (by exact ⟨callB_of k hts (GwIn h4) rfl rfl rfl hini (hts _ hl) ⟨h6.1, h6.2.1, h6.2.2⟩ hR, hts _ h1, hts _ h2⟩) hp rfl hk hh.1 hst (lv_room hs) hd ⟨Nat.le_refl _, Nat.le_refl _⟩) hS (fun H1 locs1 hP1 hS1 => kk H1 locs1 ls hP1 hS1 hh)
  · exact run_W (va_runVN (rest := st) ⟨hx, hb, hml, hown, hts⟩ hM ⟨va_cnB (host := host) k hts (GwIn h4) rfl rfl rfl (hK.2.1 _ hl) hini ⟨h6.1, h6.2.1, h6.2.2⟩ hR, hts _ h1, hts _ h2⟩ hp rfl hk hh.1 hst (lv_room hs) hd ⟨Nat.le_refl _, Nat.le_refl _⟩) hS (fun H1 locs1 hP1 hS1 => kk H1 locs1 ls hP1 hS1 hh)
theorem q_callS (z : Nat) (hX : Ok own cc ret lo n nL X) {C : String} {idx dy : Nat} {y : MethodName} {cy : ByteArray} {ny k : Nat} {rety : Option FieldType} {As : List Value} {r : Option Value × St} {st0 : List Value}
    (hM : Ct X.1 y cy ny rety dy X.2.1 lo n As S r) (hc : CS own C idx y cy ny rety k) (hk : As.length = k) (hdd : dy + 1 ≤ d) (hst : st0 = As.reverse ++ st) (hs : (st.map fun v => v.category).sum ≤ 8) (hd : decode cc pc = .ok (.invokestatic idx, 3)) (hz : pc + 3 = z)
    (kk : Wat lo n d nL X z lv (r.1.toList ++ st) r.2) : Wat lo n d nL X pc lv st0 S := by
  obtain ⟨l, w, p, e, s, m, args, below, meth, c, r9⟩ := X
  obtain ⟨hx, hb, hml, -, -, hown, hts, hK, hj⟩ := hX
  subst hz
  intro H locs ls hP hS hh
  obtain ⟨hl, h1, h3, h4, h5, h6, h7⟩ := hc
  have hp : PreS s H (va_Pc As (fun U => va_P w.2.1 vwCl (ww w lo n S) U.heap ∧ Kk w lo n U)) As := ⟨fun a U g mk q => ⟨q.1, q.2.1, q.2.2.blind⟩, fun U hU hW => ⟨rfl, by rw [hU]; exact hP, hK.warm hS hU hW⟩⟩
  have hR : (rmD dy).frames + 1 ≤ (rmD d).frames ∧ 8 + (ny + 11) + (rmD dy).locals ≤ (rmD d).locals := ⟨hdd, by show 8 + (ny + 11) + 60 * dy ≤ 60 * d; omega⟩
  subst h5
  have hini := hts _ h3
  rcases hl with hl | ⟨host, hl⟩
  · exact run_W (va_runS (rest := st) ⟨hx, hb, hml, hown, hts⟩ hM ⟨callB_of k hts (GwIn h4) rfl rfl rfl hini (hts _ hl) ⟨h6.1, h6.2.1, h6.2.2⟩ hR, hts _ h1⟩ hp rfl hk hh.1 hst (lv_room hs) hd ⟨Nat.le_refl _, Nat.le_refl _⟩) hS (fun H1 locs1 hP1 hS1 => kk H1 locs1 ls hP1 hS1 hh)
  · exact run_W (va_runSN (rest := st) ⟨hx, hb, hml, hown, hts⟩ hM ⟨va_cnB (host := host) k hts (GwIn h4) rfl rfl rfl (hK.2.1 _ hl) hini ⟨h6.1, h6.2.1, h6.2.2⟩ hR, hts _ h1, trivial⟩ hp rfl hk hh.1 hst (lv_room hs) hd ⟨Nat.le_refl _, Nat.le_refl _⟩) hS (fun H1 locs1 hP1 hS1 => kk H1 locs1 ls hP1 hS1 hh)
theorem q_callVi (z : Nat) (hX : Ok own cc ret lo n nL X) {ci : Nat} {C : String} {T : u_T} {N : Nat} {ty : Nat → FieldType} {idx o dy : Nat} {y : MethodName} {cy : ByteArray} {ny k : Nat} {rety : Option FieldType} {As : List Value} {v : Int32} {S1 : St} {st0 : List Value}
    (hM : Ct X.1 y cy ny rety dy X.2.1 lo n (.ref (ad X o) :: As) S (some (.int v), S1)) (hc : CV own C idx y cy ny rety k) (hi : CI ci C T N ty) (ho : OB lo n o ci) (hk : As.length = k) (hdd : dy + 1 ≤ d) (hst : st0 = As.reverse ++ .ref (ad X o) :: st) (hs : (st.map fun v => v.category).sum ≤ 8) (hd : decode cc pc = .ok (.invokevirtual idx, 3)) (hz : pc + 3 = z)
    (kk : Wat lo n d nL X z lv (.int v :: st) S1) : Wat lo n d nL X pc lv st0 S := q_callV z hX hM hc hi ho hk hdd hst hs hd hz kk
theorem q_callVl (z : Nat) (hX : Ok own cc ret lo n nL X) {ci : Nat} {C : String} {T : u_T} {N : Nat} {ty : Nat → FieldType} {idx o dy : Nat} {y : MethodName} {cy : ByteArray} {ny k : Nat} {rety : Option FieldType} {As : List Value} {v : Int64} {S1 : St} {st0 : List Value}
    (hM : Ct X.1 y cy ny rety dy X.2.1 lo n (.ref (ad X o) :: As) S (some (.long v), S1)) (hc : CV own C idx y cy ny rety k) (hi : CI ci C T N ty) (ho : OB lo n o ci) (hk : As.length = k) (hdd : dy + 1 ≤ d) (hst : st0 = As.reverse ++ .ref (ad X o) :: st) (hs : (st.map fun v => v.category).sum ≤ 8) (hd : decode cc pc = .ok (.invokevirtual idx, 3)) (hz : pc + 3 = z)
    (kk : Wat lo n d nL X z lv (.long v :: st) S1) : Wat lo n d nL X pc lv st0 S := q_callV z hX hM hc hi ho hk hdd hst hs hd hz kk
theorem q_callVv (z : Nat) (hX : Ok own cc ret lo n nL X) {ci : Nat} {C : String} {T : u_T} {N : Nat} {ty : Nat → FieldType} {idx o dy : Nat} {y : MethodName} {cy : ByteArray} {ny k : Nat} {rety : Option FieldType} {As : List Value} {S1 : St} {st0 : List Value}
    (hM : Ct X.1 y cy ny rety dy X.2.1 lo n (.ref (ad X o) :: As) S (none, S1)) (hc : CV own C idx y cy ny rety k) (hi : CI ci C T N ty) (ho : OB lo n o ci) (hk : As.length = k) (hdd : dy + 1 ≤ d) (hst : st0 = As.reverse ++ .ref (ad X o) :: st) (hs : (st.map fun v => v.category).sum ≤ 8) (hd : decode cc pc = .ok (.invokevirtual idx, 3)) (hz : pc + 3 = z)
    (kk : Wat lo n d nL X z lv st S1) : Wat lo n d nL X pc lv st0 S := q_callV z hX hM hc hi ho hk hdd hst hs hd hz kk
theorem q_callSi (z : Nat) (hX : Ok own cc ret lo n nL X) {C : String} {idx dy : Nat} {y : MethodName} {cy : ByteArray} {ny k : Nat} {rety : Option FieldType} {As : List Value} {v : Int32} {S1 : St} {st0 : List Value}
    (hM : Ct X.1 y cy ny rety dy X.2.1 lo n As S (some (.int v), S1)) (hc : CS own C idx y cy ny rety k) (hk : As.length = k) (hdd : dy + 1 ≤ d) (hst : st0 = As.reverse ++ st) (hs : (st.map fun v => v.category).sum ≤ 8) (hd : decode cc pc = .ok (.invokestatic idx, 3)) (hz : pc + 3 = z)
    (kk : Wat lo n d nL X z lv (.int v :: st) S1) : Wat lo n d nL X pc lv st0 S := q_callS z hX hM hc hk hdd hst hs hd hz kk
theorem q_callSv (z : Nat) (hX : Ok own cc ret lo n nL X) {C : String} {idx dy : Nat} {y : MethodName} {cy : ByteArray} {ny k : Nat} {rety : Option FieldType} {As : List Value} {S1 : St} {st0 : List Value}
    (hM : Ct X.1 y cy ny rety dy X.2.1 lo n As S (none, S1)) (hc : CS own C idx y cy ny rety k) (hk : As.length = k) (hdd : dy + 1 ≤ d) (hst : st0 = As.reverse ++ st) (hs : (st.map fun v => v.category).sum ≤ 8) (hd : decode cc pc = .ok (.invokestatic idx, 3)) (hz : pc + 3 = z)
    (kk : Wat lo n d nL X z lv st S1) : Wat lo n d nL X pc lv st0 S := q_callS z hX hM hc hk hdd hst hs hd hz kk
end QC
