theorem sw90 : Cond.methodLink RL 9 yX11_init ∈ Gw := inGw (in_t1 (List.mem_of_getElem? (i := 24) (by decide +kernel))) (by decide +kernel)
theorem sw91 : Cond.instanceMethod yX11_init ∈ Gw := inGw (in_t1 (List.mem_of_getElem? (i := 25) (by decide +kernel))) (by decide +kernel)
theorem sw92 : Cond.initialized RX11 ∈ Gw := inGw (in_t1 (List.mem_of_getElem? (i := 1) (by decide +kernel))) (by decide +kernel)
theorem sw93 : Cond.code yX11_init cX11_init 2 none ∈ Gw := inGw (in_t1 (List.mem_of_getElem? (i := 26) (by rfl))) (by decide +kernel)
theorem ck_RL_9 : CK RL RX11 9 yX11_init cX11_init 2 0 := ⟨Or.inl sw90, sw91, sw92, sw93, rfl, rfl, by decide +kernel, by decide⟩
theorem sw94 : Cond.methodLink RL 12 yX12_init ∈ Gw := inGw (in_t5 (List.mem_of_getElem? (i := 136) (by decide +kernel))) (by decide +kernel)
theorem sw95 : Cond.instanceMethod yX12_init ∈ Gw := inGw (in_t5 (List.mem_of_getElem? (i := 137) (by decide +kernel))) (by decide +kernel)
theorem sw96 : Cond.initialized RX12 ∈ Gw := inGw (in_t1 (List.mem_of_getElem? (i := 13) (by decide +kernel))) (by decide +kernel)
theorem sw97 : Cond.code yX12_init cX12_init 2 none ∈ Gw := inGw (in_t5 (List.mem_of_getElem? (i := 138) (by rfl))) (by decide +kernel)
theorem ck_RL_12 : CK RL RX12 12 yX12_init cX12_init 2 0 := ⟨Or.inl sw94, sw95, sw96, sw97, rfl, rfl, by decide +kernel, by decide⟩
theorem sw98 : Cond.classLink RL 7 RX11 ∈ Gw := inGw (in_t1 (List.mem_of_getElem? (i := 22) (by decide +kernel))) (by decide +kernel)
theorem sw99 : Cond.classLink RL 10 RX12 ∈ Gw := inGw (in_t5 (List.mem_of_getElem? (i := 134) (by decide +kernel))) (by decide +kernel)
theorem sw910 : Cond.instantiable RX11 15 ∈ Gw := inGw (in_t1 (List.mem_of_getElem? (i := 23) (by decide +kernel))) (by decide +kernel)
theorem sw911 : Cond.instantiable RX12 61 ∈ Gw := inGw (in_t5 (List.mem_of_getElem? (i := 135) (by decide +kernel))) (by decide +kernel)
theorem sw912 : Cond.arrayClass .byte ∈ Gw := inGw (in_t3 (List.mem_of_getElem? (i := 79) (by decide +kernel))) (by decide +kernel)
theorem sw913 : Cond.arrayClass .int ∈ Gw := inGw (in_t1 (List.mem_of_getElem? (i := 43) (by decide +kernel))) (by decide +kernel)
theorem sw914 : Cond.arrayClass .long ∈ Gw := inGw (in_t1 (List.mem_of_getElem? (i := 164) (by decide +kernel))) (by decide +kernel)
theorem sw915 : Cond.instantiable RX0 5 ∈ Gw := inGw (in_t1 (List.mem_of_getElem? (i := 45) (by decide +kernel))) (by decide +kernel)
theorem sw916 : Cond.instantiable RX1 4 ∈ Gw := inGw (in_t1 (List.mem_of_getElem? (i := 146) (by decide +kernel))) (by decide +kernel)
theorem sw917 : Cond.instantiable RX2 11 ∈ Gw := inGw (in_t1 (List.mem_of_getElem? (i := 233) (by decide +kernel))) (by decide +kernel)
theorem sw918 : Cond.instantiable RX3 1 ∈ Gw := inGw (in_t1 (List.mem_of_getElem? (i := 104) (by decide +kernel))) (by decide +kernel)
theorem sw919 : Cond.instantiable RX4 1 ∈ Gw := inGw (in_t1 (List.mem_of_getElem? (i := 114) (by decide +kernel))) (by decide +kernel)
theorem sw920 : Cond.instantiable RX5 4 ∈ Gw := inGw (in_t1 (List.mem_of_getElem? (i := 85) (by decide +kernel))) (by decide +kernel)
theorem sw921 : Cond.instantiable RX6 6 ∈ Gw := inGw (in_t1 (List.mem_of_getElem? (i := 166) (by decide +kernel))) (by decide +kernel)
theorem sw922 : Cond.instantiable RX7 2 ∈ Gw := inGw (in_t1 (List.mem_of_getElem? (i := 31) (by decide +kernel))) (by decide +kernel)
theorem sw923 : Cond.instantiable RX8 9 ∈ Gw := inGw (in_t1 (List.mem_of_getElem? (i := 196) (by decide +kernel))) (by decide +kernel)
theorem sw924 : Cond.instantiable RX9 1 ∈ Gw := inGw (in_t1 (List.mem_of_getElem? (i := 75) (by decide +kernel))) (by decide +kernel)
theorem sw925 : Cond.instantiable RX10 5 ∈ Gw := inGw (in_t1 (List.mem_of_getElem? (i := 124) (by decide +kernel))) (by decide +kernel)
theorem w_callK {p : Program} {l : Launch} {e : Env} {R : Room} {s : State} {m : MethodId} {args : Array Value} {below : List Frame} {meth : Method} {c : Code} {H : Heap} {locs : List Loc} {cells slots pc : Nat} {Q : State → Prop} {ls : Array Slot} {nL : Nat} {own : String} {cc : ByteArray} {A0 : Nat → Prop} {ws wc wr : va_W} {w : WD} (isC isR : List Nat) {C : String} {idx dy mc1 ms1 : Nat} {y : MethodName} {cy : ByteArray} {ny k b : Nat} {As st st0 : List Value} {out1 : va_W → Prop}
    (hx : p.tables.exec = Jvm.exec) (hb : c.code = cc) (hml : c.maxLocals = nL) (hown : s.vm.findClass own = some m.cls) (hts : ∀ q ∈ Gw, q.before args s = true) (hK : va_K w.2.1 vwCl (wtys w) s) (hNw : ∀ q ∈ NW, va_Nw q s) (hA : ∀ q, s.heap.size ≤ q → A0 q) (hP : va_P w.2.1 vwCl ws H) (hD : va_D A0 ws) (hS : va_S A0 s.heap H locs) (hls : ls.size = nL)
    (hM : Kc l y cy ny dy w (.ref b :: As) wc out1 mc1 ms1) (hc : CK own C idx y cy ny k) (hC : isC.map (fun i => ws[i]?) = wc.map some) (hR : isR.map (fun i => ws[i]?) = wr.map some) (hn : va_nd isR = true) (hnC : va_nd isC = true) (hdis : ∀ i ∈ isR, i ∉ isC) (hk : As.length = k) (hdd : dy + 1 ≤ R.frames) (hll : 8 + (ny + 11) + 60 * dy ≤ R.locals) (hst : st0 = As.reverse ++ .ref b :: st) (hs : (st.map fun v => v.category).sum ≤ 8) (hc9 : cells + mc1 ≤ R.cells) (hs9 : slots + ms1 ≤ R.slots) (hd : decode cc pc = .ok (.invokespecial idx, 3))
    (kk : ∀ (w1 : va_W) (H1 : Heap) (locs1 : List Loc), out1 w1 → va_P w.2.1 vwCl (wr ++ w1) H1 → va_D A0 (wr ++ w1) → va_S A0 s.heap H1 locs1 → W p l e R s m args below meth c H1 locs1 (cells + mc1) (slots + ms1) Q (F0 m (pc + 3) ls st)) : W p l e R s m args below meth c H locs cells slots Q (F0 m pc ls st0) := by
  obtain ⟨hl, h1, h3, h4, h5, h8, h6, h7⟩ := hc
  have hPc : va_P w.2.1 vwCl wc H := by
    intro k q hq
    have g1 : (isC.map (fun i => ws[i]?))[k]? = some (some q) := by rw [hC, List.getElem?_map, hq]; rfl
    rw [List.getElem?_map] at g1
    cases hi : isC[k]? with
    | none => rw [hi] at g1; cases g1
    | some i => rw [hi] at g1; exact hP i q (Option.some.inj g1)
  have hDc : va_D A0 wc := hD.sub isC hnC hC
  have hFc := va_free (wc := wc) hD hS hA isC hC
  have hp : PreS s H (va_Pc (.ref b :: As) (fun U => U.heap.size = H.size ∧ va_P w.2.1 vwCl wc U.heap ∧ va_K w.2.1 vwCl (wtys w) U ∧ (∀ q ∈ NW, va_Nw q U) ∧ va_D (fun _ => True) wc)) (.ref b :: As) :=
    ⟨fun a U g mk q => by
      obtain ⟨q0, q1, q2, q3, q4, q5⟩ := q
      exact ⟨q0, q1, q2, va_K.moved (u := U) (U := U.calling g mk a) (Vm.Alike.refl U.vm) q3, fun x hx9 => va_Nw.same (NW_on hx9) (u := U) rfl (q4 x hx9), q5⟩, fun U hU hW => ⟨rfl, by rw [hU], by rw [hU]; exact hPc, va_K.moved hW.alike hK, fun x hx9 => NW_warm hx9 hW (hNw x hx9), hDc.weaken (fun _ _ _ _ => trivial)⟩⟩
  have hR9 : (rmC dy mc1 ms1).frames + 1 ≤ R.frames ∧ 8 + (ny + 11) + (rmC dy mc1 ms1).locals ≤ R.locals := ⟨hdd, hll⟩
  subst h5
  have hini := hts _ h3
  have fin : ∀ (u : va_W) (t : State) (H1 : Heap) (locs1 : List Loc), t.heap = H1 → s.vm.Alike t.vm → out1 u → (va_P w.2.1 vwCl u t.heap ∧ va_D (va_A wc H.size) u) → H.size ≤ H1.size → (∀ q : Nat, q < H.size → ¬ va_A wc H.size q → H1[q]? = H[q]?) → va_S A0 s.heap H1 locs1 → W p l e R s m args below meth c H1 locs1 (cells + mc1) (slots + ms1) Q (F0 m (pc + 3) ls st) := by
    intro u t H1 locs1 ht hvm hw hB hz1 hk1 hS1
    rw [ht] at hB
    obtain ⟨g1, g2⟩ := va_join hP hD isC isR hC hR hn hdis hk1 hFc hB.1 hB.2
    exact kk u H1 locs1 hw g1 g2 hS1
  rcases hl with hl | ⟨host, hl⟩
  · exact va_callv (va_runI (rest := st) ⟨hx, hb, hml, hown, hts⟩ (hM H.size) ⟨callB_of k hts (GwIn h4) rfl rfl rfl hini (hts _ hl) ⟨h6.1, h6.2.1, h6.2.2⟩ hR9, h8, hts _ h1⟩ hp rfl hk hls hst (lv_room hs) hd ⟨hc9, hs9⟩) hS (fun q _ h => hFc q h) hFc fin
  · exact va_callv (va_runIN (rest := st) ⟨hx, hb, hml, hown, hts⟩ (hM H.size) ⟨va_cnB (host := host) k hts (GwIn h4) rfl rfl rfl (hNw _ hl) hini ⟨h6.1, h6.2.1, h6.2.2⟩ hR9, h8, hts _ h1⟩ hp rfl hk hls hst (lv_room hs) hd ⟨hc9, hs9⟩) hS (fun q _ h => hFc q h) hFc fin
def S0 (f : Nat → Int32) : St := (fun o k => if o = 9 then f k else if o = 3 ∧ k = 3 then -1 else if o = 5 ∧ k = 3 then -1 else if (o = 19 ∨ o = 21 ∨ o = 23) ∧ k = 1 then -1 else if (o = 19 ∨ o = 21 ∨ o = 23) ∧ k = 5 then 1 else 0, fun _ _ => 0, fun k => if k = 0 then 25 else if k = 1 then 33 else if k = 2 then 41 else 48)
def M0 (f : Nat → Int32) : St := (fun o k => if o = 59 then f k else if o = 56 then (upd (upd (fun _ => 0) 20 1) 16 (-1)) k else 0, fun _ _ => 0, fun _ => 0)
theorem ww_list {w : WD} {lo n : Nat} {S : St} {L : va_W} (hl : L.length = n) (h : ∀ i, i < n → L[i]? = some (w.1 (lo + i), ent w S (lo + i))) : L = ww w lo n S := by
  apply List.ext_getElem?
  intro i
  by_cases hi : i < n
  · rw [h i hi]
    simp [ww, hi]
  · rw [List.getElem?_eq_none (by omega), List.getElem?_eq_none (by simp [ww]; omega)]
set_option maxRecDepth 20000 in
theorem list_C {D : va_G} {cB cI cJ : ClassId} {sk sv : Nat} {h0 q1 q2 q3 q4 q5 q6 q7 q8 q9 q11 q12 q13 q14 q15 q16 q17 q18 q19 q20 q21 q22 q23 q24 q25 q26 q27 q28 q29 q30 q31 q32 q33 q34 q35 q36 q37 q38 q39 q40 q41 q42 q43 q44 q45 q46 q47 q48 q49 q50 q51 q52 q53 q54 q55 mh0 mq1 mq2 mq3 mq4 mq5 mq6 mq7 mq8 mq9 mq10 mq11 mq12 mq13 mq14 mq15 mq16 mq17 mq18 mq19 mq20 mq21 mq22 mq23 mq24 mq25 mq26 mq27 mq28 mq29 mq30 mq31 mq32 mq33 mq34 mq35 mq36 mq37 mq38 mq39 : Nat} {fq10 : Nat → Int32} : ([(h0, .inr (11, [.ref q1, .ref q4, .ref q5, .ref q7, .ref q8, .ref q11, .ref q16, .ref q20, .ref q22, .ref q24, .ref q26, .ref q34, .ref q42, .ref q49, .int 0])), (q1, .inr (7, [.ref q2, .int 0])), (q2, .inl (cI, 260, .inl (fun _ => 0))), (q3, .inr (0, [.ref q1, .int 0, .int 0, .int (-1), .int 0])), (q4, .inr (9, [.ref q3])), (q5, .inr (5, [.ref q3, .ref q6, .int 0, .int (-1)])), (q6, .inl (cI, 12, .inl (fun _ => 0))), (q7, .inr (3, [.ref q3])), (q8, .inr (4, [.ref q9])), (q9, .inl (cI, 12, .inl fq10)), (q11, .inr (10, [.ref q12, .ref q13, .ref q14, .ref q15, .int 0])), (q12, .inl (cI, 6, .inl (fun _ => 0))), (q13, .inl (cI, 6, .inl (fun _ => 0))), (q14, .inl (cI, 6, .inl (fun _ => 0))), (q15, .inl (cI, 384, .inl (fun _ => 0))), (q16, .inr (1, [.ref q1, .ref q17, .ref q18, .ref q19])), (q17, .inl (cI, 12, .inl (fun _ => 0))), (q18, .inl (cI, 256, .inl (fun _ => 0))), (q19, .inl (cJ, 13, .inr (.inl (fun _ => 0)))), (q20, .inr (6, [.ref q21, .int (-1), .int 0, .int 0, .int 0, .int 1])), (q21, .inl (cI, 16, .inl (fun _ => 0))), (q22, .inr (6, [.ref q23, .int (-1), .int 0, .int 0, .int 0, .int 1])), (q23, .inl (cI, 16, .inl (fun _ => 0))), (q24, .inr (6, [.ref q25, .int (-1), .int 0, .int 0, .int 0, .int 1])), (q25, .inl (cI, 16, .inl (fun _ => 0))), (q26, .inr (8, [.ref q27, .ref q28, .ref q29, .ref q30, .ref q31, .ref q32, .ref q33, .int 0, .int 0])), (q27, .inl (cI, 16, .inl (fun _ => 0))), (q28, .inl (cI, 16, .inl (fun _ => 0))), (q29, .inl (cI, 16, .inl (fun _ => 0))), (q30, .inl (cI, 16, .inl (fun _ => 0))), (q31, .inl (cI, 192, .inl (fun _ => 0))), (q32, .inl (cI, 16, .inl (fun _ => 0))), (q33, .inl (cI, 16, .inl (fun _ => 0))), (q34, .inr (8, [.ref q35, .ref q36, .ref q37, .ref q38, .ref q39, .ref q40, .ref q41, .int 0, .int 0])), (q35, .inl (cI, 16, .inl (fun _ => 0))), (q36, .inl (cI, 16, .inl (fun _ => 0))), (q37, .inl (cI, 16, .inl (fun _ => 0))), (q38, .inl (cI, 16, .inl (fun _ => 0))), (q39, .inl (cI, 192, .inl (fun _ => 0))), (q40, .inl (cI, 16, .inl (fun _ => 0))), (q41, .inl (cI, 16, .inl (fun _ => 0))), (q42, .inr (2, [.ref q43, .ref q44, .ref q45, .ref q46, .ref q47, .ref q48, .int 0, .int 0, .int 0, .int 0, .int 0])), (q43, .inl (cI, 16, .inl (fun _ => 0))), (q44, .inl (cI, 16, .inl (fun _ => 0))), (q45, .inl (cI, 16, .inl (fun _ => 0))), (q46, .inl (cI, 288, .inl (fun _ => 0))), (q47, .inl (cI, 9, .inl (fun _ => 0))), (q48, .inl (cI, 32, .inl (fun _ => 0))), (q49, .inr (2, [.ref q50, .ref q51, .ref q52, .ref q53, .ref q54, .ref q55, .int 0, .int 0, .int 0, .int 0, .int 0])), (q50, .inl (cI, 16, .inl (fun _ => 0))), (q51, .inl (cI, 16, .inl (fun _ => 0))), (q52, .inl (cI, 16, .inl (fun _ => 0))), (q53, .inl (cI, 288, .inl (fun _ => 0))), (q54, .inl (cI, 9, .inl (fun _ => 0))), (q55, .inl (cI, 32, .inl (fun _ => 0)))] : va_W) = ww (((fun o => ([h0, q1, q2, q3, q4, q5, q6, q7, q8, q9, q11, q12, q13, q14, q15, q16, q17, q18, q19, q20, q21, q22, q23, q24, q25, q26, q27, q28, q29, q30, q31, q32, q33, q34, q35, q36, q37, q38, q39, q40, q41, q42, q43, q44, q45, q46, q47, q48, q49, q50, q51, q52, q53, q54, q55, mh0, mq1, mq2, mq3, mq4, mq5, mq6, mq7, mq8, mq9, mq10, mq11, mq12, mq13, mq14, mq15, mq16, mq17, mq18, mq19, mq20, mq21, mq22, mq23, mq24, mq25, mq26, mq27, mq28, mq29, mq30, mq31, mq32, mq33, mq34, mq35, mq36, mq37, mq38, mq39] : List Nat).getD o 0), D, cB, cI, cJ, sk, sv) : WD) 0 55 (S0 fq10) := by
  refine ww_list rfl ?_
  intro i hi
  match i, hi with
  | 0, _ => rfl
  | 1, _ => rfl
  | 2, _ => rfl
  | 3, _ => rfl
  | 4, _ => rfl
  | 5, _ => rfl
  | 6, _ => rfl
  | 7, _ => rfl
  | 8, _ => rfl
  | 9, _ => rfl
  | 10, _ => rfl
  | 11, _ => rfl
  | 12, _ => rfl
  | 13, _ => rfl
  | 14, _ => rfl
  | 15, _ => rfl
  | 16, _ => rfl
  | 17, _ => rfl
  | 18, _ => rfl
  | 19, _ => rfl
  | 20, _ => rfl
  | 21, _ => rfl
  | 22, _ => rfl
  | 23, _ => rfl
  | 24, _ => rfl
  | 25, _ => rfl
  | 26, _ => rfl
  | 27, _ => rfl
  | 28, _ => rfl
  | 29, _ => rfl
  | 30, _ => rfl
  | 31, _ => rfl
  | 32, _ => rfl
  | 33, _ => rfl
  | 34, _ => rfl
  | 35, _ => rfl
  | 36, _ => rfl
  | 37, _ => rfl
  | 38, _ => rfl
  | 39, _ => rfl
  | 40, _ => rfl
  | 41, _ => rfl
  | 42, _ => rfl
  | 43, _ => rfl
  | 44, _ => rfl
  | 45, _ => rfl
  | 46, _ => rfl
  | 47, _ => rfl
  | 48, _ => rfl
  | 49, _ => rfl
  | 50, _ => rfl
  | 51, _ => rfl
  | 52, _ => rfl
  | 53, _ => rfl
  | 54, _ => rfl
  | i + 55, hi => exact absurd hi (by omega)
set_option maxRecDepth 20000 in
theorem list_M {D : va_G} {cB cI cJ : ClassId} {sk sv : Nat} {h0 q1 q2 q3 q4 q5 q6 q7 q8 q9 q11 q12 q13 q14 q15 q16 q17 q18 q19 q20 q21 q22 q23 q24 q25 q26 q27 q28 q29 q30 q31 q32 q33 q34 q35 q36 q37 q38 q39 q40 q41 q42 q43 q44 q45 q46 q47 q48 q49 q50 q51 q52 q53 q54 q55 mh0 mq1 mq2 mq3 mq4 mq5 mq6 mq7 mq8 mq9 mq10 mq11 mq12 mq13 mq14 mq15 mq16 mq17 mq18 mq19 mq20 mq21 mq22 mq23 mq24 mq25 mq26 mq27 mq28 mq29 mq30 mq31 mq32 mq33 mq34 mq35 mq36 mq37 mq38 mq39 : Nat} {fm : Nat → Int32} : ([(mh0, .inr (12, [.ref mq1, .ref mq2, .ref mq3, .ref mq4, .ref mq5, .ref mq6, .ref mq7, .ref mq8, .int 0, .int 0, .ref mq9, .int 0, .int 0, .int 0, .int 0, .int 0, .int 0, .int 0, .int 0, .int 0, .int 0, .ref mq10, .ref mq11, .ref mq12, .ref mq13, .ref mq14, .ref mq15, .ref mq16, .ref mq17, .ref mq18, .ref mq19, .ref mq20, .ref mq21, .ref mq22, .ref mq23, .ref mq24, .ref mq25, .ref mq26, .int 0, .int 0, .int 0, .ref mq27, .ref mq28, .ref mq29, .ref mq30, .ref mq31, .int 0, .int 0, .int 0, .int 0, .int 0, .ref mq32, .ref mq33, .ref mq34, .ref mq35, .ref mq36, .ref mq37, .ref mq38, .ref mq39, .int 0, .int 0])), (mq1, .inl (cI, 21, .inl (upd (upd (fun _ => 0) 20 1) 16 (-1)))), (mq2, .inl (cI, 21, .inl (fun _ => 0))), (mq3, .inl (cI, 21, .inl (fun _ => 0))), (mq4, .inl (cI, 12, .inl fm)), (mq5, .inl (cI, 16, .inl (fun _ => 0))), (mq6, .inl (cI, 16, .inl (fun _ => 0))), (mq7, .inl (cI, 16, .inl (fun _ => 0))), (mq8, .inl (cI, 16, .inl (fun _ => 0))), (mq9, .inl (cB, 260, .inl (fun _ => 0))), (mq10, .inl (cI, 260, .inl (fun _ => 0))), (mq11, .inl (cI, 260, .inl (fun _ => 0))), (mq12, .inl (cI, 16, .inl (fun _ => 0))), (mq13, .inl (cI, 16, .inl (fun _ => 0))), (mq14, .inl (cI, 16, .inl (fun _ => 0))), (mq15, .inl (cI, 16, .inl (fun _ => 0))), (mq16, .inl (cI, 260, .inl (fun _ => 0))), (mq17, .inl (cI, 16, .inl (fun _ => 0))), (mq18, .inl (cI, 16, .inl (fun _ => 0))), (mq19, .inl (cI, 16, .inl (fun _ => 0))), (mq20, .inl (cI, 16, .inl (fun _ => 0))), (mq21, .inl (cI, 260, .inl (fun _ => 0))), (mq22, .inl (cI, 9, .inl (fun _ => 0))), (mq23, .inl (cI, 16, .inl (fun _ => 0))), (mq24, .inl (cI, 16, .inl (fun _ => 0))), (mq25, .inl (cI, 16, .inl (fun _ => 0))), (mq26, .inl (cI, 16, .inl (fun _ => 0))), (mq27, .inl (cI, 12, .inl (fun _ => 0))), (mq28, .inl (cI, 12, .inl (fun _ => 0))), (mq29, .inl (cI, 2, .inl (fun _ => 0))), (mq30, .inl (cI, 2, .inl (fun _ => 0))), (mq31, .inl (cI, 2, .inl (fun _ => 0))), (mq32, .inl (cI, 1088, .inl (fun _ => 0))), (mq33, .inl (cI, 1088, .inl (fun _ => 0))), (mq34, .inl (cI, 16, .inl (fun _ => 0))), (mq35, .inl (cI, 65536, .inl (fun _ => 0))), (mq36, .inl (cI, 144, .inl (fun _ => 0))), (mq37, .inl (cI, 256, .inl (fun _ => 0))), (mq38, .inl (cJ, 13, .inr (.inl (fun _ => 0)))), (mq39, .inl (cJ, 13, .inr (.inl (fun _ => 0))))] : va_W) = ww (((fun o => ([h0, q1, q2, q3, q4, q5, q6, q7, q8, q9, q11, q12, q13, q14, q15, q16, q17, q18, q19, q20, q21, q22, q23, q24, q25, q26, q27, q28, q29, q30, q31, q32, q33, q34, q35, q36, q37, q38, q39, q40, q41, q42, q43, q44, q45, q46, q47, q48, q49, q50, q51, q52, q53, q54, q55, mh0, mq1, mq2, mq3, mq4, mq5, mq6, mq7, mq8, mq9, mq10, mq11, mq12, mq13, mq14, mq15, mq16, mq17, mq18, mq19, mq20, mq21, mq22, mq23, mq24, mq25, mq26, mq27, mq28, mq29, mq30, mq31, mq32, mq33, mq34, mq35, mq36, mq37, mq38, mq39] : List Nat).getD o 0), D, cB, cI, cJ, sk, sv) : WD) 55 40 (M0 fm) := by
  refine ww_list rfl ?_
  intro i hi
  match i, hi with
  | 0, _ => rfl
  | 1, _ => rfl
  | 2, _ => rfl
  | 3, _ => rfl
  | 4, _ => rfl
  | 5, _ => rfl
  | 6, _ => rfl
  | 7, _ => rfl
  | 8, _ => rfl
  | 9, _ => rfl
  | 10, _ => rfl
  | 11, _ => rfl
  | 12, _ => rfl
  | 13, _ => rfl
  | 14, _ => rfl
  | 15, _ => rfl
  | 16, _ => rfl
  | 17, _ => rfl
  | 18, _ => rfl
  | 19, _ => rfl
  | 20, _ => rfl
  | 21, _ => rfl
  | 22, _ => rfl
  | 23, _ => rfl
  | 24, _ => rfl
  | 25, _ => rfl
  | 26, _ => rfl
  | 27, _ => rfl
  | 28, _ => rfl
  | 29, _ => rfl
  | 30, _ => rfl
  | 31, _ => rfl
  | 32, _ => rfl
  | 33, _ => rfl
  | 34, _ => rfl
  | 35, _ => rfl
  | 36, _ => rfl
  | 37, _ => rfl
  | 38, _ => rfl
  | 39, _ => rfl
  | i + 40, hi => exact absurd hi (by omega)
set_option maxHeartbeats 4000000 in
set_option maxRecDepth 100000 in
theorem law_start {Rel : St → St → Prop} (hsim : Sims Rel) (h00 : ∀ f g : Nat → Int32, (∀ i, i < 12 → f i = -1) → (∀ i, i < 12 → g i = -1) → Rel (S0 f) (M0 g)) {p : Program} {e : Env} {s : State} {m : MethodId} {below : List Frame} {meth : Method} {c : Code} (l : Launch) {b L : Nat} {xs : Nat → Int32} (hL : L ≤ 3072) (hx : p.tables.exec = Jvm.exec) (hb : c.code = cL_law) (hr : meth.sig.returnType = some .boolean) (hml : c.maxLocals = 4) (hown : s.vm.findClass RL = some m.cls) (hts9 : ∀ w ∈ lw_tbl, w.before #[Value.ref b] s = true) (hX : va_X b L xs s s.heap) (hbl : b < s.heap.size) (hlocks : meth.locks = false) (hgv : (Jvm.Cond.and given_1 narrow_1).before #[Value.ref b] s = true) : W p l e room_1 s m #[Value.ref b] below meth c s.heap [] 0 0 (lwZ below #[Value.ref b] s) (entryFrame m ([Value.ref b] : List Value).toArray 4) := by
  have hts : ∀ q ∈ Gw, q.before #[Value.ref b] s = true := fun q hq => hts9 q (List.mem_filter.mp hq).1
  have hNw : ∀ q ∈ NW, va_Nw q s := fun q hq => va_Nw.of (NW_on hq) (hts9 q (List.mem_filter.mp hq).1)
  have hA : ∀ q : Nat, s.heap.size ≤ q → bigA s q := fun _ h => h
  obtain ⟨c0, i0, hKn0⟩ := u_known (C := RX0) (T := TX0) (N := 5) (n := 5) hts (fun w h => ci0.2.1 w h) (hts _ sw915)
  obtain ⟨c1, i1, hKn1⟩ := u_known (C := RX1) (T := TX1) (N := 4) (n := 4) hts (fun w h => ci1.2.1 w h) (hts _ sw916)
  obtain ⟨c2, i2, hKn2⟩ := u_known (C := RX2) (T := TX2) (N := 11) (n := 11) hts (fun w h => ci2.2.1 w h) (hts _ sw917)
  obtain ⟨c3, i3, hKn3⟩ := u_known (C := RX3) (T := TX3) (N := 1) (n := 1) hts (fun w h => ci3.2.1 w h) (hts _ sw918)
  obtain ⟨c4, i4, hKn4⟩ := u_known (C := RX4) (T := TX4) (N := 1) (n := 1) hts (fun w h => ci4.2.1 w h) (hts _ sw919)
  obtain ⟨c5, i5, hKn5⟩ := u_known (C := RX5) (T := TX5) (N := 4) (n := 4) hts (fun w h => ci5.2.1 w h) (hts _ sw920)
  obtain ⟨c6, i6, hKn6⟩ := u_known (C := RX6) (T := TX6) (N := 6) (n := 6) hts (fun w h => ci6.2.1 w h) (hts _ sw921)
  obtain ⟨c7, i7, hKn7⟩ := u_known (C := RX7) (T := TX7) (N := 2) (n := 2) hts (fun w h => ci7.2.1 w h) (hts _ sw922)
  obtain ⟨c8, i8, hKn8⟩ := u_known (C := RX8) (T := TX8) (N := 9) (n := 9) hts (fun w h => ci8.2.1 w h) (hts _ sw923)
  obtain ⟨c9, i9, hKn9⟩ := u_known (C := RX9) (T := TX9) (N := 1) (n := 1) hts (fun w h => ci9.2.1 w h) (hts _ sw924)
  obtain ⟨c10, i10, hKn10⟩ := u_known (C := RX10) (T := TX10) (N := 5) (n := 5) hts (fun w h => ci10.2.1 w h) (hts _ sw925)
  obtain ⟨c11, i11, hKn11⟩ := u_known (C := RX11) (T := TX11) (N := 15) (n := 15) hts (fun w h => ci11.2.1 w h) (hts _ sw910)
  obtain ⟨c12, i12, hKn12⟩ := u_known (C := RX12) (T := TX12) (N := 61) (n := 61) hts (fun w h => ci12.2.1 w h) (hts _ sw911)
  obtain ⟨dC, dI, hKc⟩ : ∃ (dC : Nat → ClassId) (dI : Nat → Nat → Nat), ∀ (k : Nat) (q : vw_C), vwCl[k]? = some q → u_Kn s q.1 q.2.1 q.2.2 (dC k) (dI k) := by
    refine ⟨fun k => if k = 0 then c0 else if k = 1 then c1 else if k = 2 then c2 else if k = 3 then c3 else if k = 4 then c4 else if k = 5 then c5 else if k = 6 then c6 else if k = 7 then c7 else if k = 8 then c8 else if k = 9 then c9 else if k = 10 then c10 else if k = 11 then c11 else c12, fun k => if k = 0 then i0 else if k = 1 then i1 else if k = 2 then i2 else if k = 3 then i3 else if k = 4 then i4 else if k = 5 then i5 else if k = 6 then i6 else if k = 7 then i7 else if k = 8 then i8 else if k = 9 then i9 else if k = 10 then i10 else if k = 11 then i11 else i12, ?_⟩
    intro k q hq
    match k, hq with
    | 0, hq => cases hq; exact hKn0
    | 1, hq => cases hq; exact hKn1
    | 2, hq => cases hq; exact hKn2
    | 3, hq => cases hq; exact hKn3
    | 4, hq => cases hq; exact hKn4
    | 5, hq => cases hq; exact hKn5
    | 6, hq => cases hq; exact hKn6
    | 7, hq => cases hq; exact hKn7
    | 8, hq => cases hq; exact hKn8
    | 9, hq => cases hq; exact hKn9
    | 10, hq => cases hq; exact hKn10
    | 11, hq => cases hq; exact hKn11
    | 12, hq => cases hq; exact hKn12
    | k + 13, hq => simp [vwCl] at hq
  obtain ⟨cB, kB, mB, hfB, hkB, hkdB⟩ := Cond.arrayClass_spec (hts _ sw912)
  obtain ⟨cI, kI, mI, hfI, hkI, hkdI⟩ := Cond.arrayClass_spec (hts _ sw913)
  obtain ⟨cJ, kJ, mJ, hfJ, hkJ, hkdJ⟩ := Cond.arrayClass_spec (hts _ sw914)
  have hK0 : va_K (dC, dI) vwCl [(cB, .byte), (cI, .int), (cJ, .long)] s := by
    refine ⟨hKc, fun k q hq => ?_⟩
    match k, hq with
    | 0, hq => cases hq; exact ⟨fun n z => ⟨fun k h => (by cases h), kB, hkB, mB, hkdB⟩, hfB⟩
    | 1, hq => cases hq; exact ⟨fun n z => ⟨fun k h => (by cases h), kI, hkI, mI, hkdI⟩, hfI⟩
    | 2, hq => cases hq; exact ⟨fun n z => ⟨fun k h => (by cases h), kJ, hkJ, mJ, hkdJ⟩, hfJ⟩
    | k + 3, hq => simp at hq
  have hfl := flat_of_before _ hgv
  obtain ⟨adK, adV, hvk, hev⟩ := vk_Sof (args := #[Value.ref b]) (s := s) (N := 1) (tm := fun _ => Term.string RX3 106) (len := lenS) (byt := bytS) (A := bigA s) (by decide) (fun i hi => hfl _ (by decide +kernel)) (fun i hi => hfl _ (by decide +kernel)) (fun i hi => hfl _ (by decide +kernel))
    (fun i hi => by
      have : i = 0 := by omega
      subst this
      exact hfl _ (by decide +kernel))
    (fun i hi j hj => by
      have : i = 0 := by omega
      subst this
      have hj : j < 9 := hj
      match j, hj with
      | 0, _ => exact hfl _ (by decide +kernel)
      | 1, _ => exact hfl _ (by decide +kernel)
      | 2, _ => exact hfl _ (by decide +kernel)
      | 3, _ => exact hfl _ (by decide +kernel)
      | 4, _ => exact hfl _ (by decide +kernel)
      | 5, _ => exact hfl _ (by decide +kernel)
      | 6, _ => exact hfl _ (by decide +kernel)
      | 7, _ => exact hfl _ (by decide +kernel)
      | 8, _ => exact hfl _ (by decide +kernel)
      | j + 9, hj => exact absurd hj (by omega))
    (fun i j hi hj h => absurd (show i = j by omega) h) (fun a ha => Nat.not_le.mpr ha)
  have hSt : va_Z "java/lang/String" "COMPACT_STRINGS" "Z" (.int 1) (bigA s) s s.heap := va_Zof (hts9 _ (in_t2 (List.mem_of_getElem? (i := 185) (by decide +kernel)))) (hts9 _ (in_t1 (List.mem_of_getElem? (i := 14) (by decide +kernel)))) (va_eqi (hfl _ (by decide +kernel))) (fun a ha => Nat.not_le.mpr ha)
  have hRf : vk_R RX3 106 "hgsdnbktw" (adK 0) s := vk_R.of (hts9 _ (in_t2 (List.mem_of_getElem? (i := 171) (by decide +kernel)))) (hev 0 (by decide))
  have hE : (fun _ : Nat => adK 0) = adK ∨ True := Or.inr trivial
  have hvk1 : vk_S 1 lenS bytS (fun _ => adK 0) (fun _ => adV 0) (bigA s) s s.heap := by
    refine ⟨fun i hi => ?_, fun i j hi hj _ => by omega⟩
    have : i = 0 := by omega
    subst this
    exact hvk.1 0 (by decide)
  let w0 : WD := ((fun _ => 0), (dC, dI), cB, cI, cJ, adK 0, adV 0)
  have hS : va_S (bigA s) s.heap s.heap [] := va_S.rf
  have hP : va_P (dC, dI) vwCl [] s.heap := fun k q h => by simp at h
  have hD : va_D (bigA s) [] := ⟨fun i j p q h => by simp at h, fun k q h => by simp at h⟩
  have hl := lv_entry ([.ref b]) (n := 4) (Nat.le_of_ble_eq_true rfl)
  rw [lg_entry_eq]
  generalize (lg_sl ([.ref b]) ++ List.replicate (4 - (lg_sl ([.ref b])).length) Slot.unset).toArray = ls at hl ⊢
  have hl : lv_has ls 4 [(0, .ref b)] := hl
  refine va_new (ci := 11) (fs := [.null, .null, .null, .null, .null, .null, .null, .null, .null, .null, .null, .null, .null, .null, .int 0]) hx hb hts ci11.2.1 tyX11 ci11.2.2.1 hown (hts _ sw98) (hts _ sw910) (hts _ sw92) hK0 hP hD hS hA ci11.1 (by decide +kernel) (Nat.le_of_ble_eq_true rfl) (Nat.le_of_ble_eq_true rfl) dL_law_0 (fun h0 H hP hD hS => ?_)
  refine lv_dup hx hb dL_law_3 rfl ?_
  refine w_callK (w := w0) [0] [] (wr := []) (st := [.ref h0]) (As := []) hx hb hml hown hts hK0 hNw hA hP hD hS hl.1 (kX11_init h0) ck_RL_9 rfl rfl (by decide) (by decide) (by decide) rfl (Nat.le_of_ble_eq_true rfl) (Nat.le_of_ble_eq_true rfl) rfl (Nat.le_of_ble_eq_true rfl) (Nat.le_of_ble_eq_true rfl) (Nat.le_of_ble_eq_true rfl) dL_law_4 ?_
  rintro w1 H1 locs1 ⟨q1, q2, q3, q4, q5, q6, q7, q8, q9, q11, q12, q13, q14, q15, q16, q17, q18, q19, q20, q21, q22, q23, q24, q25, q26, q27, q28, q29, q30, q31, q32, q33, q34, q35, q36, q37, q38, q39, q40, q41, q42, q43, q44, q45, q46, q47, q48, q49, q50, q51, q52, q53, q54, q55, fq10, hfC, rfl⟩ hP hD hS
  refine lv_astore_n (lv' := [(1, .ref h0), (0, .ref b)]) hx hb dL_law_7 rfl hl (by decide) rfl (fun ls hl => ?_)
  refine va_new (ci := 12) (fs := [.null, .null, .null, .null, .null, .null, .null, .null, .int 0, .int 0, .null, .int 0, .int 0, .int 0, .int 0, .int 0, .int 0, .int 0, .int 0, .int 0, .int 0, .null, .null, .null, .null, .null, .null, .null, .null, .null, .null, .null, .null, .null, .null, .null, .null, .null, .int 0, .int 0, .int 0, .null, .null, .null, .null, .null, .int 0, .int 0, .int 0, .int 0, .int 0, .null, .null, .null, .null, .null, .null, .null, .null, .int 0, .int 0]) hx hb hts ci12.2.1 tyX12 ci12.2.2.1 hown (hts _ sw99) (hts _ sw911) (hts _ sw96) hK0 hP hD hS hA ci12.1 (by decide +kernel) (Nat.le_of_ble_eq_true rfl) (Nat.le_of_ble_eq_true rfl) dL_law_8 (fun mh0 H hP hD hS => ?_)
  refine lv_dup hx hb dL_law_11 rfl ?_
  refine w_callK (w := w0) [55] [0, 1, 2, 3, 4, 5, 6, 7, 8, 9, 10, 11, 12, 13, 14, 15, 16, 17, 18, 19, 20, 21, 22, 23, 24, 25, 26, 27, 28, 29, 30, 31, 32, 33, 34, 35, 36, 37, 38, 39, 40, 41, 42, 43, 44, 45, 46, 47, 48, 49, 50, 51, 52, 53, 54] (wr := [(h0, .inr (11, [.ref q1, .ref q4, .ref q5, .ref q7, .ref q8, .ref q11, .ref q16, .ref q20, .ref q22, .ref q24, .ref q26, .ref q34, .ref q42, .ref q49, .int 0])), (q1, .inr (7, [.ref q2, .int 0])), (q2, .inl (cI, 260, .inl (fun _ => 0))), (q3, .inr (0, [.ref q1, .int 0, .int 0, .int (-1), .int 0])), (q4, .inr (9, [.ref q3])), (q5, .inr (5, [.ref q3, .ref q6, .int 0, .int (-1)])), (q6, .inl (cI, 12, .inl (fun _ => 0))), (q7, .inr (3, [.ref q3])), (q8, .inr (4, [.ref q9])), (q9, .inl (cI, 12, .inl fq10)), (q11, .inr (10, [.ref q12, .ref q13, .ref q14, .ref q15, .int 0])), (q12, .inl (cI, 6, .inl (fun _ => 0))), (q13, .inl (cI, 6, .inl (fun _ => 0))), (q14, .inl (cI, 6, .inl (fun _ => 0))), (q15, .inl (cI, 384, .inl (fun _ => 0))), (q16, .inr (1, [.ref q1, .ref q17, .ref q18, .ref q19])), (q17, .inl (cI, 12, .inl (fun _ => 0))), (q18, .inl (cI, 256, .inl (fun _ => 0))), (q19, .inl (cJ, 13, .inr (.inl (fun _ => 0)))), (q20, .inr (6, [.ref q21, .int (-1), .int 0, .int 0, .int 0, .int 1])), (q21, .inl (cI, 16, .inl (fun _ => 0))), (q22, .inr (6, [.ref q23, .int (-1), .int 0, .int 0, .int 0, .int 1])), (q23, .inl (cI, 16, .inl (fun _ => 0))), (q24, .inr (6, [.ref q25, .int (-1), .int 0, .int 0, .int 0, .int 1])), (q25, .inl (cI, 16, .inl (fun _ => 0))), (q26, .inr (8, [.ref q27, .ref q28, .ref q29, .ref q30, .ref q31, .ref q32, .ref q33, .int 0, .int 0])), (q27, .inl (cI, 16, .inl (fun _ => 0))), (q28, .inl (cI, 16, .inl (fun _ => 0))), (q29, .inl (cI, 16, .inl (fun _ => 0))), (q30, .inl (cI, 16, .inl (fun _ => 0))), (q31, .inl (cI, 192, .inl (fun _ => 0))), (q32, .inl (cI, 16, .inl (fun _ => 0))), (q33, .inl (cI, 16, .inl (fun _ => 0))), (q34, .inr (8, [.ref q35, .ref q36, .ref q37, .ref q38, .ref q39, .ref q40, .ref q41, .int 0, .int 0])), (q35, .inl (cI, 16, .inl (fun _ => 0))), (q36, .inl (cI, 16, .inl (fun _ => 0))), (q37, .inl (cI, 16, .inl (fun _ => 0))), (q38, .inl (cI, 16, .inl (fun _ => 0))), (q39, .inl (cI, 192, .inl (fun _ => 0))), (q40, .inl (cI, 16, .inl (fun _ => 0))), (q41, .inl (cI, 16, .inl (fun _ => 0))), (q42, .inr (2, [.ref q43, .ref q44, .ref q45, .ref q46, .ref q47, .ref q48, .int 0, .int 0, .int 0, .int 0, .int 0])), (q43, .inl (cI, 16, .inl (fun _ => 0))), (q44, .inl (cI, 16, .inl (fun _ => 0))), (q45, .inl (cI, 16, .inl (fun _ => 0))), (q46, .inl (cI, 288, .inl (fun _ => 0))), (q47, .inl (cI, 9, .inl (fun _ => 0))), (q48, .inl (cI, 32, .inl (fun _ => 0))), (q49, .inr (2, [.ref q50, .ref q51, .ref q52, .ref q53, .ref q54, .ref q55, .int 0, .int 0, .int 0, .int 0, .int 0])), (q50, .inl (cI, 16, .inl (fun _ => 0))), (q51, .inl (cI, 16, .inl (fun _ => 0))), (q52, .inl (cI, 16, .inl (fun _ => 0))), (q53, .inl (cI, 288, .inl (fun _ => 0))), (q54, .inl (cI, 9, .inl (fun _ => 0))), (q55, .inl (cI, 32, .inl (fun _ => 0)))]) (st := [.ref mh0]) (As := []) hx hb hml hown hts hK0 hNw hA hP hD hS hl.1 (kX12_init mh0) ck_RL_12 rfl rfl (by decide) (by decide) (by decide) rfl (Nat.le_of_ble_eq_true rfl) (Nat.le_of_ble_eq_true rfl) rfl (Nat.le_of_ble_eq_true rfl) (Nat.le_of_ble_eq_true rfl) (Nat.le_of_ble_eq_true rfl) dL_law_12 ?_
  rintro w1 H1 locs1 ⟨mq1, mq2, mq3, mq4, mq5, mq6, mq7, mq8, mq9, mq10, mq11, mq12, mq13, mq14, mq15, mq16, mq17, mq18, mq19, mq20, mq21, mq22, mq23, mq24, mq25, mq26, mq27, mq28, mq29, mq30, mq31, mq32, mq33, mq34, mq35, mq36, mq37, mq38, mq39, fm, hfM, rfl⟩ hP hD hS
  refine lv_astore_n (lv' := [(2, .ref mh0), (1, .ref h0), (0, .ref b)]) hx hb dL_law_15 rfl hl (by decide) rfl (fun ls hl => ?_)
  refine lv_iconst (v := 0) hx hb dL_law_16 (by decide) ?_
  refine lv_istore_n (lv' := [(3, .int 0), (2, .ref mh0), (1, .ref h0), (0, .ref b)]) hx hb dL_law_17 rfl hl (by decide) rfl (fun ls hl => ?_)
  let w : WD := ((fun o => ([h0, q1, q2, q3, q4, q5, q6, q7, q8, q9, q11, q12, q13, q14, q15, q16, q17, q18, q19, q20, q21, q22, q23, q24, q25, q26, q27, q28, q29, q30, q31, q32, q33, q34, q35, q36, q37, q38, q39, q40, q41, q42, q43, q44, q45, q46, q47, q48, q49, q50, q51, q52, q53, q54, q55, mh0, mq1, mq2, mq3, mq4, mq5, mq6, mq7, mq8, mq9, mq10, mq11, mq12, mq13, mq14, mq15, mq16, mq17, mq18, mq19, mq20, mq21, mq22, mq23, mq24, mq25, mq26, mq27, mq28, mq29, mq30, mq31, mq32, mq33, mq34, mq35, mq36, mq37, mq38, mq39] : List Nat).getD o 0), (dC, dI), cB, cI, cJ, adK 0, adV 0)
  have hwl : ([(h0, .inr (11, [.ref q1, .ref q4, .ref q5, .ref q7, .ref q8, .ref q11, .ref q16, .ref q20, .ref q22, .ref q24, .ref q26, .ref q34, .ref q42, .ref q49, .int 0])), (q1, .inr (7, [.ref q2, .int 0])), (q2, .inl (cI, 260, .inl (fun _ => 0))), (q3, .inr (0, [.ref q1, .int 0, .int 0, .int (-1), .int 0])), (q4, .inr (9, [.ref q3])), (q5, .inr (5, [.ref q3, .ref q6, .int 0, .int (-1)])), (q6, .inl (cI, 12, .inl (fun _ => 0))), (q7, .inr (3, [.ref q3])), (q8, .inr (4, [.ref q9])), (q9, .inl (cI, 12, .inl fq10)), (q11, .inr (10, [.ref q12, .ref q13, .ref q14, .ref q15, .int 0])), (q12, .inl (cI, 6, .inl (fun _ => 0))), (q13, .inl (cI, 6, .inl (fun _ => 0))), (q14, .inl (cI, 6, .inl (fun _ => 0))), (q15, .inl (cI, 384, .inl (fun _ => 0))), (q16, .inr (1, [.ref q1, .ref q17, .ref q18, .ref q19])), (q17, .inl (cI, 12, .inl (fun _ => 0))), (q18, .inl (cI, 256, .inl (fun _ => 0))), (q19, .inl (cJ, 13, .inr (.inl (fun _ => 0)))), (q20, .inr (6, [.ref q21, .int (-1), .int 0, .int 0, .int 0, .int 1])), (q21, .inl (cI, 16, .inl (fun _ => 0))), (q22, .inr (6, [.ref q23, .int (-1), .int 0, .int 0, .int 0, .int 1])), (q23, .inl (cI, 16, .inl (fun _ => 0))), (q24, .inr (6, [.ref q25, .int (-1), .int 0, .int 0, .int 0, .int 1])), (q25, .inl (cI, 16, .inl (fun _ => 0))), (q26, .inr (8, [.ref q27, .ref q28, .ref q29, .ref q30, .ref q31, .ref q32, .ref q33, .int 0, .int 0])), (q27, .inl (cI, 16, .inl (fun _ => 0))), (q28, .inl (cI, 16, .inl (fun _ => 0))), (q29, .inl (cI, 16, .inl (fun _ => 0))), (q30, .inl (cI, 16, .inl (fun _ => 0))), (q31, .inl (cI, 192, .inl (fun _ => 0))), (q32, .inl (cI, 16, .inl (fun _ => 0))), (q33, .inl (cI, 16, .inl (fun _ => 0))), (q34, .inr (8, [.ref q35, .ref q36, .ref q37, .ref q38, .ref q39, .ref q40, .ref q41, .int 0, .int 0])), (q35, .inl (cI, 16, .inl (fun _ => 0))), (q36, .inl (cI, 16, .inl (fun _ => 0))), (q37, .inl (cI, 16, .inl (fun _ => 0))), (q38, .inl (cI, 16, .inl (fun _ => 0))), (q39, .inl (cI, 192, .inl (fun _ => 0))), (q40, .inl (cI, 16, .inl (fun _ => 0))), (q41, .inl (cI, 16, .inl (fun _ => 0))), (q42, .inr (2, [.ref q43, .ref q44, .ref q45, .ref q46, .ref q47, .ref q48, .int 0, .int 0, .int 0, .int 0, .int 0])), (q43, .inl (cI, 16, .inl (fun _ => 0))), (q44, .inl (cI, 16, .inl (fun _ => 0))), (q45, .inl (cI, 16, .inl (fun _ => 0))), (q46, .inl (cI, 288, .inl (fun _ => 0))), (q47, .inl (cI, 9, .inl (fun _ => 0))), (q48, .inl (cI, 32, .inl (fun _ => 0))), (q49, .inr (2, [.ref q50, .ref q51, .ref q52, .ref q53, .ref q54, .ref q55, .int 0, .int 0, .int 0, .int 0, .int 0])), (q50, .inl (cI, 16, .inl (fun _ => 0))), (q51, .inl (cI, 16, .inl (fun _ => 0))), (q52, .inl (cI, 16, .inl (fun _ => 0))), (q53, .inl (cI, 288, .inl (fun _ => 0))), (q54, .inl (cI, 9, .inl (fun _ => 0))), (q55, .inl (cI, 32, .inl (fun _ => 0)))] : va_W) ++ [(mh0, .inr (12, [.ref mq1, .ref mq2, .ref mq3, .ref mq4, .ref mq5, .ref mq6, .ref mq7, .ref mq8, .int 0, .int 0, .ref mq9, .int 0, .int 0, .int 0, .int 0, .int 0, .int 0, .int 0, .int 0, .int 0, .int 0, .ref mq10, .ref mq11, .ref mq12, .ref mq13, .ref mq14, .ref mq15, .ref mq16, .ref mq17, .ref mq18, .ref mq19, .ref mq20, .ref mq21, .ref mq22, .ref mq23, .ref mq24, .ref mq25, .ref mq26, .int 0, .int 0, .int 0, .ref mq27, .ref mq28, .ref mq29, .ref mq30, .ref mq31, .int 0, .int 0, .int 0, .int 0, .int 0, .ref mq32, .ref mq33, .ref mq34, .ref mq35, .ref mq36, .ref mq37, .ref mq38, .ref mq39, .int 0, .int 0])), (mq1, .inl (cI, 21, .inl (upd (upd (fun _ => 0) 20 1) 16 (-1)))), (mq2, .inl (cI, 21, .inl (fun _ => 0))), (mq3, .inl (cI, 21, .inl (fun _ => 0))), (mq4, .inl (cI, 12, .inl fm)), (mq5, .inl (cI, 16, .inl (fun _ => 0))), (mq6, .inl (cI, 16, .inl (fun _ => 0))), (mq7, .inl (cI, 16, .inl (fun _ => 0))), (mq8, .inl (cI, 16, .inl (fun _ => 0))), (mq9, .inl (cB, 260, .inl (fun _ => 0))), (mq10, .inl (cI, 260, .inl (fun _ => 0))), (mq11, .inl (cI, 260, .inl (fun _ => 0))), (mq12, .inl (cI, 16, .inl (fun _ => 0))), (mq13, .inl (cI, 16, .inl (fun _ => 0))), (mq14, .inl (cI, 16, .inl (fun _ => 0))), (mq15, .inl (cI, 16, .inl (fun _ => 0))), (mq16, .inl (cI, 260, .inl (fun _ => 0))), (mq17, .inl (cI, 16, .inl (fun _ => 0))), (mq18, .inl (cI, 16, .inl (fun _ => 0))), (mq19, .inl (cI, 16, .inl (fun _ => 0))), (mq20, .inl (cI, 16, .inl (fun _ => 0))), (mq21, .inl (cI, 260, .inl (fun _ => 0))), (mq22, .inl (cI, 9, .inl (fun _ => 0))), (mq23, .inl (cI, 16, .inl (fun _ => 0))), (mq24, .inl (cI, 16, .inl (fun _ => 0))), (mq25, .inl (cI, 16, .inl (fun _ => 0))), (mq26, .inl (cI, 16, .inl (fun _ => 0))), (mq27, .inl (cI, 12, .inl (fun _ => 0))), (mq28, .inl (cI, 12, .inl (fun _ => 0))), (mq29, .inl (cI, 2, .inl (fun _ => 0))), (mq30, .inl (cI, 2, .inl (fun _ => 0))), (mq31, .inl (cI, 2, .inl (fun _ => 0))), (mq32, .inl (cI, 1088, .inl (fun _ => 0))), (mq33, .inl (cI, 1088, .inl (fun _ => 0))), (mq34, .inl (cI, 16, .inl (fun _ => 0))), (mq35, .inl (cI, 65536, .inl (fun _ => 0))), (mq36, .inl (cI, 144, .inl (fun _ => 0))), (mq37, .inl (cI, 256, .inl (fun _ => 0))), (mq38, .inl (cJ, 13, .inr (.inl (fun _ => 0)))), (mq39, .inl (cJ, 13, .inr (.inl (fun _ => 0))))] = ww w 0 55 (S0 fq10) ++ ww w 55 40 (M0 fm) := congr (congrArg _ (list_C (D := (dC, dI)))) (list_M (D := (dC, dI)))
  have hP : va_P (dC, dI) vwCl (ww w 0 55 (S0 fq10) ++ ww w 55 40 (M0 fm)) H1 := by rw [← hwl]; exact hP
  have hD : va_D (bigA s) (ww w 0 55 (S0 fq10) ++ ww w 55 40 (M0 fm)) := by rw [← hwl]; exact hD
  have hlen : (ww w 0 55 (S0 fq10)).length = 55 := by simp [ww]
  have hlenM : (ww w 55 40 (M0 fm)).length = 40 := by simp [ww]
  have hat : ∀ i, i < 95 → ∃ x, (ww w 0 55 (S0 fq10) ++ ww w 55 40 (M0 fm))[i]? = some (w.1 i, x) := by
    intro i hi
    by_cases h : i < 55
    · rw [List.getElem?_append_left (by rw [hlen]; exact h)]
      have := ww_at w (lo := 0) (n := 55) (o := i) (S0 fq10) (by omega) (by omega)
      exact ⟨_, this⟩
    · rw [List.getElem?_append_right (by rw [hlen]; omega), hlen]
      have := ww_at w (lo := 55) (n := 40) (o := i) (M0 fm) (by omega) (by omega)
      exact ⟨_, this⟩
  have hPC : va_P (dC, dI) vwCl (ww w 0 55 (S0 fq10)) H1 := fun k q hq => hP k q (by
    have h := (List.getElem?_eq_some_iff.mp hq).1
    rw [List.getElem?_append_left h]; exact hq)
  have hPM : va_P (dC, dI) vwCl (ww w 55 40 (M0 fm)) H1 := fun k q hq => hP (55 + k) q (by
    rw [List.getElem?_append_right (by rw [hlen]; omega), hlen, show 55 + k - 55 = k by omega]; exact hq)
  have hDj : Dj w 0 95 := by
    intro i j hi hj e
    rw [Nat.zero_add, Nat.zero_add] at e
    obtain ⟨x, hx9⟩ := hat i hi
    obtain ⟨y, hy9⟩ := hat j hj
    exact hD.1 i j _ _ hx9 hy9 e
  have hbig : ∀ o, o < 95 → s.heap.size ≤ w.1 o := by
    intro o ho
    obtain ⟨x, hx9⟩ := hat o ho
    exact hD.2 o _ hx9
  refine W.widen (k := 200) (n := 80000) (Nat.le_of_ble_eq_true rfl) (Nat.le_of_ble_eq_true rfl) ?_
  have hXX : LOk (l, w, p, e, s, m, below, meth, c, b, L, xs) := ⟨hx, hb, hml, hr, hlocks, hown, hts, hK0, hNw, ⟨hvk1, hRf, hSt⟩, hX, hbl, hDj, hbig, hL⟩
  exact law_loop hXX hsim 600 0 (show L < 0 + 6 * 600 by omega) (by decide) (S0 fq10) (M0 fm) (h00 _ _ hfC hfM) H1 locs1 ls hPC hPM hS hl
