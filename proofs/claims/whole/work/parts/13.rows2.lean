section QD
variable {own : String} {cc : ByteArray} {ret : Option FieldType} {nL d : Nat} {X : CX} {pc : Nat} {lv : List (Nat × Value)} {st : List Value} {S : St}
theorem getD_in {α : Type} {l : List α} {b : Nat} {x : α} (hb : b < l.length) : l.getD b x ∈ l := by
  rw [List.getD_eq_getElem?_getD, List.getElem?_eq_getElem hb]
  exact List.getElem_mem hb
theorem ft_dyn : ∀ o, o ≠ 0 → ∀ b, (ft o b).1 ≠ 2 := by
  have h1 : ∀ o, o < 95 → o ≠ 0 → ∀ q ∈ ftL.getD o [], q.1 ≠ 2 := by decide +kernel
  intro o ho b
  by_cases h : o < 95
  · unfold ft
    by_cases hb : b < (ftL.getD o []).length
    · have := h1 o h ho ((ftL.getD o []).getD b (0, 0)) (getD_in hb)
      exact this
    · rw [List.getD_eq_getElem?_getD, List.getElem?_eq_none (by omega)]
      decide
  · have h2 : ftL.getD o [] = [] := by
      rw [List.getD_eq_getElem?_getD, List.getElem?_eq_none]
      · rfl
      · have : ftL.length = 95 := by decide
        omega
    unfold ft
    rw [h2]
    simp
theorem ent_pR_ne (w : WD) (S : St) {k v : Nat} {j : Nat} (h : j ≠ 0) : ent w (pR S k v) j = ent w S j := by
  have e2 : fv w (pR S k v) j = fv w S j := by
    funext b
    have := ft_dyn j h b
    by_cases h0 : (ft j b).1 = 0
    · simp [fv, h0, pR]
    · by_cases h1 : (ft j b).1 = 1
      · simp [fv, h1]
      · have h2 : ¬ (ft j b).1 = 2 := this
        have h3 : ∀ q ∈ ftL.getD j [], q.1 ≤ 2 := by
          intro q hq
          by_cases hj : j < 95
          · exact (show ∀ o, o < 95 → ∀ q ∈ ftL.getD o [], q.1 ≤ 2 from by decide +kernel) j hj q hq
          · have : ftL.getD j [] = [] := by
              rw [List.getD_eq_getElem?_getD, List.getElem?_eq_none]
              · rfl
              · have : ftL.length = 95 := by decide
                omega
            rw [this] at hq
            cases hq
        have h4 : (ft j b).1 ≤ 2 := by
          unfold ft
          by_cases hb : b < (ftL.getD j []).length
          · exact h3 _ (getD_in hb)
          · rw [List.getD_eq_getElem?_getD, List.getElem?_eq_none (by omega)]
            decide
        omega
  unfold ent
  rw [e2]
  rfl
theorem nar_r {t : FieldType} {C : String} {a : Nat} (h : t = .object C) : narrow t (.ref a) = .ref a ∧ fits t (.ref a) = true := by subst h; exact ⟨rfl, rfl⟩
theorem fv_pR (w : WD) (S : St) {k j v : Nat} (hk : k < nf 0) (h2 : (ft 0 k).1 = 2) (hj : (ft 0 k).2 = j) (hne : ∀ b, b < nf 0 → b ≠ k → (ft 0 b).1 = 2 → (ft 0 b).2 ≠ j) : (List.range (nf 0)).map (fv w (pR S j v) 0) = ((List.range (nf 0)).map (fv w S 0)).set k (.ref (w.1 v)) := by
  symm
  apply List.ext_getElem?
  intro b
  by_cases hb2 : b = k
  · subst hb2
    rw [List.getElem?_set_self (by simpa using hk)]
    simp [hk, fv, h2, hj, pR]
  · rw [List.getElem?_set_ne (Ne.symm hb2)]
    by_cases hn : b < nf 0
    · have h9 := hne b hn hb2
      by_cases h0 : (ft 0 b).1 = 0
      · simp [hn, fv, h0, pR]
      · by_cases h1 : (ft 0 b).1 = 1
        · simp [hn, fv, h1]
        · have : (ft 0 b).1 = 2 := by
            have h5 : ∀ b, b < nf 0 → (ft 0 b).1 ≤ 2 := by decide +kernel
            have := h5 b hn
            omega
          simp [hn, fv, this, pR, h9 this]
    · simp [hn]
theorem q_putD10 (z : Nat) (hX : Ok own cc ret 0 55 nL X) {idx v : Nat} (hc : CI 11 RX11 TX11 15 tyX11) (hL : LF own idx RX11 TX11 15 10 false) (hd : decode cc pc = .ok (.putfield idx, 3)) (hz : pc + 3 = z) (kk : Wat 0 55 d nL X z lv st (pR S 0 v)) : Wat 0 55 d nL X pc lv (.ref (ad X v) :: .ref (ad X 0) :: st) S :=
  q_putV z hX hc hL (by decide) (by decide) (nar_r (C := "SharedWindow$Terrace") rfl).1 (nar_r (C := "SharedWindow$Terrace") rfl).2 (fv_pR _ S (by decide) (by decide) (by decide) (by decide)) (fun _ hj => ent_pR_ne _ S hj) hd hz kk
theorem q_putD11 (z : Nat) (hX : Ok own cc ret 0 55 nL X) {idx v : Nat} (hc : CI 11 RX11 TX11 15 tyX11) (hL : LF own idx RX11 TX11 15 11 false) (hd : decode cc pc = .ok (.putfield idx, 3)) (hz : pc + 3 = z) (kk : Wat 0 55 d nL X z lv st (pR S 1 v)) : Wat 0 55 d nL X pc lv (.ref (ad X v) :: .ref (ad X 0) :: st) S :=
  q_putV z hX hc hL (by decide) (by decide) (nar_r (C := "SharedWindow$Terrace") rfl).1 (nar_r (C := "SharedWindow$Terrace") rfl).2 (fv_pR _ S (by decide) (by decide) (by decide) (by decide)) (fun _ hj => ent_pR_ne _ S hj) hd hz kk
theorem q_putD12 (z : Nat) (hX : Ok own cc ret 0 55 nL X) {idx v : Nat} (hc : CI 11 RX11 TX11 15 tyX11) (hL : LF own idx RX11 TX11 15 12 false) (hd : decode cc pc = .ok (.putfield idx, 3)) (hz : pc + 3 = z) (kk : Wat 0 55 d nL X z lv st (pR S 2 v)) : Wat 0 55 d nL X pc lv (.ref (ad X v) :: .ref (ad X 0) :: st) S :=
  q_putV z hX hc hL (by decide) (by decide) (nar_r (C := "SharedWindow$Law") rfl).1 (nar_r (C := "SharedWindow$Law") rfl).2 (fv_pR _ S (by decide) (by decide) (by decide) (by decide)) (fun _ hj => ent_pR_ne _ S hj) hd hz kk
theorem q_putD13 (z : Nat) (hX : Ok own cc ret 0 55 nL X) {idx v : Nat} (hc : CI 11 RX11 TX11 15 tyX11) (hL : LF own idx RX11 TX11 15 13 false) (hd : decode cc pc = .ok (.putfield idx, 3)) (hz : pc + 3 = z) (kk : Wat 0 55 d nL X z lv st (pR S 3 v)) : Wat 0 55 d nL X pc lv (.ref (ad X v) :: .ref (ad X 0) :: st) S :=
  q_putV z hX hc hL (by decide) (by decide) (nar_r (C := "SharedWindow$Law") rfl).1 (nar_r (C := "SharedWindow$Law") rfl).2 (fv_pR _ S (by decide) (by decide) (by decide) (by decide)) (fun _ hj => ent_pR_ne _ S hj) hd hz kk
theorem ent_cp_ne (w : WD) (S : St) {o o2 n : Nat} {j : Nat} (h : j ≠ o2) : ent w (cpA S o o2 n) j = ent w S j := by
  have e1 : (cpA S o o2 n).1 j = S.1 j := by funext b; simp [cpA, h]
  have e2 : fv w (cpA S o o2 n) j = fv w S j := by
    funext b
    simp only [fv, e1]
    rfl
  unfold ent
  rw [e1, e2]
  rfl
theorem q_copy16 (z : Nat) (hX : Ok own cc ret 0 55 nL X) {o o2 idx : Nat} (h1 : AI 0 55 o 16) (h2 : AI 0 55 o2 16) (hw : Cond.methodLink own idx arraycopyName ∈ Gw ∧ Cond.native arraycopyName ∈ Gw ∧ Cond.static arraycopyName ∈ Gw ∧ Cond.initialized "java/lang/System" ∈ Gw) (hr : 1 ≤ d) (hd : decode cc pc = .ok (.invokestatic idx, 3)) (hz : pc + 3 = z) (kk : Wat 0 55 d nL X z lv [] (cpA S o o2 16)) : Wat 0 55 d nL X pc lv [.int 16, .int 0, .ref (ad X o2), .int 0, .ref (ad X o)] S := by
  obtain ⟨l, w, p, e, s, m, args, below, meth, c, r⟩ := X
  obtain ⟨hx, hb, hml, -, -, hown, hts, hK, hj⟩ := hX
  subst hz
  intro H locs ls hP hS hh
  have e0 : (ww w 0 55 S)[o - 0]? = some (w.1 o, .inl (w.2.2.2.1, 16, .inl (S.1 o))) := by rw [ww_at w S h1.1 h1.2.1, ent_I h1]
  have e2 : (ww w 0 55 S)[o2 - 0]? = some (w.1 o2, .inl (w.2.2.2.1, 16, .inl (S.1 o2))) := by rw [ww_at w S h2.1 h2.2.1, ent_I h2]
  have hw2 : (ww w 0 55 S).set (o2 - 0) (w.1 o2, .inl (w.2.2.2.1, 16, .inl (va_cpy (S.1 o) (S.1 o2) (0 : Int32).toNatClampNeg (0 : Int32).toNatClampNeg (16 : Int32).toNatClampNeg))) = ww w 0 55 (cpA S o o2 16) := by
    refine ww_set w h2.1 h2.2.1 ?_ (fun _ hj => ent_cp_ne _ S hj)
    rw [ent_I h2]
    have : (cpA S o o2 16).1 o2 = va_cpy (S.1 o) (S.1 o2) (0 : Int32).toNatClampNeg (0 : Int32).toNatClampNeg (16 : Int32).toNatClampNeg := by
      funext b
      have a1 : (0 : Int32).toNatClampNeg = 0 := by decide
      have a2 : (16 : Int32).toNatClampNeg = 16 := by decide
      simp [cpA, va_cpy, a1, a2]
    rw [this]
  refine va_copyi hx hb (by rw [hml]; exact hh.1.symm) hown (hts _ hw.1) (hts _ hw.2.1) (hts _ hw.2.2.1) (hts _ hw.2.2.2) hK.1 hP (ww_D S hj) hS (o - 0) (o2 - 0) 1 1 e0 e2 rfl rfl (by decide) (by decide) (by decide) (by decide) (by decide) (by decide) (fun i hi => rfl) hr ?_ hd (fun H1 locs1 hP1 _ hS1 => kk H1 locs1 ls (by rw [hw2] at hP1; exact hP1) hS1 hh)
  show _ ≤ 60 * d
  have : (([] : List Value).map fun v => v.category).sum + (nativeFrameWords "java/lang/System" "arraycopy" 5 + 11) ≤ 60 := by decide +kernel
  omega
end QD
-- the one String constant
def sK (X : CX) : Nat := X.2.1.2.2.2.2.2.1
def sV (X : CX) : Nat := X.2.1.2.2.2.2.2.2
def strB (j : Nat) : Int32 := (bytS.getD 0 []).getD j 0
section QS
variable {own : String} {cc : ByteArray} {ret : Option FieldType} {lo n nL d : Nat} {X : CX} {pc : Nat} {lv : List (Nat × Value)} {st : List Value} {S : St}
theorem q_ldcS (z : Nat) (hX : Ok RX3 cc ret lo n nL X) (hd : decode cc pc = .ok (.ldc 106, 2)) (hz : pc + 2 = z) (kk : Wat lo n d nL X z lv (.ref (sK X) :: st) S) : Wat lo n d nL X pc lv st S := by
  obtain ⟨l, w, p, e, s, m, args, below, meth, c, r⟩ := X
  obtain ⟨hx, hb, -, -, -, hown, hts, hK, hj⟩ := hX
  subst hz
  intro H locs ls hP hS hh
  exact va_ldcS hx hb hown hK.2.2.2.1 hd (kk H locs ls hP hS hh)
theorem q_sCoder (z : Nat) (hX : Ok own cc ret lo n nL X) {idx : Nat} (hw : Cond.fieldLink own idx "java/lang/String" "coder" "B" ∈ Gw) (hd : decode cc pc = .ok (.getfield idx, 3)) (hz : pc + 3 = z) (kk : Wat lo n d nL X z lv (.int 0 :: st) S) : Wat lo n d nL X pc lv (.ref (sK X) :: st) S := by
  obtain ⟨l, w, p, e, s, m, args, below, meth, c, r⟩ := X
  obtain ⟨hx, hb, -, -, -, hown, hts, hK, hj⟩ := hX
  subst hz
  intro H locs ls hP hS hh
  exact vk_getf hx hb (hK.2.2.1.1 0 (by decide)).2.1 hS hown (hts _ hw) (fun _ h => h) hd (kk H locs ls hP hS hh)
theorem q_sValue (z : Nat) (hX : Ok own cc ret lo n nL X) {idx : Nat} (hw : Cond.fieldLink own idx "java/lang/String" "value" "[B" ∈ Gw) (hd : decode cc pc = .ok (.getfield idx, 3)) (hz : pc + 3 = z) (kk : Wat lo n d nL X z lv (.ref (sV X) :: st) S) : Wat lo n d nL X pc lv (.ref (sK X) :: st) S := by
  obtain ⟨l, w, p, e, s, m, args, below, meth, c, r⟩ := X
  obtain ⟨hx, hb, -, -, -, hown, hts, hK, hj⟩ := hX
  subst hz
  intro H locs ls hP hS hh
  exact vk_getf hx hb (hK.2.2.1.1 0 (by decide)).2.2.1 hS hown (hts _ hw) (fun _ h => h) hd (kk H locs ls hP hS hh)
theorem q_sStat (z : Nat) (hX : Ok own cc ret lo n nL X) {idx : Nat} (hw : Cond.fieldLink own idx "java/lang/String" "COMPACT_STRINGS" "Z" ∈ Gw) (hd : decode cc pc = .ok (.getstatic idx, 3)) (hz : pc + 3 = z) (kk : Wat lo n d nL X z lv (.int 1 :: st) S) : Wat lo n d nL X pc lv st S := by
  obtain ⟨l, w, p, e, s, m, args, below, meth, c, r⟩ := X
  obtain ⟨hx, hb, -, -, -, hown, hts, hK, hj⟩ := hX
  subst hz
  intro H locs ls hP hS hh
  exact va_gets hx hb hK.2.2.2.2 hS hown (hts _ hw) (fun _ h => h) hd (kk H locs ls hP hS hh)
theorem q_sLen (z : Nat) (hX : Ok own cc ret lo n nL X) (hd : decode cc pc = .ok (.arraylength, 1)) (hz : pc + 1 = z) (kk : Wat lo n d nL X z lv (.int 9 :: st) S) : Wat lo n d nL X pc lv (.ref (sV X) :: st) S := by
  obtain ⟨l, w, p, e, s, m, args, below, meth, c, r⟩ := X
  obtain ⟨hx, hb, -, -, -, hown, hts, hK, hj⟩ := hX
  subst hz
  intro H locs ls hP hS hh
  exact va_tlen hx hb (hK.2.2.1.1 0 (by decide)).2.2.2 hS (by decide) hd (kk H locs ls hP hS hh)
theorem q_sByte (z : Nat) (hX : Ok own cc ret lo n nL X) {i : Int32} {j : Nat} (hj9 : i.toNatClampNeg = j) (hi : inb i 9 = true) (hd : decode cc pc = .ok (.baload, 1)) (hz : pc + 1 = z) (kk : Wat lo n d nL X z lv (.int (strB j) :: st) S) : Wat lo n d nL X pc lv (.int i :: .ref (sV X) :: st) S := by
  obtain ⟨l, w, p, e, s, m, args, below, meth, c, r⟩ := X
  obtain ⟨hx, hb, -, -, -, hown, hts, hK, hj⟩ := hX
  subst hz
  subst hj9
  intro H locs ls hP hS hh
  exact va_tb hx hb (hK.2.2.1.1 0 (by decide)).2.2.2 hS (inb_vp hi) rfl hd (kk H locs ls hP hS hh)
theorem q_bret (hX : Ok own cc (some .byte) lo n nL X) {v : Int32} (hv : narrow .byte (.int v) = .int v) (hq : rs X = (some (.int v), S)) (hd : decode cc pc = .ok (.ireturn, 1)) : Wat lo n d nL X pc lv [.int v] S := by
  obtain ⟨l, w, p, e, s, m, args, below, meth, c, r⟩ := X
  obtain ⟨hx, hb, -, hr, hlk, -⟩ := hX
  have hq : r = (some (.int v), S) := hq
  subst hq
  intro H locs ls hP hS hh
  exact W.zret hx hb hr hv (fun t ht hW => ⟨⟨rfl, by rw [ht]; exact hP⟩, hS.F ht⟩) hS.2.2 hd hlk
theorem q_callKi (z : Nat) (hX : Ok own cc ret lo n nL X) {idx dy : Nat} {y : MethodName} {cy : ByteArray} {ny k : Nat} {rety : Option FieldType} {As : List Value} {v : Int32} {S1 : St} {st0 : List Value}
    (hM : Ct X.1 y cy ny rety dy X.2.1 lo n (.ref (sK X) :: As) S (some (.int v), S1)) (hc : CV own "java/lang/String" idx y cy ny rety k) (hk : As.length = k) (hdd : dy + 1 ≤ d) (hst : st0 = As.reverse ++ .ref (sK X) :: st) (hs : (st.map fun v => v.category).sum ≤ 8) (hd : decode cc pc = .ok (.invokevirtual idx, 3)) (hz : pc + 3 = z)
    (kk : Wat lo n d nL X z lv (.int v :: st) S1) : Wat lo n d nL X pc lv st0 S := by
  obtain ⟨l, w, p, e, s, m, args, below, meth, c, r9⟩ := X
  obtain ⟨hx, hb, hml, -, -, hown, hts, hK, hj⟩ := hX
  subst hz
  intro H locs ls hP hS hh
  obtain ⟨hl, h1, h2, h3, h4, h5, h6, h7⟩ := hc
  have hp : PreV s H "java/lang/String" w.2.2.2.2.2.1 (va_Pc (.ref w.2.2.2.2.2.1 :: As) (fun U => va_P w.2.1 vwCl (ww w lo n S) U.heap ∧ Kk w lo n U)) As := ⟨fun a U g mk q => ⟨q.1, q.2.1, q.2.2.blind⟩, vk_recv (i := 0) hK.2.2.1 (by decide) hS, fun U hU hW => ⟨rfl, by rw [hU]; exact hP, hK.warm hS hU hW⟩⟩
  have hR : (rmD dy).frames + 1 ≤ (rmD d).frames ∧ 8 + (ny + 11) + (rmD dy).locals ≤ (rmD d).locals := ⟨hdd, by show 8 + (ny + 11) + 60 * dy ≤ 60 * d; omega⟩
  have hini := hts _ h3
  rw [← h5] at hini
  rcases hl with hl | ⟨host, hl⟩
  · exact run_W (va_runV (rest := st) ⟨hx, hb, hml, hown, hts⟩ hM (by exact ⟨callB_of k hts (GwIn h4) rfl rfl rfl hini (hts _ hl) ⟨by rw [h5]; exact h6.1, by rw [h5]; exact h6.2.1, h6.2.2⟩ hR, hts _ h1, hts _ h2⟩) hp rfl hk hh.1 hst (lv_room hs) hd ⟨Nat.le_refl _, Nat.le_refl _⟩) hS (fun H1 locs1 hP1 hS1 => kk H1 locs1 ls hP1 hS1 hh)
  · exact run_W (va_runVN (rest := st) ⟨hx, hb, hml, hown, hts⟩ hM ⟨va_cnB (host := host) k hts (GwIn h4) rfl rfl rfl (hK.2.1 _ hl) hini ⟨by rw [h5]; exact h6.1, by rw [h5]; exact h6.2.1, h6.2.2⟩ hR, hts _ h1, hts _ h2⟩ hp rfl hk hh.1 hst (lv_room hs) hd ⟨Nat.le_refl _, Nat.le_refl _⟩) hS (fun H1 locs1 hP1 hS1 => kk H1 locs1 ls hP1 hS1 hh)
end QS
