set_option maxHeartbeats 4000000 in
set_option maxRecDepth 100000 in
/-- byte b of a word -/
theorem c_Si_codeAt (l : Launch) (dC : Nat → ClassId) (dI : Nat → Nat → Nat) (ky : ClassId) (sz : Nat) (w : Nat) (b : Nat) (hw : w < 2 ^ 64) (hb8 : b < 8) : Met l y_Si_codeAt (Cond.code y_Si_codeAt prog_1_method_24_code 3 (some .int) :: W0) ({ frames := 0, cells := 0, slots := 0, locals := 0 }) (va_Pc [.long (lN w), .int (nI b)] (fun U => U.heap.size = sz ∧ va_P (dC, dI) cls_ [] U.heap ∧ va_K (dC, dI) cls_ [(ky, .int)] U ∧ va_D (fun _ => True) [])) (va_Qi (fun (r : Int32) (_ : Unit) => r = nI (by8 w b) ∧ (True)) (fun (_ : Unit) (t : State) => va_P (dC, dI) cls_ [] t.heap ∧ va_D (va_A [] sz) []) (va_A [] sz)) 0 0 (va_A [] sz) := by
  refine Met.ofW (cc := prog_1_method_24_code) (maxL := 3) (ret := (some .int)) (by decide) rfl ?_
  intro p e s m args below meth c s₁ B hml hv
  obtain ⟨rfl, hsz, hP, hK, hD0⟩ := hv
  have hx := B.exec
  have hb := B.bytes
  have hr := B.returns
  have hlocks := B.notSynchronized
  have hts := atoms_spec (ws := (Cond.code y_Si_codeAt prog_1_method_24_code 3 (some .int) :: W0)) B.pre
  have htb : ∀ w ∈ W0, w.before _ s = true := fun w h => hts w (List.mem_cons_of_mem _ h)
  have hown : s.vm.findClass "SelfIndexedSequences" = some m.cls := findClass_of_methodNamed B.named
  subst hsz
  have hD := hD0.self (sz := s.heap.size)
  generalize hAe : va_A [] s.heap.size = A at hD ⊢
  have hA : ∀ q : Nat, s.heap.size ≤ q → A q := fun q h => by rw [← hAe]; exact Or.inr h
  have hS : va_S A s.heap s.heap [] := va_S.rf
  have hl := lv_entry ([.long (lN w), .int (nI b)]) (n := 3) (Nat.le_of_ble_eq_true rfl)
  rw [lg_entry_eq]
  generalize (lg_sl ([.long (lN w), .int (nI b)]) ++ List.replicate (3 - (lg_sl ([.long (lN w), .int (nI b)])).length) Slot.unset).toArray = ls at hl ⊢
  have hl : lv_has ls 3 [(0, .long (lN w)), (2, .int (nI b))] := hl
  refine lv_lload_n hx hb d_Si_codeAt_0 rfl (lv_at hl 0 rfl) ?_
  refine lv_bipush (v := nI 8) hx hb d_Si_codeAt_1 (by decide) ?_
  refine lv_iload_n hx hb d_Si_codeAt_3 rfl (lv_at hl 1 rfl) ?_
  refine lv_imul hx hb d_Si_codeAt_4 ?_
  rw [pk_mul]
  refine lv_lushr hx hb d_Si_codeAt_5 rfl ?_
  refine lv_l2i hx hb d_Si_codeAt_6 rfl ?_
  refine lv_sipush (v := nI 255) hx hb d_Si_codeAt_7 (by decide) ?_
  refine lv_iand hx hb d_Si_codeAt_10 ?_
  rw [show ((((lN w).toUInt64 >>> ((nI (8 * b)).toInt64.toUInt64 &&& Int64.toUInt64 63)).toInt64).toInt32) &&& (nI 255) = nI (by8 w b) from cd_at hw hb8]
  have hP9 := hP.sub (ws' := []) [] rfl
  have hD9 := hD.sub (ws' := []) [] (by decide) rfl
  exact W.iret (v := nI (by8 w b)) hx hb hr (fun t ht hW => ⟨⟨nI (by8 w b), (), rfl, ⟨(by first | rfl | (congr 1; omega) | (simp; done)), (by first | trivial | assumption | omega)⟩, by rw [ht]; exact hP9, hD9⟩, hS.F ht⟩) hS.2.2 d_Si_codeAt_11

set_option maxHeartbeats 4000000 in
set_option maxRecDepth 100000 in
/-- the code of a symbol -/
theorem c_Si_codeOf (l : Launch) (dC : Nat → ClassId) (dI : Nat → Nat → Nat) (ky : ClassId) (sz : Nat) (cs : Nat) (hc : cs < 28) : Met l y_Si_codeOf (Cond.code y_Si_codeOf prog_1_method_27_code 1 (some .int) :: W0) ({ frames := 0, cells := 0, slots := 0, locals := 0 }) (va_Pc [.int (nI cs)] (fun U => U.heap.size = sz ∧ va_P (dC, dI) cls_ [] U.heap ∧ va_K (dC, dI) cls_ [(ky, .int)] U ∧ va_D (fun _ => True) [])) (va_Qi (fun (r : Int32) (_ : Unit) => r = nI (cod cs) ∧ (True)) (fun (_ : Unit) (t : State) => va_P (dC, dI) cls_ [] t.heap ∧ va_D (va_A [] sz) []) (va_A [] sz)) 0 0 (va_A [] sz) := by
  refine Met.ofW (cc := prog_1_method_27_code) (maxL := 1) (ret := (some .int)) (by decide) rfl ?_
  intro p e s m args below meth c s₁ B hml hv
  obtain ⟨rfl, hsz, hP, hK, hD0⟩ := hv
  have hx := B.exec
  have hb := B.bytes
  have hr := B.returns
  have hlocks := B.notSynchronized
  have hts := atoms_spec (ws := (Cond.code y_Si_codeOf prog_1_method_27_code 1 (some .int) :: W0)) B.pre
  have htb : ∀ w ∈ W0, w.before _ s = true := fun w h => hts w (List.mem_cons_of_mem _ h)
  have hown : s.vm.findClass "SelfIndexedSequences" = some m.cls := findClass_of_methodNamed B.named
  subst hsz
  have hD := hD0.self (sz := s.heap.size)
  generalize hAe : va_A [] s.heap.size = A at hD ⊢
  have hA : ∀ q : Nat, s.heap.size ≤ q → A q := fun q h => by rw [← hAe]; exact Or.inr h
  have hS : va_S A s.heap s.heap [] := va_S.rf
  have hl := lv_entry ([.int (nI cs)]) (n := 1) (Nat.le_of_ble_eq_true rfl)
  rw [lg_entry_eq]
  generalize (lg_sl ([.int (nI cs)]) ++ List.replicate (1 - (lg_sl ([.int (nI cs)])).length) Slot.unset).toArray = ls at hl ⊢
  have hl : lv_has ls 1 [(0, .int (nI cs))] := hl
  refine lv_iload_n hx hb d_Si_codeOf_0 rfl (lv_at hl 0 rfl) ?_
  refine lv_if_ne (tgt := 7) hx hb d_Si_codeOf_1 (by decide) (fun hc1 => ?_) (fun hc1 => ?_)
  · skip
    rw [← nI_0, bw_eq_nn (by omega) (by omega)] at hc1
    refine lv_iload_n hx hb d_Si_codeOf_7 rfl (lv_at hl 0 rfl) ?_
    refine lv_iconst (v := nI 1) hx hb d_Si_codeOf_8 (by decide) ?_
    refine lv_icmp_ne (tgt := 17) hx hb d_Si_codeOf_9 (by decide) (fun hc9 => ?_) (fun hc9 => ?_)
    · skip
      rw [bw_eq_nn (by omega) (by omega)] at hc9
      refine lv_bipush (v := nI 97) hx hb d_Si_codeOf_17 (by decide) ?_
      refine lv_iload_n hx hb d_Si_codeOf_19 rfl (lv_at hl 0 rfl) ?_
      refine lv_iadd hx hb d_Si_codeOf_20 ?_
      rw [nI_add]
      refine lv_iconst (v := nI 2) hx hb d_Si_codeOf_21 (by decide) ?_
      refine lv_isub hx hb d_Si_codeOf_22 ?_
      rw [pk_sub (show 2 ≤ (97 + cs) by omega)]
      have hP9 := hP.sub (ws' := []) [] rfl
      have hD9 := hD.sub (ws' := []) [] (by decide) rfl
      exact W.iret (v := nI ((97 + cs) - 2)) hx hb hr (fun t ht hW => ⟨⟨nI ((97 + cs) - 2), (), rfl, ⟨(by congr 1; unfold cod; (repeat' split) <;> omega), (by first | trivial | assumption | omega)⟩, by rw [ht]; exact hP9, hD9⟩, hS.F ht⟩) hS.2.2 d_Si_codeOf_23
    · skip
      rw [bw_eq_nn (by omega) (by omega)] at hc9
      refine lv_bipush (v := nI 124) hx hb d_Si_codeOf_12 (by decide) ?_
      refine lv_goto (tgt := 23) hx hb d_Si_codeOf_14 (by decide) ?_
      have hP9 := hP.sub (ws' := []) [] rfl
      have hD9 := hD.sub (ws' := []) [] (by decide) rfl
      exact W.iret (v := nI 124) hx hb hr (fun t ht hW => ⟨⟨nI 124, (), rfl, ⟨(by congr 1; unfold cod; (repeat' split) <;> omega), (by first | trivial | assumption | omega)⟩, by rw [ht]; exact hP9, hD9⟩, hS.F ht⟩) hS.2.2 d_Si_codeOf_23
  · skip
    rw [← nI_0, bw_eq_nn (by omega) (by omega)] at hc1
    refine lv_bipush (v := nI 36) hx hb d_Si_codeOf_4 (by decide) ?_
    have hP9 := hP.sub (ws' := []) [] rfl
    have hD9 := hD.sub (ws' := []) [] (by decide) rfl
    exact W.iret (v := nI 36) hx hb hr (fun t ht hW => ⟨⟨nI 36, (), rfl, ⟨(by congr 1; unfold cod; (repeat' split) <;> omega), (by first | trivial | assumption | omega)⟩, by rw [ht]; exact hP9, hD9⟩, hS.F ht⟩) hS.2.2 d_Si_codeOf_6

set_option maxHeartbeats 4000000 in
set_option maxRecDepth 100000 in
/-- the code of a symbol in byte b -/
theorem c_Si_codeInByte (l : Launch) (dC : Nat → ClassId) (dI : Nat → Nat → Nat) (ky : ClassId) (sz : Nat) (cs : Nat) (b : Nat) (hc : cs < 28) (hb8 : b < 8) : Met l y_Si_codeInByte (Cond.code y_Si_codeInByte prog_1_method_25_code 2 (some .long) :: W0) ({ frames := 1, cells := 0, slots := 0, locals := 20 }) (va_Pc [.int (nI cs), .int (nI b)] (fun U => U.heap.size = sz ∧ va_P (dC, dI) cls_ [] U.heap ∧ va_K (dC, dI) cls_ [(ky, .int)] U ∧ va_D (fun _ => True) [])) (va_Ql (fun (r : Int64) (_ : Unit) => r = lN (cod cs * 2 ^ (8 * b)) ∧ (True)) (fun (_ : Unit) (t : State) => va_P (dC, dI) cls_ [] t.heap ∧ va_D (va_A [] sz) []) (va_A [] sz)) 0 0 (va_A [] sz) := by
  refine Met.ofW (cc := prog_1_method_25_code) (maxL := 2) (ret := (some .long)) (by decide) rfl ?_
  intro p e s m args below meth c s₁ B hml hv
  obtain ⟨rfl, hsz, hP, hK, hD0⟩ := hv
  have hx := B.exec
  have hb := B.bytes
  have hr := B.returns
  have hlocks := B.notSynchronized
  have hts := atoms_spec (ws := (Cond.code y_Si_codeInByte prog_1_method_25_code 2 (some .long) :: W0)) B.pre
  have htb : ∀ w ∈ W0, w.before _ s = true := fun w h => hts w (List.mem_cons_of_mem _ h)
  have hown : s.vm.findClass "SelfIndexedSequences" = some m.cls := findClass_of_methodNamed B.named
  subst hsz
  have hD := hD0.self (sz := s.heap.size)
  generalize hAe : va_A [] s.heap.size = A at hD ⊢
  have hA : ∀ q : Nat, s.heap.size ≤ q → A q := fun q h => by rw [← hAe]; exact Or.inr h
  have hS : va_S A s.heap s.heap [] := va_S.rf
  have hl := lv_entry ([.int (nI cs), .int (nI b)]) (n := 2) (Nat.le_of_ble_eq_true rfl)
  rw [lg_entry_eq]
  generalize (lg_sl ([.int (nI cs), .int (nI b)]) ++ List.replicate (2 - (lg_sl ([.int (nI cs), .int (nI b)])).length) Slot.unset).toArray = ls at hl ⊢
  have hl : lv_has ls 2 [(0, .int (nI cs)), (1, .int (nI b))] := hl
  refine lv_iload_n hx hb d_Si_codeInByte_0 rfl (lv_at hl 0 rfl) ?_
  have hPc := hP.sub (ws' := []) [] rfl
  have hDc := hD.sub (ws' := []) [] (by decide) rfl
  have hFc := va_free (wc := []) hD hS hA [] rfl
  refine va_calli (va_runS (As := [.int (nI cs)]) (rest := []) ⟨hx, hb, hml, hown, hts⟩ (c_Si_codeOf l dC dI ky s.heap.size cs (by first | assumption | omega | (simp; done) | (simp_all; done))) ⟨callB_of 1 hts (W0_good tw_238) rfl rfl rfl (htb _ tw_23) (htb _ tw_236) ⟨by decide, by decide, by decide +kernel⟩ ⟨(Nat.le_of_ble_eq_true rfl), (Nat.le_of_ble_eq_true rfl)⟩, htb _ tw_237⟩ ⟨fun a U g mk q => by obtain ⟨q0, q1, qP, qK, qD⟩ := q; exact ⟨q0, q1, qP, va_K.moved (u := U) (U := U.calling g mk a) (Vm.Alike.refl U.vm) qK, qD⟩, fun U hU hW => ⟨rfl, by rw [hU], by rw [hU]; exact hPc, va_K.moved hW.alike hK, hDc.weaken (fun _ _ _ _ => trivial)⟩⟩ rfl rfl hl.1 rfl (lv_room (Nat.le_of_ble_eq_true rfl)) d_Si_codeInByte_1 ⟨(Nat.le_of_ble_eq_true rfl), (Nat.le_of_ble_eq_true rfl)⟩) hS (fun q _ h => hFc q h) hFc (fun r1 u_ t H locs ht hvm hw1 hB hz1 hk1 hS => ?_)
  obtain ⟨hP1, hD1⟩ := hB
  rw [ht] at hP1
  obtain ⟨hP, hD⟩ := va_join (wr := []) (w1 := []) hP hD [] [] rfl rfl (by decide) (by decide) hk1 hFc hP1 hD1
  have hP : va_P (dC, dI) cls_ [] H := hP
  have hD : va_D A [] := hD
  have hw1 : r1 = nI (cod cs) ∧ (True) := hw1
  obtain ⟨hre, hq1⟩ := hw1
  subst hre
  refine lv_i2l hx hb d_Si_codeInByte_4 rfl ?_
  rw [show (nI (cod cs)).toInt64 = lN (cod cs) from bw_i2l (by have := cod_lt hc; omega)]
  refine lv_bipush (v := nI 8) hx hb d_Si_codeInByte_5 (by decide) ?_
  refine lv_iload_n hx hb d_Si_codeInByte_7 rfl (lv_at hl 1 rfl) ?_
  refine lv_imul hx hb d_Si_codeInByte_8 ?_
  rw [pk_mul]
  refine lv_lshl hx hb d_Si_codeInByte_9 rfl ?_
  rw [show (lN (cod cs)) <<< ((nI (8 * b)).toInt64 &&& 63) = lN (cod cs * 2 ^ (8 * b)) from wb_shl _ (by omega)]
  have hP9 := hP.sub (ws' := []) [] rfl
  have hD9 := hD.sub (ws' := []) [] (by decide) rfl
  exact W.lret (v := lN (cod cs * 2 ^ (8 * b))) hx hb hr (fun t ht hW => ⟨⟨lN (cod cs * 2 ^ (8 * b)), (), rfl, ⟨(by first | rfl | (congr 1; omega) | (simp; done)), (by first | trivial | assumption | omega)⟩, by rw [ht]; exact hP9, hD9⟩, hS.F ht⟩) hS.2.2 d_Si_codeInByte_10

set_option maxHeartbeats 4000000 in
set_option maxRecDepth 100000 in
/-- the symbol of a code -/
theorem c_Si_symbolOf (l : Launch) (dC : Nat → ClassId) (dI : Nat → Nat → Nat) (ky : ClassId) (sz : Nat) (v : Nat) (hv0 : v < 2 ^ 31) : Met l y_Si_symbolOf (Cond.code y_Si_symbolOf prog_1_method_26_code 1 (some .int) :: W0) ({ frames := 0, cells := 0, slots := 0, locals := 0 }) (va_Pc [.int (nI v)] (fun U => U.heap.size = sz ∧ va_P (dC, dI) cls_ [] U.heap ∧ va_K (dC, dI) cls_ [(ky, .int)] U ∧ va_D (fun _ => True) [])) (va_Qi (fun (r : Int32) (_ : Unit) => (isS v ∧ r = nI (sno v)) ∨ (¬ isS v ∧ r = nI 0 - 1)) (fun (_ : Unit) (t : State) => va_P (dC, dI) cls_ [] t.heap ∧ va_D (va_A [] sz) []) (va_A [] sz)) 0 0 (va_A [] sz) := by
  refine Met.ofW (cc := prog_1_method_26_code) (maxL := 1) (ret := (some .int)) (by decide) rfl ?_
  intro p e s m args below meth c s₁ B hml hv
  obtain ⟨rfl, hsz, hP, hK, hD0⟩ := hv
  have hx := B.exec
  have hb := B.bytes
  have hr := B.returns
  have hlocks := B.notSynchronized
  have hts := atoms_spec (ws := (Cond.code y_Si_symbolOf prog_1_method_26_code 1 (some .int) :: W0)) B.pre
  have htb : ∀ w ∈ W0, w.before _ s = true := fun w h => hts w (List.mem_cons_of_mem _ h)
  have hown : s.vm.findClass "SelfIndexedSequences" = some m.cls := findClass_of_methodNamed B.named
  subst hsz
  have hD := hD0.self (sz := s.heap.size)
  generalize hAe : va_A [] s.heap.size = A at hD ⊢
  have hA : ∀ q : Nat, s.heap.size ≤ q → A q := fun q h => by rw [← hAe]; exact Or.inr h
  have hS : va_S A s.heap s.heap [] := va_S.rf
  have hl := lv_entry ([.int (nI v)]) (n := 1) (Nat.le_of_ble_eq_true rfl)
  rw [lg_entry_eq]
  generalize (lg_sl ([.int (nI v)]) ++ List.replicate (1 - (lg_sl ([.int (nI v)])).length) Slot.unset).toArray = ls at hl ⊢
  have hl : lv_has ls 1 [(0, .int (nI v))] := hl
  refine lv_iload_n hx hb d_Si_symbolOf_0 rfl (lv_at hl 0 rfl) ?_
  refine lv_bipush (v := nI 36) hx hb d_Si_symbolOf_1 (by decide) ?_
  refine lv_icmp_ne (tgt := 8) hx hb d_Si_symbolOf_3 (by decide) (fun hc3 => ?_) (fun hc3 => ?_)
  · skip
    rw [bw_eq_nn (by omega) (by omega)] at hc3
    refine lv_iload_n hx hb d_Si_symbolOf_8 rfl (lv_at hl 0 rfl) ?_
    refine lv_bipush (v := nI 124) hx hb d_Si_symbolOf_9 (by decide) ?_
    refine lv_icmp_ne (tgt := 16) hx hb d_Si_symbolOf_11 (by decide) (fun hc11 => ?_) (fun hc11 => ?_)
    · skip
      rw [bw_eq_nn (by omega) (by omega)] at hc11
      refine lv_iload_n hx hb d_Si_symbolOf_16 rfl (lv_at hl 0 rfl) ?_
      refine lv_bipush (v := nI 97) hx hb d_Si_symbolOf_17 (by decide) ?_
      refine lv_icmp_lt (tgt := 37) hx hb d_Si_symbolOf_19 (by decide) (fun hc19 => ?_) (fun hc19 => ?_)
      · skip
        rw [bw_lt_nn (by omega) (by omega)] at hc19
        refine lv_iconst (v := nI 0 - 1) hx hb d_Si_symbolOf_37 (by decide) ?_
        have hP9 := hP.sub (ws' := []) [] rfl
        have hD9 := hD.sub (ws' := []) [] (by decide) rfl
        exact W.iret (v := nI 0 - 1) hx hb hr (fun t ht hW => ⟨⟨nI 0 - 1, (), rfl, (by first | exact Or.inl ⟨by unfold isS; omega, by congr 1; unfold sno; (repeat' split) <;> omega⟩ | exact Or.inr ⟨by unfold isS; omega, rfl⟩), by rw [ht]; exact hP9, hD9⟩, hS.F ht⟩) hS.2.2 d_Si_symbolOf_38
      · skip
        rw [bw_lt_nn (by omega) (by omega)] at hc19
        refine lv_iload_n hx hb d_Si_symbolOf_22 rfl (lv_at hl 0 rfl) ?_
        refine lv_bipush (v := nI 122) hx hb d_Si_symbolOf_23 (by decide) ?_
        refine lv_icmp_gt (tgt := 37) hx hb d_Si_symbolOf_25 (by decide) (fun hc25 => ?_) (fun hc25 => ?_)
        · skip
          rw [bw_lt_nn (by omega) (by omega)] at hc25
          refine lv_iconst (v := nI 0 - 1) hx hb d_Si_symbolOf_37 (by decide) ?_
          have hP9 := hP.sub (ws' := []) [] rfl
          have hD9 := hD.sub (ws' := []) [] (by decide) rfl
          exact W.iret (v := nI 0 - 1) hx hb hr (fun t ht hW => ⟨⟨nI 0 - 1, (), rfl, (by first | exact Or.inl ⟨by unfold isS; omega, by congr 1; unfold sno; (repeat' split) <;> omega⟩ | exact Or.inr ⟨by unfold isS; omega, rfl⟩), by rw [ht]; exact hP9, hD9⟩, hS.F ht⟩) hS.2.2 d_Si_symbolOf_38
        · skip
          rw [bw_lt_nn (by omega) (by omega)] at hc25
          refine lv_iconst (v := nI 2) hx hb d_Si_symbolOf_28 (by decide) ?_
          refine lv_iload_n hx hb d_Si_symbolOf_29 rfl (lv_at hl 0 rfl) ?_
          refine lv_iadd hx hb d_Si_symbolOf_30 ?_
          rw [nI_add]
          refine lv_bipush (v := nI 97) hx hb d_Si_symbolOf_31 (by decide) ?_
          refine lv_isub hx hb d_Si_symbolOf_33 ?_
          rw [pk_sub (show 97 ≤ (2 + v) by omega)]
          refine lv_goto (tgt := 38) hx hb d_Si_symbolOf_34 (by decide) ?_
          have hP9 := hP.sub (ws' := []) [] rfl
          have hD9 := hD.sub (ws' := []) [] (by decide) rfl
          exact W.iret (v := nI ((2 + v) - 97)) hx hb hr (fun t ht hW => ⟨⟨nI ((2 + v) - 97), (), rfl, (by first | exact Or.inl ⟨by unfold isS; omega, by congr 1; unfold sno; (repeat' split) <;> omega⟩ | exact Or.inr ⟨by unfold isS; omega, rfl⟩), by rw [ht]; exact hP9, hD9⟩, hS.F ht⟩) hS.2.2 d_Si_symbolOf_38
    · skip
      rw [bw_eq_nn (by omega) (by omega)] at hc11
      refine lv_iconst (v := nI 1) hx hb d_Si_symbolOf_14 (by decide) ?_
      have hP9 := hP.sub (ws' := []) [] rfl
      have hD9 := hD.sub (ws' := []) [] (by decide) rfl
      exact W.iret (v := nI 1) hx hb hr (fun t ht hW => ⟨⟨nI 1, (), rfl, (by first | exact Or.inl ⟨by unfold isS; omega, by congr 1; unfold sno; (repeat' split) <;> omega⟩ | exact Or.inr ⟨by unfold isS; omega, rfl⟩), by rw [ht]; exact hP9, hD9⟩, hS.F ht⟩) hS.2.2 d_Si_symbolOf_15
  · skip
    rw [bw_eq_nn (by omega) (by omega)] at hc3
    refine lv_iconst (v := nI 0) hx hb d_Si_symbolOf_6 (by decide) ?_
    have hP9 := hP.sub (ws' := []) [] rfl
    have hD9 := hD.sub (ws' := []) [] (by decide) rfl
    exact W.iret (v := nI 0) hx hb hr (fun t ht hW => ⟨⟨nI 0, (), rfl, (by first | exact Or.inl ⟨by unfold isS; omega, by congr 1; unfold sno; (repeat' split) <;> omega⟩ | exact Or.inr ⟨by unfold isS; omega, rfl⟩), by rw [ht]; exact hP9, hD9⟩, hS.F ht⟩) hS.2.2 d_Si_symbolOf_7

set_option maxHeartbeats 4000000 in
set_option maxRecDepth 100000 in
/-- the symbol of any int -/
theorem c_Si_symbolOfI (l : Launch) (dC : Nat → ClassId) (dI : Nat → Nat → Nat) (ky : ClassId) (sz : Nat) (x : Int32) : Met l y_Si_symbolOf (Cond.code y_Si_symbolOf prog_1_method_26_code 1 (some .int) :: W0) ({ frames := 0, cells := 0, slots := 0, locals := 0 }) (va_Pc [.int (x)] (fun U => U.heap.size = sz ∧ va_P (dC, dI) cls_ [] U.heap ∧ va_K (dC, dI) cls_ [(ky, .int)] U ∧ va_D (fun _ => True) [])) (va_Qi (fun (r : Int32) (_ : Unit) => (∃ v, x = nI v ∧ isS v ∧ r = nI (sno v)) ∨ ((∀ v, isS v → x ≠ nI v) ∧ r = nI 0 - 1)) (fun (_ : Unit) (t : State) => va_P (dC, dI) cls_ [] t.heap ∧ va_D (va_A [] sz) []) (va_A [] sz)) 0 0 (va_A [] sz) := by
  refine Met.ofW (cc := prog_1_method_26_code) (maxL := 1) (ret := (some .int)) (by decide) rfl ?_
  intro p e s m args below meth c s₁ B hml hv
  obtain ⟨rfl, hsz, hP, hK, hD0⟩ := hv
  have hx := B.exec
  have hb := B.bytes
  have hr := B.returns
  have hlocks := B.notSynchronized
  have hts := atoms_spec (ws := (Cond.code y_Si_symbolOf prog_1_method_26_code 1 (some .int) :: W0)) B.pre
  have htb : ∀ w ∈ W0, w.before _ s = true := fun w h => hts w (List.mem_cons_of_mem _ h)
  have hown : s.vm.findClass "SelfIndexedSequences" = some m.cls := findClass_of_methodNamed B.named
  subst hsz
  have hD := hD0.self (sz := s.heap.size)
  generalize hAe : va_A [] s.heap.size = A at hD ⊢
  have hA : ∀ q : Nat, s.heap.size ≤ q → A q := fun q h => by rw [← hAe]; exact Or.inr h
  have hS : va_S A s.heap s.heap [] := va_S.rf
  have hl := lv_entry ([.int (x)]) (n := 1) (Nat.le_of_ble_eq_true rfl)
  rw [lg_entry_eq]
  generalize (lg_sl ([.int (x)]) ++ List.replicate (1 - (lg_sl ([.int (x)])).length) Slot.unset).toArray = ls at hl ⊢
  have hl : lv_has ls 1 [(0, .int (x))] := hl
  refine lv_iload_n hx hb d_Si_symbolOf_0 rfl (lv_at hl 0 rfl) ?_
  refine lv_bipush (v := nI 36) hx hb d_Si_symbolOf_1 (by decide) ?_
  refine lv_icmp_ne (tgt := 8) hx hb d_Si_symbolOf_3 (by decide) (fun hc3 => ?_) (fun hc3 => ?_)
  · skip
    refine lv_iload_n hx hb d_Si_symbolOf_8 rfl (lv_at hl 0 rfl) ?_
    refine lv_bipush (v := nI 124) hx hb d_Si_symbolOf_9 (by decide) ?_
    refine lv_icmp_ne (tgt := 16) hx hb d_Si_symbolOf_11 (by decide) (fun hc11 => ?_) (fun hc11 => ?_)
    · skip
      refine lv_iload_n hx hb d_Si_symbolOf_16 rfl (lv_at hl 0 rfl) ?_
      refine lv_bipush (v := nI 97) hx hb d_Si_symbolOf_17 (by decide) ?_
      refine lv_icmp_lt (tgt := 37) hx hb d_Si_symbolOf_19 (by decide) (fun hc19 => ?_) (fun hc19 => ?_)
      · skip
        refine lv_iconst (v := nI 0 - 1) hx hb d_Si_symbolOf_37 (by decide) ?_
        have hP9 := hP.sub (ws' := []) [] rfl
        have hD9 := hD.sub (ws' := []) [] (by decide) rfl
        exact W.iret (v := nI 0 - 1) hx hb hr (fun t ht hW => ⟨⟨nI 0 - 1, (), rfl, (by first | exact Or.inl ⟨v, by first | exact hxv | rfl, by unfold isS; omega, by congr 1; unfold sno; (repeat' split) <;> omega⟩ | exact Or.inr ⟨fun v hs e => bw_noS hc3 hc11 (by first | exact Or.inl hc19 | exact Or.inr hc25) v hs e, rfl⟩), by rw [ht]; exact hP9, hD9⟩, hS.F ht⟩) hS.2.2 d_Si_symbolOf_38
      · skip
        refine lv_iload_n hx hb d_Si_symbolOf_22 rfl (lv_at hl 0 rfl) ?_
        refine lv_bipush (v := nI 122) hx hb d_Si_symbolOf_23 (by decide) ?_
        refine lv_icmp_gt (tgt := 37) hx hb d_Si_symbolOf_25 (by decide) (fun hc25 => ?_) (fun hc25 => ?_)
        · skip
          refine lv_iconst (v := nI 0 - 1) hx hb d_Si_symbolOf_37 (by decide) ?_
          have hP9 := hP.sub (ws' := []) [] rfl
          have hD9 := hD.sub (ws' := []) [] (by decide) rfl
          exact W.iret (v := nI 0 - 1) hx hb hr (fun t ht hW => ⟨⟨nI 0 - 1, (), rfl, (by first | exact Or.inl ⟨v, by first | exact hxv | rfl, by unfold isS; omega, by congr 1; unfold sno; (repeat' split) <;> omega⟩ | exact Or.inr ⟨fun v hs e => bw_noS hc3 hc11 (by first | exact Or.inl hc19 | exact Or.inr hc25) v hs e, rfl⟩), by rw [ht]; exact hP9, hD9⟩, hS.F ht⟩) hS.2.2 d_Si_symbolOf_38
        · skip
          obtain ⟨v, hv1, hv2, hxv⟩ := bw_rng (a := 97) (b := 122) hc19 hc25
          have hv_ : x = nI v := hxv
          rw [hv_] at hl
          have hl : lv_has ls 1 [(0, .int (nI v))] := hl
          refine lv_iconst (v := nI 2) hx hb d_Si_symbolOf_28 (by decide) ?_
          refine lv_iload_n hx hb d_Si_symbolOf_29 rfl (lv_at hl 0 rfl) ?_
          refine lv_iadd hx hb d_Si_symbolOf_30 ?_
          rw [nI_add]
          refine lv_bipush (v := nI 97) hx hb d_Si_symbolOf_31 (by decide) ?_
          refine lv_isub hx hb d_Si_symbolOf_33 ?_
          rw [pk_sub (show 97 ≤ (2 + v) by omega)]
          refine lv_goto (tgt := 38) hx hb d_Si_symbolOf_34 (by decide) ?_
          have hP9 := hP.sub (ws' := []) [] rfl
          have hD9 := hD.sub (ws' := []) [] (by decide) rfl
          exact W.iret (v := nI ((2 + v) - 97)) hx hb hr (fun t ht hW => ⟨⟨nI ((2 + v) - 97), (), rfl, (by first | exact Or.inl ⟨v, by first | exact hxv | rfl, by unfold isS; omega, by congr 1; unfold sno; (repeat' split) <;> omega⟩ | exact Or.inr ⟨fun v hs e => bw_noS hc3 hc11 (by first | exact Or.inl hc19 | exact Or.inr hc25) v hs e, rfl⟩), by rw [ht]; exact hP9, hD9⟩, hS.F ht⟩) hS.2.2 d_Si_symbolOf_38
    · skip
      refine lv_iconst (v := nI 1) hx hb d_Si_symbolOf_14 (by decide) ?_
      have hP9 := hP.sub (ws' := []) [] rfl
      have hD9 := hD.sub (ws' := []) [] (by decide) rfl
      exact W.iret (v := nI 1) hx hb hr (fun t ht hW => ⟨⟨nI 1, (), rfl, (Or.inl ⟨124, hc11, Or.inr (Or.inl rfl), rfl⟩), by rw [ht]; exact hP9, hD9⟩, hS.F ht⟩) hS.2.2 d_Si_symbolOf_15
  · skip
    refine lv_iconst (v := nI 0) hx hb d_Si_symbolOf_6 (by decide) ?_
    have hP9 := hP.sub (ws' := []) [] rfl
    have hD9 := hD.sub (ws' := []) [] (by decide) rfl
    exact W.iret (v := nI 0) hx hb hr (fun t ht hW => ⟨⟨nI 0, (), rfl, (Or.inl ⟨36, hc3, Or.inl rfl, rfl⟩), by rw [ht]; exact hP9, hD9⟩, hS.F ht⟩) hS.2.2 d_Si_symbolOf_7

set_option maxHeartbeats 4000000 in
set_option maxRecDepth 100000 in
/-- 0 .. 4 -/
theorem c_Si_mayErr (l : Launch) (dC : Nat → ClassId) (dI : Nat → Nat → Nat) (ky : ClassId) (sz : Nat) (x : Int32) : Met l y_Si_mayErr (Cond.code y_Si_mayErr prog_1_method_21_code 1 (some .boolean) :: W0) ({ frames := 0, cells := 0, slots := 0, locals := 0 }) (va_Pc [.int (x)] (fun U => U.heap.size = sz ∧ va_P (dC, dI) cls_ [] U.heap ∧ va_K (dC, dI) cls_ [(ky, .int)] U ∧ va_D (fun _ => True) [])) (va_Qi (fun (r : Int32) (_ : Unit) => (∃ v, v ≤ 4 ∧ x = nI v ∧ r = nI 1) ∨ ((∀ v, v ≤ 4 → x ≠ nI v) ∧ r = nI 0)) (fun (_ : Unit) (t : State) => va_P (dC, dI) cls_ [] t.heap ∧ va_D (va_A [] sz) []) (va_A [] sz)) 0 0 (va_A [] sz) := by
  refine Met.ofW (cc := prog_1_method_21_code) (maxL := 1) (ret := (some .boolean)) (by decide) rfl ?_
  intro p e s m args below meth c s₁ B hml hv
  obtain ⟨rfl, hsz, hP, hK, hD0⟩ := hv
  have hx := B.exec
  have hb := B.bytes
  have hr := B.returns
  have hlocks := B.notSynchronized
  have hts := atoms_spec (ws := (Cond.code y_Si_mayErr prog_1_method_21_code 1 (some .boolean) :: W0)) B.pre
  have htb : ∀ w ∈ W0, w.before _ s = true := fun w h => hts w (List.mem_cons_of_mem _ h)
  have hown : s.vm.findClass "SelfIndexedSequences" = some m.cls := findClass_of_methodNamed B.named
  subst hsz
  have hD := hD0.self (sz := s.heap.size)
  generalize hAe : va_A [] s.heap.size = A at hD ⊢
  have hA : ∀ q : Nat, s.heap.size ≤ q → A q := fun q h => by rw [← hAe]; exact Or.inr h
  have hS : va_S A s.heap s.heap [] := va_S.rf
  have hl := lv_entry ([.int (x)]) (n := 1) (Nat.le_of_ble_eq_true rfl)
  rw [lg_entry_eq]
  generalize (lg_sl ([.int (x)]) ++ List.replicate (1 - (lg_sl ([.int (x)])).length) Slot.unset).toArray = ls at hl ⊢
  have hl : lv_has ls 1 [(0, .int (x))] := hl
  refine lv_iload_n hx hb d_Si_mayErr_0 rfl (lv_at hl 0 rfl) ?_
  refine lv_if_lt (tgt := 13) hx hb d_Si_mayErr_1 (by decide) (fun hc1 => ?_) (fun hc1 => ?_)
  · skip
    refine lv_iconst (v := nI 0) hx hb d_Si_mayErr_13 (by decide) ?_
    have hP9 := hP.sub (ws' := []) [] rfl
    have hD9 := hD.sub (ws' := []) [] (by decide) rfl
    exact W.zret (v := nI 0) hx hb hr (by first | rfl | decide) (fun t ht hW => ⟨⟨nI 0, (), rfl, (by first | exact Or.inl (bw_04 hc1 hc6) | exact Or.inr ⟨bw_no04 (by first | exact Or.inl hc1 | exact Or.inr hc6), rfl⟩), by rw [ht]; exact hP9, hD9⟩, hS.F ht⟩) hS.2.2 d_Si_mayErr_14
  · skip
    refine lv_iload_n hx hb d_Si_mayErr_4 rfl (lv_at hl 0 rfl) ?_
    refine lv_iconst (v := nI 4) hx hb d_Si_mayErr_5 (by decide) ?_
    refine lv_icmp_gt (tgt := 13) hx hb d_Si_mayErr_6 (by decide) (fun hc6 => ?_) (fun hc6 => ?_)
    · skip
      refine lv_iconst (v := nI 0) hx hb d_Si_mayErr_13 (by decide) ?_
      have hP9 := hP.sub (ws' := []) [] rfl
      have hD9 := hD.sub (ws' := []) [] (by decide) rfl
      exact W.zret (v := nI 0) hx hb hr (by first | rfl | decide) (fun t ht hW => ⟨⟨nI 0, (), rfl, (by first | exact Or.inl (bw_04 hc1 hc6) | exact Or.inr ⟨bw_no04 (by first | exact Or.inl hc1 | exact Or.inr hc6), rfl⟩), by rw [ht]; exact hP9, hD9⟩, hS.F ht⟩) hS.2.2 d_Si_mayErr_14
    · skip
      refine lv_iconst (v := nI 1) hx hb d_Si_mayErr_9 (by decide) ?_
      refine lv_goto (tgt := 14) hx hb d_Si_mayErr_10 (by decide) ?_
      have hP9 := hP.sub (ws' := []) [] rfl
      have hD9 := hD.sub (ws' := []) [] (by decide) rfl
      exact W.zret (v := nI 1) hx hb hr (by first | rfl | decide) (fun t ht hW => ⟨⟨nI 1, (), rfl, (by first | exact Or.inl (bw_04 hc1 hc6) | exact Or.inr ⟨bw_no04 (by first | exact Or.inl hc1 | exact Or.inr hc6), rfl⟩), by rw [ht]; exact hP9, hD9⟩, hS.F ht⟩) hS.2.2 d_Si_mayErr_14

set_option maxHeartbeats 4000000 in
set_option maxRecDepth 100000 in
theorem c_Mo_isLetter (l : Launch) (dC : Nat → ClassId) (dI : Nat → Nat → Nat) (ky : ClassId) (sz : Nat) (v : Nat) (hv0 : v < 2 ^ 31) : Met l y_Mo_isLetter (Cond.code y_Mo_isLetter prog_7_method_2_code 1 (some .boolean) :: W0) ({ frames := 0, cells := 0, slots := 0, locals := 0 }) (va_Pc [.int (nI v)] (fun U => U.heap.size = sz ∧ va_P (dC, dI) cls_ [] U.heap ∧ va_K (dC, dI) cls_ [(ky, .int)] U ∧ va_D (fun _ => True) [])) (va_Qi (fun (r : Int32) (_ : Unit) => (97 ≤ v ∧ v ≤ 122 ∧ r = nI 1) ∨ (¬ (97 ≤ v ∧ v ≤ 122) ∧ r = nI 0)) (fun (_ : Unit) (t : State) => va_P (dC, dI) cls_ [] t.heap ∧ va_D (va_A [] sz) []) (va_A [] sz)) 0 0 (va_A [] sz) := by
  refine Met.ofW (cc := prog_7_method_2_code) (maxL := 1) (ret := (some .boolean)) (by decide) rfl ?_
  intro p e s m args below meth c s₁ B hml hv
  obtain ⟨rfl, hsz, hP, hK, hD0⟩ := hv
  have hx := B.exec
  have hb := B.bytes
  have hr := B.returns
  have hlocks := B.notSynchronized
  have hts := atoms_spec (ws := (Cond.code y_Mo_isLetter prog_7_method_2_code 1 (some .boolean) :: W0)) B.pre
  have htb : ∀ w ∈ W0, w.before _ s = true := fun w h => hts w (List.mem_cons_of_mem _ h)
  have hown : s.vm.findClass "SelfIndexedSequencesModel" = some m.cls := findClass_of_methodNamed B.named
  subst hsz
  have hD := hD0.self (sz := s.heap.size)
  generalize hAe : va_A [] s.heap.size = A at hD ⊢
  have hA : ∀ q : Nat, s.heap.size ≤ q → A q := fun q h => by rw [← hAe]; exact Or.inr h
  have hS : va_S A s.heap s.heap [] := va_S.rf
  have hl := lv_entry ([.int (nI v)]) (n := 1) (Nat.le_of_ble_eq_true rfl)
  rw [lg_entry_eq]
  generalize (lg_sl ([.int (nI v)]) ++ List.replicate (1 - (lg_sl ([.int (nI v)])).length) Slot.unset).toArray = ls at hl ⊢
  have hl : lv_has ls 1 [(0, .int (nI v))] := hl
  refine lv_iload_n hx hb d_Mo_isLetter_0 rfl (lv_at hl 0 rfl) ?_
  refine lv_bipush (v := nI 97) hx hb d_Mo_isLetter_1 (by decide) ?_
  refine lv_icmp_lt (tgt := 16) hx hb d_Mo_isLetter_3 (by decide) (fun hc3 => ?_) (fun hc3 => ?_)
  · skip
    rw [bw_lt_nn (by omega) (by omega)] at hc3
    refine lv_iconst (v := nI 0) hx hb d_Mo_isLetter_16 (by decide) ?_
    have hP9 := hP.sub (ws' := []) [] rfl
    have hD9 := hD.sub (ws' := []) [] (by decide) rfl
    exact W.zret (v := nI 0) hx hb hr (by first | rfl | decide) (fun t ht hW => ⟨⟨nI 0, (), rfl, (by first | exact Or.inl ⟨by omega, by omega, rfl⟩ | exact Or.inr ⟨by omega, rfl⟩), by rw [ht]; exact hP9, hD9⟩, hS.F ht⟩) hS.2.2 d_Mo_isLetter_17
  · skip
    rw [bw_lt_nn (by omega) (by omega)] at hc3
    refine lv_iload_n hx hb d_Mo_isLetter_6 rfl (lv_at hl 0 rfl) ?_
    refine lv_bipush (v := nI 122) hx hb d_Mo_isLetter_7 (by decide) ?_
    refine lv_icmp_gt (tgt := 16) hx hb d_Mo_isLetter_9 (by decide) (fun hc9 => ?_) (fun hc9 => ?_)
    · skip
      rw [bw_lt_nn (by omega) (by omega)] at hc9
      refine lv_iconst (v := nI 0) hx hb d_Mo_isLetter_16 (by decide) ?_
      have hP9 := hP.sub (ws' := []) [] rfl
      have hD9 := hD.sub (ws' := []) [] (by decide) rfl
      exact W.zret (v := nI 0) hx hb hr (by first | rfl | decide) (fun t ht hW => ⟨⟨nI 0, (), rfl, (by first | exact Or.inl ⟨by omega, by omega, rfl⟩ | exact Or.inr ⟨by omega, rfl⟩), by rw [ht]; exact hP9, hD9⟩, hS.F ht⟩) hS.2.2 d_Mo_isLetter_17
    · skip
      rw [bw_lt_nn (by omega) (by omega)] at hc9
      refine lv_iconst (v := nI 1) hx hb d_Mo_isLetter_12 (by decide) ?_
      refine lv_goto (tgt := 17) hx hb d_Mo_isLetter_13 (by decide) ?_
      have hP9 := hP.sub (ws' := []) [] rfl
      have hD9 := hD.sub (ws' := []) [] (by decide) rfl
      exact W.zret (v := nI 1) hx hb hr (by first | rfl | decide) (fun t ht hW => ⟨⟨nI 1, (), rfl, (by first | exact Or.inl ⟨by omega, by omega, rfl⟩ | exact Or.inr ⟨by omega, rfl⟩), by rw [ht]; exact hP9, hD9⟩, hS.F ht⟩) hS.2.2 d_Mo_isLetter_17

set_option maxHeartbeats 4000000 in
set_option maxRecDepth 100000 in
theorem c_Mo_isSymbol (l : Launch) (dC : Nat → ClassId) (dI : Nat → Nat → Nat) (ky : ClassId) (sz : Nat) (v : Nat) (hv0 : v < 2 ^ 31) : Met l y_Mo_isSymbol (Cond.code y_Mo_isSymbol prog_7_method_3_code 1 (some .boolean) :: W0) ({ frames := 1, cells := 0, slots := 0, locals := 20 }) (va_Pc [.int (nI v)] (fun U => U.heap.size = sz ∧ va_P (dC, dI) cls_ [] U.heap ∧ va_K (dC, dI) cls_ [(ky, .int)] U ∧ va_D (fun _ => True) [])) (va_Qi (fun (r : Int32) (_ : Unit) => (isS v ∧ r = nI 1) ∨ (¬ isS v ∧ r = nI 0)) (fun (_ : Unit) (t : State) => va_P (dC, dI) cls_ [] t.heap ∧ va_D (va_A [] sz) []) (va_A [] sz)) 0 0 (va_A [] sz) := by
  refine Met.ofW (cc := prog_7_method_3_code) (maxL := 1) (ret := (some .boolean)) (by decide) rfl ?_
  intro p e s m args below meth c s₁ B hml hv
  obtain ⟨rfl, hsz, hP, hK, hD0⟩ := hv
  have hx := B.exec
  have hb := B.bytes
  have hr := B.returns
  have hlocks := B.notSynchronized
  have hts := atoms_spec (ws := (Cond.code y_Mo_isSymbol prog_7_method_3_code 1 (some .boolean) :: W0)) B.pre
  have htb : ∀ w ∈ W0, w.before _ s = true := fun w h => hts w (List.mem_cons_of_mem _ h)
  have hown : s.vm.findClass "SelfIndexedSequencesModel" = some m.cls := findClass_of_methodNamed B.named
  subst hsz
  have hD := hD0.self (sz := s.heap.size)
  generalize hAe : va_A [] s.heap.size = A at hD ⊢
  have hA : ∀ q : Nat, s.heap.size ≤ q → A q := fun q h => by rw [← hAe]; exact Or.inr h
  have hS : va_S A s.heap s.heap [] := va_S.rf
  have hl := lv_entry ([.int (nI v)]) (n := 1) (Nat.le_of_ble_eq_true rfl)
  rw [lg_entry_eq]
  generalize (lg_sl ([.int (nI v)]) ++ List.replicate (1 - (lg_sl ([.int (nI v)])).length) Slot.unset).toArray = ls at hl ⊢
  have hl : lv_has ls 1 [(0, .int (nI v))] := hl
  refine lv_iload_n hx hb d_Mo_isSymbol_0 rfl (lv_at hl 0 rfl) ?_
  refine lv_bipush (v := nI 36) hx hb d_Mo_isSymbol_1 (by decide) ?_
  refine lv_icmp_eq (tgt := 19) hx hb d_Mo_isSymbol_3 (by decide) (fun hc3 => ?_) (fun hc3 => ?_)
  · skip
    rw [bw_eq_nn (by omega) (by omega)] at hc3
    refine lv_iconst (v := nI 1) hx hb d_Mo_isSymbol_19 (by decide) ?_
    refine lv_goto (tgt := 24) hx hb d_Mo_isSymbol_20 (by decide) ?_
    have hP9 := hP.sub (ws' := []) [] rfl
    have hD9 := hD.sub (ws' := []) [] (by decide) rfl
    exact W.zret (v := nI 1) hx hb hr (by first | rfl | decide) (fun t ht hW => ⟨⟨nI 1, (), rfl, (by first | exact Or.inl ⟨by unfold isS; omega, rfl⟩ | exact Or.inr ⟨by unfold isS; omega, rfl⟩), by rw [ht]; exact hP9, hD9⟩, hS.F ht⟩) hS.2.2 d_Mo_isSymbol_24
  · skip
    rw [bw_eq_nn (by omega) (by omega)] at hc3
    refine lv_iload_n hx hb d_Mo_isSymbol_6 rfl (lv_at hl 0 rfl) ?_
    refine lv_bipush (v := nI 124) hx hb d_Mo_isSymbol_7 (by decide) ?_
    refine lv_icmp_eq (tgt := 19) hx hb d_Mo_isSymbol_9 (by decide) (fun hc9 => ?_) (fun hc9 => ?_)
    · skip
      rw [bw_eq_nn (by omega) (by omega)] at hc9
      refine lv_iconst (v := nI 1) hx hb d_Mo_isSymbol_19 (by decide) ?_
      refine lv_goto (tgt := 24) hx hb d_Mo_isSymbol_20 (by decide) ?_
      have hP9 := hP.sub (ws' := []) [] rfl
      have hD9 := hD.sub (ws' := []) [] (by decide) rfl
      exact W.zret (v := nI 1) hx hb hr (by first | rfl | decide) (fun t ht hW => ⟨⟨nI 1, (), rfl, (by first | exact Or.inl ⟨by unfold isS; omega, rfl⟩ | exact Or.inr ⟨by unfold isS; omega, rfl⟩), by rw [ht]; exact hP9, hD9⟩, hS.F ht⟩) hS.2.2 d_Mo_isSymbol_24
    · skip
      rw [bw_eq_nn (by omega) (by omega)] at hc9
      refine lv_iload_n hx hb d_Mo_isSymbol_12 rfl (lv_at hl 0 rfl) ?_
      have hPc := hP.sub (ws' := []) [] rfl
      have hDc := hD.sub (ws' := []) [] (by decide) rfl
      have hFc := va_free (wc := []) hD hS hA [] rfl
      refine va_calli (va_runS (As := [.int (nI v)]) (rest := []) ⟨hx, hb, hml, hown, hts⟩ (c_Mo_isLetter l dC dI ky s.heap.size v (by first | assumption | omega | (simp; done) | (simp_all; done))) ⟨callB_of 1 hts (W0_good tw_415) rfl rfl rfl (htb _ tw_28) (htb _ tw_413) ⟨by decide, by decide, by decide +kernel⟩ ⟨(Nat.le_of_ble_eq_true rfl), (Nat.le_of_ble_eq_true rfl)⟩, htb _ tw_414⟩ ⟨fun a U g mk q => by obtain ⟨q0, q1, qP, qK, qD⟩ := q; exact ⟨q0, q1, qP, va_K.moved (u := U) (U := U.calling g mk a) (Vm.Alike.refl U.vm) qK, qD⟩, fun U hU hW => ⟨rfl, by rw [hU], by rw [hU]; exact hPc, va_K.moved hW.alike hK, hDc.weaken (fun _ _ _ _ => trivial)⟩⟩ rfl rfl hl.1 rfl (lv_room (Nat.le_of_ble_eq_true rfl)) d_Mo_isSymbol_13 ⟨(Nat.le_of_ble_eq_true rfl), (Nat.le_of_ble_eq_true rfl)⟩) hS (fun q _ h => hFc q h) hFc (fun r13 u_ t H locs ht hvm hw13 hB hz1 hk1 hS => ?_)
      obtain ⟨hP1, hD1⟩ := hB
      rw [ht] at hP1
      obtain ⟨hP, hD⟩ := va_join (wr := []) (w1 := []) hP hD [] [] rfl rfl (by decide) (by decide) hk1 hFc hP1 hD1
      have hP : va_P (dC, dI) cls_ [] H := hP
      have hD : va_D A [] := hD
      have hq13 : (97 ≤ v ∧ v ≤ 122 ∧ r13 = nI 1) ∨ (¬ (97 ≤ v ∧ v ≤ 122) ∧ r13 = nI 0) := hw13
      rcases hq13 with ⟨h1, h2, rfl⟩ | ⟨h1, rfl⟩
      · skip
        refine lv_if_eq (tgt := 23) hx hb d_Mo_isSymbol_16 (by decide) (fun hc16 => ?_) (fun hc16 => ?_)
        · exact absurd hc16 (by decide)
        · skip
          rw [← nI_0, bw_eq_nn (by omega) (by omega)] at hc16
          refine lv_iconst (v := nI 1) hx hb d_Mo_isSymbol_19 (by decide) ?_
          refine lv_goto (tgt := 24) hx hb d_Mo_isSymbol_20 (by decide) ?_
          have hP9 := hP.sub (ws' := []) [] rfl
          have hD9 := hD.sub (ws' := []) [] (by decide) rfl
          exact W.zret (v := nI 1) hx hb hr (by first | rfl | decide) (fun t ht hW => ⟨⟨nI 1, (), rfl, (by first | exact Or.inl ⟨by unfold isS; omega, rfl⟩ | exact Or.inr ⟨by unfold isS; omega, rfl⟩), by rw [ht]; exact hP9, hD9⟩, hS.F ht⟩) hS.2.2 d_Mo_isSymbol_24
      · skip
        refine lv_if_eq (tgt := 23) hx hb d_Mo_isSymbol_16 (by decide) (fun hc16 => ?_) (fun hc16 => ?_)
        · skip
          rw [← nI_0, bw_eq_nn (by omega) (by omega)] at hc16
          refine lv_iconst (v := nI 0) hx hb d_Mo_isSymbol_23 (by decide) ?_
          have hP9 := hP.sub (ws' := []) [] rfl
          have hD9 := hD.sub (ws' := []) [] (by decide) rfl
          exact W.zret (v := nI 0) hx hb hr (by first | rfl | decide) (fun t ht hW => ⟨⟨nI 0, (), rfl, (by first | exact Or.inl ⟨by unfold isS; omega, rfl⟩ | exact Or.inr ⟨by unfold isS; omega, rfl⟩), by rw [ht]; exact hP9, hD9⟩, hS.F ht⟩) hS.2.2 d_Mo_isSymbol_24
        · exact absurd hc16 (by decide)

set_option maxHeartbeats 4000000 in
set_option maxRecDepth 100000 in
theorem c_Mo_byteOf (l : Launch) (dC : Nat → ClassId) (dI : Nat → Nat → Nat) (ky : ClassId) (sz : Nat) (w : Nat) (b : Nat) (hw : w < 2 ^ 64) (hb8 : b < 8) : Met l y_Mo_byteOf (Cond.code y_Mo_byteOf prog_7_method_4_code 3 (some .int) :: W0) ({ frames := 0, cells := 0, slots := 0, locals := 0 }) (va_Pc [.long (lN w), .int (nI b)] (fun U => U.heap.size = sz ∧ va_P (dC, dI) cls_ [] U.heap ∧ va_K (dC, dI) cls_ [(ky, .int)] U ∧ va_D (fun _ => True) [])) (va_Qi (fun (r : Int32) (_ : Unit) => r = nI (by8 w b) ∧ (True)) (fun (_ : Unit) (t : State) => va_P (dC, dI) cls_ [] t.heap ∧ va_D (va_A [] sz) []) (va_A [] sz)) 0 0 (va_A [] sz) := by
  refine Met.ofW (cc := prog_7_method_4_code) (maxL := 3) (ret := (some .int)) (by decide) rfl ?_
  intro p e s m args below meth c s₁ B hml hv
  obtain ⟨rfl, hsz, hP, hK, hD0⟩ := hv
  have hx := B.exec
  have hb := B.bytes
  have hr := B.returns
  have hlocks := B.notSynchronized
  have hts := atoms_spec (ws := (Cond.code y_Mo_byteOf prog_7_method_4_code 3 (some .int) :: W0)) B.pre
  have htb : ∀ w ∈ W0, w.before _ s = true := fun w h => hts w (List.mem_cons_of_mem _ h)
  have hown : s.vm.findClass "SelfIndexedSequencesModel" = some m.cls := findClass_of_methodNamed B.named
  subst hsz
  have hD := hD0.self (sz := s.heap.size)
  generalize hAe : va_A [] s.heap.size = A at hD ⊢
  have hA : ∀ q : Nat, s.heap.size ≤ q → A q := fun q h => by rw [← hAe]; exact Or.inr h
  have hS : va_S A s.heap s.heap [] := va_S.rf
  have hl := lv_entry ([.long (lN w), .int (nI b)]) (n := 3) (Nat.le_of_ble_eq_true rfl)
  rw [lg_entry_eq]
  generalize (lg_sl ([.long (lN w), .int (nI b)]) ++ List.replicate (3 - (lg_sl ([.long (lN w), .int (nI b)])).length) Slot.unset).toArray = ls at hl ⊢
  have hl : lv_has ls 3 [(0, .long (lN w)), (2, .int (nI b))] := hl
  refine lv_lload_n hx hb d_Mo_byteOf_0 rfl (lv_at hl 0 rfl) ?_
  refine lv_bipush (v := nI 8) hx hb d_Mo_byteOf_1 (by decide) ?_
  refine lv_iload_n hx hb d_Mo_byteOf_3 rfl (lv_at hl 1 rfl) ?_
  refine lv_imul hx hb d_Mo_byteOf_4 ?_
  rw [pk_mul]
  refine lv_lshr hx hb d_Mo_byteOf_5 rfl ?_
  refine lv_ldc2 hx hb hown (htb _ tw_409) d_Mo_byteOf_6 ?_
  refine lv_land hx hb d_Mo_byteOf_9 ?_
  refine lv_l2i hx hb d_Mo_byteOf_10 rfl ?_
  rw [show (((lN w) >>> ((nI (8 * b)).toInt64 &&& 63)) &&& (255)).toInt32 = nI (by8 w b) from cd_by hw hb8]
  have hP9 := hP.sub (ws' := []) [] rfl
  have hD9 := hD.sub (ws' := []) [] (by decide) rfl
  exact W.iret (v := nI (by8 w b)) hx hb hr (fun t ht hW => ⟨⟨nI (by8 w b), (), rfl, ⟨(by first | rfl | (congr 1; omega) | (simp; done)), (by first | trivial | assumption | omega)⟩, by rw [ht]; exact hP9, hD9⟩, hS.F ht⟩) hS.2.2 d_Mo_byteOf_11

set_option maxHeartbeats 4000000 in
set_option maxRecDepth 100000 in
theorem c_Mo_worth (l : Launch) (dC : Nat → ClassId) (dI : Nat → Nat → Nat) (ky : ClassId) (sz : Nat) (v : Nat) (hv0 : v < 2 ^ 31) : Met l y_Mo_worth (Cond.code y_Mo_worth prog_7_method_7_code 1 (some .int) :: W0) ({ frames := 0, cells := 0, slots := 0, locals := 0 }) (va_Pc [.int (nI v)] (fun U => U.heap.size = sz ∧ va_P (dC, dI) cls_ [] U.heap ∧ va_K (dC, dI) cls_ [(ky, .int)] U ∧ va_D (fun _ => True) [])) (va_Qi (fun (r : Int32) (_ : Unit) => r = nI (wor v) ∧ (True)) (fun (_ : Unit) (t : State) => va_P (dC, dI) cls_ [] t.heap ∧ va_D (va_A [] sz) []) (va_A [] sz)) 0 0 (va_A [] sz) := by
  refine Met.ofW (cc := prog_7_method_7_code) (maxL := 1) (ret := (some .int)) (by decide) rfl ?_
  intro p e s m args below meth c s₁ B hml hv
  obtain ⟨rfl, hsz, hP, hK, hD0⟩ := hv
  have hx := B.exec
  have hb := B.bytes
  have hr := B.returns
  have hlocks := B.notSynchronized
  have hts := atoms_spec (ws := (Cond.code y_Mo_worth prog_7_method_7_code 1 (some .int) :: W0)) B.pre
  have htb : ∀ w ∈ W0, w.before _ s = true := fun w h => hts w (List.mem_cons_of_mem _ h)
  have hown : s.vm.findClass "SelfIndexedSequencesModel" = some m.cls := findClass_of_methodNamed B.named
  subst hsz
  have hD := hD0.self (sz := s.heap.size)
  generalize hAe : va_A [] s.heap.size = A at hD ⊢
  have hA : ∀ q : Nat, s.heap.size ≤ q → A q := fun q h => by rw [← hAe]; exact Or.inr h
  have hS : va_S A s.heap s.heap [] := va_S.rf
  have hl := lv_entry ([.int (nI v)]) (n := 1) (Nat.le_of_ble_eq_true rfl)
  rw [lg_entry_eq]
  generalize (lg_sl ([.int (nI v)]) ++ List.replicate (1 - (lg_sl ([.int (nI v)])).length) Slot.unset).toArray = ls at hl ⊢
  have hl : lv_has ls 1 [(0, .int (nI v))] := hl
  refine lv_iload_n hx hb d_Mo_worth_0 rfl (lv_at hl 0 rfl) ?_
  refine lv_bipush (v := nI 36) hx hb d_Mo_worth_1 (by decide) ?_
  refine lv_icmp_ne (tgt := 10) hx hb d_Mo_worth_3 (by decide) (fun hc3 => ?_) (fun hc3 => ?_)
  · skip
    rw [bw_eq_nn (by omega) (by omega)] at hc3
    refine lv_iload_n hx hb d_Mo_worth_10 rfl (lv_at hl 0 rfl) ?_
    refine lv_bipush (v := nI 124) hx hb d_Mo_worth_11 (by decide) ?_
    refine lv_icmp_ne (tgt := 20) hx hb d_Mo_worth_13 (by decide) (fun hc13 => ?_) (fun hc13 => ?_)
    · skip
      rw [bw_eq_nn (by omega) (by omega)] at hc13
      refine lv_iload_n hx hb d_Mo_worth_20 rfl (lv_at hl 0 rfl) ?_
      have hP9 := hP.sub (ws' := []) [] rfl
      have hD9 := hD.sub (ws' := []) [] (by decide) rfl
      exact W.iret (v := nI v) hx hb hr (fun t ht hW => ⟨⟨nI v, (), rfl, ⟨(by congr 1; unfold wor; (repeat' split) <;> omega), (by first | trivial | assumption | omega)⟩, by rw [ht]; exact hP9, hD9⟩, hS.F ht⟩) hS.2.2 d_Mo_worth_21
    · skip
      rw [bw_eq_nn (by omega) (by omega)] at hc13
      refine lv_iconst (v := nI 1) hx hb d_Mo_worth_16 (by decide) ?_
      refine lv_goto (tgt := 21) hx hb d_Mo_worth_17 (by decide) ?_
      have hP9 := hP.sub (ws' := []) [] rfl
      have hD9 := hD.sub (ws' := []) [] (by decide) rfl
      exact W.iret (v := nI 1) hx hb hr (fun t ht hW => ⟨⟨nI 1, (), rfl, ⟨(by congr 1; unfold wor; (repeat' split) <;> omega), (by first | trivial | assumption | omega)⟩, by rw [ht]; exact hP9, hD9⟩, hS.F ht⟩) hS.2.2 d_Mo_worth_21
  · skip
    rw [bw_eq_nn (by omega) (by omega)] at hc3
    refine lv_iconst (v := nI 0) hx hb d_Mo_worth_6 (by decide) ?_
    refine lv_goto (tgt := 21) hx hb d_Mo_worth_7 (by decide) ?_
    have hP9 := hP.sub (ws' := []) [] rfl
    have hD9 := hD.sub (ws' := []) [] (by decide) rfl
    exact W.iret (v := nI 0) hx hb hr (fun t ht hW => ⟨⟨nI 0, (), rfl, ⟨(by congr 1; unfold wor; (repeat' split) <;> omega), (by first | trivial | assumption | omega)⟩, by rw [ht]; exact hP9, hD9⟩, hS.F ht⟩) hS.2.2 d_Mo_worth_21
