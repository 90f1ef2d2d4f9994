set_option maxHeartbeats 4000000 in
set_option maxRecDepth 100000 in
theorem c_Mo_symbolAt (l : Launch) (dC : Nat → ClassId) (dI : Nat → Nat → Nat) (ky : ClassId) (sz : Nat) (mo : Nat) (sp : Nat) (d : Nat) (mdr : Nat) (mm : Nat) (mtx : Nat) (mod : Nat) (mia : Nat) (mus : Nat) (mol : Nat) (mle : Nat) (my : Nat) (mrw : Nat) (mls : Nat) (Mx : Nat → Nat) (T : Nat → Nat) (nn : Nat) (px : Nat) (hMx : ∀ k_, Mx k_ < 125) (hmm : mm = nn + 1) (hnn : nn ≤ 96) (hT : Txt T nn) (hT28 : ∀ k_, T k_ < 28) (hTx : ∀ q, q < nn → Mx q = cod (T q)) (hpx : px < 1000) : Met l y_Mo_symbolAt (Cond.code y_Mo_symbolAt prog_7_method_8_code 2 (some .int) :: W0) ({ frames := 0, cells := 0, slots := 0, locals := 0 }) (va_Pc [.ref mo, .int (nI px)] (fun U => U.heap.size = sz ∧ va_P (dC, dI) cls_ [(mo, .inr (5, [.int (nI sp), .int (nI d), .ref mdr, .int (nI mm - 1), .ref mtx, .ref mod, .ref mia, .ref mus, .ref mol, .ref mle, .int (nI my), .ref mrw, .ref mls])), (mtx, .inl (ky, 97, .inl (nA Mx)))] U.heap ∧ va_K (dC, dI) cls_ [(ky, .int)] U ∧ va_D (fun _ => True) [(mo, .inr (5, [.int (nI sp), .int (nI d), .ref mdr, .int (nI mm - 1), .ref mtx, .ref mod, .ref mia, .ref mus, .ref mol, .ref mle, .int (nI my), .ref mrw, .ref mls])), (mtx, .inl (ky, 97, .inl (nA Mx)))])) (va_Qi (fun (r : Int32) (_ : Unit) => r = nI (cod (T px)) ∧ (True)) (fun (_ : Unit) (t : State) => va_P (dC, dI) cls_ [(mo, .inr (5, [.int (nI sp), .int (nI d), .ref mdr, .int (nI mm - 1), .ref mtx, .ref mod, .ref mia, .ref mus, .ref mol, .ref mle, .int (nI my), .ref mrw, .ref mls])), (mtx, .inl (ky, 97, .inl (nA Mx)))] t.heap ∧ va_D (va_A [(mo, .inr (5, [.int (nI sp), .int (nI d), .ref mdr, .int (nI mm - 1), .ref mtx, .ref mod, .ref mia, .ref mus, .ref mol, .ref mle, .int (nI my), .ref mrw, .ref mls])), (mtx, .inl (ky, 97, .inl (nA Mx)))] sz) [(mo, .inr (5, [.int (nI sp), .int (nI d), .ref mdr, .int (nI mm - 1), .ref mtx, .ref mod, .ref mia, .ref mus, .ref mol, .ref mle, .int (nI my), .ref mrw, .ref mls])), (mtx, .inl (ky, 97, .inl (nA Mx)))]) (va_A [(mo, .inr (5, [.int (nI sp), .int (nI d), .ref mdr, .int (nI mm - 1), .ref mtx, .ref mod, .ref mia, .ref mus, .ref mol, .ref mle, .int (nI my), .ref mrw, .ref mls])), (mtx, .inl (ky, 97, .inl (nA Mx)))] sz)) 0 0 (va_A [(mo, .inr (5, [.int (nI sp), .int (nI d), .ref mdr, .int (nI mm - 1), .ref mtx, .ref mod, .ref mia, .ref mus, .ref mol, .ref mle, .int (nI my), .ref mrw, .ref mls])), (mtx, .inl (ky, 97, .inl (nA Mx)))] sz) := by
  refine Met.ofW (cc := prog_7_method_8_code) (maxL := 2) (ret := (some .int)) (by decide) rfl ?_
  intro p e s m args below meth c s₁ B hml hv
  obtain ⟨rfl, hsz, hP, hK, hD0⟩ := hv
  have hx := B.exec
  have hb := B.bytes
  have hr := B.returns
  have hlocks := B.notSynchronized
  have hts := atoms_spec (ws := (Cond.code y_Mo_symbolAt prog_7_method_8_code 2 (some .int) :: W0)) B.pre
  have htb : ∀ w ∈ W0, w.before _ s = true := fun w h => hts w (List.mem_cons_of_mem _ h)
  have hown : s.vm.findClass "SelfIndexedSequencesModel" = some m.cls := findClass_of_methodNamed B.named
  subst hsz
  have hD := hD0.self (sz := s.heap.size)
  generalize hAe : va_A [(mo, .inr (5, [.int (nI sp), .int (nI d), .ref mdr, .int (nI mm - 1), .ref mtx, .ref mod, .ref mia, .ref mus, .ref mol, .ref mle, .int (nI my), .ref mrw, .ref mls])), (mtx, .inl (ky, 97, .inl (nA Mx)))] s.heap.size = A at hD ⊢
  have hA : ∀ q : Nat, s.heap.size ≤ q → A q := fun q h => by rw [← hAe]; exact Or.inr h
  have hS : va_S A s.heap s.heap [] := va_S.rf
  have hl := lv_entry ([.ref mo, .int (nI px)]) (n := 2) (Nat.le_of_ble_eq_true rfl)
  rw [lg_entry_eq]
  generalize (lg_sl ([.ref mo, .int (nI px)]) ++ List.replicate (2 - (lg_sl ([.ref mo, .int (nI px)])).length) Slot.unset).toArray = ls at hl ⊢
  have hl : lv_has ls 2 [(0, .ref mo), (1, .int (nI px))] := hl
  refine lv_iload_n hx hb d_Mo_symbolAt_0 rfl (lv_at hl 1 rfl) ?_
  refine lv_aload_n hx hb d_Mo_symbolAt_1 rfl (lv_at hl 0 rfl) ?_
  refine va_get (D := (dC, dI)) (ci := 5) (v := .int (nI mm - 1)) (C := R_Mo) (T := F_Mo) (N := 13) hx hb htb in_Mo hown hK hP 0 rfl rfl 3 (by decide) (htb _ tw_364) (fun _ h9 => h9) rfl d_Mo_symbolAt_2 ?_
  refine lv_icmp_lt (tgt := 13) hx hb d_Mo_symbolAt_5 (by decide) (fun hc5 => ?_) (fun hc5 => ?_)
  · skip
    rw [bw_lt_np (by omega) (by omega)] at hc5
    refine lv_aload_n hx hb d_Mo_symbolAt_13 rfl (lv_at hl 0 rfl) ?_
    refine va_get (D := (dC, dI)) (ci := 5) (v := .ref mtx) (C := R_Mo) (T := F_Mo) (N := 13) hx hb htb in_Mo hown hK hP 0 rfl rfl 4 (by decide) (htb _ tw_365) (fun _ h9 => h9) rfl d_Mo_symbolAt_14 ?_
    refine lv_iload_n hx hb d_Mo_symbolAt_17 rfl (lv_at hl 1 rfl) ?_
    refine va_iald hx hb hK hP 1 0 rfl rfl (vp_in_nI (by omega) (by decide)) d_Mo_symbolAt_18 ?_
    rw [nI_clamp (by omega)]
    have hb18 := hMx px
    rw [nA_at]
    have hP9 := hP.sub (ws' := [(mo, .inr (5, [.int (nI sp), .int (nI d), .ref mdr, .int (nI mm - 1), .ref mtx, .ref mod, .ref mia, .ref mus, .ref mol, .ref mle, .int (nI my), .ref mrw, .ref mls])), (mtx, .inl (ky, 97, .inl (nA Mx)))]) [0, 1] rfl
    have hD9 := hD.sub (ws' := [(mo, .inr (5, [.int (nI sp), .int (nI d), .ref mdr, .int (nI mm - 1), .ref mtx, .ref mod, .ref mia, .ref mus, .ref mol, .ref mle, .int (nI my), .ref mrw, .ref mls])), (mtx, .inl (ky, 97, .inl (nA Mx)))]) [0, 1] (by decide) rfl
    exact W.iret (v := nI (Mx px)) hx hb hr (fun t ht hW => ⟨⟨nI (Mx px), (), rfl, ⟨(by first | rw [hTx px (by omega)] | (rw [(hT px).mpr (by omega)]; rfl)), (by first | trivial | assumption | omega)⟩, by rw [ht]; exact hP9, hD9⟩, hS.F ht⟩) hS.2.2 d_Mo_symbolAt_19
  · skip
    rw [bw_lt_np (by omega) (by omega)] at hc5
    refine lv_bipush (v := nI 36) hx hb d_Mo_symbolAt_8 (by decide) ?_
    refine lv_goto (tgt := 19) hx hb d_Mo_symbolAt_10 (by decide) ?_
    have hP9 := hP.sub (ws' := [(mo, .inr (5, [.int (nI sp), .int (nI d), .ref mdr, .int (nI mm - 1), .ref mtx, .ref mod, .ref mia, .ref mus, .ref mol, .ref mle, .int (nI my), .ref mrw, .ref mls])), (mtx, .inl (ky, 97, .inl (nA Mx)))]) [0, 1] rfl
    have hD9 := hD.sub (ws' := [(mo, .inr (5, [.int (nI sp), .int (nI d), .ref mdr, .int (nI mm - 1), .ref mtx, .ref mod, .ref mia, .ref mus, .ref mol, .ref mle, .int (nI my), .ref mrw, .ref mls])), (mtx, .inl (ky, 97, .inl (nA Mx)))]) [0, 1] (by decide) rfl
    exact W.iret (v := nI 36) hx hb hr (fun t ht hW => ⟨⟨nI 36, (), rfl, ⟨(by first | rw [hTx px (by omega)] | (rw [(hT px).mpr (by omega)]; rfl)), (by first | trivial | assumption | omega)⟩, by rw [ht]; exact hP9, hD9⟩, hS.F ht⟩) hS.2.2 d_Mo_symbolAt_19

set_option maxHeartbeats 4000000 in
set_option maxRecDepth 100000 in
theorem c_Mo_before (l : Launch) (dC : Nat → ClassId) (dI : Nat → Nat → Nat) (ky : ClassId) (sz : Nat) (mo : Nat) (sp : Nat) (d : Nat) (mdr : Nat) (mm : Nat) (mtx : Nat) (mod : Nat) (mia : Nat) (mus : Nat) (mol : Nat) (mle : Nat) (my : Nat) (mrw : Nat) (mls : Nat) (Mx : Nat → Nat) (T : Nat → Nat) (nn : Nat) (aa : Nat) (bb : Nat) (hMx : ∀ k_, Mx k_ < 125) (hmm : mm = nn + 1) (hnn : nn ≤ 96) (hT : Txt T nn) (hT28 : ∀ k_, T k_ < 28) (hTx : ∀ q, q < nn → Mx q = cod (T q)) (hab : aa ≠ bb) (haa : aa ≤ nn) (hbb : bb ≤ nn) : Met l y_Mo_before (Cond.code y_Mo_before prog_7_method_9_code 5 (some .boolean) :: W0) ({ frames := 1, cells := 0, slots := 0, locals := 21 }) (va_Pc [.ref mo, .int (nI aa), .int (nI bb)] (fun U => U.heap.size = sz ∧ va_P (dC, dI) cls_ [(mo, .inr (5, [.int (nI sp), .int (nI d), .ref mdr, .int (nI mm - 1), .ref mtx, .ref mod, .ref mia, .ref mus, .ref mol, .ref mle, .int (nI my), .ref mrw, .ref mls])), (mtx, .inl (ky, 97, .inl (nA Mx)))] U.heap ∧ va_K (dC, dI) cls_ [(ky, .int)] U ∧ va_D (fun _ => True) [(mo, .inr (5, [.int (nI sp), .int (nI d), .ref mdr, .int (nI mm - 1), .ref mtx, .ref mod, .ref mia, .ref mus, .ref mol, .ref mle, .int (nI my), .ref mrw, .ref mls])), (mtx, .inl (ky, 97, .inl (nA Mx)))])) (va_Qi (fun (r : Int32) (_ : Unit) => (slt T aa bb ∧ r = nI 1) ∨ (¬ slt T aa bb ∧ r = nI 0)) (fun (_ : Unit) (t : State) => va_P (dC, dI) cls_ [(mo, .inr (5, [.int (nI sp), .int (nI d), .ref mdr, .int (nI mm - 1), .ref mtx, .ref mod, .ref mia, .ref mus, .ref mol, .ref mle, .int (nI my), .ref mrw, .ref mls])), (mtx, .inl (ky, 97, .inl (nA Mx)))] t.heap ∧ va_D (va_A [(mo, .inr (5, [.int (nI sp), .int (nI d), .ref mdr, .int (nI mm - 1), .ref mtx, .ref mod, .ref mia, .ref mus, .ref mol, .ref mle, .int (nI my), .ref mrw, .ref mls])), (mtx, .inl (ky, 97, .inl (nA Mx)))] sz) [(mo, .inr (5, [.int (nI sp), .int (nI d), .ref mdr, .int (nI mm - 1), .ref mtx, .ref mod, .ref mia, .ref mus, .ref mol, .ref mle, .int (nI my), .ref mrw, .ref mls])), (mtx, .inl (ky, 97, .inl (nA Mx)))]) (va_A [(mo, .inr (5, [.int (nI sp), .int (nI d), .ref mdr, .int (nI mm - 1), .ref mtx, .ref mod, .ref mia, .ref mus, .ref mol, .ref mle, .int (nI my), .ref mrw, .ref mls])), (mtx, .inl (ky, 97, .inl (nA Mx)))] sz)) 0 0 (va_A [(mo, .inr (5, [.int (nI sp), .int (nI d), .ref mdr, .int (nI mm - 1), .ref mtx, .ref mod, .ref mia, .ref mus, .ref mol, .ref mle, .int (nI my), .ref mrw, .ref mls])), (mtx, .inl (ky, 97, .inl (nA Mx)))] sz) := by
  refine Met.ofW (cc := prog_7_method_9_code) (maxL := 5) (ret := (some .boolean)) (by decide) rfl ?_
  intro p e s m args below meth c s₁ B hml hv
  obtain ⟨rfl, hsz, hP, hK, hD0⟩ := hv
  have hx := B.exec
  have hb := B.bytes
  have hr := B.returns
  have hlocks := B.notSynchronized
  have hts := atoms_spec (ws := (Cond.code y_Mo_before prog_7_method_9_code 5 (some .boolean) :: W0)) B.pre
  have htb : ∀ w ∈ W0, w.before _ s = true := fun w h => hts w (List.mem_cons_of_mem _ h)
  have hown : s.vm.findClass "SelfIndexedSequencesModel" = some m.cls := findClass_of_methodNamed B.named
  subst hsz
  have hD := hD0.self (sz := s.heap.size)
  generalize hAe : va_A [(mo, .inr (5, [.int (nI sp), .int (nI d), .ref mdr, .int (nI mm - 1), .ref mtx, .ref mod, .ref mia, .ref mus, .ref mol, .ref mle, .int (nI my), .ref mrw, .ref mls])), (mtx, .inl (ky, 97, .inl (nA Mx)))] s.heap.size = A at hD ⊢
  have hA : ∀ q : Nat, s.heap.size ≤ q → A q := fun q h => by rw [← hAe]; exact Or.inr h
  have hS : va_S A s.heap s.heap [] := va_S.rf
  have hl := lv_entry ([.ref mo, .int (nI aa), .int (nI bb)]) (n := 5) (Nat.le_of_ble_eq_true rfl)
  rw [lg_entry_eq]
  generalize (lg_sl ([.ref mo, .int (nI aa), .int (nI bb)]) ++ List.replicate (5 - (lg_sl ([.ref mo, .int (nI aa), .int (nI bb)])).length) Slot.unset).toArray = ls at hl ⊢
  have hl : lv_has ls 5 [(0, .ref mo), (1, .int (nI aa)), (2, .int (nI bb))] := hl
  refine lv_iconst (v := nI 0) hx hb d_Mo_before_0 (by decide) ?_
  refine lv_istore_n hx hb d_Mo_before_1 rfl hl (by decide) rfl (fun ls hl => ?_)
  have hl : lv_has ls 5 [(3, .int (nI 0)), (0, .ref mo), (1, .int (nI aa)), (2, .int (nI bb))] := hl
  refine wl_loop (σ := Nat) 2 [] (fun (k : Nat) => nn - (aa + k)) (fun (k : Nat) (H : Heap) (locs : List Loc) (ls : Array Slot) => (aa + k ≤ nn) ∧ (bb + k ≤ nn) ∧ (∀ j, j < k → T (aa + j) = T (bb + j)) ∧ va_P (dC, dI) cls_ [(mo, .inr (5, [.int (nI sp), .int (nI d), .ref mdr, .int (nI mm - 1), .ref mtx, .ref mod, .ref mia, .ref mus, .ref mol, .ref mle, .int (nI my), .ref mrw, .ref mls])), (mtx, .inl (ky, 97, .inl (nA Mx)))] H ∧ va_D A [(mo, .inr (5, [.int (nI sp), .int (nI d), .ref mdr, .int (nI mm - 1), .ref mtx, .ref mod, .ref mia, .ref mus, .ref mol, .ref mle, .int (nI my), .ref mrw, .ref mls])), (mtx, .inl (ky, 97, .inl (nA Mx)))] ∧ va_S A s.heap H locs ∧ lv_has ls 5 [(3, .int (nI k)), (0, .ref mo), (1, .int (nI aa)), (2, .int (nI bb))]) ?_ 0 ⟨(by first | assumption | omega | (simp; done) | (simp_all; done)), (by first | assumption | omega | (simp; done) | (simp_all; done)), (fun j hj => by omega), hP, hD, hS, lv_sub hl [0, 1, 2, 3] rfl⟩
  clear hP hD hS hl
  intro k H locs ls hI ih2
  obtain ⟨hka, hkb, heq, hP, hD, hS, hl⟩ := hI
  have hl : lv_has ls 5 [(3, .int (nI k)), (0, .ref mo), (1, .int (nI aa)), (2, .int (nI bb))] := hl
  have hP : va_P (dC, dI) cls_ [(mo, .inr (5, [.int (nI sp), .int (nI d), .ref mdr, .int (nI mm - 1), .ref mtx, .ref mod, .ref mia, .ref mus, .ref mol, .ref mle, .int (nI my), .ref mrw, .ref mls])), (mtx, .inl (ky, 97, .inl (nA Mx)))] H := hP
  have hD : va_D A [(mo, .inr (5, [.int (nI sp), .int (nI d), .ref mdr, .int (nI mm - 1), .ref mtx, .ref mod, .ref mia, .ref mus, .ref mol, .ref mle, .int (nI my), .ref mrw, .ref mls])), (mtx, .inl (ky, 97, .inl (nA Mx)))] := hD
  have hka : aa + k ≤ nn := hka
  have hkb : bb + k ≤ nn := hkb
  have heq : ∀ j, j < k → T (aa + j) = T (bb + j) := heq
  refine lv_iload_n hx hb d_Mo_before_2 rfl (lv_at hl 2 rfl) ?_
  refine lv_iload_n hx hb d_Mo_before_3 rfl (lv_at hl 0 rfl) ?_
  refine lv_iadd hx hb d_Mo_before_4 ?_
  rw [nI_add]
  refine lv_aload_n hx hb d_Mo_before_5 rfl (lv_at hl 1 rfl) ?_
  refine va_get (D := (dC, dI)) (ci := 5) (v := .int (nI mm - 1)) (C := R_Mo) (T := F_Mo) (N := 13) hx hb htb in_Mo hown hK hP 0 rfl rfl 3 (by decide) (htb _ tw_364) (fun _ h9 => h9) rfl d_Mo_before_6 ?_
  refine lv_icmp_ge (tgt := 47) hx hb d_Mo_before_9 (by decide) (fun hc9 => ?_) (fun hc9 => ?_)
  · skip
    rw [bw_le_pn (by omega) (by omega)] at hc9
    have hne := bf_end hT hab hka hkb (Or.inl (by omega))
    refine lv_aload_n hx hb d_Mo_before_47 rfl (lv_at hl 1 rfl) ?_
    refine lv_iload_n hx hb d_Mo_before_48 rfl (lv_at hl 2 rfl) ?_
    refine lv_iload_n hx hb d_Mo_before_49 rfl (lv_at hl 0 rfl) ?_
    refine lv_iadd hx hb d_Mo_before_50 ?_
    rw [nI_add]
    have hPc := hP.sub (ws' := [(mo, .inr (5, [.int (nI sp), .int (nI d), .ref mdr, .int (nI mm - 1), .ref mtx, .ref mod, .ref mia, .ref mus, .ref mol, .ref mle, .int (nI my), .ref mrw, .ref mls])), (mtx, .inl (ky, 97, .inl (nA Mx)))]) [0, 1] rfl
    have hDc := hD.sub (ws' := [(mo, .inr (5, [.int (nI sp), .int (nI d), .ref mdr, .int (nI mm - 1), .ref mtx, .ref mod, .ref mia, .ref mus, .ref mol, .ref mle, .int (nI my), .ref mrw, .ref mls])), (mtx, .inl (ky, 97, .inl (nA Mx)))]) [0, 1] (by decide) rfl
    have hFc := va_free (wc := [(mo, .inr (5, [.int (nI sp), .int (nI d), .ref mdr, .int (nI mm - 1), .ref mtx, .ref mod, .ref mia, .ref mus, .ref mol, .ref mle, .int (nI my), .ref mrw, .ref mls])), (mtx, .inl (ky, 97, .inl (nA Mx)))]) hD hS hA [0, 1] rfl
    refine va_calli (va_runV (C := "SelfIndexedSequencesModel") (As := [.int (nI (aa + k))]) (rest := []) ⟨hx, hb, hml, hown, hts⟩ (c_Mo_symbolAt l dC dI ky H.size mo sp d mdr mm mtx mod mia mus mol mle my mrw mls Mx T nn (aa + k) hMx (by first | assumption | omega | (simp; done) | (simp_all; done)) (by first | assumption | omega | (simp; done) | (simp_all; done)) (by first | assumption | omega | (simp; done) | (simp_all; done)) (by first | assumption | omega | (simp; done) | (simp_all; done)) (by first | assumption | omega | (simp; done) | (simp_all; done)) (by first | assumption | omega | (simp; done) | (simp_all; done))) ⟨callB_of 1 hts (W0_good tw_435) rfl rfl rfl (htb _ tw_28) (htb _ tw_432) ⟨by decide, by decide, by decide +kernel⟩ ⟨(Nat.le_of_ble_eq_true rfl), (Nat.le_of_ble_eq_true rfl)⟩, htb _ tw_434, htb _ tw_11⟩ ⟨fun a U g mk q => by obtain ⟨q0, q1, qP, qK, qD⟩ := q; exact ⟨q0, q1, qP, va_K.moved (u := U) (U := U.calling g mk a) (Vm.Alike.refl U.vm) qK, qD⟩, va_recv hK hPc (q0 := 0) (q := (R_Mo, F_Mo, 13)) rfl rfl, fun U hU hW => ⟨rfl, by rw [hU], by rw [hU]; exact hPc, va_K.moved hW.alike hK, hDc.weaken (fun _ _ _ _ => trivial)⟩⟩ rfl rfl hl.1 rfl (lv_room (Nat.le_of_ble_eq_true rfl)) d_Mo_before_51 ⟨(Nat.le_of_ble_eq_true rfl), (Nat.le_of_ble_eq_true rfl)⟩) hS (fun q _ h => hFc q h) hFc (fun r51 u_ t H locs ht hvm hw51 hB hz1 hk1 hS => ?_)
    obtain ⟨hP1, hD1⟩ := hB
    rw [ht] at hP1
    obtain ⟨hP, hD⟩ := va_join (wr := []) (w1 := [(mo, .inr (5, [.int (nI sp), .int (nI d), .ref mdr, .int (nI mm - 1), .ref mtx, .ref mod, .ref mia, .ref mus, .ref mol, .ref mle, .int (nI my), .ref mrw, .ref mls])), (mtx, .inl (ky, 97, .inl (nA Mx)))]) hP hD [0, 1] [] rfl rfl (by decide) (by decide) hk1 hFc hP1 hD1
    have hP : va_P (dC, dI) cls_ [(mo, .inr (5, [.int (nI sp), .int (nI d), .ref mdr, .int (nI mm - 1), .ref mtx, .ref mod, .ref mia, .ref mus, .ref mol, .ref mle, .int (nI my), .ref mrw, .ref mls])), (mtx, .inl (ky, 97, .inl (nA Mx)))] H := hP
    have hD : va_D A [(mo, .inr (5, [.int (nI sp), .int (nI d), .ref mdr, .int (nI mm - 1), .ref mtx, .ref mod, .ref mia, .ref mus, .ref mol, .ref mle, .int (nI my), .ref mrw, .ref mls])), (mtx, .inl (ky, 97, .inl (nA Mx)))] := hD
    have hw51 : r51 = nI (cod (T (aa + k))) ∧ (True) := hw51
    obtain ⟨hre, hq51⟩ := hw51
    subst hre
    have hw3 := cod_lt (hT28 (aa + k))
    have hPc := hP.sub (ws' := []) [] rfl
    have hDc := hD.sub (ws' := []) [] (by decide) rfl
    have hFc := va_free (wc := []) hD hS hA [] rfl
    refine va_calli (va_runS (As := [.int (nI (cod (T (aa + k))))]) (rest := []) ⟨hx, hb, hml, hown, hts⟩ (c_Mo_worth l dC dI ky H.size (cod (T (aa + k))) (by first | assumption | omega | (simp; done) | (simp_all; done))) ⟨callB_of 1 hts (W0_good tw_438) rfl rfl rfl (htb _ tw_28) (htb _ tw_436) ⟨by decide, by decide, by decide +kernel⟩ ⟨(Nat.le_of_ble_eq_true rfl), (Nat.le_of_ble_eq_true rfl)⟩, htb _ tw_437⟩ ⟨fun a U g mk q => by obtain ⟨q0, q1, qP, qK, qD⟩ := q; exact ⟨q0, q1, qP, va_K.moved (u := U) (U := U.calling g mk a) (Vm.Alike.refl U.vm) qK, qD⟩, fun U hU hW => ⟨rfl, by rw [hU], by rw [hU]; exact hPc, va_K.moved hW.alike hK, hDc.weaken (fun _ _ _ _ => trivial)⟩⟩ rfl rfl hl.1 rfl (lv_room (Nat.le_of_ble_eq_true rfl)) d_Mo_before_54 ⟨(Nat.le_of_ble_eq_true rfl), (Nat.le_of_ble_eq_true rfl)⟩) hS (fun q _ h => hFc q h) hFc (fun r54 u_ t H locs ht hvm hw54 hB hz1 hk1 hS => ?_)
    obtain ⟨hP1, hD1⟩ := hB
    rw [ht] at hP1
    obtain ⟨hP, hD⟩ := va_join (wr := [(mo, .inr (5, [.int (nI sp), .int (nI d), .ref mdr, .int (nI mm - 1), .ref mtx, .ref mod, .ref mia, .ref mus, .ref mol, .ref mle, .int (nI my), .ref mrw, .ref mls])), (mtx, .inl (ky, 97, .inl (nA Mx)))]) (w1 := []) hP hD [] [0, 1] rfl rfl (by decide) (by decide) hk1 hFc hP1 hD1
    have hP : va_P (dC, dI) cls_ [(mo, .inr (5, [.int (nI sp), .int (nI d), .ref mdr, .int (nI mm - 1), .ref mtx, .ref mod, .ref mia, .ref mus, .ref mol, .ref mle, .int (nI my), .ref mrw, .ref mls])), (mtx, .inl (ky, 97, .inl (nA Mx)))] H := hP
    have hD : va_D A [(mo, .inr (5, [.int (nI sp), .int (nI d), .ref mdr, .int (nI mm - 1), .ref mtx, .ref mod, .ref mia, .ref mus, .ref mol, .ref mle, .int (nI my), .ref mrw, .ref mls])), (mtx, .inl (ky, 97, .inl (nA Mx)))] := hD
    have hw54 : r54 = nI (wor (cod (T (aa + k)))) ∧ (True) := hw54
    obtain ⟨hre, hq54⟩ := hw54
    subst hre
    refine lv_istore hx hb d_Mo_before_57 hl (by decide) rfl (fun ls hl => ?_)
    have hl : lv_has ls 5 [(4, .int (nI (wor (cod (T (aa + k)))))), (3, .int (nI k)), (0, .ref mo), (1, .int (nI aa)), (2, .int (nI bb))] := hl
    refine lv_iload hx hb d_Mo_before_59 (lv_at hl 0 rfl) ?_
    refine lv_aload_n hx hb d_Mo_before_61 rfl (lv_at hl 2 rfl) ?_
    refine lv_iload_n hx hb d_Mo_before_62 rfl (lv_at hl 4 rfl) ?_
    refine lv_iload_n hx hb d_Mo_before_63 rfl (lv_at hl 1 rfl) ?_
    refine lv_iadd hx hb d_Mo_before_64 ?_
    rw [nI_add]
    have hPc := hP.sub (ws' := [(mo, .inr (5, [.int (nI sp), .int (nI d), .ref mdr, .int (nI mm - 1), .ref mtx, .ref mod, .ref mia, .ref mus, .ref mol, .ref mle, .int (nI my), .ref mrw, .ref mls])), (mtx, .inl (ky, 97, .inl (nA Mx)))]) [0, 1] rfl
    have hDc := hD.sub (ws' := [(mo, .inr (5, [.int (nI sp), .int (nI d), .ref mdr, .int (nI mm - 1), .ref mtx, .ref mod, .ref mia, .ref mus, .ref mol, .ref mle, .int (nI my), .ref mrw, .ref mls])), (mtx, .inl (ky, 97, .inl (nA Mx)))]) [0, 1] (by decide) rfl
    have hFc := va_free (wc := [(mo, .inr (5, [.int (nI sp), .int (nI d), .ref mdr, .int (nI mm - 1), .ref mtx, .ref mod, .ref mia, .ref mus, .ref mol, .ref mle, .int (nI my), .ref mrw, .ref mls])), (mtx, .inl (ky, 97, .inl (nA Mx)))]) hD hS hA [0, 1] rfl
    refine va_calli (va_runV (C := "SelfIndexedSequencesModel") (As := [.int (nI (bb + k))]) (rest := [.int (nI (wor (cod (T (aa + k)))))]) ⟨hx, hb, hml, hown, hts⟩ (c_Mo_symbolAt l dC dI ky H.size mo sp d mdr mm mtx mod mia mus mol mle my mrw mls Mx T nn (bb + k) hMx (by first | assumption | omega | (simp; done) | (simp_all; done)) (by first | assumption | omega | (simp; done) | (simp_all; done)) (by first | assumption | omega | (simp; done) | (simp_all; done)) (by first | assumption | omega | (simp; done) | (simp_all; done)) (by first | assumption | omega | (simp; done) | (simp_all; done)) (by first | assumption | omega | (simp; done) | (simp_all; done))) ⟨callB_of 1 hts (W0_good tw_435) rfl rfl rfl (htb _ tw_28) (htb _ tw_432) ⟨by decide, by decide, by decide +kernel⟩ ⟨(Nat.le_of_ble_eq_true rfl), (Nat.le_of_ble_eq_true rfl)⟩, htb _ tw_434, htb _ tw_11⟩ ⟨fun a U g mk q => by obtain ⟨q0, q1, qP, qK, qD⟩ := q; exact ⟨q0, q1, qP, va_K.moved (u := U) (U := U.calling g mk a) (Vm.Alike.refl U.vm) qK, qD⟩, va_recv hK hPc (q0 := 0) (q := (R_Mo, F_Mo, 13)) rfl rfl, fun U hU hW => ⟨rfl, by rw [hU], by rw [hU]; exact hPc, va_K.moved hW.alike hK, hDc.weaken (fun _ _ _ _ => trivial)⟩⟩ rfl rfl hl.1 rfl (lv_room (Nat.le_of_ble_eq_true rfl)) d_Mo_before_65 ⟨(Nat.le_of_ble_eq_true rfl), (Nat.le_of_ble_eq_true rfl)⟩) hS (fun q _ h => hFc q h) hFc (fun r65 u_ t H locs ht hvm hw65 hB hz1 hk1 hS => ?_)
    obtain ⟨hP1, hD1⟩ := hB
    rw [ht] at hP1
    obtain ⟨hP, hD⟩ := va_join (wr := []) (w1 := [(mo, .inr (5, [.int (nI sp), .int (nI d), .ref mdr, .int (nI mm - 1), .ref mtx, .ref mod, .ref mia, .ref mus, .ref mol, .ref mle, .int (nI my), .ref mrw, .ref mls])), (mtx, .inl (ky, 97, .inl (nA Mx)))]) hP hD [0, 1] [] rfl rfl (by decide) (by decide) hk1 hFc hP1 hD1
    have hP : va_P (dC, dI) cls_ [(mo, .inr (5, [.int (nI sp), .int (nI d), .ref mdr, .int (nI mm - 1), .ref mtx, .ref mod, .ref mia, .ref mus, .ref mol, .ref mle, .int (nI my), .ref mrw, .ref mls])), (mtx, .inl (ky, 97, .inl (nA Mx)))] H := hP
    have hD : va_D A [(mo, .inr (5, [.int (nI sp), .int (nI d), .ref mdr, .int (nI mm - 1), .ref mtx, .ref mod, .ref mia, .ref mus, .ref mol, .ref mle, .int (nI my), .ref mrw, .ref mls])), (mtx, .inl (ky, 97, .inl (nA Mx)))] := hD
    have hw65 : r65 = nI (cod (T (bb + k))) ∧ (True) := hw65
    obtain ⟨hre, hq65⟩ := hw65
    subst hre
    have hw4 := cod_lt (hT28 (bb + k))
    have hPc := hP.sub (ws' := []) [] rfl
    have hDc := hD.sub (ws' := []) [] (by decide) rfl
    have hFc := va_free (wc := []) hD hS hA [] rfl
    refine va_calli (va_runS (As := [.int (nI (cod (T (bb + k))))]) (rest := [.int (nI (wor (cod (T (aa + k)))))]) ⟨hx, hb, hml, hown, hts⟩ (c_Mo_worth l dC dI ky H.size (cod (T (bb + k))) (by first | assumption | omega | (simp; done) | (simp_all; done))) ⟨callB_of 1 hts (W0_good tw_438) rfl rfl rfl (htb _ tw_28) (htb _ tw_436) ⟨by decide, by decide, by decide +kernel⟩ ⟨(Nat.le_of_ble_eq_true rfl), (Nat.le_of_ble_eq_true rfl)⟩, htb _ tw_437⟩ ⟨fun a U g mk q => by obtain ⟨q0, q1, qP, qK, qD⟩ := q; exact ⟨q0, q1, qP, va_K.moved (u := U) (U := U.calling g mk a) (Vm.Alike.refl U.vm) qK, qD⟩, fun U hU hW => ⟨rfl, by rw [hU], by rw [hU]; exact hPc, va_K.moved hW.alike hK, hDc.weaken (fun _ _ _ _ => trivial)⟩⟩ rfl rfl hl.1 rfl (lv_room (Nat.le_of_ble_eq_true rfl)) d_Mo_before_68 ⟨(Nat.le_of_ble_eq_true rfl), (Nat.le_of_ble_eq_true rfl)⟩) hS (fun q _ h => hFc q h) hFc (fun r68 u_ t H locs ht hvm hw68 hB hz1 hk1 hS => ?_)
    obtain ⟨hP1, hD1⟩ := hB
    rw [ht] at hP1
    obtain ⟨hP, hD⟩ := va_join (wr := [(mo, .inr (5, [.int (nI sp), .int (nI d), .ref mdr, .int (nI mm - 1), .ref mtx, .ref mod, .ref mia, .ref mus, .ref mol, .ref mle, .int (nI my), .ref mrw, .ref mls])), (mtx, .inl (ky, 97, .inl (nA Mx)))]) (w1 := []) hP hD [] [0, 1] rfl rfl (by decide) (by decide) hk1 hFc hP1 hD1
    have hP : va_P (dC, dI) cls_ [(mo, .inr (5, [.int (nI sp), .int (nI d), .ref mdr, .int (nI mm - 1), .ref mtx, .ref mod, .ref mia, .ref mus, .ref mol, .ref mle, .int (nI my), .ref mrw, .ref mls])), (mtx, .inl (ky, 97, .inl (nA Mx)))] H := hP
    have hD : va_D A [(mo, .inr (5, [.int (nI sp), .int (nI d), .ref mdr, .int (nI mm - 1), .ref mtx, .ref mod, .ref mia, .ref mus, .ref mol, .ref mle, .int (nI my), .ref mrw, .ref mls])), (mtx, .inl (ky, 97, .inl (nA Mx)))] := hD
    have hw68 : r68 = nI (wor (cod (T (bb + k)))) ∧ (True) := hw68
    obtain ⟨hre, hq68⟩ := hw68
    subst hre
    have hw1 := wor_b (hT28 (aa + k))
    have hw2 := wor_b (hT28 (bb + k))
    refine lv_icmp_ge (tgt := 78) hx hb d_Mo_before_71 (by decide) (fun hc71 => ?_) (fun hc71 => ?_)
    · skip
      rw [bw_le_nn (by omega) (by omega)] at hc71
      refine lv_iconst (v := nI 0) hx hb d_Mo_before_78 (by decide) ?_
      have hP9 := hP.sub (ws' := [(mo, .inr (5, [.int (nI sp), .int (nI d), .ref mdr, .int (nI mm - 1), .ref mtx, .ref mod, .ref mia, .ref mus, .ref mol, .ref mle, .int (nI my), .ref mrw, .ref mls])), (mtx, .inl (ky, 97, .inl (nA Mx)))]) [0, 1] rfl
      have hD9 := hD.sub (ws' := [(mo, .inr (5, [.int (nI sp), .int (nI d), .ref mdr, .int (nI mm - 1), .ref mtx, .ref mod, .ref mia, .ref mus, .ref mol, .ref mle, .int (nI my), .ref mrw, .ref mls])), (mtx, .inl (ky, 97, .inl (nA Mx)))]) [0, 1] (by decide) rfl
      exact W.zret (v := nI 0) hx hb hr (by first | rfl | decide) (fun t ht hW => ⟨⟨nI 0, (), rfl, (by first | exact Or.inl ⟨(bf_fin hT28 heq hne).mpr (by omega), rfl⟩ | exact Or.inr ⟨fun q => by have := (bf_fin hT28 heq hne).mp q; omega, rfl⟩), by rw [ht]; exact hP9, hD9⟩, hS.F ht⟩) hS.2.2 d_Mo_before_79
    · skip
      rw [bw_le_nn (by omega) (by omega)] at hc71
      refine lv_iconst (v := nI 1) hx hb d_Mo_before_74 (by decide) ?_
      refine lv_goto (tgt := 79) hx hb d_Mo_before_75 (by decide) ?_
      have hP9 := hP.sub (ws' := [(mo, .inr (5, [.int (nI sp), .int (nI d), .ref mdr, .int (nI mm - 1), .ref mtx, .ref mod, .ref mia, .ref mus, .ref mol, .ref mle, .int (nI my), .ref mrw, .ref mls])), (mtx, .inl (ky, 97, .inl (nA Mx)))]) [0, 1] rfl
      have hD9 := hD.sub (ws' := [(mo, .inr (5, [.int (nI sp), .int (nI d), .ref mdr, .int (nI mm - 1), .ref mtx, .ref mod, .ref mia, .ref mus, .ref mol, .ref mle, .int (nI my), .ref mrw, .ref mls])), (mtx, .inl (ky, 97, .inl (nA Mx)))]) [0, 1] (by decide) rfl
      exact W.zret (v := nI 1) hx hb hr (by first | rfl | decide) (fun t ht hW => ⟨⟨nI 1, (), rfl, (by first | exact Or.inl ⟨(bf_fin hT28 heq hne).mpr (by omega), rfl⟩ | exact Or.inr ⟨fun q => by have := (bf_fin hT28 heq hne).mp q; omega, rfl⟩), by rw [ht]; exact hP9, hD9⟩, hS.F ht⟩) hS.2.2 d_Mo_before_79
  · skip
    rw [bw_le_pn (by omega) (by omega)] at hc9
    refine lv_iload_n hx hb d_Mo_before_12 rfl (lv_at hl 3 rfl) ?_
    refine lv_iload_n hx hb d_Mo_before_13 rfl (lv_at hl 0 rfl) ?_
    refine lv_iadd hx hb d_Mo_before_14 ?_
    rw [nI_add]
    refine lv_aload_n hx hb d_Mo_before_15 rfl (lv_at hl 1 rfl) ?_
    refine va_get (D := (dC, dI)) (ci := 5) (v := .int (nI mm - 1)) (C := R_Mo) (T := F_Mo) (N := 13) hx hb htb in_Mo hown hK hP 0 rfl rfl 3 (by decide) (htb _ tw_364) (fun _ h9 => h9) rfl d_Mo_before_16 ?_
    refine lv_icmp_ge (tgt := 47) hx hb d_Mo_before_19 (by decide) (fun hc19 => ?_) (fun hc19 => ?_)
    · skip
      rw [bw_le_pn (by omega) (by omega)] at hc19
      have hne := bf_end hT hab hka hkb (Or.inr (by omega))
      refine lv_aload_n hx hb d_Mo_before_47 rfl (lv_at hl 1 rfl) ?_
      refine lv_iload_n hx hb d_Mo_before_48 rfl (lv_at hl 2 rfl) ?_
      refine lv_iload_n hx hb d_Mo_before_49 rfl (lv_at hl 0 rfl) ?_
      refine lv_iadd hx hb d_Mo_before_50 ?_
      rw [nI_add]
      have hPc := hP.sub (ws' := [(mo, .inr (5, [.int (nI sp), .int (nI d), .ref mdr, .int (nI mm - 1), .ref mtx, .ref mod, .ref mia, .ref mus, .ref mol, .ref mle, .int (nI my), .ref mrw, .ref mls])), (mtx, .inl (ky, 97, .inl (nA Mx)))]) [0, 1] rfl
      have hDc := hD.sub (ws' := [(mo, .inr (5, [.int (nI sp), .int (nI d), .ref mdr, .int (nI mm - 1), .ref mtx, .ref mod, .ref mia, .ref mus, .ref mol, .ref mle, .int (nI my), .ref mrw, .ref mls])), (mtx, .inl (ky, 97, .inl (nA Mx)))]) [0, 1] (by decide) rfl
      have hFc := va_free (wc := [(mo, .inr (5, [.int (nI sp), .int (nI d), .ref mdr, .int (nI mm - 1), .ref mtx, .ref mod, .ref mia, .ref mus, .ref mol, .ref mle, .int (nI my), .ref mrw, .ref mls])), (mtx, .inl (ky, 97, .inl (nA Mx)))]) hD hS hA [0, 1] rfl
      refine va_calli (va_runV (C := "SelfIndexedSequencesModel") (As := [.int (nI (aa + k))]) (rest := []) ⟨hx, hb, hml, hown, hts⟩ (c_Mo_symbolAt l dC dI ky H.size mo sp d mdr mm mtx mod mia mus mol mle my mrw mls Mx T nn (aa + k) hMx (by first | assumption | omega | (simp; done) | (simp_all; done)) (by first | assumption | omega | (simp; done) | (simp_all; done)) (by first | assumption | omega | (simp; done) | (simp_all; done)) (by first | assumption | omega | (simp; done) | (simp_all; done)) (by first | assumption | omega | (simp; done) | (simp_all; done)) (by first | assumption | omega | (simp; done) | (simp_all; done))) ⟨callB_of 1 hts (W0_good tw_435) rfl rfl rfl (htb _ tw_28) (htb _ tw_432) ⟨by decide, by decide, by decide +kernel⟩ ⟨(Nat.le_of_ble_eq_true rfl), (Nat.le_of_ble_eq_true rfl)⟩, htb _ tw_434, htb _ tw_11⟩ ⟨fun a U g mk q => by obtain ⟨q0, q1, qP, qK, qD⟩ := q; exact ⟨q0, q1, qP, va_K.moved (u := U) (U := U.calling g mk a) (Vm.Alike.refl U.vm) qK, qD⟩, va_recv hK hPc (q0 := 0) (q := (R_Mo, F_Mo, 13)) rfl rfl, fun U hU hW => ⟨rfl, by rw [hU], by rw [hU]; exact hPc, va_K.moved hW.alike hK, hDc.weaken (fun _ _ _ _ => trivial)⟩⟩ rfl rfl hl.1 rfl (lv_room (Nat.le_of_ble_eq_true rfl)) d_Mo_before_51 ⟨(Nat.le_of_ble_eq_true rfl), (Nat.le_of_ble_eq_true rfl)⟩) hS (fun q _ h => hFc q h) hFc (fun r51 u_ t H locs ht hvm hw51 hB hz1 hk1 hS => ?_)
      obtain ⟨hP1, hD1⟩ := hB
      rw [ht] at hP1
      obtain ⟨hP, hD⟩ := va_join (wr := []) (w1 := [(mo, .inr (5, [.int (nI sp), .int (nI d), .ref mdr, .int (nI mm - 1), .ref mtx, .ref mod, .ref mia, .ref mus, .ref mol, .ref mle, .int (nI my), .ref mrw, .ref mls])), (mtx, .inl (ky, 97, .inl (nA Mx)))]) hP hD [0, 1] [] rfl rfl (by decide) (by decide) hk1 hFc hP1 hD1
      have hP : va_P (dC, dI) cls_ [(mo, .inr (5, [.int (nI sp), .int (nI d), .ref mdr, .int (nI mm - 1), .ref mtx, .ref mod, .ref mia, .ref mus, .ref mol, .ref mle, .int (nI my), .ref mrw, .ref mls])), (mtx, .inl (ky, 97, .inl (nA Mx)))] H := hP
      have hD : va_D A [(mo, .inr (5, [.int (nI sp), .int (nI d), .ref mdr, .int (nI mm - 1), .ref mtx, .ref mod, .ref mia, .ref mus, .ref mol, .ref mle, .int (nI my), .ref mrw, .ref mls])), (mtx, .inl (ky, 97, .inl (nA Mx)))] := hD
      have hw51 : r51 = nI (cod (T (aa + k))) ∧ (True) := hw51
      obtain ⟨hre, hq51⟩ := hw51
      subst hre
      have hw3 := cod_lt (hT28 (aa + k))
      have hPc := hP.sub (ws' := []) [] rfl
      have hDc := hD.sub (ws' := []) [] (by decide) rfl
      have hFc := va_free (wc := []) hD hS hA [] rfl
      refine va_calli (va_runS (As := [.int (nI (cod (T (aa + k))))]) (rest := []) ⟨hx, hb, hml, hown, hts⟩ (c_Mo_worth l dC dI ky H.size (cod (T (aa + k))) (by first | assumption | omega | (simp; done) | (simp_all; done))) ⟨callB_of 1 hts (W0_good tw_438) rfl rfl rfl (htb _ tw_28) (htb _ tw_436) ⟨by decide, by decide, by decide +kernel⟩ ⟨(Nat.le_of_ble_eq_true rfl), (Nat.le_of_ble_eq_true rfl)⟩, htb _ tw_437⟩ ⟨fun a U g mk q => by obtain ⟨q0, q1, qP, qK, qD⟩ := q; exact ⟨q0, q1, qP, va_K.moved (u := U) (U := U.calling g mk a) (Vm.Alike.refl U.vm) qK, qD⟩, fun U hU hW => ⟨rfl, by rw [hU], by rw [hU]; exact hPc, va_K.moved hW.alike hK, hDc.weaken (fun _ _ _ _ => trivial)⟩⟩ rfl rfl hl.1 rfl (lv_room (Nat.le_of_ble_eq_true rfl)) d_Mo_before_54 ⟨(Nat.le_of_ble_eq_true rfl), (Nat.le_of_ble_eq_true rfl)⟩) hS (fun q _ h => hFc q h) hFc (fun r54 u_ t H locs ht hvm hw54 hB hz1 hk1 hS => ?_)
      obtain ⟨hP1, hD1⟩ := hB
      rw [ht] at hP1
      obtain ⟨hP, hD⟩ := va_join (wr := [(mo, .inr (5, [.int (nI sp), .int (nI d), .ref mdr, .int (nI mm - 1), .ref mtx, .ref mod, .ref mia, .ref mus, .ref mol, .ref mle, .int (nI my), .ref mrw, .ref mls])), (mtx, .inl (ky, 97, .inl (nA Mx)))]) (w1 := []) hP hD [] [0, 1] rfl rfl (by decide) (by decide) hk1 hFc hP1 hD1
      have hP : va_P (dC, dI) cls_ [(mo, .inr (5, [.int (nI sp), .int (nI d), .ref mdr, .int (nI mm - 1), .ref mtx, .ref mod, .ref mia, .ref mus, .ref mol, .ref mle, .int (nI my), .ref mrw, .ref mls])), (mtx, .inl (ky, 97, .inl (nA Mx)))] H := hP
      have hD : va_D A [(mo, .inr (5, [.int (nI sp), .int (nI d), .ref mdr, .int (nI mm - 1), .ref mtx, .ref mod, .ref mia, .ref mus, .ref mol, .ref mle, .int (nI my), .ref mrw, .ref mls])), (mtx, .inl (ky, 97, .inl (nA Mx)))] := hD
      have hw54 : r54 = nI (wor (cod (T (aa + k)))) ∧ (True) := hw54
      obtain ⟨hre, hq54⟩ := hw54
      subst hre
      refine lv_istore hx hb d_Mo_before_57 hl (by decide) rfl (fun ls hl => ?_)
      have hl : lv_has ls 5 [(4, .int (nI (wor (cod (T (aa + k)))))), (3, .int (nI k)), (0, .ref mo), (1, .int (nI aa)), (2, .int (nI bb))] := hl
      refine lv_iload hx hb d_Mo_before_59 (lv_at hl 0 rfl) ?_
      refine lv_aload_n hx hb d_Mo_before_61 rfl (lv_at hl 2 rfl) ?_
      refine lv_iload_n hx hb d_Mo_before_62 rfl (lv_at hl 4 rfl) ?_
      refine lv_iload_n hx hb d_Mo_before_63 rfl (lv_at hl 1 rfl) ?_
      refine lv_iadd hx hb d_Mo_before_64 ?_
      rw [nI_add]
      have hPc := hP.sub (ws' := [(mo, .inr (5, [.int (nI sp), .int (nI d), .ref mdr, .int (nI mm - 1), .ref mtx, .ref mod, .ref mia, .ref mus, .ref mol, .ref mle, .int (nI my), .ref mrw, .ref mls])), (mtx, .inl (ky, 97, .inl (nA Mx)))]) [0, 1] rfl
      have hDc := hD.sub (ws' := [(mo, .inr (5, [.int (nI sp), .int (nI d), .ref mdr, .int (nI mm - 1), .ref mtx, .ref mod, .ref mia, .ref mus, .ref mol, .ref mle, .int (nI my), .ref mrw, .ref mls])), (mtx, .inl (ky, 97, .inl (nA Mx)))]) [0, 1] (by decide) rfl
      have hFc := va_free (wc := [(mo, .inr (5, [.int (nI sp), .int (nI d), .ref mdr, .int (nI mm - 1), .ref mtx, .ref mod, .ref mia, .ref mus, .ref mol, .ref mle, .int (nI my), .ref mrw, .ref mls])), (mtx, .inl (ky, 97, .inl (nA Mx)))]) hD hS hA [0, 1] rfl
      refine va_calli (va_runV (C := "SelfIndexedSequencesModel") (As := [.int (nI (bb + k))]) (rest := [.int (nI (wor (cod (T (aa + k)))))]) ⟨hx, hb, hml, hown, hts⟩ (c_Mo_symbolAt l dC dI ky H.size mo sp d mdr mm mtx mod mia mus mol mle my mrw mls Mx T nn (bb + k) hMx (by first | assumption | omega | (simp; done) | (simp_all; done)) (by first | assumption | omega | (simp; done) | (simp_all; done)) (by first | assumption | omega | (simp; done) | (simp_all; done)) (by first | assumption | omega | (simp; done) | (simp_all; done)) (by first | assumption | omega | (simp; done) | (simp_all; done)) (by first | assumption | omega | (simp; done) | (simp_all; done))) ⟨callB_of 1 hts (W0_good tw_435) rfl rfl rfl (htb _ tw_28) (htb _ tw_432) ⟨by decide, by decide, by decide +kernel⟩ ⟨(Nat.le_of_ble_eq_true rfl), (Nat.le_of_ble_eq_true rfl)⟩, htb _ tw_434, htb _ tw_11⟩ ⟨fun a U g mk q => by obtain ⟨q0, q1, qP, qK, qD⟩ := q; exact ⟨q0, q1, qP, va_K.moved (u := U) (U := U.calling g mk a) (Vm.Alike.refl U.vm) qK, qD⟩, va_recv hK hPc (q0 := 0) (q := (R_Mo, F_Mo, 13)) rfl rfl, fun U hU hW => ⟨rfl, by rw [hU], by rw [hU]; exact hPc, va_K.moved hW.alike hK, hDc.weaken (fun _ _ _ _ => trivial)⟩⟩ rfl rfl hl.1 rfl (lv_room (Nat.le_of_ble_eq_true rfl)) d_Mo_before_65 ⟨(Nat.le_of_ble_eq_true rfl), (Nat.le_of_ble_eq_true rfl)⟩) hS (fun q _ h => hFc q h) hFc (fun r65 u_ t H locs ht hvm hw65 hB hz1 hk1 hS => ?_)
      obtain ⟨hP1, hD1⟩ := hB
      rw [ht] at hP1
      obtain ⟨hP, hD⟩ := va_join (wr := []) (w1 := [(mo, .inr (5, [.int (nI sp), .int (nI d), .ref mdr, .int (nI mm - 1), .ref mtx, .ref mod, .ref mia, .ref mus, .ref mol, .ref mle, .int (nI my), .ref mrw, .ref mls])), (mtx, .inl (ky, 97, .inl (nA Mx)))]) hP hD [0, 1] [] rfl rfl (by decide) (by decide) hk1 hFc hP1 hD1
      have hP : va_P (dC, dI) cls_ [(mo, .inr (5, [.int (nI sp), .int (nI d), .ref mdr, .int (nI mm - 1), .ref mtx, .ref mod, .ref mia, .ref mus, .ref mol, .ref mle, .int (nI my), .ref mrw, .ref mls])), (mtx, .inl (ky, 97, .inl (nA Mx)))] H := hP
      have hD : va_D A [(mo, .inr (5, [.int (nI sp), .int (nI d), .ref mdr, .int (nI mm - 1), .ref mtx, .ref mod, .ref mia, .ref mus, .ref mol, .ref mle, .int (nI my), .ref mrw, .ref mls])), (mtx, .inl (ky, 97, .inl (nA Mx)))] := hD
      have hw65 : r65 = nI (cod (T (bb + k))) ∧ (True) := hw65
      obtain ⟨hre, hq65⟩ := hw65
      subst hre
      have hw4 := cod_lt (hT28 (bb + k))
      have hPc := hP.sub (ws' := []) [] rfl
      have hDc := hD.sub (ws' := []) [] (by decide) rfl
      have hFc := va_free (wc := []) hD hS hA [] rfl
      refine va_calli (va_runS (As := [.int (nI (cod (T (bb + k))))]) (rest := [.int (nI (wor (cod (T (aa + k)))))]) ⟨hx, hb, hml, hown, hts⟩ (c_Mo_worth l dC dI ky H.size (cod (T (bb + k))) (by first | assumption | omega | (simp; done) | (simp_all; done))) ⟨callB_of 1 hts (W0_good tw_438) rfl rfl rfl (htb _ tw_28) (htb _ tw_436) ⟨by decide, by decide, by decide +kernel⟩ ⟨(Nat.le_of_ble_eq_true rfl), (Nat.le_of_ble_eq_true rfl)⟩, htb _ tw_437⟩ ⟨fun a U g mk q => by obtain ⟨q0, q1, qP, qK, qD⟩ := q; exact ⟨q0, q1, qP, va_K.moved (u := U) (U := U.calling g mk a) (Vm.Alike.refl U.vm) qK, qD⟩, fun U hU hW => ⟨rfl, by rw [hU], by rw [hU]; exact hPc, va_K.moved hW.alike hK, hDc.weaken (fun _ _ _ _ => trivial)⟩⟩ rfl rfl hl.1 rfl (lv_room (Nat.le_of_ble_eq_true rfl)) d_Mo_before_68 ⟨(Nat.le_of_ble_eq_true rfl), (Nat.le_of_ble_eq_true rfl)⟩) hS (fun q _ h => hFc q h) hFc (fun r68 u_ t H locs ht hvm hw68 hB hz1 hk1 hS => ?_)
      obtain ⟨hP1, hD1⟩ := hB
      rw [ht] at hP1
      obtain ⟨hP, hD⟩ := va_join (wr := [(mo, .inr (5, [.int (nI sp), .int (nI d), .ref mdr, .int (nI mm - 1), .ref mtx, .ref mod, .ref mia, .ref mus, .ref mol, .ref mle, .int (nI my), .ref mrw, .ref mls])), (mtx, .inl (ky, 97, .inl (nA Mx)))]) (w1 := []) hP hD [] [0, 1] rfl rfl (by decide) (by decide) hk1 hFc hP1 hD1
      have hP : va_P (dC, dI) cls_ [(mo, .inr (5, [.int (nI sp), .int (nI d), .ref mdr, .int (nI mm - 1), .ref mtx, .ref mod, .ref mia, .ref mus, .ref mol, .ref mle, .int (nI my), .ref mrw, .ref mls])), (mtx, .inl (ky, 97, .inl (nA Mx)))] H := hP
      have hD : va_D A [(mo, .inr (5, [.int (nI sp), .int (nI d), .ref mdr, .int (nI mm - 1), .ref mtx, .ref mod, .ref mia, .ref mus, .ref mol, .ref mle, .int (nI my), .ref mrw, .ref mls])), (mtx, .inl (ky, 97, .inl (nA Mx)))] := hD
      have hw68 : r68 = nI (wor (cod (T (bb + k)))) ∧ (True) := hw68
      obtain ⟨hre, hq68⟩ := hw68
      subst hre
      have hw1 := wor_b (hT28 (aa + k))
      have hw2 := wor_b (hT28 (bb + k))
      refine lv_icmp_ge (tgt := 78) hx hb d_Mo_before_71 (by decide) (fun hc71 => ?_) (fun hc71 => ?_)
      · skip
        rw [bw_le_nn (by omega) (by omega)] at hc71
        refine lv_iconst (v := nI 0) hx hb d_Mo_before_78 (by decide) ?_
        have hP9 := hP.sub (ws' := [(mo, .inr (5, [.int (nI sp), .int (nI d), .ref mdr, .int (nI mm - 1), .ref mtx, .ref mod, .ref mia, .ref mus, .ref mol, .ref mle, .int (nI my), .ref mrw, .ref mls])), (mtx, .inl (ky, 97, .inl (nA Mx)))]) [0, 1] rfl
        have hD9 := hD.sub (ws' := [(mo, .inr (5, [.int (nI sp), .int (nI d), .ref mdr, .int (nI mm - 1), .ref mtx, .ref mod, .ref mia, .ref mus, .ref mol, .ref mle, .int (nI my), .ref mrw, .ref mls])), (mtx, .inl (ky, 97, .inl (nA Mx)))]) [0, 1] (by decide) rfl
        exact W.zret (v := nI 0) hx hb hr (by first | rfl | decide) (fun t ht hW => ⟨⟨nI 0, (), rfl, (by first | exact Or.inl ⟨(bf_fin hT28 heq hne).mpr (by omega), rfl⟩ | exact Or.inr ⟨fun q => by have := (bf_fin hT28 heq hne).mp q; omega, rfl⟩), by rw [ht]; exact hP9, hD9⟩, hS.F ht⟩) hS.2.2 d_Mo_before_79
      · skip
        rw [bw_le_nn (by omega) (by omega)] at hc71
        refine lv_iconst (v := nI 1) hx hb d_Mo_before_74 (by decide) ?_
        refine lv_goto (tgt := 79) hx hb d_Mo_before_75 (by decide) ?_
        have hP9 := hP.sub (ws' := [(mo, .inr (5, [.int (nI sp), .int (nI d), .ref mdr, .int (nI mm - 1), .ref mtx, .ref mod, .ref mia, .ref mus, .ref mol, .ref mle, .int (nI my), .ref mrw, .ref mls])), (mtx, .inl (ky, 97, .inl (nA Mx)))]) [0, 1] rfl
        have hD9 := hD.sub (ws' := [(mo, .inr (5, [.int (nI sp), .int (nI d), .ref mdr, .int (nI mm - 1), .ref mtx, .ref mod, .ref mia, .ref mus, .ref mol, .ref mle, .int (nI my), .ref mrw, .ref mls])), (mtx, .inl (ky, 97, .inl (nA Mx)))]) [0, 1] (by decide) rfl
        exact W.zret (v := nI 1) hx hb hr (by first | rfl | decide) (fun t ht hW => ⟨⟨nI 1, (), rfl, (by first | exact Or.inl ⟨(bf_fin hT28 heq hne).mpr (by omega), rfl⟩ | exact Or.inr ⟨fun q => by have := (bf_fin hT28 heq hne).mp q; omega, rfl⟩), by rw [ht]; exact hP9, hD9⟩, hS.F ht⟩) hS.2.2 d_Mo_before_79
    · skip
      rw [bw_le_pn (by omega) (by omega)] at hc19
      refine lv_aload_n hx hb d_Mo_before_22 rfl (lv_at hl 1 rfl) ?_
      refine va_get (D := (dC, dI)) (ci := 5) (v := .ref mtx) (C := R_Mo) (T := F_Mo) (N := 13) hx hb htb in_Mo hown hK hP 0 rfl rfl 4 (by decide) (htb _ tw_365) (fun _ h9 => h9) rfl d_Mo_before_23 ?_
      refine lv_iload_n hx hb d_Mo_before_26 rfl (lv_at hl 2 rfl) ?_
      refine lv_iload_n hx hb d_Mo_before_27 rfl (lv_at hl 0 rfl) ?_
      refine lv_iadd hx hb d_Mo_before_28 ?_
      rw [nI_add]
      refine va_iald hx hb hK hP 1 0 rfl rfl (vp_in_nI (by omega) (by decide)) d_Mo_before_29 ?_
      rw [nI_clamp (by omega)]
      have hb29 := hMx (aa + k)
      rw [nA_at]
      refine lv_aload_n hx hb d_Mo_before_30 rfl (lv_at hl 1 rfl) ?_
      refine va_get (D := (dC, dI)) (ci := 5) (v := .ref mtx) (C := R_Mo) (T := F_Mo) (N := 13) hx hb htb in_Mo hown hK hP 0 rfl rfl 4 (by decide) (htb _ tw_365) (fun _ h9 => h9) rfl d_Mo_before_31 ?_
      refine lv_iload_n hx hb d_Mo_before_34 rfl (lv_at hl 3 rfl) ?_
      refine lv_iload_n hx hb d_Mo_before_35 rfl (lv_at hl 0 rfl) ?_
      refine lv_iadd hx hb d_Mo_before_36 ?_
      rw [nI_add]
      refine va_iald hx hb hK hP 1 0 rfl rfl (vp_in_nI (by omega) (by decide)) d_Mo_before_37 ?_
      rw [nI_clamp (by omega)]
      have hb37 := hMx (bb + k)
      rw [nA_at]
      have hm1 := hMx (aa + k)
      have hm2 := hMx (bb + k)
      refine lv_icmp_ne (tgt := 47) hx hb d_Mo_before_38 (by decide) (fun hc38 => ?_) (fun hc38 => ?_)
      · skip
        rw [bw_eq_nn (by omega) (by omega)] at hc38
        have hne : T (aa + k) ≠ T (bb + k) := fun q => hc38 (by rw [hTx _ (by omega), hTx _ (by omega), q])
        refine lv_aload_n hx hb d_Mo_before_47 rfl (lv_at hl 1 rfl) ?_
        refine lv_iload_n hx hb d_Mo_before_48 rfl (lv_at hl 2 rfl) ?_
        refine lv_iload_n hx hb d_Mo_before_49 rfl (lv_at hl 0 rfl) ?_
        refine lv_iadd hx hb d_Mo_before_50 ?_
        rw [nI_add]
        have hPc := hP.sub (ws' := [(mo, .inr (5, [.int (nI sp), .int (nI d), .ref mdr, .int (nI mm - 1), .ref mtx, .ref mod, .ref mia, .ref mus, .ref mol, .ref mle, .int (nI my), .ref mrw, .ref mls])), (mtx, .inl (ky, 97, .inl (nA Mx)))]) [0, 1] rfl
        have hDc := hD.sub (ws' := [(mo, .inr (5, [.int (nI sp), .int (nI d), .ref mdr, .int (nI mm - 1), .ref mtx, .ref mod, .ref mia, .ref mus, .ref mol, .ref mle, .int (nI my), .ref mrw, .ref mls])), (mtx, .inl (ky, 97, .inl (nA Mx)))]) [0, 1] (by decide) rfl
        have hFc := va_free (wc := [(mo, .inr (5, [.int (nI sp), .int (nI d), .ref mdr, .int (nI mm - 1), .ref mtx, .ref mod, .ref mia, .ref mus, .ref mol, .ref mle, .int (nI my), .ref mrw, .ref mls])), (mtx, .inl (ky, 97, .inl (nA Mx)))]) hD hS hA [0, 1] rfl
        refine va_calli (va_runV (C := "SelfIndexedSequencesModel") (As := [.int (nI (aa + k))]) (rest := []) ⟨hx, hb, hml, hown, hts⟩ (c_Mo_symbolAt l dC dI ky H.size mo sp d mdr mm mtx mod mia mus mol mle my mrw mls Mx T nn (aa + k) hMx (by first | assumption | omega | (simp; done) | (simp_all; done)) (by first | assumption | omega | (simp; done) | (simp_all; done)) (by first | assumption | omega | (simp; done) | (simp_all; done)) (by first | assumption | omega | (simp; done) | (simp_all; done)) (by first | assumption | omega | (simp; done) | (simp_all; done)) (by first | assumption | omega | (simp; done) | (simp_all; done))) ⟨callB_of 1 hts (W0_good tw_435) rfl rfl rfl (htb _ tw_28) (htb _ tw_432) ⟨by decide, by decide, by decide +kernel⟩ ⟨(Nat.le_of_ble_eq_true rfl), (Nat.le_of_ble_eq_true rfl)⟩, htb _ tw_434, htb _ tw_11⟩ ⟨fun a U g mk q => by obtain ⟨q0, q1, qP, qK, qD⟩ := q; exact ⟨q0, q1, qP, va_K.moved (u := U) (U := U.calling g mk a) (Vm.Alike.refl U.vm) qK, qD⟩, va_recv hK hPc (q0 := 0) (q := (R_Mo, F_Mo, 13)) rfl rfl, fun U hU hW => ⟨rfl, by rw [hU], by rw [hU]; exact hPc, va_K.moved hW.alike hK, hDc.weaken (fun _ _ _ _ => trivial)⟩⟩ rfl rfl hl.1 rfl (lv_room (Nat.le_of_ble_eq_true rfl)) d_Mo_before_51 ⟨(Nat.le_of_ble_eq_true rfl), (Nat.le_of_ble_eq_true rfl)⟩) hS (fun q _ h => hFc q h) hFc (fun r51 u_ t H locs ht hvm hw51 hB hz1 hk1 hS => ?_)
        obtain ⟨hP1, hD1⟩ := hB
        rw [ht] at hP1
        obtain ⟨hP, hD⟩ := va_join (wr := []) (w1 := [(mo, .inr (5, [.int (nI sp), .int (nI d), .ref mdr, .int (nI mm - 1), .ref mtx, .ref mod, .ref mia, .ref mus, .ref mol, .ref mle, .int (nI my), .ref mrw, .ref mls])), (mtx, .inl (ky, 97, .inl (nA Mx)))]) hP hD [0, 1] [] rfl rfl (by decide) (by decide) hk1 hFc hP1 hD1
        have hP : va_P (dC, dI) cls_ [(mo, .inr (5, [.int (nI sp), .int (nI d), .ref mdr, .int (nI mm - 1), .ref mtx, .ref mod, .ref mia, .ref mus, .ref mol, .ref mle, .int (nI my), .ref mrw, .ref mls])), (mtx, .inl (ky, 97, .inl (nA Mx)))] H := hP
        have hD : va_D A [(mo, .inr (5, [.int (nI sp), .int (nI d), .ref mdr, .int (nI mm - 1), .ref mtx, .ref mod, .ref mia, .ref mus, .ref mol, .ref mle, .int (nI my), .ref mrw, .ref mls])), (mtx, .inl (ky, 97, .inl (nA Mx)))] := hD
        have hw51 : r51 = nI (cod (T (aa + k))) ∧ (True) := hw51
        obtain ⟨hre, hq51⟩ := hw51
        subst hre
        have hw3 := cod_lt (hT28 (aa + k))
        have hPc := hP.sub (ws' := []) [] rfl
        have hDc := hD.sub (ws' := []) [] (by decide) rfl
        have hFc := va_free (wc := []) hD hS hA [] rfl
        refine va_calli (va_runS (As := [.int (nI (cod (T (aa + k))))]) (rest := []) ⟨hx, hb, hml, hown, hts⟩ (c_Mo_worth l dC dI ky H.size (cod (T (aa + k))) (by first | assumption | omega | (simp; done) | (simp_all; done))) ⟨callB_of 1 hts (W0_good tw_438) rfl rfl rfl (htb _ tw_28) (htb _ tw_436) ⟨by decide, by decide, by decide +kernel⟩ ⟨(Nat.le_of_ble_eq_true rfl), (Nat.le_of_ble_eq_true rfl)⟩, htb _ tw_437⟩ ⟨fun a U g mk q => by obtain ⟨q0, q1, qP, qK, qD⟩ := q; exact ⟨q0, q1, qP, va_K.moved (u := U) (U := U.calling g mk a) (Vm.Alike.refl U.vm) qK, qD⟩, fun U hU hW => ⟨rfl, by rw [hU], by rw [hU]; exact hPc, va_K.moved hW.alike hK, hDc.weaken (fun _ _ _ _ => trivial)⟩⟩ rfl rfl hl.1 rfl (lv_room (Nat.le_of_ble_eq_true rfl)) d_Mo_before_54 ⟨(Nat.le_of_ble_eq_true rfl), (Nat.le_of_ble_eq_true rfl)⟩) hS (fun q _ h => hFc q h) hFc (fun r54 u_ t H locs ht hvm hw54 hB hz1 hk1 hS => ?_)
        obtain ⟨hP1, hD1⟩ := hB
        rw [ht] at hP1
        obtain ⟨hP, hD⟩ := va_join (wr := [(mo, .inr (5, [.int (nI sp), .int (nI d), .ref mdr, .int (nI mm - 1), .ref mtx, .ref mod, .ref mia, .ref mus, .ref mol, .ref mle, .int (nI my), .ref mrw, .ref mls])), (mtx, .inl (ky, 97, .inl (nA Mx)))]) (w1 := []) hP hD [] [0, 1] rfl rfl (by decide) (by decide) hk1 hFc hP1 hD1
        have hP : va_P (dC, dI) cls_ [(mo, .inr (5, [.int (nI sp), .int (nI d), .ref mdr, .int (nI mm - 1), .ref mtx, .ref mod, .ref mia, .ref mus, .ref mol, .ref mle, .int (nI my), .ref mrw, .ref mls])), (mtx, .inl (ky, 97, .inl (nA Mx)))] H := hP
        have hD : va_D A [(mo, .inr (5, [.int (nI sp), .int (nI d), .ref mdr, .int (nI mm - 1), .ref mtx, .ref mod, .ref mia, .ref mus, .ref mol, .ref mle, .int (nI my), .ref mrw, .ref mls])), (mtx, .inl (ky, 97, .inl (nA Mx)))] := hD
        have hw54 : r54 = nI (wor (cod (T (aa + k)))) ∧ (True) := hw54
        obtain ⟨hre, hq54⟩ := hw54
        subst hre
        refine lv_istore hx hb d_Mo_before_57 hl (by decide) rfl (fun ls hl => ?_)
        have hl : lv_has ls 5 [(4, .int (nI (wor (cod (T (aa + k)))))), (3, .int (nI k)), (0, .ref mo), (1, .int (nI aa)), (2, .int (nI bb))] := hl
        refine lv_iload hx hb d_Mo_before_59 (lv_at hl 0 rfl) ?_
        refine lv_aload_n hx hb d_Mo_before_61 rfl (lv_at hl 2 rfl) ?_
        refine lv_iload_n hx hb d_Mo_before_62 rfl (lv_at hl 4 rfl) ?_
        refine lv_iload_n hx hb d_Mo_before_63 rfl (lv_at hl 1 rfl) ?_
        refine lv_iadd hx hb d_Mo_before_64 ?_
        rw [nI_add]
        have hPc := hP.sub (ws' := [(mo, .inr (5, [.int (nI sp), .int (nI d), .ref mdr, .int (nI mm - 1), .ref mtx, .ref mod, .ref mia, .ref mus, .ref mol, .ref mle, .int (nI my), .ref mrw, .ref mls])), (mtx, .inl (ky, 97, .inl (nA Mx)))]) [0, 1] rfl
        have hDc := hD.sub (ws' := [(mo, .inr (5, [.int (nI sp), .int (nI d), .ref mdr, .int (nI mm - 1), .ref mtx, .ref mod, .ref mia, .ref mus, .ref mol, .ref mle, .int (nI my), .ref mrw, .ref mls])), (mtx, .inl (ky, 97, .inl (nA Mx)))]) [0, 1] (by decide) rfl
        have hFc := va_free (wc := [(mo, .inr (5, [.int (nI sp), .int (nI d), .ref mdr, .int (nI mm - 1), .ref mtx, .ref mod, .ref mia, .ref mus, .ref mol, .ref mle, .int (nI my), .ref mrw, .ref mls])), (mtx, .inl (ky, 97, .inl (nA Mx)))]) hD hS hA [0, 1] rfl
        refine va_calli (va_runV (C := "SelfIndexedSequencesModel") (As := [.int (nI (bb + k))]) (rest := [.int (nI (wor (cod (T (aa + k)))))]) ⟨hx, hb, hml, hown, hts⟩ (c_Mo_symbolAt l dC dI ky H.size mo sp d mdr mm mtx mod mia mus mol mle my mrw mls Mx T nn (bb + k) hMx (by first | assumption | omega | (simp; done) | (simp_all; done)) (by first | assumption | omega | (simp; done) | (simp_all; done)) (by first | assumption | omega | (simp; done) | (simp_all; done)) (by first | assumption | omega | (simp; done) | (simp_all; done)) (by first | assumption | omega | (simp; done) | (simp_all; done)) (by first | assumption | omega | (simp; done) | (simp_all; done))) ⟨callB_of 1 hts (W0_good tw_435) rfl rfl rfl (htb _ tw_28) (htb _ tw_432) ⟨by decide, by decide, by decide +kernel⟩ ⟨(Nat.le_of_ble_eq_true rfl), (Nat.le_of_ble_eq_true rfl)⟩, htb _ tw_434, htb _ tw_11⟩ ⟨fun a U g mk q => by obtain ⟨q0, q1, qP, qK, qD⟩ := q; exact ⟨q0, q1, qP, va_K.moved (u := U) (U := U.calling g mk a) (Vm.Alike.refl U.vm) qK, qD⟩, va_recv hK hPc (q0 := 0) (q := (R_Mo, F_Mo, 13)) rfl rfl, fun U hU hW => ⟨rfl, by rw [hU], by rw [hU]; exact hPc, va_K.moved hW.alike hK, hDc.weaken (fun _ _ _ _ => trivial)⟩⟩ rfl rfl hl.1 rfl (lv_room (Nat.le_of_ble_eq_true rfl)) d_Mo_before_65 ⟨(Nat.le_of_ble_eq_true rfl), (Nat.le_of_ble_eq_true rfl)⟩) hS (fun q _ h => hFc q h) hFc (fun r65 u_ t H locs ht hvm hw65 hB hz1 hk1 hS => ?_)
        obtain ⟨hP1, hD1⟩ := hB
        rw [ht] at hP1
        obtain ⟨hP, hD⟩ := va_join (wr := []) (w1 := [(mo, .inr (5, [.int (nI sp), .int (nI d), .ref mdr, .int (nI mm - 1), .ref mtx, .ref mod, .ref mia, .ref mus, .ref mol, .ref mle, .int (nI my), .ref mrw, .ref mls])), (mtx, .inl (ky, 97, .inl (nA Mx)))]) hP hD [0, 1] [] rfl rfl (by decide) (by decide) hk1 hFc hP1 hD1
        have hP : va_P (dC, dI) cls_ [(mo, .inr (5, [.int (nI sp), .int (nI d), .ref mdr, .int (nI mm - 1), .ref mtx, .ref mod, .ref mia, .ref mus, .ref mol, .ref mle, .int (nI my), .ref mrw, .ref mls])), (mtx, .inl (ky, 97, .inl (nA Mx)))] H := hP
        have hD : va_D A [(mo, .inr (5, [.int (nI sp), .int (nI d), .ref mdr, .int (nI mm - 1), .ref mtx, .ref mod, .ref mia, .ref mus, .ref mol, .ref mle, .int (nI my), .ref mrw, .ref mls])), (mtx, .inl (ky, 97, .inl (nA Mx)))] := hD
        have hw65 : r65 = nI (cod (T (bb + k))) ∧ (True) := hw65
        obtain ⟨hre, hq65⟩ := hw65
        subst hre
        have hw4 := cod_lt (hT28 (bb + k))
        have hPc := hP.sub (ws' := []) [] rfl
        have hDc := hD.sub (ws' := []) [] (by decide) rfl
        have hFc := va_free (wc := []) hD hS hA [] rfl
        refine va_calli (va_runS (As := [.int (nI (cod (T (bb + k))))]) (rest := [.int (nI (wor (cod (T (aa + k)))))]) ⟨hx, hb, hml, hown, hts⟩ (c_Mo_worth l dC dI ky H.size (cod (T (bb + k))) (by first | assumption | omega | (simp; done) | (simp_all; done))) ⟨callB_of 1 hts (W0_good tw_438) rfl rfl rfl (htb _ tw_28) (htb _ tw_436) ⟨by decide, by decide, by decide +kernel⟩ ⟨(Nat.le_of_ble_eq_true rfl), (Nat.le_of_ble_eq_true rfl)⟩, htb _ tw_437⟩ ⟨fun a U g mk q => by obtain ⟨q0, q1, qP, qK, qD⟩ := q; exact ⟨q0, q1, qP, va_K.moved (u := U) (U := U.calling g mk a) (Vm.Alike.refl U.vm) qK, qD⟩, fun U hU hW => ⟨rfl, by rw [hU], by rw [hU]; exact hPc, va_K.moved hW.alike hK, hDc.weaken (fun _ _ _ _ => trivial)⟩⟩ rfl rfl hl.1 rfl (lv_room (Nat.le_of_ble_eq_true rfl)) d_Mo_before_68 ⟨(Nat.le_of_ble_eq_true rfl), (Nat.le_of_ble_eq_true rfl)⟩) hS (fun q _ h => hFc q h) hFc (fun r68 u_ t H locs ht hvm hw68 hB hz1 hk1 hS => ?_)
        obtain ⟨hP1, hD1⟩ := hB
        rw [ht] at hP1
        obtain ⟨hP, hD⟩ := va_join (wr := [(mo, .inr (5, [.int (nI sp), .int (nI d), .ref mdr, .int (nI mm - 1), .ref mtx, .ref mod, .ref mia, .ref mus, .ref mol, .ref mle, .int (nI my), .ref mrw, .ref mls])), (mtx, .inl (ky, 97, .inl (nA Mx)))]) (w1 := []) hP hD [] [0, 1] rfl rfl (by decide) (by decide) hk1 hFc hP1 hD1
        have hP : va_P (dC, dI) cls_ [(mo, .inr (5, [.int (nI sp), .int (nI d), .ref mdr, .int (nI mm - 1), .ref mtx, .ref mod, .ref mia, .ref mus, .ref mol, .ref mle, .int (nI my), .ref mrw, .ref mls])), (mtx, .inl (ky, 97, .inl (nA Mx)))] H := hP
        have hD : va_D A [(mo, .inr (5, [.int (nI sp), .int (nI d), .ref mdr, .int (nI mm - 1), .ref mtx, .ref mod, .ref mia, .ref mus, .ref mol, .ref mle, .int (nI my), .ref mrw, .ref mls])), (mtx, .inl (ky, 97, .inl (nA Mx)))] := hD
        have hw68 : r68 = nI (wor (cod (T (bb + k)))) ∧ (True) := hw68
        obtain ⟨hre, hq68⟩ := hw68
        subst hre
        have hw1 := wor_b (hT28 (aa + k))
        have hw2 := wor_b (hT28 (bb + k))
        refine lv_icmp_ge (tgt := 78) hx hb d_Mo_before_71 (by decide) (fun hc71 => ?_) (fun hc71 => ?_)
        · skip
          rw [bw_le_nn (by omega) (by omega)] at hc71
          refine lv_iconst (v := nI 0) hx hb d_Mo_before_78 (by decide) ?_
          have hP9 := hP.sub (ws' := [(mo, .inr (5, [.int (nI sp), .int (nI d), .ref mdr, .int (nI mm - 1), .ref mtx, .ref mod, .ref mia, .ref mus, .ref mol, .ref mle, .int (nI my), .ref mrw, .ref mls])), (mtx, .inl (ky, 97, .inl (nA Mx)))]) [0, 1] rfl
          have hD9 := hD.sub (ws' := [(mo, .inr (5, [.int (nI sp), .int (nI d), .ref mdr, .int (nI mm - 1), .ref mtx, .ref mod, .ref mia, .ref mus, .ref mol, .ref mle, .int (nI my), .ref mrw, .ref mls])), (mtx, .inl (ky, 97, .inl (nA Mx)))]) [0, 1] (by decide) rfl
          exact W.zret (v := nI 0) hx hb hr (by first | rfl | decide) (fun t ht hW => ⟨⟨nI 0, (), rfl, (by first | exact Or.inl ⟨(bf_fin hT28 heq hne).mpr (by omega), rfl⟩ | exact Or.inr ⟨fun q => by have := (bf_fin hT28 heq hne).mp q; omega, rfl⟩), by rw [ht]; exact hP9, hD9⟩, hS.F ht⟩) hS.2.2 d_Mo_before_79
        · skip
          rw [bw_le_nn (by omega) (by omega)] at hc71
          refine lv_iconst (v := nI 1) hx hb d_Mo_before_74 (by decide) ?_
          refine lv_goto (tgt := 79) hx hb d_Mo_before_75 (by decide) ?_
          have hP9 := hP.sub (ws' := [(mo, .inr (5, [.int (nI sp), .int (nI d), .ref mdr, .int (nI mm - 1), .ref mtx, .ref mod, .ref mia, .ref mus, .ref mol, .ref mle, .int (nI my), .ref mrw, .ref mls])), (mtx, .inl (ky, 97, .inl (nA Mx)))]) [0, 1] rfl
          have hD9 := hD.sub (ws' := [(mo, .inr (5, [.int (nI sp), .int (nI d), .ref mdr, .int (nI mm - 1), .ref mtx, .ref mod, .ref mia, .ref mus, .ref mol, .ref mle, .int (nI my), .ref mrw, .ref mls])), (mtx, .inl (ky, 97, .inl (nA Mx)))]) [0, 1] (by decide) rfl
          exact W.zret (v := nI 1) hx hb hr (by first | rfl | decide) (fun t ht hW => ⟨⟨nI 1, (), rfl, (by first | exact Or.inl ⟨(bf_fin hT28 heq hne).mpr (by omega), rfl⟩ | exact Or.inr ⟨fun q => by have := (bf_fin hT28 heq hne).mp q; omega, rfl⟩), by rw [ht]; exact hP9, hD9⟩, hS.F ht⟩) hS.2.2 d_Mo_before_79
      · skip
        rw [bw_eq_nn (by omega) (by omega)] at hc38
        refine lv_iinc (v := nI (k + 1)) (k := 0) hx hb d_Mo_before_41 hl rfl (bw_inc k 1) (by decide) rfl (fun ls hl => ?_)
        have hl : lv_has ls 5 [(3, .int (nI (k + 1))), (0, .ref mo), (1, .int (nI aa)), (2, .int (nI bb))] := hl
        refine lv_goto (tgt := 2) hx hb d_Mo_before_44 (by decide) ?_
        exact ih2 (k + 1) _ _ _ ⟨(by first | assumption | omega | (simp; done) | (simp_all; done)), (by first | assumption | omega | (simp; done) | (simp_all; done)), (fun j hj => if e : j = k then (by rw [e]; exact cod_inj (hT28 _) (hT28 _) (by rw [← hTx _ (by omega), ← hTx _ (by omega)]; assumption)) else (by exact heq j (by omega))), hP, hD, hS, lv_sub hl [0, 1, 2, 3] rfl⟩ (by omega)

set_option maxHeartbeats 4000000 in
set_option maxRecDepth 100000 in
theorem c_Mo_sort (l : Launch) (dC : Nat → ClassId) (dI : Nat → Nat → Nat) (ky : ClassId) (sz : Nat) (mo : Nat) (sp : Nat) (d : Nat) (mdr : Nat) (mm : Nat) (mtx : Nat) (mod : Nat) (mia : Nat) (mus : Nat) (mol : Nat) (mle : Nat) (my : Nat) (mrw : Nat) (mls : Nat) (Mx : Nat → Nat) (Od : Nat → Nat) (Ia : Nat → Nat) (T : Nat → Nat) (nn : Nat) (hMx : ∀ k_, Mx k_ < 125) (hOd : ∀ k_, Od k_ < 97) (hIa : ∀ k_, Ia k_ < 125) (hmm : mm = nn + 1) (hnn : nn ≤ 96) (hT : Txt T nn) (hT28 : ∀ k_, T k_ < 28) (hTx : ∀ q, q < nn → Mx q = cod (T q)) : Met l y_Mo_sort (Cond.code y_Mo_sort prog_7_method_10_code 3 none :: W0) ({ frames := 2, cells := 0, slots := 0, locals := 45 }) (va_Pc [.ref mo] (fun U => U.heap.size = sz ∧ va_P (dC, dI) cls_ [(mo, .inr (5, [.int (nI sp), .int (nI d), .ref mdr, .int (nI mm - 1), .ref mtx, .ref mod, .ref mia, .ref mus, .ref mol, .ref mle, .int (nI my), .ref mrw, .ref mls])), (mtx, .inl (ky, 97, .inl (nA Mx))), (mod, .inl (ky, 97, .inl (nA Od))), (mia, .inl (ky, 97, .inl (nA Ia)))] U.heap ∧ va_K (dC, dI) cls_ [(ky, .int)] U ∧ va_D (fun _ => True) [(mo, .inr (5, [.int (nI sp), .int (nI d), .ref mdr, .int (nI mm - 1), .ref mtx, .ref mod, .ref mia, .ref mus, .ref mol, .ref mle, .int (nI my), .ref mrw, .ref mls])), (mtx, .inl (ky, 97, .inl (nA Mx))), (mod, .inl (ky, 97, .inl (nA Od))), (mia, .inl (ky, 97, .inl (nA Ia)))])) (va_Qv (fun (u : (Nat → Nat) × (Nat → Nat)) => match u with | (On, In) => (∃ R, Srt T nn On R) ∧ (∀ j, j < nn + 1 → In j = cod (T (prv nn (On j)))) ∧ (∀ k_, On k_ < 97) ∧ (∀ k_, In k_ < 125)) (fun (u : (Nat → Nat) × (Nat → Nat)) (t : State) => match u with | (On, In) => va_P (dC, dI) cls_ [(mo, .inr (5, [.int (nI sp), .int (nI d), .ref mdr, .int (nI mm - 1), .ref mtx, .ref mod, .ref mia, .ref mus, .ref mol, .ref mle, .int (nI my), .ref mrw, .ref mls])), (mtx, .inl (ky, 97, .inl (nA Mx))), (mod, .inl (ky, 97, .inl (nA On))), (mia, .inl (ky, 97, .inl (nA In)))] t.heap ∧ va_D (va_A [(mo, .inr (5, [.int (nI sp), .int (nI d), .ref mdr, .int (nI mm - 1), .ref mtx, .ref mod, .ref mia, .ref mus, .ref mol, .ref mle, .int (nI my), .ref mrw, .ref mls])), (mtx, .inl (ky, 97, .inl (nA Mx))), (mod, .inl (ky, 97, .inl (nA Od))), (mia, .inl (ky, 97, .inl (nA Ia)))] sz) [(mo, .inr (5, [.int (nI sp), .int (nI d), .ref mdr, .int (nI mm - 1), .ref mtx, .ref mod, .ref mia, .ref mus, .ref mol, .ref mle, .int (nI my), .ref mrw, .ref mls])), (mtx, .inl (ky, 97, .inl (nA Mx))), (mod, .inl (ky, 97, .inl (nA On))), (mia, .inl (ky, 97, .inl (nA In)))]) (va_A [(mo, .inr (5, [.int (nI sp), .int (nI d), .ref mdr, .int (nI mm - 1), .ref mtx, .ref mod, .ref mia, .ref mus, .ref mol, .ref mle, .int (nI my), .ref mrw, .ref mls])), (mtx, .inl (ky, 97, .inl (nA Mx))), (mod, .inl (ky, 97, .inl (nA Od))), (mia, .inl (ky, 97, .inl (nA Ia)))] sz)) 0 0 (va_A [(mo, .inr (5, [.int (nI sp), .int (nI d), .ref mdr, .int (nI mm - 1), .ref mtx, .ref mod, .ref mia, .ref mus, .ref mol, .ref mle, .int (nI my), .ref mrw, .ref mls])), (mtx, .inl (ky, 97, .inl (nA Mx))), (mod, .inl (ky, 97, .inl (nA Od))), (mia, .inl (ky, 97, .inl (nA Ia)))] sz) := by
  refine Met.ofW (cc := prog_7_method_10_code) (maxL := 3) (ret := none) (by decide) rfl ?_
  intro p e s m args below meth c s₁ B hml hv
  obtain ⟨rfl, hsz, hP, hK, hD0⟩ := hv
  have hx := B.exec
  have hb := B.bytes
  have hr := B.returns
  have hlocks := B.notSynchronized
  have hts := atoms_spec (ws := (Cond.code y_Mo_sort prog_7_method_10_code 3 none :: W0)) B.pre
  have htb : ∀ w ∈ W0, w.before _ s = true := fun w h => hts w (List.mem_cons_of_mem _ h)
  have hown : s.vm.findClass "SelfIndexedSequencesModel" = some m.cls := findClass_of_methodNamed B.named
  subst hsz
  have hD := hD0.self (sz := s.heap.size)
  generalize hAe : va_A [(mo, .inr (5, [.int (nI sp), .int (nI d), .ref mdr, .int (nI mm - 1), .ref mtx, .ref mod, .ref mia, .ref mus, .ref mol, .ref mle, .int (nI my), .ref mrw, .ref mls])), (mtx, .inl (ky, 97, .inl (nA Mx))), (mod, .inl (ky, 97, .inl (nA Od))), (mia, .inl (ky, 97, .inl (nA Ia)))] s.heap.size = A at hD ⊢
  have hA : ∀ q : Nat, s.heap.size ≤ q → A q := fun q h => by rw [← hAe]; exact Or.inr h
  have hS : va_S A s.heap s.heap [] := va_S.rf
  have hl := lv_entry ([.ref mo]) (n := 3) (Nat.le_of_ble_eq_true rfl)
  rw [lg_entry_eq]
  generalize (lg_sl ([.ref mo]) ++ List.replicate (3 - (lg_sl ([.ref mo])).length) Slot.unset).toArray = ls at hl ⊢
  have hl : lv_has ls 3 [(0, .ref mo)] := hl
  refine lv_iconst (v := nI 0) hx hb d_Mo_sort_0 (by decide) ?_
  refine lv_istore_n hx hb d_Mo_sort_1 rfl hl (by decide) rfl (fun ls hl => ?_)
  have hl : lv_has ls 3 [(1, .int (nI 0)), (0, .ref mo)] := hl
  refine wl_loop (σ := Nat × (Nat → Nat)) 2 [] (fun (a_ : Nat × (Nat → Nat)) => match a_ with | (p1, Oq) => nn + 1 - p1) (fun (a_ : Nat × (Nat → Nat)) (H : Heap) (locs : List Loc) (ls : Array Slot) => match a_ with | (p1, Oq) => (p1 ≤ nn + 1) ∧ (So T Oq p1) ∧ (∀ k_, Oq k_ < 97) ∧ va_P (dC, dI) cls_ [(mo, .inr (5, [.int (nI sp), .int (nI d), .ref mdr, .int (nI mm - 1), .ref mtx, .ref mod, .ref mia, .ref mus, .ref mol, .ref mle, .int (nI my), .ref mrw, .ref mls])), (mtx, .inl (ky, 97, .inl (nA Mx))), (mod, .inl (ky, 97, .inl (nA Oq))), (mia, .inl (ky, 97, .inl (nA Ia)))] H ∧ va_D A [(mo, .inr (5, [.int (nI sp), .int (nI d), .ref mdr, .int (nI mm - 1), .ref mtx, .ref mod, .ref mia, .ref mus, .ref mol, .ref mle, .int (nI my), .ref mrw, .ref mls])), (mtx, .inl (ky, 97, .inl (nA Mx))), (mod, .inl (ky, 97, .inl (nA Oq))), (mia, .inl (ky, 97, .inl (nA Ia)))] ∧ va_S A s.heap H locs ∧ lv_has ls 3 [(1, .int (nI p1)), (0, .ref mo)]) ?_ (0, Od) ⟨(by first | assumption | omega | (simp; done) | (simp_all; done)), (So_0 T Od), hOd, hP, hD, hS, lv_sub hl [0, 1] rfl⟩
  clear hP hD hS hl
  intro a_ H locs ls hI ih2
  obtain ⟨p1, Oq⟩ := a_
  obtain ⟨hp1, hSo, hOq, hP, hD, hS, hl⟩ := hI
  have hl : lv_has ls 3 [(1, .int (nI p1)), (0, .ref mo)] := hl
  have hP : va_P (dC, dI) cls_ [(mo, .inr (5, [.int (nI sp), .int (nI d), .ref mdr, .int (nI mm - 1), .ref mtx, .ref mod, .ref mia, .ref mus, .ref mol, .ref mle, .int (nI my), .ref mrw, .ref mls])), (mtx, .inl (ky, 97, .inl (nA Mx))), (mod, .inl (ky, 97, .inl (nA Oq))), (mia, .inl (ky, 97, .inl (nA Ia)))] H := hP
  have hD : va_D A [(mo, .inr (5, [.int (nI sp), .int (nI d), .ref mdr, .int (nI mm - 1), .ref mtx, .ref mod, .ref mia, .ref mus, .ref mol, .ref mle, .int (nI my), .ref mrw, .ref mls])), (mtx, .inl (ky, 97, .inl (nA Mx))), (mod, .inl (ky, 97, .inl (nA Oq))), (mia, .inl (ky, 97, .inl (nA Ia)))] := hD
  have hp1 : p1 ≤ nn + 1 := hp1
  have hSo : So T Oq p1 := hSo
  have hOq : ∀ k_, Oq k_ < 97 := hOq
  refine lv_iload_n hx hb d_Mo_sort_2 rfl (lv_at hl 0 rfl) ?_
  refine lv_aload_n hx hb d_Mo_sort_3 rfl (lv_at hl 1 rfl) ?_
  refine va_get (D := (dC, dI)) (ci := 5) (v := .int (nI mm - 1)) (C := R_Mo) (T := F_Mo) (N := 13) hx hb htb in_Mo hown hK hP 0 rfl rfl 3 (by decide) (htb _ tw_364) (fun _ h9 => h9) rfl d_Mo_sort_4 ?_
  refine lv_icmp_gt (tgt := 65) hx hb d_Mo_sort_7 (by decide) (fun hc7 => ?_) (fun hc7 => ?_)
  · skip
    rw [bw_lt_pn (by omega) (by omega)] at hc7
    refine lv_iconst (v := nI 0) hx hb d_Mo_sort_65 (by decide) ?_
    refine lv_istore_n hx hb d_Mo_sort_66 rfl hl (by decide) rfl (fun ls hl => ?_)
    have hl : lv_has ls 3 [(1, .int (nI 0)), (0, .ref mo)] := hl
    refine wl_loop (σ := Nat × (Nat → Nat)) 67 [] (fun (a_ : Nat × (Nat → Nat)) => match a_ with | (k, Iq) => nn + 1 - k) (fun (a_ : Nat × (Nat → Nat)) (H : Heap) (locs : List Loc) (ls : Array Slot) => match a_ with | (k, Iq) => (k ≤ nn + 1) ∧ (∀ j, j < k → Iq j = cod (T (prv nn (Oq j)))) ∧ (∀ k_, Iq k_ < 125) ∧ va_P (dC, dI) cls_ [(mo, .inr (5, [.int (nI sp), .int (nI d), .ref mdr, .int (nI mm - 1), .ref mtx, .ref mod, .ref mia, .ref mus, .ref mol, .ref mle, .int (nI my), .ref mrw, .ref mls])), (mtx, .inl (ky, 97, .inl (nA Mx))), (mod, .inl (ky, 97, .inl (nA Oq))), (mia, .inl (ky, 97, .inl (nA Iq)))] H ∧ va_D A [(mo, .inr (5, [.int (nI sp), .int (nI d), .ref mdr, .int (nI mm - 1), .ref mtx, .ref mod, .ref mia, .ref mus, .ref mol, .ref mle, .int (nI my), .ref mrw, .ref mls])), (mtx, .inl (ky, 97, .inl (nA Mx))), (mod, .inl (ky, 97, .inl (nA Oq))), (mia, .inl (ky, 97, .inl (nA Iq)))] ∧ va_S A s.heap H locs ∧ lv_has ls 3 [(1, .int (nI k)), (0, .ref mo)]) ?_ (0, Ia) ⟨(by first | assumption | omega | (simp; done) | (simp_all; done)), (fun j hj => by omega), hIa, hP, hD, hS, lv_sub hl [0, 1] rfl⟩
    clear hP hD hS hl
    intro a_ H locs ls hI ih67
    obtain ⟨k, Iq⟩ := a_
    obtain ⟨hk, hIm, hIq, hP, hD, hS, hl⟩ := hI
    have hl : lv_has ls 3 [(1, .int (nI k)), (0, .ref mo)] := hl
    have hP : va_P (dC, dI) cls_ [(mo, .inr (5, [.int (nI sp), .int (nI d), .ref mdr, .int (nI mm - 1), .ref mtx, .ref mod, .ref mia, .ref mus, .ref mol, .ref mle, .int (nI my), .ref mrw, .ref mls])), (mtx, .inl (ky, 97, .inl (nA Mx))), (mod, .inl (ky, 97, .inl (nA Oq))), (mia, .inl (ky, 97, .inl (nA Iq)))] H := hP
    have hD : va_D A [(mo, .inr (5, [.int (nI sp), .int (nI d), .ref mdr, .int (nI mm - 1), .ref mtx, .ref mod, .ref mia, .ref mus, .ref mol, .ref mle, .int (nI my), .ref mrw, .ref mls])), (mtx, .inl (ky, 97, .inl (nA Mx))), (mod, .inl (ky, 97, .inl (nA Oq))), (mia, .inl (ky, 97, .inl (nA Iq)))] := hD
    have hk : k ≤ nn + 1 := hk
    have hIm : ∀ j, j < k → Iq j = cod (T (prv nn (Oq j))) := hIm
    have hIq : ∀ k_, Iq k_ < 125 := hIq
    refine lv_iload_n hx hb d_Mo_sort_67 rfl (lv_at hl 0 rfl) ?_
    refine lv_aload_n hx hb d_Mo_sort_68 rfl (lv_at hl 1 rfl) ?_
    refine va_get (D := (dC, dI)) (ci := 5) (v := .int (nI mm - 1)) (C := R_Mo) (T := F_Mo) (N := 13) hx hb htb in_Mo hown hK hP 0 rfl rfl 3 (by decide) (htb _ tw_364) (fun _ h9 => h9) rfl d_Mo_sort_69 ?_
    refine lv_icmp_gt (tgt := 114) hx hb d_Mo_sort_72 (by decide) (fun hc72 => ?_) (fun hc72 => ?_)
    · skip
      rw [bw_lt_pn (by omega) (by omega)] at hc72
      have hP9 := hP.sub (ws' := [(mo, .inr (5, [.int (nI sp), .int (nI d), .ref mdr, .int (nI mm - 1), .ref mtx, .ref mod, .ref mia, .ref mus, .ref mol, .ref mle, .int (nI my), .ref mrw, .ref mls])), (mtx, .inl (ky, 97, .inl (nA Mx))), (mod, .inl (ky, 97, .inl (nA Oq))), (mia, .inl (ky, 97, .inl (nA Iq)))]) [0, 1, 2, 3] rfl
      have hD9 := hD.sub (ws' := [(mo, .inr (5, [.int (nI sp), .int (nI d), .ref mdr, .int (nI mm - 1), .ref mtx, .ref mod, .ref mia, .ref mus, .ref mol, .ref mle, .int (nI my), .ref mrw, .ref mls])), (mtx, .inl (ky, 97, .inl (nA Mx))), (mod, .inl (ky, 97, .inl (nA Oq))), (mia, .inl (ky, 97, .inl (nA Iq)))]) [0, 1, 2, 3] (by decide) rfl
      exact W.vret hx hb hr (fun t ht hW => ⟨⟨(Oq, Iq), rfl, ⟨So_Srt (by rw [show nn + 1 = p1 by omega]; exact hSo), fun j hj => hIm j (by omega), hOq, hIq⟩, by rw [ht]; exact hP9, hD9⟩, hS.F ht⟩) hS.2.2 d_Mo_sort_114
    · skip
      rw [bw_lt_pn (by omega) (by omega)] at hc72
      have hOk := hSo.1 k (by omega)
      refine lv_aload_n hx hb d_Mo_sort_75 rfl (lv_at hl 1 rfl) ?_
      refine va_get (D := (dC, dI)) (ci := 5) (v := .ref mia) (C := R_Mo) (T := F_Mo) (N := 13) hx hb htb in_Mo hown hK hP 0 rfl rfl 6 (by decide) (htb _ tw_367) (fun _ h9 => h9) rfl d_Mo_sort_76 ?_
      refine lv_iload_n hx hb d_Mo_sort_79 rfl (lv_at hl 0 rfl) ?_
      refine lv_aload_n hx hb d_Mo_sort_80 rfl (lv_at hl 1 rfl) ?_
      refine va_get (D := (dC, dI)) (ci := 5) (v := .ref mod) (C := R_Mo) (T := F_Mo) (N := 13) hx hb htb in_Mo hown hK hP 0 rfl rfl 5 (by decide) (htb _ tw_366) (fun _ h9 => h9) rfl d_Mo_sort_81 ?_
      refine lv_iload_n hx hb d_Mo_sort_84 rfl (lv_at hl 0 rfl) ?_
      refine va_iald hx hb hK hP 2 0 rfl rfl (vp_in_nI (by omega) (by decide)) d_Mo_sort_85 ?_
      rw [nI_clamp (by omega)]
      have hb85 := hOq k
      rw [nA_at]
      refine lv_if_ne (tgt := 94) hx hb d_Mo_sort_86 (by decide) (fun hc86 => ?_) (fun hc86 => ?_)
      · skip
        rw [← nI_0, bw_eq_nn (by omega) (by omega)] at hc86
        refine lv_aload_n hx hb d_Mo_sort_94 rfl (lv_at hl 1 rfl) ?_
        refine va_get (D := (dC, dI)) (ci := 5) (v := .ref mtx) (C := R_Mo) (T := F_Mo) (N := 13) hx hb htb in_Mo hown hK hP 0 rfl rfl 4 (by decide) (htb _ tw_365) (fun _ h9 => h9) rfl d_Mo_sort_95 ?_
        refine lv_aload_n hx hb d_Mo_sort_98 rfl (lv_at hl 1 rfl) ?_
        refine va_get (D := (dC, dI)) (ci := 5) (v := .ref mod) (C := R_Mo) (T := F_Mo) (N := 13) hx hb htb in_Mo hown hK hP 0 rfl rfl 5 (by decide) (htb _ tw_366) (fun _ h9 => h9) rfl d_Mo_sort_99 ?_
        refine lv_iload_n hx hb d_Mo_sort_102 rfl (lv_at hl 0 rfl) ?_
        refine va_iald hx hb hK hP 2 0 rfl rfl (vp_in_nI (by omega) (by decide)) d_Mo_sort_103 ?_
        rw [nI_clamp (by omega)]
        have hb103 := hOq k
        rw [nA_at]
        refine lv_iconst (v := nI 1) hx hb d_Mo_sort_104 (by decide) ?_
        refine lv_isub hx hb d_Mo_sort_105 ?_
        rw [bw_n1 (Oq k)]
        rw [bw_pn (show 0 < (Oq k) by omega)]
        refine va_iald hx hb hK hP 1 0 rfl rfl (vp_in_nI (by omega) (by decide)) d_Mo_sort_106 ?_
        rw [nI_clamp (by omega)]
        have hb106 := hMx ((Oq k) - 1)
        rw [nA_at]
        refine va_iast hx hb hK hP hD hS 3 0 rfl rfl (vp_in_nI (by omega) (by decide)) d_Mo_sort_107 (fun H locs hP hD hS => ?_)
        rw [nI_clamp (by omega)] at hP hD
        rw [nA_upd] at hP hD
        have hu1 : ∀ k_, (upN Iq k (Mx ((Oq k) - 1))) k_ < 125 := upN_lt hIq (by omega)
        have hP : va_P (dC, dI) cls_ [(mo, .inr (5, [.int (nI sp), .int (nI d), .ref mdr, .int (nI mm - 1), .ref mtx, .ref mod, .ref mia, .ref mus, .ref mol, .ref mle, .int (nI my), .ref mrw, .ref mls])), (mtx, .inl (ky, 97, .inl (nA Mx))), (mod, .inl (ky, 97, .inl (nA Oq))), (mia, .inl (ky, 97, .inl (nA (upN Iq k (Mx ((Oq k) - 1))))))] H := hP
        have hD : va_D A [(mo, .inr (5, [.int (nI sp), .int (nI d), .ref mdr, .int (nI mm - 1), .ref mtx, .ref mod, .ref mia, .ref mus, .ref mol, .ref mle, .int (nI my), .ref mrw, .ref mls])), (mtx, .inl (ky, 97, .inl (nA Mx))), (mod, .inl (ky, 97, .inl (nA Oq))), (mia, .inl (ky, 97, .inl (nA (upN Iq k (Mx ((Oq k) - 1))))))] := hD
        refine lv_iinc (v := nI (k + 1)) (k := 0) hx hb d_Mo_sort_108 hl rfl (bw_inc k 1) (by decide) rfl (fun ls hl => ?_)
        have hl : lv_has ls 3 [(1, .int (nI (k + 1))), (0, .ref mo)] := hl
        refine lv_goto (tgt := 67) hx hb d_Mo_sort_111 (by decide) ?_
        exact ih67 ((k + 1), (upN Iq k (Mx ((Oq k) - 1)))) _ _ _ ⟨(by first | assumption | omega | (simp; done) | (simp_all; done)), (im_step hIm (by first | (rw [show Oq k = 0 by omega, prv_0, (hT nn).mpr (Nat.le_refl nn)]; rfl) | (rw [prv_p (by omega)]; exact hTx _ (by omega)))), (by first | assumption | omega | (simp; done) | (simp_all; done)), hP, hD, hS, lv_sub hl [0, 1] rfl⟩ (by first | omega | (simp only; omega) | (dsimp only; omega))
      · skip
        rw [← nI_0, bw_eq_nn (by omega) (by omega)] at hc86
        refine lv_bipush (v := nI 36) hx hb d_Mo_sort_89 (by decide) ?_
        refine lv_goto (tgt := 107) hx hb d_Mo_sort_91 (by decide) ?_
        refine va_iast hx hb hK hP hD hS 3 0 rfl rfl (vp_in_nI (by omega) (by decide)) d_Mo_sort_107 (fun H locs hP hD hS => ?_)
        rw [nI_clamp (by omega)] at hP hD
        rw [nA_upd] at hP hD
        have hu2 : ∀ k_, (upN Iq k 36) k_ < 125 := upN_lt hIq (by omega)
        have hP : va_P (dC, dI) cls_ [(mo, .inr (5, [.int (nI sp), .int (nI d), .ref mdr, .int (nI mm - 1), .ref mtx, .ref mod, .ref mia, .ref mus, .ref mol, .ref mle, .int (nI my), .ref mrw, .ref mls])), (mtx, .inl (ky, 97, .inl (nA Mx))), (mod, .inl (ky, 97, .inl (nA Oq))), (mia, .inl (ky, 97, .inl (nA (upN Iq k 36))))] H := hP
        have hD : va_D A [(mo, .inr (5, [.int (nI sp), .int (nI d), .ref mdr, .int (nI mm - 1), .ref mtx, .ref mod, .ref mia, .ref mus, .ref mol, .ref mle, .int (nI my), .ref mrw, .ref mls])), (mtx, .inl (ky, 97, .inl (nA Mx))), (mod, .inl (ky, 97, .inl (nA Oq))), (mia, .inl (ky, 97, .inl (nA (upN Iq k 36))))] := hD
        refine lv_iinc (v := nI (k + 1)) (k := 0) hx hb d_Mo_sort_108 hl rfl (bw_inc k 1) (by decide) rfl (fun ls hl => ?_)
        have hl : lv_has ls 3 [(1, .int (nI (k + 1))), (0, .ref mo)] := hl
        refine lv_goto (tgt := 67) hx hb d_Mo_sort_111 (by decide) ?_
        exact ih67 ((k + 1), (upN Iq k 36)) _ _ _ ⟨(by first | assumption | omega | (simp; done) | (simp_all; done)), (im_step hIm (by first | (rw [show Oq k = 0 by omega, prv_0, (hT nn).mpr (Nat.le_refl nn)]; rfl) | (rw [prv_p (by omega)]; exact hTx _ (by omega)))), (by first | assumption | omega | (simp; done) | (simp_all; done)), hP, hD, hS, lv_sub hl [0, 1] rfl⟩ (by first | omega | (simp only; omega) | (dsimp only; omega))
  · skip
    rw [bw_lt_pn (by omega) (by omega)] at hc7
    refine lv_iload_n hx hb d_Mo_sort_10 rfl (lv_at hl 0 rfl) ?_
    refine lv_istore_n hx hb d_Mo_sort_11 rfl hl (by decide) rfl (fun ls hl => ?_)
    have hl : lv_has ls 3 [(2, .int (nI p1)), (1, .int (nI p1)), (0, .ref mo)] := hl
    refine wl_loop (σ := Nat × (Nat → Nat)) 12 [] (fun (a_ : Nat × (Nat → Nat)) => match a_ with | (x1, Ow) => x1) (fun (a_ : Nat × (Nat → Nat)) (H : Heap) (locs : List Loc) (ls : Array Slot) => match a_ with | (x1, Ow) => (x1 ≤ p1) ∧ (Car T Oq Ow p1 x1) ∧ (∀ k_, Ow k_ < 97) ∧ va_P (dC, dI) cls_ [(mo, .inr (5, [.int (nI sp), .int (nI d), .ref mdr, .int (nI mm - 1), .ref mtx, .ref mod, .ref mia, .ref mus, .ref mol, .ref mle, .int (nI my), .ref mrw, .ref mls])), (mtx, .inl (ky, 97, .inl (nA Mx))), (mod, .inl (ky, 97, .inl (nA Ow))), (mia, .inl (ky, 97, .inl (nA Ia)))] H ∧ va_D A [(mo, .inr (5, [.int (nI sp), .int (nI d), .ref mdr, .int (nI mm - 1), .ref mtx, .ref mod, .ref mia, .ref mus, .ref mol, .ref mle, .int (nI my), .ref mrw, .ref mls])), (mtx, .inl (ky, 97, .inl (nA Mx))), (mod, .inl (ky, 97, .inl (nA Ow))), (mia, .inl (ky, 97, .inl (nA Ia)))] ∧ va_S A s.heap H locs ∧ lv_has ls 3 [(2, .int (nI x1)), (1, .int (nI p1)), (0, .ref mo)]) ?_ (p1, Oq) ⟨(by first | assumption | omega | (simp; done) | (simp_all; done)), (Car_0 T Oq p1), hOq, hP, hD, hS, lv_sub hl [0, 1, 2] rfl⟩
    clear hP hD hS hl
    intro a_ H locs ls hI ih12
    obtain ⟨x1, Ow⟩ := a_
    obtain ⟨hx1, hCa, hOw, hP, hD, hS, hl⟩ := hI
    have hl : lv_has ls 3 [(2, .int (nI x1)), (1, .int (nI p1)), (0, .ref mo)] := hl
    have hP : va_P (dC, dI) cls_ [(mo, .inr (5, [.int (nI sp), .int (nI d), .ref mdr, .int (nI mm - 1), .ref mtx, .ref mod, .ref mia, .ref mus, .ref mol, .ref mle, .int (nI my), .ref mrw, .ref mls])), (mtx, .inl (ky, 97, .inl (nA Mx))), (mod, .inl (ky, 97, .inl (nA Ow))), (mia, .inl (ky, 97, .inl (nA Ia)))] H := hP
    have hD : va_D A [(mo, .inr (5, [.int (nI sp), .int (nI d), .ref mdr, .int (nI mm - 1), .ref mtx, .ref mod, .ref mia, .ref mus, .ref mol, .ref mle, .int (nI my), .ref mrw, .ref mls])), (mtx, .inl (ky, 97, .inl (nA Mx))), (mod, .inl (ky, 97, .inl (nA Ow))), (mia, .inl (ky, 97, .inl (nA Ia)))] := hD
    have hx1 : x1 ≤ p1 := hx1
    have hCa : Car T Oq Ow p1 x1 := hCa
    have hOw : ∀ k_, Ow k_ < 97 := hOw
    refine lv_iload_n hx hb d_Mo_sort_12 rfl (lv_at hl 0 rfl) ?_
    refine lv_if_le (tgt := 52) hx hb d_Mo_sort_13 (by decide) (fun hc13 => ?_) (fun hc13 => ?_)
    · skip
      rw [← nI_0, bw_le_nn (by omega) (by omega)] at hc13
      refine lv_aload_n hx hb d_Mo_sort_52 rfl (lv_at hl 2 rfl) ?_
      refine va_get (D := (dC, dI)) (ci := 5) (v := .ref mod) (C := R_Mo) (T := F_Mo) (N := 13) hx hb htb in_Mo hown hK hP 0 rfl rfl 5 (by decide) (htb _ tw_366) (fun _ h9 => h9) rfl d_Mo_sort_53 ?_
      refine lv_iload_n hx hb d_Mo_sort_56 rfl (lv_at hl 0 rfl) ?_
      refine lv_iload_n hx hb d_Mo_sort_57 rfl (lv_at hl 1 rfl) ?_
      refine va_iast hx hb hK hP hD hS 2 0 rfl rfl (vp_in_nI (by omega) (by decide)) d_Mo_sort_58 (fun H locs hP hD hS => ?_)
      rw [nI_clamp (by omega)] at hP hD
      rw [nA_upd] at hP hD
      have hu3 : ∀ k_, (upN Ow x1 p1) k_ < 97 := upN_lt hOw (by omega)
      have hP : va_P (dC, dI) cls_ [(mo, .inr (5, [.int (nI sp), .int (nI d), .ref mdr, .int (nI mm - 1), .ref mtx, .ref mod, .ref mia, .ref mus, .ref mol, .ref mle, .int (nI my), .ref mrw, .ref mls])), (mtx, .inl (ky, 97, .inl (nA Mx))), (mod, .inl (ky, 97, .inl (nA (upN Ow x1 p1)))), (mia, .inl (ky, 97, .inl (nA Ia)))] H := hP
      have hD : va_D A [(mo, .inr (5, [.int (nI sp), .int (nI d), .ref mdr, .int (nI mm - 1), .ref mtx, .ref mod, .ref mia, .ref mus, .ref mol, .ref mle, .int (nI my), .ref mrw, .ref mls])), (mtx, .inl (ky, 97, .inl (nA Mx))), (mod, .inl (ky, 97, .inl (nA (upN Ow x1 p1)))), (mia, .inl (ky, 97, .inl (nA Ia)))] := hD
      refine lv_iinc (v := nI (p1 + 1)) (k := 1) hx hb d_Mo_sort_59 hl rfl (bw_inc p1 1) (by decide) rfl (fun ls hl => ?_)
      have hl : lv_has ls 3 [(1, .int (nI (p1 + 1))), (2, .int (nI x1)), (0, .ref mo)] := hl
      refine lv_goto (tgt := 2) hx hb d_Mo_sort_62 (by decide) ?_
      exact ih2 ((p1 + 1), (upN Ow x1 p1)) _ _ _ ⟨(by first | assumption | omega | (simp; done) | (simp_all; done)), (by first | exact Car_end hT (by omega) hSo hCa hx1 (Or.inl (by omega)) | exact Car_end hT (by omega) hSo hCa hx1 (Or.inr (by rw [← hOx]; exact hsl))), (by assumption), hP, hD, hS, lv_sub hl [0, 2] rfl⟩ (by first | omega | (simp only; omega) | (dsimp only; omega))
    · skip
      rw [← nI_0, bw_le_nn (by omega) (by omega)] at hc13
      have hOx : Ow (x1 - 1) = Oq (x1 - 1) := hCa.1 _ (by omega)
      have hOl := hSo.1 (x1 - 1) (by omega)
      refine lv_aload_n hx hb d_Mo_sort_16 rfl (lv_at hl 2 rfl) ?_
      refine lv_iload_n hx hb d_Mo_sort_17 rfl (lv_at hl 1 rfl) ?_
      refine lv_aload_n hx hb d_Mo_sort_18 rfl (lv_at hl 2 rfl) ?_
      refine va_get (D := (dC, dI)) (ci := 5) (v := .ref mod) (C := R_Mo) (T := F_Mo) (N := 13) hx hb htb in_Mo hown hK hP 0 rfl rfl 5 (by decide) (htb _ tw_366) (fun _ h9 => h9) rfl d_Mo_sort_19 ?_
      refine lv_iload_n hx hb d_Mo_sort_22 rfl (lv_at hl 0 rfl) ?_
      refine lv_iconst (v := nI 1) hx hb d_Mo_sort_23 (by decide) ?_
      refine lv_isub hx hb d_Mo_sort_24 ?_
      rw [bw_n1 x1]
      rw [bw_pn (show 0 < x1 by omega)]
      refine va_iald hx hb hK hP 2 0 rfl rfl (vp_in_nI (by omega) (by decide)) d_Mo_sort_25 ?_
      rw [nI_clamp (by omega)]
      have hb25 := hOw (x1 - 1)
      rw [nA_at]
      have hPc := hP.sub (ws' := [(mo, .inr (5, [.int (nI sp), .int (nI d), .ref mdr, .int (nI mm - 1), .ref mtx, .ref mod, .ref mia, .ref mus, .ref mol, .ref mle, .int (nI my), .ref mrw, .ref mls])), (mtx, .inl (ky, 97, .inl (nA Mx)))]) [0, 1] rfl
      have hDc := hD.sub (ws' := [(mo, .inr (5, [.int (nI sp), .int (nI d), .ref mdr, .int (nI mm - 1), .ref mtx, .ref mod, .ref mia, .ref mus, .ref mol, .ref mle, .int (nI my), .ref mrw, .ref mls])), (mtx, .inl (ky, 97, .inl (nA Mx)))]) [0, 1] (by decide) rfl
      have hFc := va_free (wc := [(mo, .inr (5, [.int (nI sp), .int (nI d), .ref mdr, .int (nI mm - 1), .ref mtx, .ref mod, .ref mia, .ref mus, .ref mol, .ref mle, .int (nI my), .ref mrw, .ref mls])), (mtx, .inl (ky, 97, .inl (nA Mx)))]) hD hS hA [0, 1] rfl
      refine va_calli (va_runV (C := "SelfIndexedSequencesModel") (As := [.int (nI p1), .int (nI (Ow (x1 - 1)))]) (rest := []) ⟨hx, hb, hml, hown, hts⟩ (c_Mo_before l dC dI ky H.size mo sp d mdr mm mtx mod mia mus mol mle my mrw mls Mx T nn p1 (Ow (x1 - 1)) hMx (by first | assumption | omega | (simp; done) | (simp_all; done)) (by first | assumption | omega | (simp; done) | (simp_all; done)) (by first | assumption | omega | (simp; done) | (simp_all; done)) (by first | assumption | omega | (simp; done) | (simp_all; done)) (by first | assumption | omega | (simp; done) | (simp_all; done)) (by first | assumption | omega | (simp; done) | (simp_all; done)) (by first | assumption | omega | (simp; done) | (simp_all; done)) (by first | assumption | omega | (simp; done) | (simp_all; done))) ⟨callB_of 2 hts (W0_good tw_431) rfl rfl rfl (htb _ tw_28) (htb _ tw_428) ⟨by decide, by decide, by decide +kernel⟩ ⟨(Nat.le_of_ble_eq_true rfl), (Nat.le_of_ble_eq_true rfl)⟩, htb _ tw_430, htb _ tw_10⟩ ⟨fun a U g mk q => by obtain ⟨q0, q1, qP, qK, qD⟩ := q; exact ⟨q0, q1, qP, va_K.moved (u := U) (U := U.calling g mk a) (Vm.Alike.refl U.vm) qK, qD⟩, va_recv hK hPc (q0 := 0) (q := (R_Mo, F_Mo, 13)) rfl rfl, fun U hU hW => ⟨rfl, by rw [hU], by rw [hU]; exact hPc, va_K.moved hW.alike hK, hDc.weaken (fun _ _ _ _ => trivial)⟩⟩ rfl rfl hl.1 rfl (lv_room (Nat.le_of_ble_eq_true rfl)) d_Mo_sort_26 ⟨(Nat.le_of_ble_eq_true rfl), (Nat.le_of_ble_eq_true rfl)⟩) hS (fun q _ h => hFc q h) hFc (fun r26 u_ t H locs ht hvm hw26 hB hz1 hk1 hS => ?_)
      obtain ⟨hP1, hD1⟩ := hB
      rw [ht] at hP1
      obtain ⟨hP, hD⟩ := va_join (wr := [(mod, .inl (ky, 97, .inl (nA Ow))), (mia, .inl (ky, 97, .inl (nA Ia)))]) (w1 := [(mo, .inr (5, [.int (nI sp), .int (nI d), .ref mdr, .int (nI mm - 1), .ref mtx, .ref mod, .ref mia, .ref mus, .ref mol, .ref mle, .int (nI my), .ref mrw, .ref mls])), (mtx, .inl (ky, 97, .inl (nA Mx)))]) hP hD [0, 1] [2, 3] rfl rfl (by decide) (by decide) hk1 hFc hP1 hD1
      have hP : va_P (dC, dI) cls_ [(mod, .inl (ky, 97, .inl (nA Ow))), (mia, .inl (ky, 97, .inl (nA Ia))), (mo, .inr (5, [.int (nI sp), .int (nI d), .ref mdr, .int (nI mm - 1), .ref mtx, .ref mod, .ref mia, .ref mus, .ref mol, .ref mle, .int (nI my), .ref mrw, .ref mls])), (mtx, .inl (ky, 97, .inl (nA Mx)))] H := hP
      have hD : va_D A [(mod, .inl (ky, 97, .inl (nA Ow))), (mia, .inl (ky, 97, .inl (nA Ia))), (mo, .inr (5, [.int (nI sp), .int (nI d), .ref mdr, .int (nI mm - 1), .ref mtx, .ref mod, .ref mia, .ref mus, .ref mol, .ref mle, .int (nI my), .ref mrw, .ref mls])), (mtx, .inl (ky, 97, .inl (nA Mx)))] := hD
      have hq26 : (slt T p1 (Ow (x1 - 1)) ∧ r26 = nI 1) ∨ (¬ slt T p1 (Ow (x1 - 1)) ∧ r26 = nI 0) := hw26
      rcases hq26 with ⟨hsl, rfl⟩ | ⟨hsl, rfl⟩
      · skip
        refine lv_if_eq (tgt := 52) hx hb d_Mo_sort_29 (by decide) (fun hc29 => ?_) (fun hc29 => ?_)
        · exact absurd hc29 (by decide)
        · skip
          rw [← nI_0, bw_eq_nn (by omega) (by omega)] at hc29
          refine lv_aload_n hx hb d_Mo_sort_32 rfl (lv_at hl 2 rfl) ?_
          refine va_get (D := (dC, dI)) (ci := 5) (v := .ref mod) (C := R_Mo) (T := F_Mo) (N := 13) hx hb htb in_Mo hown hK hP 2 rfl rfl 5 (by decide) (htb _ tw_366) (fun _ h9 => h9) rfl d_Mo_sort_33 ?_
          refine lv_iload_n hx hb d_Mo_sort_36 rfl (lv_at hl 0 rfl) ?_
          refine lv_aload_n hx hb d_Mo_sort_37 rfl (lv_at hl 2 rfl) ?_
          refine va_get (D := (dC, dI)) (ci := 5) (v := .ref mod) (C := R_Mo) (T := F_Mo) (N := 13) hx hb htb in_Mo hown hK hP 2 rfl rfl 5 (by decide) (htb _ tw_366) (fun _ h9 => h9) rfl d_Mo_sort_38 ?_
          refine lv_iload_n hx hb d_Mo_sort_41 rfl (lv_at hl 0 rfl) ?_
          refine lv_iconst (v := nI 1) hx hb d_Mo_sort_42 (by decide) ?_
          refine lv_isub hx hb d_Mo_sort_43 ?_
          rw [bw_n1 x1]
          rw [bw_pn (show 0 < x1 by omega)]
          refine va_iald hx hb hK hP 0 0 rfl rfl (vp_in_nI (by omega) (by decide)) d_Mo_sort_44 ?_
          rw [nI_clamp (by omega)]
          have hb44 := hOw (x1 - 1)
          rw [nA_at]
          refine va_iast hx hb hK hP hD hS 0 0 rfl rfl (vp_in_nI (by omega) (by decide)) d_Mo_sort_45 (fun H locs hP hD hS => ?_)
          rw [nI_clamp (by omega)] at hP hD
          rw [nA_upd] at hP hD
          have hu4 : ∀ k_, (upN Ow x1 (Ow (x1 - 1))) k_ < 97 := upN_lt hOw (by omega)
          have hP : va_P (dC, dI) cls_ [(mod, .inl (ky, 97, .inl (nA (upN Ow x1 (Ow (x1 - 1)))))), (mia, .inl (ky, 97, .inl (nA Ia))), (mo, .inr (5, [.int (nI sp), .int (nI d), .ref mdr, .int (nI mm - 1), .ref mtx, .ref mod, .ref mia, .ref mus, .ref mol, .ref mle, .int (nI my), .ref mrw, .ref mls])), (mtx, .inl (ky, 97, .inl (nA Mx)))] H := hP
          have hD : va_D A [(mod, .inl (ky, 97, .inl (nA (upN Ow x1 (Ow (x1 - 1)))))), (mia, .inl (ky, 97, .inl (nA Ia))), (mo, .inr (5, [.int (nI sp), .int (nI d), .ref mdr, .int (nI mm - 1), .ref mtx, .ref mod, .ref mia, .ref mus, .ref mol, .ref mle, .int (nI my), .ref mrw, .ref mls])), (mtx, .inl (ky, 97, .inl (nA Mx)))] := hD
          refine lv_iinc (v := nI (x1 - 1)) (k := 0) hx hb d_Mo_sort_46 hl rfl (bw_decn (show 0 < x1 by omega)) (by decide) rfl (fun ls hl => ?_)
          have hl : lv_has ls 3 [(2, .int (nI (x1 - 1))), (1, .int (nI p1)), (0, .ref mo)] := hl
          refine lv_goto (tgt := 12) hx hb d_Mo_sort_49 (by decide) ?_
          exact ih12 ((x1 - 1), (upN Ow x1 (Ow (x1 - 1)))) _ _ _ ⟨(by first | assumption | omega | (simp; done) | (simp_all; done)), (Car_s hCa (by omega) hx1 (by rw [← hOx]; exact hsl)), (by first | assumption | omega | (simp; done) | (simp_all; done)), (hP.sub [2, 3, 0, 1] rfl), (hD.sub [2, 3, 0, 1] (by decide) rfl), hS, lv_sub hl [0, 1, 2] rfl⟩ (by first | omega | (simp only; omega) | (dsimp only; omega))
      · skip
        refine lv_if_eq (tgt := 52) hx hb d_Mo_sort_29 (by decide) (fun hc29 => ?_) (fun hc29 => ?_)
        · skip
          rw [← nI_0, bw_eq_nn (by omega) (by omega)] at hc29
          refine lv_aload_n hx hb d_Mo_sort_52 rfl (lv_at hl 2 rfl) ?_
          refine va_get (D := (dC, dI)) (ci := 5) (v := .ref mod) (C := R_Mo) (T := F_Mo) (N := 13) hx hb htb in_Mo hown hK hP 2 rfl rfl 5 (by decide) (htb _ tw_366) (fun _ h9 => h9) rfl d_Mo_sort_53 ?_
          refine lv_iload_n hx hb d_Mo_sort_56 rfl (lv_at hl 0 rfl) ?_
          refine lv_iload_n hx hb d_Mo_sort_57 rfl (lv_at hl 1 rfl) ?_
          refine va_iast hx hb hK hP hD hS 0 0 rfl rfl (vp_in_nI (by omega) (by decide)) d_Mo_sort_58 (fun H locs hP hD hS => ?_)
          rw [nI_clamp (by omega)] at hP hD
          rw [nA_upd] at hP hD
          have hu5 : ∀ k_, (upN Ow x1 p1) k_ < 97 := upN_lt hOw (by omega)
          have hP : va_P (dC, dI) cls_ [(mod, .inl (ky, 97, .inl (nA (upN Ow x1 p1)))), (mia, .inl (ky, 97, .inl (nA Ia))), (mo, .inr (5, [.int (nI sp), .int (nI d), .ref mdr, .int (nI mm - 1), .ref mtx, .ref mod, .ref mia, .ref mus, .ref mol, .ref mle, .int (nI my), .ref mrw, .ref mls])), (mtx, .inl (ky, 97, .inl (nA Mx)))] H := hP
          have hD : va_D A [(mod, .inl (ky, 97, .inl (nA (upN Ow x1 p1)))), (mia, .inl (ky, 97, .inl (nA Ia))), (mo, .inr (5, [.int (nI sp), .int (nI d), .ref mdr, .int (nI mm - 1), .ref mtx, .ref mod, .ref mia, .ref mus, .ref mol, .ref mle, .int (nI my), .ref mrw, .ref mls])), (mtx, .inl (ky, 97, .inl (nA Mx)))] := hD
          refine lv_iinc (v := nI (p1 + 1)) (k := 1) hx hb d_Mo_sort_59 hl rfl (bw_inc p1 1) (by decide) rfl (fun ls hl => ?_)
          have hl : lv_has ls 3 [(1, .int (nI (p1 + 1))), (2, .int (nI x1)), (0, .ref mo)] := hl
          refine lv_goto (tgt := 2) hx hb d_Mo_sort_62 (by decide) ?_
          exact ih2 ((p1 + 1), (upN Ow x1 p1)) _ _ _ ⟨(by first | assumption | omega | (simp; done) | (simp_all; done)), (by first | exact Car_end hT (by omega) hSo hCa hx1 (Or.inl (by omega)) | exact Car_end hT (by omega) hSo hCa hx1 (Or.inr (by rw [← hOx]; exact hsl))), (by assumption), (hP.sub [2, 3, 0, 1] rfl), (hD.sub [2, 3, 0, 1] (by decide) rfl), hS, lv_sub hl [0, 2] rfl⟩ (by first | omega | (simp only; omega) | (dsimp only; omega))
        · exact absurd hc29 (by decide)
