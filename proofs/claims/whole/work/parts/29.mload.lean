set_option maxHeartbeats 4000000 in
set_option maxRecDepth 100000 in
theorem c_Mo_follow (l : Launch) (dC : Nat → ClassId) (dI : Nat → Nat → Nat) (ky : ClassId) (sz : Nat) (mo : Nat) (sp : Nat) (d : Nat) (mdr : Nat) (mm : Nat) (mtx : Nat) (mod : Nat) (mia : Nat) (mus : Nat) (mol : Nat) (mle : Nat) (my : Nat) (mrw : Nat) (mls : Nat) (Md : Nat → Nat) (Dd : Nat → Nat) (ks : Nat) (hMd : ∀ k_, Md k_ < 125) (hD28 : ∀ k_, Dd k_ < 28) (hMD : ∀ k, k < d → Md k = cod (Dd k)) (hd97 : d ≤ 97) (hks : ks < d) : Met l y_Mo_follow (Cond.code y_Mo_follow prog_7_method_12_code 6 (some .int) :: W0) ({ frames := 1, cells := 0, slots := 0, locals := 20 }) (va_Pc [.ref mo, .int (nI ks)] (fun U => U.heap.size = sz ∧ va_P (dC, dI) cls_ [(mo, .inr (5, [.int (nI sp), .int (nI d), .ref mdr, .int (nI mm - 1), .ref mtx, .ref mod, .ref mia, .ref mus, .ref mol, .ref mle, .int (nI my), .ref mrw, .ref mls])), (mdr, .inl (ky, 97, .inl (nA Md)))] U.heap ∧ va_K (dC, dI) cls_ [(ky, .int)] U ∧ va_D (fun _ => True) [(mo, .inr (5, [.int (nI sp), .int (nI d), .ref mdr, .int (nI mm - 1), .ref mtx, .ref mod, .ref mia, .ref mus, .ref mol, .ref mle, .int (nI my), .ref mrw, .ref mls])), (mdr, .inl (ky, 97, .inl (nA Md)))])) (va_Qi (fun (r : Int32) (_ : Unit) => r = nI (bk Dd d ks) ∧ (True)) (fun (_ : Unit) (t : State) => va_P (dC, dI) cls_ [(mo, .inr (5, [.int (nI sp), .int (nI d), .ref mdr, .int (nI mm - 1), .ref mtx, .ref mod, .ref mia, .ref mus, .ref mol, .ref mle, .int (nI my), .ref mrw, .ref mls])), (mdr, .inl (ky, 97, .inl (nA Md)))] t.heap ∧ va_D (va_A [(mo, .inr (5, [.int (nI sp), .int (nI d), .ref mdr, .int (nI mm - 1), .ref mtx, .ref mod, .ref mia, .ref mus, .ref mol, .ref mle, .int (nI my), .ref mrw, .ref mls])), (mdr, .inl (ky, 97, .inl (nA Md)))] sz) [(mo, .inr (5, [.int (nI sp), .int (nI d), .ref mdr, .int (nI mm - 1), .ref mtx, .ref mod, .ref mia, .ref mus, .ref mol, .ref mle, .int (nI my), .ref mrw, .ref mls])), (mdr, .inl (ky, 97, .inl (nA Md)))]) (va_A [(mo, .inr (5, [.int (nI sp), .int (nI d), .ref mdr, .int (nI mm - 1), .ref mtx, .ref mod, .ref mia, .ref mus, .ref mol, .ref mle, .int (nI my), .ref mrw, .ref mls])), (mdr, .inl (ky, 97, .inl (nA Md)))] sz)) 0 0 (va_A [(mo, .inr (5, [.int (nI sp), .int (nI d), .ref mdr, .int (nI mm - 1), .ref mtx, .ref mod, .ref mia, .ref mus, .ref mol, .ref mle, .int (nI my), .ref mrw, .ref mls])), (mdr, .inl (ky, 97, .inl (nA Md)))] sz) := by
  refine Met.ofW (cc := prog_7_method_12_code) (maxL := 6) (ret := (some .int)) (by decide) rfl ?_
  intro p e s m args below meth c s₁ B hml hv
  obtain ⟨rfl, hsz, hP, hK, hD0⟩ := hv
  have hx := B.exec
  have hb := B.bytes
  have hr := B.returns
  have hlocks := B.notSynchronized
  have hts := atoms_spec (ws := (Cond.code y_Mo_follow prog_7_method_12_code 6 (some .int) :: W0)) B.pre
  have htb : ∀ w ∈ W0, w.before _ s = true := fun w h => hts w (List.mem_cons_of_mem _ h)
  have hown : s.vm.findClass "SelfIndexedSequencesModel" = some m.cls := findClass_of_methodNamed B.named
  subst hsz
  have hD := hD0.self (sz := s.heap.size)
  generalize hAe : va_A [(mo, .inr (5, [.int (nI sp), .int (nI d), .ref mdr, .int (nI mm - 1), .ref mtx, .ref mod, .ref mia, .ref mus, .ref mol, .ref mle, .int (nI my), .ref mrw, .ref mls])), (mdr, .inl (ky, 97, .inl (nA Md)))] s.heap.size = A at hD ⊢
  have hA : ∀ q : Nat, s.heap.size ≤ q → A q := fun q h => by rw [← hAe]; exact Or.inr h
  have hS : va_S A s.heap s.heap [] := va_S.rf
  have hl := lv_entry ([.ref mo, .int (nI ks)]) (n := 6) (Nat.le_of_ble_eq_true rfl)
  rw [lg_entry_eq]
  generalize (lg_sl ([.ref mo, .int (nI ks)]) ++ List.replicate (6 - (lg_sl ([.ref mo, .int (nI ks)])).length) Slot.unset).toArray = ls at hl ⊢
  have hl : lv_has ls 6 [(0, .ref mo), (1, .int (nI ks))] := hl
  refine lv_aload_n hx hb d_Mo_follow_0 rfl (lv_at hl 0 rfl) ?_
  refine va_get (D := (dC, dI)) (ci := 5) (v := .ref mdr) (C := R_Mo) (T := F_Mo) (N := 13) hx hb htb in_Mo hown hK hP 0 rfl rfl 2 (by decide) (htb _ tw_363) (fun _ h9 => h9) rfl d_Mo_follow_1 ?_
  refine lv_iload_n hx hb d_Mo_follow_4 rfl (lv_at hl 1 rfl) ?_
  refine va_iald hx hb hK hP 1 0 rfl rfl (vp_in_nI (by omega) (by decide)) d_Mo_follow_5 ?_
  rw [nI_clamp (by omega)]
  have hb5 := hMd ks
  rw [nA_at]
  rw [show nI (Md ks) = nI (cod (Dd ks)) from (by rw [hMD ks hks])]
  have hw1 := cod_lt (hD28 ks)
  have hw2 := wor_b (hD28 ks)
  have hPc := hP.sub (ws' := []) [] rfl
  have hDc := hD.sub (ws' := []) [] (by decide) rfl
  have hFc := va_free (wc := []) hD hS hA [] rfl
  refine va_calli (va_runS (As := [.int (nI (cod (Dd ks)))]) (rest := []) ⟨hx, hb, hml, hown, hts⟩ (c_Mo_worth l dC dI ky s.heap.size (cod (Dd ks)) (by first | assumption | omega | (simp; done) | (simp_all; done))) ⟨callB_of 1 hts (W0_good tw_438) rfl rfl rfl (htb _ tw_28) (htb _ tw_436) ⟨by decide, by decide, by decide +kernel⟩ ⟨(Nat.le_of_ble_eq_true rfl), (Nat.le_of_ble_eq_true rfl)⟩, htb _ tw_437⟩ ⟨fun a U g mk q => by obtain ⟨q0, q1, qP, qK, qD⟩ := q; exact ⟨q0, q1, qP, va_K.moved (u := U) (U := U.calling g mk a) (Vm.Alike.refl U.vm) qK, qD⟩, fun U hU hW => ⟨rfl, by rw [hU], by rw [hU]; exact hPc, va_K.moved hW.alike hK, hDc.weaken (fun _ _ _ _ => trivial)⟩⟩ rfl rfl hl.1 rfl (lv_room (Nat.le_of_ble_eq_true rfl)) d_Mo_follow_6 ⟨(Nat.le_of_ble_eq_true rfl), (Nat.le_of_ble_eq_true rfl)⟩) hS (fun q _ h => hFc q h) hFc (fun r6 u_ t H locs ht hvm hw6 hB hz1 hk1 hS => ?_)
  obtain ⟨hP1, hD1⟩ := hB
  rw [ht] at hP1
  obtain ⟨hP, hD⟩ := va_join (wr := [(mo, .inr (5, [.int (nI sp), .int (nI d), .ref mdr, .int (nI mm - 1), .ref mtx, .ref mod, .ref mia, .ref mus, .ref mol, .ref mle, .int (nI my), .ref mrw, .ref mls])), (mdr, .inl (ky, 97, .inl (nA Md)))]) (w1 := []) hP hD [] [0, 1] rfl rfl (by decide) (by decide) hk1 hFc hP1 hD1
  have hP : va_P (dC, dI) cls_ [(mo, .inr (5, [.int (nI sp), .int (nI d), .ref mdr, .int (nI mm - 1), .ref mtx, .ref mod, .ref mia, .ref mus, .ref mol, .ref mle, .int (nI my), .ref mrw, .ref mls])), (mdr, .inl (ky, 97, .inl (nA Md)))] H := hP
  have hD : va_D A [(mo, .inr (5, [.int (nI sp), .int (nI d), .ref mdr, .int (nI mm - 1), .ref mtx, .ref mod, .ref mia, .ref mus, .ref mol, .ref mle, .int (nI my), .ref mrw, .ref mls])), (mdr, .inl (ky, 97, .inl (nA Md)))] := hD
  have hw6 : r6 = nI (wor (cod (Dd ks))) ∧ (True) := hw6
  obtain ⟨hre, hq6⟩ := hw6
  subst hre
  refine lv_istore_n hx hb d_Mo_follow_9 rfl hl (by decide) rfl (fun ls hl => ?_)
  have hl : lv_has ls 6 [(2, .int (nI (wor (cod (Dd ks))))), (0, .ref mo), (1, .int (nI ks))] := hl
  refine lv_iconst (v := nI 0) hx hb d_Mo_follow_10 (by decide) ?_
  refine lv_istore_n hx hb d_Mo_follow_11 rfl hl (by decide) rfl (fun ls hl => ?_)
  have hl : lv_has ls 6 [(3, .int (nI 0)), (2, .int (nI (wor (cod (Dd ks))))), (0, .ref mo), (1, .int (nI ks))] := hl
  refine lv_iconst (v := nI 0) hx hb d_Mo_follow_12 (by decide) ?_
  refine lv_istore hx hb d_Mo_follow_13 hl (by decide) rfl (fun ls hl => ?_)
  have hl : lv_has ls 6 [(4, .int (nI 0)), (3, .int (nI 0)), (2, .int (nI (wor (cod (Dd ks))))), (0, .ref mo), (1, .int (nI ks))] := hl
  refine wl_loop (σ := Nat × Nat) 15 [] (fun (a_ : Nat × Nat) => match a_ with | (i, f) => d - i) (fun (a_ : Nat × Nat) (H : Heap) (locs : List Loc) (ls : Array Slot) => match a_ with | (i, f) => (i ≤ d) ∧ (f = num (fun i => Dd i < Dd ks ∨ (Dd i = Dd ks ∧ i < ks)) i) ∧ (f ≤ i) ∧ va_P (dC, dI) cls_ [(mo, .inr (5, [.int (nI sp), .int (nI d), .ref mdr, .int (nI mm - 1), .ref mtx, .ref mod, .ref mia, .ref mus, .ref mol, .ref mle, .int (nI my), .ref mrw, .ref mls])), (mdr, .inl (ky, 97, .inl (nA Md)))] H ∧ va_D A [(mo, .inr (5, [.int (nI sp), .int (nI d), .ref mdr, .int (nI mm - 1), .ref mtx, .ref mod, .ref mia, .ref mus, .ref mol, .ref mle, .int (nI my), .ref mrw, .ref mls])), (mdr, .inl (ky, 97, .inl (nA Md)))] ∧ va_S A s.heap H locs ∧ lv_has ls 6 [(4, .int (nI i)), (3, .int (nI f)), (0, .ref mo), (1, .int (nI ks)), (2, .int (nI (wor (cod (Dd ks)))))]) ?_ (0, 0) ⟨(by first | assumption | omega | (simp; done) | (simp_all; done)), rfl, (by first | assumption | omega | (simp; done) | (simp_all; done)), hP, hD, hS, lv_sub hl [0, 1, 3, 4, 2] rfl⟩
  clear hP hD hS hl
  intro a_ H locs ls hI ih15
  obtain ⟨i, f⟩ := a_
  obtain ⟨hi, hf, hfi, hP, hD, hS, hl⟩ := hI
  have hl : lv_has ls 6 [(4, .int (nI i)), (3, .int (nI f)), (0, .ref mo), (1, .int (nI ks)), (2, .int (nI (wor (cod (Dd ks)))))] := hl
  have hP : va_P (dC, dI) cls_ [(mo, .inr (5, [.int (nI sp), .int (nI d), .ref mdr, .int (nI mm - 1), .ref mtx, .ref mod, .ref mia, .ref mus, .ref mol, .ref mle, .int (nI my), .ref mrw, .ref mls])), (mdr, .inl (ky, 97, .inl (nA Md)))] H := hP
  have hD : va_D A [(mo, .inr (5, [.int (nI sp), .int (nI d), .ref mdr, .int (nI mm - 1), .ref mtx, .ref mod, .ref mia, .ref mus, .ref mol, .ref mle, .int (nI my), .ref mrw, .ref mls])), (mdr, .inl (ky, 97, .inl (nA Md)))] := hD
  have hi : i ≤ d := hi
  have hf : f = num (fun i => Dd i < Dd ks ∨ (Dd i = Dd ks ∧ i < ks)) i := hf
  have hfi : f ≤ i := hfi
  refine lv_iload hx hb d_Mo_follow_15 (lv_at hl 0 rfl) ?_
  refine lv_aload_n hx hb d_Mo_follow_17 rfl (lv_at hl 2 rfl) ?_
  refine va_get (D := (dC, dI)) (ci := 5) (v := .int (nI d)) (C := R_Mo) (T := F_Mo) (N := 13) hx hb htb in_Mo hown hK hP 0 rfl rfl 1 (by decide) (htb _ tw_362) (fun _ h9 => h9) rfl d_Mo_follow_18 ?_
  refine lv_icmp_ge (tgt := 68) hx hb d_Mo_follow_21 (by decide) (fun hc21 => ?_) (fun hc21 => ?_)
  · skip
    rw [bw_le_nn (by omega) (by omega)] at hc21
    refine lv_iload_n hx hb d_Mo_follow_68 rfl (lv_at hl 1 rfl) ?_
    have hP9 := hP.sub (ws' := [(mo, .inr (5, [.int (nI sp), .int (nI d), .ref mdr, .int (nI mm - 1), .ref mtx, .ref mod, .ref mia, .ref mus, .ref mol, .ref mle, .int (nI my), .ref mrw, .ref mls])), (mdr, .inl (ky, 97, .inl (nA Md)))]) [0, 1] rfl
    have hD9 := hD.sub (ws' := [(mo, .inr (5, [.int (nI sp), .int (nI d), .ref mdr, .int (nI mm - 1), .ref mtx, .ref mod, .ref mia, .ref mus, .ref mol, .ref mle, .int (nI my), .ref mrw, .ref mls])), (mdr, .inl (ky, 97, .inl (nA Md)))]) [0, 1] (by decide) rfl
    exact W.iret (v := nI f) hx hb hr (fun t ht hW => ⟨⟨nI f, (), rfl, ⟨(by rw [hf, show i = d by omega, fo_bk Dd (by omega)]), (by first | trivial | assumption | omega)⟩, by rw [ht]; exact hP9, hD9⟩, hS.F ht⟩) hS.2.2 d_Mo_follow_69
  · skip
    rw [bw_le_nn (by omega) (by omega)] at hc21
    refine lv_aload_n hx hb d_Mo_follow_24 rfl (lv_at hl 2 rfl) ?_
    refine va_get (D := (dC, dI)) (ci := 5) (v := .ref mdr) (C := R_Mo) (T := F_Mo) (N := 13) hx hb htb in_Mo hown hK hP 0 rfl rfl 2 (by decide) (htb _ tw_363) (fun _ h9 => h9) rfl d_Mo_follow_25 ?_
    refine lv_iload hx hb d_Mo_follow_28 (lv_at hl 0 rfl) ?_
    refine va_iald hx hb hK hP 1 0 rfl rfl (vp_in_nI (by omega) (by decide)) d_Mo_follow_30 ?_
    rw [nI_clamp (by omega)]
    have hb30 := hMd i
    rw [nA_at]
    rw [show nI (Md i) = nI (cod (Dd i)) from (by rw [hMD i (by omega)])]
    have hw3 := cod_lt (hD28 i)
    have hw4 := wor_b (hD28 i)
    have hw5 := wor_lt (hD28 i) (hD28 ks)
    have hw6 := wor_eq (hD28 i) (hD28 ks)
    have hPc := hP.sub (ws' := []) [] rfl
    have hDc := hD.sub (ws' := []) [] (by decide) rfl
    have hFc := va_free (wc := []) hD hS hA [] rfl
    refine va_calli (va_runS (As := [.int (nI (cod (Dd i)))]) (rest := []) ⟨hx, hb, hml, hown, hts⟩ (c_Mo_worth l dC dI ky H.size (cod (Dd i)) (by first | assumption | omega | (simp; done) | (simp_all; done))) ⟨callB_of 1 hts (W0_good tw_438) rfl rfl rfl (htb _ tw_28) (htb _ tw_436) ⟨by decide, by decide, by decide +kernel⟩ ⟨(Nat.le_of_ble_eq_true rfl), (Nat.le_of_ble_eq_true rfl)⟩, htb _ tw_437⟩ ⟨fun a U g mk q => by obtain ⟨q0, q1, qP, qK, qD⟩ := q; exact ⟨q0, q1, qP, va_K.moved (u := U) (U := U.calling g mk a) (Vm.Alike.refl U.vm) qK, qD⟩, fun U hU hW => ⟨rfl, by rw [hU], by rw [hU]; exact hPc, va_K.moved hW.alike hK, hDc.weaken (fun _ _ _ _ => trivial)⟩⟩ rfl rfl hl.1 rfl (lv_room (Nat.le_of_ble_eq_true rfl)) d_Mo_follow_31 ⟨(Nat.le_of_ble_eq_true rfl), (Nat.le_of_ble_eq_true rfl)⟩) hS (fun q _ h => hFc q h) hFc (fun r31 u_ t H locs ht hvm hw31 hB hz1 hk1 hS => ?_)
    obtain ⟨hP1, hD1⟩ := hB
    rw [ht] at hP1
    obtain ⟨hP, hD⟩ := va_join (wr := [(mo, .inr (5, [.int (nI sp), .int (nI d), .ref mdr, .int (nI mm - 1), .ref mtx, .ref mod, .ref mia, .ref mus, .ref mol, .ref mle, .int (nI my), .ref mrw, .ref mls])), (mdr, .inl (ky, 97, .inl (nA Md)))]) (w1 := []) hP hD [] [0, 1] rfl rfl (by decide) (by decide) hk1 hFc hP1 hD1
    have hP : va_P (dC, dI) cls_ [(mo, .inr (5, [.int (nI sp), .int (nI d), .ref mdr, .int (nI mm - 1), .ref mtx, .ref mod, .ref mia, .ref mus, .ref mol, .ref mle, .int (nI my), .ref mrw, .ref mls])), (mdr, .inl (ky, 97, .inl (nA Md)))] H := hP
    have hD : va_D A [(mo, .inr (5, [.int (nI sp), .int (nI d), .ref mdr, .int (nI mm - 1), .ref mtx, .ref mod, .ref mia, .ref mus, .ref mol, .ref mle, .int (nI my), .ref mrw, .ref mls])), (mdr, .inl (ky, 97, .inl (nA Md)))] := hD
    have hw31 : r31 = nI (wor (cod (Dd i))) ∧ (True) := hw31
    obtain ⟨hre, hq31⟩ := hw31
    subst hre
    refine lv_istore hx hb d_Mo_follow_34 hl (by decide) rfl (fun ls hl => ?_)
    have hl : lv_has ls 6 [(5, .int (nI (wor (cod (Dd i))))), (4, .int (nI i)), (3, .int (nI f)), (0, .ref mo), (1, .int (nI ks)), (2, .int (nI (wor (cod (Dd ks)))))] := hl
    refine lv_iload_n hx hb d_Mo_follow_36 rfl (lv_at hl 2 rfl) ?_
    refine lv_iload hx hb d_Mo_follow_37 (lv_at hl 0 rfl) ?_
    refine lv_iload_n hx hb d_Mo_follow_39 rfl (lv_at hl 5 rfl) ?_
    refine lv_icmp_lt (tgt := 55) hx hb d_Mo_follow_40 (by decide) (fun hc40 => ?_) (fun hc40 => ?_)
    · skip
      rw [bw_lt_nn (by omega) (by omega)] at hc40
      refine lv_iconst (v := nI 1) hx hb d_Mo_follow_55 (by decide) ?_
      refine lv_goto (tgt := 60) hx hb d_Mo_follow_56 (by decide) ?_
      refine lv_iadd hx hb d_Mo_follow_60 ?_
      rw [nI_add]
      refine lv_istore_n hx hb d_Mo_follow_61 rfl hl (by decide) rfl (fun ls hl => ?_)
      have hl : lv_has ls 6 [(3, .int (nI (f + 1))), (5, .int (nI (wor (cod (Dd i))))), (4, .int (nI i)), (0, .ref mo), (1, .int (nI ks)), (2, .int (nI (wor (cod (Dd ks)))))] := hl
      refine lv_iinc (v := nI (i + 1)) (k := 2) hx hb d_Mo_follow_62 hl rfl (bw_inc i 1) (by decide) rfl (fun ls hl => ?_)
      have hl : lv_has ls 6 [(4, .int (nI (i + 1))), (3, .int (nI (f + 1))), (5, .int (nI (wor (cod (Dd i))))), (0, .ref mo), (1, .int (nI ks)), (2, .int (nI (wor (cod (Dd ks)))))] := hl
      refine lv_goto (tgt := 15) hx hb d_Mo_follow_65 (by decide) ?_
      exact ih15 ((i + 1), (f + 1)) _ _ _ ⟨(by first | assumption | omega | (simp; done) | (simp_all; done)), (by first | exact num_sy (by (try dsimp only); omega) hf | exact num_sn (by (try dsimp only); omega) hf), (by first | assumption | omega | (simp; done) | (simp_all; done)), hP, hD, hS, lv_sub hl [0, 1, 3, 4, 5] rfl⟩ (by first | omega | (simp only; omega) | (dsimp only; omega))
    · skip
      rw [bw_lt_nn (by omega) (by omega)] at hc40
      refine lv_iload hx hb d_Mo_follow_43 (lv_at hl 0 rfl) ?_
      refine lv_iload_n hx hb d_Mo_follow_45 rfl (lv_at hl 5 rfl) ?_
      refine lv_icmp_ne (tgt := 59) hx hb d_Mo_follow_46 (by decide) (fun hc46 => ?_) (fun hc46 => ?_)
      · skip
        rw [bw_eq_nn (by omega) (by omega)] at hc46
        refine lv_iconst (v := nI 0) hx hb d_Mo_follow_59 (by decide) ?_
        refine lv_iadd hx hb d_Mo_follow_60 ?_
        rw [nI_add]
        refine lv_istore_n hx hb d_Mo_follow_61 rfl hl (by decide) rfl (fun ls hl => ?_)
        have hl : lv_has ls 6 [(3, .int (nI (f + 0))), (5, .int (nI (wor (cod (Dd i))))), (4, .int (nI i)), (0, .ref mo), (1, .int (nI ks)), (2, .int (nI (wor (cod (Dd ks)))))] := hl
        refine lv_iinc (v := nI (i + 1)) (k := 2) hx hb d_Mo_follow_62 hl rfl (bw_inc i 1) (by decide) rfl (fun ls hl => ?_)
        have hl : lv_has ls 6 [(4, .int (nI (i + 1))), (3, .int (nI (f + 0))), (5, .int (nI (wor (cod (Dd i))))), (0, .ref mo), (1, .int (nI ks)), (2, .int (nI (wor (cod (Dd ks)))))] := hl
        refine lv_goto (tgt := 15) hx hb d_Mo_follow_65 (by decide) ?_
        exact ih15 ((i + 1), (f + 0)) _ _ _ ⟨(by first | assumption | omega | (simp; done) | (simp_all; done)), (by first | exact num_sy (by (try dsimp only); omega) hf | exact num_sn (by (try dsimp only); omega) hf), (by first | assumption | omega | (simp; done) | (simp_all; done)), hP, hD, hS, lv_sub hl [0, 1, 3, 4, 5] rfl⟩ (by first | omega | (simp only; omega) | (dsimp only; omega))
      · skip
        rw [bw_eq_nn (by omega) (by omega)] at hc46
        refine lv_iload hx hb d_Mo_follow_49 (lv_at hl 1 rfl) ?_
        refine lv_iload_n hx hb d_Mo_follow_51 rfl (lv_at hl 4 rfl) ?_
        refine lv_icmp_ge (tgt := 59) hx hb d_Mo_follow_52 (by decide) (fun hc52 => ?_) (fun hc52 => ?_)
        · skip
          rw [bw_le_nn (by omega) (by omega)] at hc52
          refine lv_iconst (v := nI 0) hx hb d_Mo_follow_59 (by decide) ?_
          refine lv_iadd hx hb d_Mo_follow_60 ?_
          rw [nI_add]
          refine lv_istore_n hx hb d_Mo_follow_61 rfl hl (by decide) rfl (fun ls hl => ?_)
          have hl : lv_has ls 6 [(3, .int (nI (f + 0))), (5, .int (nI (wor (cod (Dd i))))), (4, .int (nI i)), (0, .ref mo), (1, .int (nI ks)), (2, .int (nI (wor (cod (Dd ks)))))] := hl
          refine lv_iinc (v := nI (i + 1)) (k := 2) hx hb d_Mo_follow_62 hl rfl (bw_inc i 1) (by decide) rfl (fun ls hl => ?_)
          have hl : lv_has ls 6 [(4, .int (nI (i + 1))), (3, .int (nI (f + 0))), (5, .int (nI (wor (cod (Dd i))))), (0, .ref mo), (1, .int (nI ks)), (2, .int (nI (wor (cod (Dd ks)))))] := hl
          refine lv_goto (tgt := 15) hx hb d_Mo_follow_65 (by decide) ?_
          exact ih15 ((i + 1), (f + 0)) _ _ _ ⟨(by first | assumption | omega | (simp; done) | (simp_all; done)), (by first | exact num_sy (by (try dsimp only); omega) hf | exact num_sn (by (try dsimp only); omega) hf), (by first | assumption | omega | (simp; done) | (simp_all; done)), hP, hD, hS, lv_sub hl [0, 1, 3, 4, 5] rfl⟩ (by first | omega | (simp only; omega) | (dsimp only; omega))
        · skip
          rw [bw_le_nn (by omega) (by omega)] at hc52
          refine lv_iconst (v := nI 1) hx hb d_Mo_follow_55 (by decide) ?_
          refine lv_goto (tgt := 60) hx hb d_Mo_follow_56 (by decide) ?_
          refine lv_iadd hx hb d_Mo_follow_60 ?_
          rw [nI_add]
          refine lv_istore_n hx hb d_Mo_follow_61 rfl hl (by decide) rfl (fun ls hl => ?_)
          have hl : lv_has ls 6 [(3, .int (nI (f + 1))), (5, .int (nI (wor (cod (Dd i))))), (4, .int (nI i)), (0, .ref mo), (1, .int (nI ks)), (2, .int (nI (wor (cod (Dd ks)))))] := hl
          refine lv_iinc (v := nI (i + 1)) (k := 2) hx hb d_Mo_follow_62 hl rfl (bw_inc i 1) (by decide) rfl (fun ls hl => ?_)
          have hl : lv_has ls 6 [(4, .int (nI (i + 1))), (3, .int (nI (f + 1))), (5, .int (nI (wor (cod (Dd i))))), (0, .ref mo), (1, .int (nI ks)), (2, .int (nI (wor (cod (Dd ks)))))] := hl
          refine lv_goto (tgt := 15) hx hb d_Mo_follow_65 (by decide) ?_
          exact ih15 ((i + 1), (f + 1)) _ _ _ ⟨(by first | assumption | omega | (simp; done) | (simp_all; done)), (by first | exact num_sy (by (try dsimp only); omega) hf | exact num_sn (by (try dsimp only); omega) hf), (by first | assumption | omega | (simp; done) | (simp_all; done)), hP, hD, hS, lv_sub hl [0, 1, 3, 4, 5] rfl⟩ (by first | omega | (simp only; omega) | (dsimp only; omega))

set_option maxHeartbeats 4000000 in
set_option maxRecDepth 100000 in
theorem c_Mo_guess (l : Launch) (dC : Nat → ClassId) (dI : Nat → Nat → Nat) (ky : ClassId) (sz : Nat) (mo : Nat) (sp : Nat) (d : Nat) (mdr : Nat) (mm : Nat) (mtx : Nat) (mod : Nat) (mia : Nat) (mus : Nat) (mol : Nat) (mle : Nat) (my : Nat) (mrw : Nat) (mls : Nat) (Md : Nat → Nat) (Mx : Nat → Nat) (Dd : Nat → Nat) (hMd : ∀ k_, Md k_ < 125) (hD28 : ∀ k_, Dd k_ < 28) (hMD : ∀ k, k < d → Md k = cod (Dd k)) (hd97 : d ≤ 97) (hMx : ∀ k_, Mx k_ < 125) (hd0 : 0 < d) : Met l y_Mo_guess (Cond.code y_Mo_guess prog_7_method_14_code 4 (some .boolean) :: W0) ({ frames := 2, cells := 0, slots := 0, locals := 45 }) (va_Pc [.ref mo] (fun U => U.heap.size = sz ∧ va_P (dC, dI) cls_ [(mo, .inr (5, [.int (nI sp), .int (nI d), .ref mdr, .int (nI mm - 1), .ref mtx, .ref mod, .ref mia, .ref mus, .ref mol, .ref mle, .int (nI my), .ref mrw, .ref mls])), (mdr, .inl (ky, 97, .inl (nA Md))), (mtx, .inl (ky, 97, .inl (nA Mx)))] U.heap ∧ va_K (dC, dI) cls_ [(ky, .int)] U ∧ va_D (fun _ => True) [(mo, .inr (5, [.int (nI sp), .int (nI d), .ref mdr, .int (nI mm - 1), .ref mtx, .ref mod, .ref mia, .ref mus, .ref mol, .ref mle, .int (nI my), .ref mrw, .ref mls])), (mdr, .inl (ky, 97, .inl (nA Md))), (mtx, .inl (ky, 97, .inl (nA Mx)))])) (va_Qi (fun (r : Int32) (Xn : Nat → Nat) => ((Gg Dd d ∧ r = nI 1) ∨ (¬ Gg Dd d ∧ r = nI 0)) ∧ (∀ q, q < d - 1 → Xn q = cod (txb Dd d q)) ∧ (∀ k_, Xn k_ < 125)) (fun (Xn : Nat → Nat) (t : State) => va_P (dC, dI) cls_ [(mo, .inr (5, [.int (nI sp), .int (nI d), .ref mdr, .int (nI d - 1), .ref mtx, .ref mod, .ref mia, .ref mus, .ref mol, .ref mle, .int (nI my), .ref mrw, .ref mls])), (mdr, .inl (ky, 97, .inl (nA Md))), (mtx, .inl (ky, 97, .inl (nA Xn)))] t.heap ∧ va_D (va_A [(mo, .inr (5, [.int (nI sp), .int (nI d), .ref mdr, .int (nI mm - 1), .ref mtx, .ref mod, .ref mia, .ref mus, .ref mol, .ref mle, .int (nI my), .ref mrw, .ref mls])), (mdr, .inl (ky, 97, .inl (nA Md))), (mtx, .inl (ky, 97, .inl (nA Mx)))] sz) [(mo, .inr (5, [.int (nI sp), .int (nI d), .ref mdr, .int (nI d - 1), .ref mtx, .ref mod, .ref mia, .ref mus, .ref mol, .ref mle, .int (nI my), .ref mrw, .ref mls])), (mdr, .inl (ky, 97, .inl (nA Md))), (mtx, .inl (ky, 97, .inl (nA Xn)))]) (va_A [(mo, .inr (5, [.int (nI sp), .int (nI d), .ref mdr, .int (nI mm - 1), .ref mtx, .ref mod, .ref mia, .ref mus, .ref mol, .ref mle, .int (nI my), .ref mrw, .ref mls])), (mdr, .inl (ky, 97, .inl (nA Md))), (mtx, .inl (ky, 97, .inl (nA Mx)))] sz)) 0 0 (va_A [(mo, .inr (5, [.int (nI sp), .int (nI d), .ref mdr, .int (nI mm - 1), .ref mtx, .ref mod, .ref mia, .ref mus, .ref mol, .ref mle, .int (nI my), .ref mrw, .ref mls])), (mdr, .inl (ky, 97, .inl (nA Md))), (mtx, .inl (ky, 97, .inl (nA Mx)))] sz) := by
  refine Met.ofW (cc := prog_7_method_14_code) (maxL := 4) (ret := (some .boolean)) (by decide) rfl ?_
  intro p e s m args below meth c s₁ B hml hv
  obtain ⟨rfl, hsz, hP, hK, hD0⟩ := hv
  have hx := B.exec
  have hb := B.bytes
  have hr := B.returns
  have hlocks := B.notSynchronized
  have hts := atoms_spec (ws := (Cond.code y_Mo_guess prog_7_method_14_code 4 (some .boolean) :: W0)) B.pre
  have htb : ∀ w ∈ W0, w.before _ s = true := fun w h => hts w (List.mem_cons_of_mem _ h)
  have hown : s.vm.findClass "SelfIndexedSequencesModel" = some m.cls := findClass_of_methodNamed B.named
  subst hsz
  have hD := hD0.self (sz := s.heap.size)
  generalize hAe : va_A [(mo, .inr (5, [.int (nI sp), .int (nI d), .ref mdr, .int (nI mm - 1), .ref mtx, .ref mod, .ref mia, .ref mus, .ref mol, .ref mle, .int (nI my), .ref mrw, .ref mls])), (mdr, .inl (ky, 97, .inl (nA Md))), (mtx, .inl (ky, 97, .inl (nA Mx)))] s.heap.size = A at hD ⊢
  have hA : ∀ q : Nat, s.heap.size ≤ q → A q := fun q h => by rw [← hAe]; exact Or.inr h
  have hS : va_S A s.heap s.heap [] := va_S.rf
  have hl := lv_entry ([.ref mo]) (n := 4) (Nat.le_of_ble_eq_true rfl)
  rw [lg_entry_eq]
  generalize (lg_sl ([.ref mo]) ++ List.replicate (4 - (lg_sl ([.ref mo])).length) Slot.unset).toArray = ls at hl ⊢
  have hl : lv_has ls 4 [(0, .ref mo)] := hl
  refine lv_aload_n hx hb d_Mo_guess_0 rfl (lv_at hl 0 rfl) ?_
  refine lv_aload_n hx hb d_Mo_guess_1 rfl (lv_at hl 0 rfl) ?_
  refine va_get (D := (dC, dI)) (ci := 5) (v := .int (nI d)) (C := R_Mo) (T := F_Mo) (N := 13) hx hb htb in_Mo hown hK hP 0 rfl rfl 1 (by decide) (htb _ tw_362) (fun _ h9 => h9) rfl d_Mo_guess_2 ?_
  refine lv_iconst (v := nI 1) hx hb d_Mo_guess_5 (by decide) ?_
  refine lv_isub hx hb d_Mo_guess_6 ?_
  rw [bw_n1 d]
  refine va_put (D := (dC, dI)) (ci := 5) (v := .int (nI d - 1)) (ty := .int) (C := R_Mo) (T := F_Mo) (N := 13) hx hb htb in_Mo t_Mo tk_Mo nm_Mo hown hK hP hD hS 0 rfl rfl 3 (by decide) (htb _ tw_364) (fun _ h9 => h9) rfl (by decide +kernel) rfl rfl (Nat.le_of_ble_eq_true rfl) d_Mo_guess_7 (fun H locs hP hD hS => ?_)
  have hP : va_P (dC, dI) cls_ [(mo, .inr (5, [.int (nI sp), .int (nI d), .ref mdr, .int (nI d - 1), .ref mtx, .ref mod, .ref mia, .ref mus, .ref mol, .ref mle, .int (nI my), .ref mrw, .ref mls])), (mdr, .inl (ky, 97, .inl (nA Md))), (mtx, .inl (ky, 97, .inl (nA Mx)))] H := hP
  have hD : va_D A [(mo, .inr (5, [.int (nI sp), .int (nI d), .ref mdr, .int (nI d - 1), .ref mtx, .ref mod, .ref mia, .ref mus, .ref mol, .ref mle, .int (nI my), .ref mrw, .ref mls])), (mdr, .inl (ky, 97, .inl (nA Md))), (mtx, .inl (ky, 97, .inl (nA Mx)))] := hD
  refine lv_iconst (v := nI 0) hx hb d_Mo_guess_10 (by decide) ?_
  refine lv_istore_n hx hb d_Mo_guess_11 rfl hl (by decide) rfl (fun ls hl => ?_)
  have hl : lv_has ls 4 [(1, .int (nI 0)), (0, .ref mo)] := hl
  refine lv_iconst (v := nI 1) hx hb d_Mo_guess_12 (by decide) ?_
  refine lv_istore_n hx hb d_Mo_guess_13 rfl hl (by decide) rfl (fun ls hl => ?_)
  have hl : lv_has ls 4 [(2, .int (nI 1)), (1, .int (nI 0)), (0, .ref mo)] := hl
  refine lv_aload_n hx hb d_Mo_guess_14 rfl (lv_at hl 2 rfl) ?_
  refine va_get (D := (dC, dI)) (ci := 5) (v := .int (nI d - 1)) (C := R_Mo) (T := F_Mo) (N := 13) hx hb htb in_Mo hown hK hP 0 rfl rfl 3 (by decide) (htb _ tw_364) (fun _ h9 => h9) rfl d_Mo_guess_15 ?_
  refine lv_iconst (v := nI 1) hx hb d_Mo_guess_18 (by decide) ?_
  refine lv_isub hx hb d_Mo_guess_19 ?_
  rw [bw_sub_pn (show 1 ≤ d by omega)]
  refine lv_istore_n hx hb d_Mo_guess_20 rfl hl (by decide) rfl (fun ls hl => ?_)
  have hl : lv_has ls 4 [(3, .int (nI (d - 1) - 1)), (2, .int (nI 1)), (1, .int (nI 0)), (0, .ref mo)] := hl
  refine wl_loop (σ := Nat × Nat × Nat × (Nat → Nat)) 21 [] (fun (a_ : Nat × Nat × Nat × (Nat → Nat)) => match a_ with | (q1, ks, gd, Xq) => q1) (fun (a_ : Nat × Nat × Nat × (Nat → Nat)) (H : Heap) (locs : List Loc) (ls : Array Slot) => match a_ with | (q1, ks, gd, Xq) => (q1 < d) ∧ (ks = gob Dd d (d - 1 - q1)) ∧ (ks < d) ∧ (GuI Dd d q1 gd) ∧ (gd ≤ 1) ∧ (∀ x, q1 ≤ x → x < d - 1 → Xq x = cod (txb Dd d x)) ∧ (∀ k_, Xq k_ < 125) ∧ va_P (dC, dI) cls_ [(mo, .inr (5, [.int (nI sp), .int (nI d), .ref mdr, .int (nI d - 1), .ref mtx, .ref mod, .ref mia, .ref mus, .ref mol, .ref mle, .int (nI my), .ref mrw, .ref mls])), (mdr, .inl (ky, 97, .inl (nA Md))), (mtx, .inl (ky, 97, .inl (nA Xq)))] H ∧ va_D A [(mo, .inr (5, [.int (nI sp), .int (nI d), .ref mdr, .int (nI d - 1), .ref mtx, .ref mod, .ref mia, .ref mus, .ref mol, .ref mle, .int (nI my), .ref mrw, .ref mls])), (mdr, .inl (ky, 97, .inl (nA Md))), (mtx, .inl (ky, 97, .inl (nA Xq)))] ∧ va_S A s.heap H locs ∧ lv_has ls 4 [(3, .int (nI q1 - 1)), (1, .int (nI ks)), (2, .int (nI gd)), (0, .ref mo)]) ?_ ((d - 1), 0, 1, Mx) ⟨(by first | assumption | omega | (simp; done) | (simp_all; done)), (by rw [Nat.sub_self]; rfl), (by first | assumption | omega | (simp; done) | (simp_all; done)), (GuI_0 Dd d), (by first | assumption | omega | (simp; done) | (simp_all; done)), (fun x h1 h2 => by omega), hMx, hP, hD, hS, lv_sub hl [0, 2, 1, 3] rfl⟩
  clear hP hD hS hl
  intro a_ H locs ls hI ih21
  obtain ⟨q1, ks, gd, Xq⟩ := a_
  obtain ⟨hq1, hks, hkd, hgd, hg1, hXx, hXq, hP, hD, hS, hl⟩ := hI
  have hl : lv_has ls 4 [(3, .int (nI q1 - 1)), (1, .int (nI ks)), (2, .int (nI gd)), (0, .ref mo)] := hl
  have hP : va_P (dC, dI) cls_ [(mo, .inr (5, [.int (nI sp), .int (nI d), .ref mdr, .int (nI d - 1), .ref mtx, .ref mod, .ref mia, .ref mus, .ref mol, .ref mle, .int (nI my), .ref mrw, .ref mls])), (mdr, .inl (ky, 97, .inl (nA Md))), (mtx, .inl (ky, 97, .inl (nA Xq)))] H := hP
  have hD : va_D A [(mo, .inr (5, [.int (nI sp), .int (nI d), .ref mdr, .int (nI d - 1), .ref mtx, .ref mod, .ref mia, .ref mus, .ref mol, .ref mle, .int (nI my), .ref mrw, .ref mls])), (mdr, .inl (ky, 97, .inl (nA Md))), (mtx, .inl (ky, 97, .inl (nA Xq)))] := hD
  have hq1 : q1 < d := hq1
  have hks : ks = gob Dd d (d - 1 - q1) := hks
  have hkd : ks < d := hkd
  have hgd : GuI Dd d q1 gd := hgd
  have hg1 : gd ≤ 1 := hg1
  have hXx : ∀ x, q1 ≤ x → x < d - 1 → Xq x = cod (txb Dd d x) := hXx
  have hXq : ∀ k_, Xq k_ < 125 := hXq
  refine lv_iload_n hx hb d_Mo_guess_21 rfl (lv_at hl 0 rfl) ?_
  refine lv_if_lt (tgt := 70) hx hb d_Mo_guess_22 (by decide) (fun hc22 => ?_) (fun hc22 => ?_)
  · skip
    rw [← nI_0, bw_lt_pn (by omega) (by omega)] at hc22
    obtain rfl : q1 = 0 := by omega
    have hl : lv_has ls 4 [(3, .int (nI 0 - 1)), (1, .int (nI ks)), (2, .int (nI gd)), (0, .ref mo)] := hl
    have hP : va_P (dC, dI) cls_ [(mo, .inr (5, [.int (nI sp), .int (nI d), .ref mdr, .int (nI d - 1), .ref mtx, .ref mod, .ref mia, .ref mus, .ref mol, .ref mle, .int (nI my), .ref mrw, .ref mls])), (mdr, .inl (ky, 97, .inl (nA Md))), (mtx, .inl (ky, 97, .inl (nA Xq)))] H := hP
    have hD : va_D A [(mo, .inr (5, [.int (nI sp), .int (nI d), .ref mdr, .int (nI d - 1), .ref mtx, .ref mod, .ref mia, .ref mus, .ref mol, .ref mle, .int (nI my), .ref mrw, .ref mls])), (mdr, .inl (ky, 97, .inl (nA Md))), (mtx, .inl (ky, 97, .inl (nA Xq)))] := hD
    refine lv_iload_n hx hb d_Mo_guess_70 rfl (lv_at hl 2 rfl) ?_
    refine lv_if_eq (tgt := 89) hx hb d_Mo_guess_71 (by decide) (fun hc71 => ?_) (fun hc71 => ?_)
    · skip
      rw [← nI_0, bw_eq_nn (by omega) (by omega)] at hc71
      refine lv_iconst (v := nI 0) hx hb d_Mo_guess_89 (by decide) ?_
      have hP9 := hP.sub (ws' := [(mo, .inr (5, [.int (nI sp), .int (nI d), .ref mdr, .int (nI d - 1), .ref mtx, .ref mod, .ref mia, .ref mus, .ref mol, .ref mle, .int (nI my), .ref mrw, .ref mls])), (mdr, .inl (ky, 97, .inl (nA Md))), (mtx, .inl (ky, 97, .inl (nA Xq)))]) [0, 1, 2] rfl
      have hD9 := hD.sub (ws' := [(mo, .inr (5, [.int (nI sp), .int (nI d), .ref mdr, .int (nI d - 1), .ref mtx, .ref mod, .ref mia, .ref mus, .ref mol, .ref mle, .int (nI my), .ref mrw, .ref mls])), (mdr, .inl (ky, 97, .inl (nA Md))), (mtx, .inl (ky, 97, .inl (nA Xq)))]) [0, 1, 2] (by decide) rfl
      exact W.zret (v := nI 0) hx hb hr (by first | rfl | decide) (fun t ht hW => ⟨⟨nI 0, Xq, rfl, ⟨by first | exact Or.inl ⟨gu_y hD28 hgd (by assumption) hks (by assumption), rfl⟩ | exact Or.inr ⟨gu_n hD28 hgd hks (Or.inl (by assumption)), rfl⟩ | exact Or.inr ⟨gu_n hD28 hgd hks (Or.inr (by assumption)), rfl⟩, fun q hq => hXx q (by omega) hq, hXq⟩, by rw [ht]; exact hP9, hD9⟩, hS.F ht⟩) hS.2.2 d_Mo_guess_90
    · skip
      rw [← nI_0, bw_eq_nn (by omega) (by omega)] at hc71
      refine lv_aload_n hx hb d_Mo_guess_74 rfl (lv_at hl 3 rfl) ?_
      refine va_get (D := (dC, dI)) (ci := 5) (v := .ref mdr) (C := R_Mo) (T := F_Mo) (N := 13) hx hb htb in_Mo hown hK hP 0 rfl rfl 2 (by decide) (htb _ tw_363) (fun _ h9 => h9) rfl d_Mo_guess_75 ?_
      refine lv_iload_n hx hb d_Mo_guess_78 rfl (lv_at hl 1 rfl) ?_
      have hcl := cod_lt (hD28 ks)
      have hMk := hMD ks hkd
      refine va_iald hx hb hK hP 1 0 rfl rfl (vp_in_nI (by omega) (by decide)) d_Mo_guess_79 ?_
      rw [nI_clamp (by omega)]
      have hb79 := hMd ks
      rw [nA_at]
      rw [show nI (Md ks) = nI (cod (Dd ks)) from (by rw [hMk])]
      refine lv_bipush (v := nI 36) hx hb d_Mo_guess_80 (by decide) ?_
      refine lv_icmp_ne (tgt := 89) hx hb d_Mo_guess_82 (by decide) (fun hc82 => ?_) (fun hc82 => ?_)
      · skip
        rw [bw_eq_nn (by omega) (by omega)] at hc82
        refine lv_iconst (v := nI 0) hx hb d_Mo_guess_89 (by decide) ?_
        have hP9 := hP.sub (ws' := [(mo, .inr (5, [.int (nI sp), .int (nI d), .ref mdr, .int (nI d - 1), .ref mtx, .ref mod, .ref mia, .ref mus, .ref mol, .ref mle, .int (nI my), .ref mrw, .ref mls])), (mdr, .inl (ky, 97, .inl (nA Md))), (mtx, .inl (ky, 97, .inl (nA Xq)))]) [0, 1, 2] rfl
        have hD9 := hD.sub (ws' := [(mo, .inr (5, [.int (nI sp), .int (nI d), .ref mdr, .int (nI d - 1), .ref mtx, .ref mod, .ref mia, .ref mus, .ref mol, .ref mle, .int (nI my), .ref mrw, .ref mls])), (mdr, .inl (ky, 97, .inl (nA Md))), (mtx, .inl (ky, 97, .inl (nA Xq)))]) [0, 1, 2] (by decide) rfl
        exact W.zret (v := nI 0) hx hb hr (by first | rfl | decide) (fun t ht hW => ⟨⟨nI 0, Xq, rfl, ⟨by first | exact Or.inl ⟨gu_y hD28 hgd (by assumption) hks (by assumption), rfl⟩ | exact Or.inr ⟨gu_n hD28 hgd hks (Or.inl (by assumption)), rfl⟩ | exact Or.inr ⟨gu_n hD28 hgd hks (Or.inr (by assumption)), rfl⟩, fun q hq => hXx q (by omega) hq, hXq⟩, by rw [ht]; exact hP9, hD9⟩, hS.F ht⟩) hS.2.2 d_Mo_guess_90
      · skip
        rw [bw_eq_nn (by omega) (by omega)] at hc82
        refine lv_iconst (v := nI 1) hx hb d_Mo_guess_85 (by decide) ?_
        refine lv_goto (tgt := 90) hx hb d_Mo_guess_86 (by decide) ?_
        have hP9 := hP.sub (ws' := [(mo, .inr (5, [.int (nI sp), .int (nI d), .ref mdr, .int (nI d - 1), .ref mtx, .ref mod, .ref mia, .ref mus, .ref mol, .ref mle, .int (nI my), .ref mrw, .ref mls])), (mdr, .inl (ky, 97, .inl (nA Md))), (mtx, .inl (ky, 97, .inl (nA Xq)))]) [0, 1, 2] rfl
        have hD9 := hD.sub (ws' := [(mo, .inr (5, [.int (nI sp), .int (nI d), .ref mdr, .int (nI d - 1), .ref mtx, .ref mod, .ref mia, .ref mus, .ref mol, .ref mle, .int (nI my), .ref mrw, .ref mls])), (mdr, .inl (ky, 97, .inl (nA Md))), (mtx, .inl (ky, 97, .inl (nA Xq)))]) [0, 1, 2] (by decide) rfl
        exact W.zret (v := nI 1) hx hb hr (by first | rfl | decide) (fun t ht hW => ⟨⟨nI 1, Xq, rfl, ⟨by first | exact Or.inl ⟨gu_y hD28 hgd (by assumption) hks (by assumption), rfl⟩ | exact Or.inr ⟨gu_n hD28 hgd hks (Or.inl (by assumption)), rfl⟩ | exact Or.inr ⟨gu_n hD28 hgd hks (Or.inr (by assumption)), rfl⟩, fun q hq => hXx q (by omega) hq, hXq⟩, by rw [ht]; exact hP9, hD9⟩, hS.F ht⟩) hS.2.2 d_Mo_guess_90
  · skip
    rw [← nI_0, bw_lt_pn (by omega) (by omega)] at hc22
    rw [bw_pn (show 0 < q1 by omega)] at hl
    have hl : lv_has ls 4 [(3, .int (nI (q1 - 1))), (1, .int (nI ks)), (2, .int (nI gd)), (0, .ref mo)] := hl
    refine lv_aload_n hx hb d_Mo_guess_25 rfl (lv_at hl 3 rfl) ?_
    refine va_get (D := (dC, dI)) (ci := 5) (v := .ref mtx) (C := R_Mo) (T := F_Mo) (N := 13) hx hb htb in_Mo hown hK hP 0 rfl rfl 4 (by decide) (htb _ tw_365) (fun _ h9 => h9) rfl d_Mo_guess_26 ?_
    refine lv_iload_n hx hb d_Mo_guess_29 rfl (lv_at hl 0 rfl) ?_
    refine lv_aload_n hx hb d_Mo_guess_30 rfl (lv_at hl 3 rfl) ?_
    refine va_get (D := (dC, dI)) (ci := 5) (v := .ref mdr) (C := R_Mo) (T := F_Mo) (N := 13) hx hb htb in_Mo hown hK hP 0 rfl rfl 2 (by decide) (htb _ tw_363) (fun _ h9 => h9) rfl d_Mo_guess_31 ?_
    refine lv_iload_n hx hb d_Mo_guess_34 rfl (lv_at hl 1 rfl) ?_
    have hcl := cod_lt (hD28 ks)
    have hMk := hMD ks hkd
    refine va_iald hx hb hK hP 1 0 rfl rfl (vp_in_nI (by omega) (by decide)) d_Mo_guess_35 ?_
    rw [nI_clamp (by omega)]
    have hb35 := hMd ks
    rw [nA_at]
    refine va_iast hx hb hK hP hD hS 2 0 rfl rfl (vp_in_nI (by omega) (by decide)) d_Mo_guess_36 (fun H locs hP hD hS => ?_)
    rw [nI_clamp (by omega)] at hP hD
    rw [nA_upd] at hP hD
    have hu1 : ∀ k_, (upN Xq (q1 - 1) (Md ks)) k_ < 125 := upN_lt hXq (by omega)
    have hP : va_P (dC, dI) cls_ [(mo, .inr (5, [.int (nI sp), .int (nI d), .ref mdr, .int (nI d - 1), .ref mtx, .ref mod, .ref mia, .ref mus, .ref mol, .ref mle, .int (nI my), .ref mrw, .ref mls])), (mdr, .inl (ky, 97, .inl (nA Md))), (mtx, .inl (ky, 97, .inl (nA (upN Xq (q1 - 1) (Md ks)))))] H := hP
    have hD : va_D A [(mo, .inr (5, [.int (nI sp), .int (nI d), .ref mdr, .int (nI d - 1), .ref mtx, .ref mod, .ref mia, .ref mus, .ref mol, .ref mle, .int (nI my), .ref mrw, .ref mls])), (mdr, .inl (ky, 97, .inl (nA Md))), (mtx, .inl (ky, 97, .inl (nA (upN Xq (q1 - 1) (Md ks)))))] := hD
    refine lv_iload_n hx hb d_Mo_guess_37 rfl (lv_at hl 2 rfl) ?_
    refine lv_if_eq (tgt := 56) hx hb d_Mo_guess_38 (by decide) (fun hc38 => ?_) (fun hc38 => ?_)
    · skip
      rw [← nI_0, bw_eq_nn (by omega) (by omega)] at hc38
      refine lv_iconst (v := nI 0) hx hb d_Mo_guess_56 (by decide) ?_
      refine lv_istore_n hx hb d_Mo_guess_57 rfl hl (by decide) rfl (fun ls hl => ?_)
      have hl : lv_has ls 4 [(2, .int (nI 0)), (3, .int (nI (q1 - 1))), (1, .int (nI ks)), (0, .ref mo)] := hl
      refine lv_aload_n hx hb d_Mo_guess_58 rfl (lv_at hl 3 rfl) ?_
      refine lv_iload_n hx hb d_Mo_guess_59 rfl (lv_at hl 2 rfl) ?_
      have hPc := hP.sub (ws' := [(mo, .inr (5, [.int (nI sp), .int (nI d), .ref mdr, .int (nI d - 1), .ref mtx, .ref mod, .ref mia, .ref mus, .ref mol, .ref mle, .int (nI my), .ref mrw, .ref mls])), (mdr, .inl (ky, 97, .inl (nA Md)))]) [0, 1] rfl
      have hDc := hD.sub (ws' := [(mo, .inr (5, [.int (nI sp), .int (nI d), .ref mdr, .int (nI d - 1), .ref mtx, .ref mod, .ref mia, .ref mus, .ref mol, .ref mle, .int (nI my), .ref mrw, .ref mls])), (mdr, .inl (ky, 97, .inl (nA Md)))]) [0, 1] (by decide) rfl
      have hFc := va_free (wc := [(mo, .inr (5, [.int (nI sp), .int (nI d), .ref mdr, .int (nI d - 1), .ref mtx, .ref mod, .ref mia, .ref mus, .ref mol, .ref mle, .int (nI my), .ref mrw, .ref mls])), (mdr, .inl (ky, 97, .inl (nA Md)))]) hD hS hA [0, 1] rfl
      refine va_calli (va_runV (C := "SelfIndexedSequencesModel") (As := [.int (nI ks)]) (rest := []) ⟨hx, hb, hml, hown, hts⟩ (c_Mo_follow l dC dI ky H.size mo sp d mdr d mtx mod mia mus mol mle my mrw mls Md Dd ks hMd (by first | assumption | omega | (simp; done) | (simp_all; done)) (by first | assumption | omega | (simp; done) | (simp_all; done)) (by first | assumption | omega | (simp; done) | (simp_all; done)) (by first | assumption | omega | (simp; done) | (simp_all; done))) ⟨callB_of 1 hts (W0_good tw_454) rfl rfl rfl (htb _ tw_28) (htb _ tw_451) ⟨by decide, by decide, by decide +kernel⟩ ⟨(Nat.le_of_ble_eq_true rfl), (Nat.le_of_ble_eq_true rfl)⟩, htb _ tw_453, htb _ tw_13⟩ ⟨fun a U g mk q => by obtain ⟨q0, q1, qP, qK, qD⟩ := q; exact ⟨q0, q1, qP, va_K.moved (u := U) (U := U.calling g mk a) (Vm.Alike.refl U.vm) qK, qD⟩, va_recv hK hPc (q0 := 0) (q := (R_Mo, F_Mo, 13)) rfl rfl, fun U hU hW => ⟨rfl, by rw [hU], by rw [hU]; exact hPc, va_K.moved hW.alike hK, hDc.weaken (fun _ _ _ _ => trivial)⟩⟩ rfl rfl hl.1 rfl (lv_room (Nat.le_of_ble_eq_true rfl)) d_Mo_guess_60 ⟨(Nat.le_of_ble_eq_true rfl), (Nat.le_of_ble_eq_true rfl)⟩) hS (fun q _ h => hFc q h) hFc (fun r60 u_ t H locs ht hvm hw60 hB hz1 hk1 hS => ?_)
      obtain ⟨hP1, hD1⟩ := hB
      rw [ht] at hP1
      obtain ⟨hP, hD⟩ := va_join (wr := [(mtx, .inl (ky, 97, .inl (nA (upN Xq (q1 - 1) (Md ks)))))]) (w1 := [(mo, .inr (5, [.int (nI sp), .int (nI d), .ref mdr, .int (nI d - 1), .ref mtx, .ref mod, .ref mia, .ref mus, .ref mol, .ref mle, .int (nI my), .ref mrw, .ref mls])), (mdr, .inl (ky, 97, .inl (nA Md)))]) hP hD [0, 1] [2] rfl rfl (by decide) (by decide) hk1 hFc hP1 hD1
      have hP : va_P (dC, dI) cls_ [(mtx, .inl (ky, 97, .inl (nA (upN Xq (q1 - 1) (Md ks))))), (mo, .inr (5, [.int (nI sp), .int (nI d), .ref mdr, .int (nI d - 1), .ref mtx, .ref mod, .ref mia, .ref mus, .ref mol, .ref mle, .int (nI my), .ref mrw, .ref mls])), (mdr, .inl (ky, 97, .inl (nA Md)))] H := hP
      have hD : va_D A [(mtx, .inl (ky, 97, .inl (nA (upN Xq (q1 - 1) (Md ks))))), (mo, .inr (5, [.int (nI sp), .int (nI d), .ref mdr, .int (nI d - 1), .ref mtx, .ref mod, .ref mia, .ref mus, .ref mol, .ref mle, .int (nI my), .ref mrw, .ref mls])), (mdr, .inl (ky, 97, .inl (nA Md)))] := hD
      have hw60 : r60 = nI (bk Dd d ks) ∧ (True) := hw60
      obtain ⟨hre, hq60⟩ := hw60
      subst hre
      refine lv_istore_n hx hb d_Mo_guess_63 rfl hl (by decide) rfl (fun ls hl => ?_)
      have hl : lv_has ls 4 [(1, .int (nI (bk Dd d ks))), (2, .int (nI 0)), (3, .int (nI (q1 - 1))), (0, .ref mo)] := hl
      refine lv_iinc (v := nI (q1 - 1) - 1) (k := 2) hx hb d_Mo_guess_64 hl rfl (bw_dec (q1 - 1)) (by decide) rfl (fun ls hl => ?_)
      have hl : lv_has ls 4 [(3, .int (nI (q1 - 1) - 1)), (1, .int (nI (bk Dd d ks))), (2, .int (nI 0)), (0, .ref mo)] := hl
      refine lv_goto (tgt := 21) hx hb d_Mo_guess_67 (by decide) ?_
      exact ih21 ((q1 - 1), (bk Dd d ks), 0, (upN Xq (q1 - 1) (Md ks))) _ _ _ ⟨(by first | assumption | omega | (simp; done) | (simp_all; done)), (gu_gob (by omega) hq1 hks), (bk_lt hkd), (by first | exact gu_a hgd (by assumption) | exact gu_b hD28 hks (by assumption) (by omega) hq1 | exact gu_c hD28 hgd (by assumption) hks (by assumption) (by omega) hq1), (by first | assumption | omega | (simp; done) | (simp_all; done)), (gu_step (by omega) hq1 hMD hks hXx), (by assumption), (hP.sub [1, 2, 0] rfl), (hD.sub [1, 2, 0] (by decide) rfl), hS, lv_sub hl [0, 1, 2, 3] rfl⟩ (by first | omega | (simp only; omega) | (dsimp only; omega))
    · skip
      rw [← nI_0, bw_eq_nn (by omega) (by omega)] at hc38
      refine lv_aload_n hx hb d_Mo_guess_41 rfl (lv_at hl 3 rfl) ?_
      refine va_get (D := (dC, dI)) (ci := 5) (v := .ref mdr) (C := R_Mo) (T := F_Mo) (N := 13) hx hb htb in_Mo hown hK hP 0 rfl rfl 2 (by decide) (htb _ tw_363) (fun _ h9 => h9) rfl d_Mo_guess_42 ?_
      refine lv_iload_n hx hb d_Mo_guess_45 rfl (lv_at hl 1 rfl) ?_
      refine va_iald hx hb hK hP 1 0 rfl rfl (vp_in_nI (by omega) (by decide)) d_Mo_guess_46 ?_
      rw [nI_clamp (by omega)]
      have hb46 := hMd ks
      rw [nA_at]
      rw [show nI (Md ks) = nI (cod (Dd ks)) from (by rw [hMk])]
      refine lv_bipush (v := nI 36) hx hb d_Mo_guess_47 (by decide) ?_
      refine lv_icmp_eq (tgt := 56) hx hb d_Mo_guess_49 (by decide) (fun hc49 => ?_) (fun hc49 => ?_)
      · skip
        rw [bw_eq_nn (by omega) (by omega)] at hc49
        refine lv_iconst (v := nI 0) hx hb d_Mo_guess_56 (by decide) ?_
        refine lv_istore_n hx hb d_Mo_guess_57 rfl hl (by decide) rfl (fun ls hl => ?_)
        have hl : lv_has ls 4 [(2, .int (nI 0)), (3, .int (nI (q1 - 1))), (1, .int (nI ks)), (0, .ref mo)] := hl
        refine lv_aload_n hx hb d_Mo_guess_58 rfl (lv_at hl 3 rfl) ?_
        refine lv_iload_n hx hb d_Mo_guess_59 rfl (lv_at hl 2 rfl) ?_
        have hPc := hP.sub (ws' := [(mo, .inr (5, [.int (nI sp), .int (nI d), .ref mdr, .int (nI d - 1), .ref mtx, .ref mod, .ref mia, .ref mus, .ref mol, .ref mle, .int (nI my), .ref mrw, .ref mls])), (mdr, .inl (ky, 97, .inl (nA Md)))]) [0, 1] rfl
        have hDc := hD.sub (ws' := [(mo, .inr (5, [.int (nI sp), .int (nI d), .ref mdr, .int (nI d - 1), .ref mtx, .ref mod, .ref mia, .ref mus, .ref mol, .ref mle, .int (nI my), .ref mrw, .ref mls])), (mdr, .inl (ky, 97, .inl (nA Md)))]) [0, 1] (by decide) rfl
        have hFc := va_free (wc := [(mo, .inr (5, [.int (nI sp), .int (nI d), .ref mdr, .int (nI d - 1), .ref mtx, .ref mod, .ref mia, .ref mus, .ref mol, .ref mle, .int (nI my), .ref mrw, .ref mls])), (mdr, .inl (ky, 97, .inl (nA Md)))]) hD hS hA [0, 1] rfl
        refine va_calli (va_runV (C := "SelfIndexedSequencesModel") (As := [.int (nI ks)]) (rest := []) ⟨hx, hb, hml, hown, hts⟩ (c_Mo_follow l dC dI ky H.size mo sp d mdr d mtx mod mia mus mol mle my mrw mls Md Dd ks hMd (by first | assumption | omega | (simp; done) | (simp_all; done)) (by first | assumption | omega | (simp; done) | (simp_all; done)) (by first | assumption | omega | (simp; done) | (simp_all; done)) (by first | assumption | omega | (simp; done) | (simp_all; done))) ⟨callB_of 1 hts (W0_good tw_454) rfl rfl rfl (htb _ tw_28) (htb _ tw_451) ⟨by decide, by decide, by decide +kernel⟩ ⟨(Nat.le_of_ble_eq_true rfl), (Nat.le_of_ble_eq_true rfl)⟩, htb _ tw_453, htb _ tw_13⟩ ⟨fun a U g mk q => by obtain ⟨q0, q1, qP, qK, qD⟩ := q; exact ⟨q0, q1, qP, va_K.moved (u := U) (U := U.calling g mk a) (Vm.Alike.refl U.vm) qK, qD⟩, va_recv hK hPc (q0 := 0) (q := (R_Mo, F_Mo, 13)) rfl rfl, fun U hU hW => ⟨rfl, by rw [hU], by rw [hU]; exact hPc, va_K.moved hW.alike hK, hDc.weaken (fun _ _ _ _ => trivial)⟩⟩ rfl rfl hl.1 rfl (lv_room (Nat.le_of_ble_eq_true rfl)) d_Mo_guess_60 ⟨(Nat.le_of_ble_eq_true rfl), (Nat.le_of_ble_eq_true rfl)⟩) hS (fun q _ h => hFc q h) hFc (fun r60 u_ t H locs ht hvm hw60 hB hz1 hk1 hS => ?_)
        obtain ⟨hP1, hD1⟩ := hB
        rw [ht] at hP1
        obtain ⟨hP, hD⟩ := va_join (wr := [(mtx, .inl (ky, 97, .inl (nA (upN Xq (q1 - 1) (Md ks)))))]) (w1 := [(mo, .inr (5, [.int (nI sp), .int (nI d), .ref mdr, .int (nI d - 1), .ref mtx, .ref mod, .ref mia, .ref mus, .ref mol, .ref mle, .int (nI my), .ref mrw, .ref mls])), (mdr, .inl (ky, 97, .inl (nA Md)))]) hP hD [0, 1] [2] rfl rfl (by decide) (by decide) hk1 hFc hP1 hD1
        have hP : va_P (dC, dI) cls_ [(mtx, .inl (ky, 97, .inl (nA (upN Xq (q1 - 1) (Md ks))))), (mo, .inr (5, [.int (nI sp), .int (nI d), .ref mdr, .int (nI d - 1), .ref mtx, .ref mod, .ref mia, .ref mus, .ref mol, .ref mle, .int (nI my), .ref mrw, .ref mls])), (mdr, .inl (ky, 97, .inl (nA Md)))] H := hP
        have hD : va_D A [(mtx, .inl (ky, 97, .inl (nA (upN Xq (q1 - 1) (Md ks))))), (mo, .inr (5, [.int (nI sp), .int (nI d), .ref mdr, .int (nI d - 1), .ref mtx, .ref mod, .ref mia, .ref mus, .ref mol, .ref mle, .int (nI my), .ref mrw, .ref mls])), (mdr, .inl (ky, 97, .inl (nA Md)))] := hD
        have hw60 : r60 = nI (bk Dd d ks) ∧ (True) := hw60
        obtain ⟨hre, hq60⟩ := hw60
        subst hre
        refine lv_istore_n hx hb d_Mo_guess_63 rfl hl (by decide) rfl (fun ls hl => ?_)
        have hl : lv_has ls 4 [(1, .int (nI (bk Dd d ks))), (2, .int (nI 0)), (3, .int (nI (q1 - 1))), (0, .ref mo)] := hl
        refine lv_iinc (v := nI (q1 - 1) - 1) (k := 2) hx hb d_Mo_guess_64 hl rfl (bw_dec (q1 - 1)) (by decide) rfl (fun ls hl => ?_)
        have hl : lv_has ls 4 [(3, .int (nI (q1 - 1) - 1)), (1, .int (nI (bk Dd d ks))), (2, .int (nI 0)), (0, .ref mo)] := hl
        refine lv_goto (tgt := 21) hx hb d_Mo_guess_67 (by decide) ?_
        exact ih21 ((q1 - 1), (bk Dd d ks), 0, (upN Xq (q1 - 1) (Md ks))) _ _ _ ⟨(by first | assumption | omega | (simp; done) | (simp_all; done)), (gu_gob (by omega) hq1 hks), (bk_lt hkd), (by first | exact gu_a hgd (by assumption) | exact gu_b hD28 hks (by assumption) (by omega) hq1 | exact gu_c hD28 hgd (by assumption) hks (by assumption) (by omega) hq1), (by first | assumption | omega | (simp; done) | (simp_all; done)), (gu_step (by omega) hq1 hMD hks hXx), (by assumption), (hP.sub [1, 2, 0] rfl), (hD.sub [1, 2, 0] (by decide) rfl), hS, lv_sub hl [0, 1, 2, 3] rfl⟩ (by first | omega | (simp only; omega) | (dsimp only; omega))
      · skip
        rw [bw_eq_nn (by omega) (by omega)] at hc49
        refine lv_iconst (v := nI 1) hx hb d_Mo_guess_52 (by decide) ?_
        refine lv_goto (tgt := 57) hx hb d_Mo_guess_53 (by decide) ?_
        refine lv_istore_n hx hb d_Mo_guess_57 rfl hl (by decide) rfl (fun ls hl => ?_)
        have hl : lv_has ls 4 [(2, .int (nI 1)), (3, .int (nI (q1 - 1))), (1, .int (nI ks)), (0, .ref mo)] := hl
        refine lv_aload_n hx hb d_Mo_guess_58 rfl (lv_at hl 3 rfl) ?_
        refine lv_iload_n hx hb d_Mo_guess_59 rfl (lv_at hl 2 rfl) ?_
        have hPc := hP.sub (ws' := [(mo, .inr (5, [.int (nI sp), .int (nI d), .ref mdr, .int (nI d - 1), .ref mtx, .ref mod, .ref mia, .ref mus, .ref mol, .ref mle, .int (nI my), .ref mrw, .ref mls])), (mdr, .inl (ky, 97, .inl (nA Md)))]) [0, 1] rfl
        have hDc := hD.sub (ws' := [(mo, .inr (5, [.int (nI sp), .int (nI d), .ref mdr, .int (nI d - 1), .ref mtx, .ref mod, .ref mia, .ref mus, .ref mol, .ref mle, .int (nI my), .ref mrw, .ref mls])), (mdr, .inl (ky, 97, .inl (nA Md)))]) [0, 1] (by decide) rfl
        have hFc := va_free (wc := [(mo, .inr (5, [.int (nI sp), .int (nI d), .ref mdr, .int (nI d - 1), .ref mtx, .ref mod, .ref mia, .ref mus, .ref mol, .ref mle, .int (nI my), .ref mrw, .ref mls])), (mdr, .inl (ky, 97, .inl (nA Md)))]) hD hS hA [0, 1] rfl
        refine va_calli (va_runV (C := "SelfIndexedSequencesModel") (As := [.int (nI ks)]) (rest := []) ⟨hx, hb, hml, hown, hts⟩ (c_Mo_follow l dC dI ky H.size mo sp d mdr d mtx mod mia mus mol mle my mrw mls Md Dd ks hMd (by first | assumption | omega | (simp; done) | (simp_all; done)) (by first | assumption | omega | (simp; done) | (simp_all; done)) (by first | assumption | omega | (simp; done) | (simp_all; done)) (by first | assumption | omega | (simp; done) | (simp_all; done))) ⟨callB_of 1 hts (W0_good tw_454) rfl rfl rfl (htb _ tw_28) (htb _ tw_451) ⟨by decide, by decide, by decide +kernel⟩ ⟨(Nat.le_of_ble_eq_true rfl), (Nat.le_of_ble_eq_true rfl)⟩, htb _ tw_453, htb _ tw_13⟩ ⟨fun a U g mk q => by obtain ⟨q0, q1, qP, qK, qD⟩ := q; exact ⟨q0, q1, qP, va_K.moved (u := U) (U := U.calling g mk a) (Vm.Alike.refl U.vm) qK, qD⟩, va_recv hK hPc (q0 := 0) (q := (R_Mo, F_Mo, 13)) rfl rfl, fun U hU hW => ⟨rfl, by rw [hU], by rw [hU]; exact hPc, va_K.moved hW.alike hK, hDc.weaken (fun _ _ _ _ => trivial)⟩⟩ rfl rfl hl.1 rfl (lv_room (Nat.le_of_ble_eq_true rfl)) d_Mo_guess_60 ⟨(Nat.le_of_ble_eq_true rfl), (Nat.le_of_ble_eq_true rfl)⟩) hS (fun q _ h => hFc q h) hFc (fun r60 u_ t H locs ht hvm hw60 hB hz1 hk1 hS => ?_)
        obtain ⟨hP1, hD1⟩ := hB
        rw [ht] at hP1
        obtain ⟨hP, hD⟩ := va_join (wr := [(mtx, .inl (ky, 97, .inl (nA (upN Xq (q1 - 1) (Md ks)))))]) (w1 := [(mo, .inr (5, [.int (nI sp), .int (nI d), .ref mdr, .int (nI d - 1), .ref mtx, .ref mod, .ref mia, .ref mus, .ref mol, .ref mle, .int (nI my), .ref mrw, .ref mls])), (mdr, .inl (ky, 97, .inl (nA Md)))]) hP hD [0, 1] [2] rfl rfl (by decide) (by decide) hk1 hFc hP1 hD1
        have hP : va_P (dC, dI) cls_ [(mtx, .inl (ky, 97, .inl (nA (upN Xq (q1 - 1) (Md ks))))), (mo, .inr (5, [.int (nI sp), .int (nI d), .ref mdr, .int (nI d - 1), .ref mtx, .ref mod, .ref mia, .ref mus, .ref mol, .ref mle, .int (nI my), .ref mrw, .ref mls])), (mdr, .inl (ky, 97, .inl (nA Md)))] H := hP
        have hD : va_D A [(mtx, .inl (ky, 97, .inl (nA (upN Xq (q1 - 1) (Md ks))))), (mo, .inr (5, [.int (nI sp), .int (nI d), .ref mdr, .int (nI d - 1), .ref mtx, .ref mod, .ref mia, .ref mus, .ref mol, .ref mle, .int (nI my), .ref mrw, .ref mls])), (mdr, .inl (ky, 97, .inl (nA Md)))] := hD
        have hw60 : r60 = nI (bk Dd d ks) ∧ (True) := hw60
        obtain ⟨hre, hq60⟩ := hw60
        subst hre
        refine lv_istore_n hx hb d_Mo_guess_63 rfl hl (by decide) rfl (fun ls hl => ?_)
        have hl : lv_has ls 4 [(1, .int (nI (bk Dd d ks))), (2, .int (nI 1)), (3, .int (nI (q1 - 1))), (0, .ref mo)] := hl
        refine lv_iinc (v := nI (q1 - 1) - 1) (k := 2) hx hb d_Mo_guess_64 hl rfl (bw_dec (q1 - 1)) (by decide) rfl (fun ls hl => ?_)
        have hl : lv_has ls 4 [(3, .int (nI (q1 - 1) - 1)), (1, .int (nI (bk Dd d ks))), (2, .int (nI 1)), (0, .ref mo)] := hl
        refine lv_goto (tgt := 21) hx hb d_Mo_guess_67 (by decide) ?_
        exact ih21 ((q1 - 1), (bk Dd d ks), 1, (upN Xq (q1 - 1) (Md ks))) _ _ _ ⟨(by first | assumption | omega | (simp; done) | (simp_all; done)), (gu_gob (by omega) hq1 hks), (bk_lt hkd), (by first | exact gu_a hgd (by assumption) | exact gu_b hD28 hks (by assumption) (by omega) hq1 | exact gu_c hD28 hgd (by assumption) hks (by assumption) (by omega) hq1), (by first | assumption | omega | (simp; done) | (simp_all; done)), (gu_step (by omega) hq1 hMD hks hXx), (by assumption), (hP.sub [1, 2, 0] rfl), (hD.sub [1, 2, 0] (by decide) rfl), hS, lv_sub hl [0, 1, 2, 3] rfl⟩ (by first | omega | (simp only; omega) | (dsimp only; omega))
