set_option maxHeartbeats 4000000 in
set_option maxRecDepth 100000 in
theorem c_Mo_sequences (l : Launch) (dC : Nat → ClassId) (dI : Nat → Nat → Nat) (ky : ClassId) (sz : Nat) (mo : Nat) (sp : Nat) (d : Nat) (mdr : Nat) (mm : Nat) (mtx : Nat) (mod : Nat) (mia : Nat) (mus : Nat) (mol : Nat) (mle : Nat) (my : Nat) (mrw : Nat) (mls : Nat) (Mx : Nat → Nat) (T : Nat → Nat) (hMx : ∀ k_, Mx k_ < 125) (hmm : mm ≤ 97) (hT28 : ∀ k_, T k_ < 28) (hTx : ∀ q, q + 1 < mm → Mx q = cod (T q)) : Met l y_Mo_sequences (Cond.code y_Mo_sequences prog_7_method_20_code 3 (some .int) :: W0) ({ frames := 0, cells := 0, slots := 0, locals := 0 }) (va_Pc [.ref mo] (fun U => U.heap.size = sz ∧ va_P (dC, dI) cls_ [(mo, .inr (5, [.int (nI sp), .int (nI d), .ref mdr, .int (nI mm - 1), .ref mtx, .ref mod, .ref mia, .ref mus, .ref mol, .ref mle, .int (nI my), .ref mrw, .ref mls])), (mtx, .inl (ky, 97, .inl (nA Mx)))] U.heap ∧ va_K (dC, dI) cls_ [(ky, .int)] U ∧ va_D (fun _ => True) [(mo, .inr (5, [.int (nI sp), .int (nI d), .ref mdr, .int (nI mm - 1), .ref mtx, .ref mod, .ref mia, .ref mus, .ref mol, .ref mle, .int (nI my), .ref mrw, .ref mls])), (mtx, .inl (ky, 97, .inl (nA Mx)))])) (va_Qi (fun (r : Int32) (_ : Unit) => r = nI (sqs T mm) ∧ (True)) (fun (_ : Unit) (t : State) => va_P (dC, dI) cls_ [(mo, .inr (5, [.int (nI sp), .int (nI d), .ref mdr, .int (nI mm - 1), .ref mtx, .ref mod, .ref mia, .ref mus, .ref mol, .ref mle, .int (nI my), .ref mrw, .ref mls])), (mtx, .inl (ky, 97, .inl (nA Mx)))] t.heap ∧ va_D (va_A [(mo, .inr (5, [.int (nI sp), .int (nI d), .ref mdr, .int (nI mm - 1), .ref mtx, .ref mod, .ref mia, .ref mus, .ref mol, .ref mle, .int (nI my), .ref mrw, .ref mls])), (mtx, .inl (ky, 97, .inl (nA Mx)))] sz) [(mo, .inr (5, [.int (nI sp), .int (nI d), .ref mdr, .int (nI mm - 1), .ref mtx, .ref mod, .ref mia, .ref mus, .ref mol, .ref mle, .int (nI my), .ref mrw, .ref mls])), (mtx, .inl (ky, 97, .inl (nA Mx)))]) (va_A [(mo, .inr (5, [.int (nI sp), .int (nI d), .ref mdr, .int (nI mm - 1), .ref mtx, .ref mod, .ref mia, .ref mus, .ref mol, .ref mle, .int (nI my), .ref mrw, .ref mls])), (mtx, .inl (ky, 97, .inl (nA Mx)))] sz)) 0 0 (va_A [(mo, .inr (5, [.int (nI sp), .int (nI d), .ref mdr, .int (nI mm - 1), .ref mtx, .ref mod, .ref mia, .ref mus, .ref mol, .ref mle, .int (nI my), .ref mrw, .ref mls])), (mtx, .inl (ky, 97, .inl (nA Mx)))] sz) := by
  refine Met.ofW (cc := prog_7_method_20_code) (maxL := 3) (ret := (some .int)) (by decide) rfl ?_
  intro p e s m args below meth c s₁ B hml hv
  obtain ⟨rfl, hsz, hP, hK, hD0⟩ := hv
  have hx := B.exec
  have hb := B.bytes
  have hr := B.returns
  have hlocks := B.notSynchronized
  have hts := atoms_spec (ws := (Cond.code y_Mo_sequences prog_7_method_20_code 3 (some .int) :: W0)) B.pre
  have htb : ∀ w ∈ W0, w.before _ s = true := fun w h => hts w (List.mem_cons_of_mem _ h)
  have hown : s.vm.findClass "SelfIndexedSequencesModel" = some m.cls := findClass_of_methodNamed B.named
  subst hsz
  have hD := hD0.self (sz := s.heap.size)
  generalize hAe : va_A [(mo, .inr (5, [.int (nI sp), .int (nI d), .ref mdr, .int (nI mm - 1), .ref mtx, .ref mod, .ref mia, .ref mus, .ref mol, .ref mle, .int (nI my), .ref mrw, .ref mls])), (mtx, .inl (ky, 97, .inl (nA Mx)))] s.heap.size = A at hD ⊢
  have hA : ∀ q : Nat, s.heap.size ≤ q → A q := fun q h => by rw [← hAe]; exact Or.inr h
  have hS : va_S A s.heap s.heap [] := va_S.rf
  have hl := lv_entry ([.ref mo]) (n := 3) (Nat.le_of_ble_eq_true rfl)
  rw [lg_entry_eq]
  generalize (lg_sl ([.ref mo]) ++ List.replicate (3 - (lg_sl ([.ref mo])).length) Slot.unset).toArray = ls at hl ⊢
  have hl : lv_has ls 3 [(0, .ref mo)] := hl
  refine lv_aload_n hx hb d_Mo_sequences_0 rfl (lv_at hl 0 rfl) ?_
  refine va_get (D := (dC, dI)) (ci := 5) (v := .int (nI mm - 1)) (C := R_Mo) (T := F_Mo) (N := 13) hx hb htb in_Mo hown hK hP 0 rfl rfl 3 (by decide) (htb _ tw_364) (fun _ h9 => h9) rfl d_Mo_sequences_1 ?_
  refine lv_if_ge (tgt := 11) hx hb d_Mo_sequences_4 (by decide) (fun hc4 => ?_) (fun hc4 => ?_)
  · skip
    rw [← nI_0, bw_le_np (by omega) (by omega)] at hc4
    refine lv_iconst (v := nI 1) hx hb d_Mo_sequences_11 (by decide) ?_
    refine lv_istore_n hx hb d_Mo_sequences_12 rfl hl (by decide) rfl (fun ls hl => ?_)
    have hl : lv_has ls 3 [(1, .int (nI 1)), (0, .ref mo)] := hl
    refine lv_iconst (v := nI 0) hx hb d_Mo_sequences_13 (by decide) ?_
    refine lv_istore_n hx hb d_Mo_sequences_14 rfl hl (by decide) rfl (fun ls hl => ?_)
    have hl : lv_has ls 3 [(2, .int (nI 0)), (1, .int (nI 1)), (0, .ref mo)] := hl
    refine wl_loop (σ := Nat × Nat) 15 [] (fun (a_ : Nat × Nat) => match a_ with | (k, f) => mm - k) (fun (a_ : Nat × Nat) (H : Heap) (locs : List Loc) (ls : Array Slot) => match a_ with | (k, f) => (k = 0 ∨ k + 1 ≤ mm) ∧ (f = min mm 1 + nb T k) ∧ (f ≤ k + 1) ∧ va_P (dC, dI) cls_ [(mo, .inr (5, [.int (nI sp), .int (nI d), .ref mdr, .int (nI mm - 1), .ref mtx, .ref mod, .ref mia, .ref mus, .ref mol, .ref mle, .int (nI my), .ref mrw, .ref mls])), (mtx, .inl (ky, 97, .inl (nA Mx)))] H ∧ va_D A [(mo, .inr (5, [.int (nI sp), .int (nI d), .ref mdr, .int (nI mm - 1), .ref mtx, .ref mod, .ref mia, .ref mus, .ref mol, .ref mle, .int (nI my), .ref mrw, .ref mls])), (mtx, .inl (ky, 97, .inl (nA Mx)))] ∧ va_S A s.heap H locs ∧ lv_has ls 3 [(2, .int (nI k)), (1, .int (nI f)), (0, .ref mo)]) ?_ (0, 1) ⟨(by first | assumption | omega | (simp; done) | (simp_all; done)), (by rw [nb_0]; omega), (by first | assumption | omega | (simp; done) | (simp_all; done)), hP, hD, hS, lv_sub hl [0, 1, 2] rfl⟩
    clear hP hD hS hl
    intro a_ H locs ls hI ih15
    obtain ⟨k, f⟩ := a_
    obtain ⟨hk, hf, hfk, hP, hD, hS, hl⟩ := hI
    have hl : lv_has ls 3 [(2, .int (nI k)), (1, .int (nI f)), (0, .ref mo)] := hl
    have hP : va_P (dC, dI) cls_ [(mo, .inr (5, [.int (nI sp), .int (nI d), .ref mdr, .int (nI mm - 1), .ref mtx, .ref mod, .ref mia, .ref mus, .ref mol, .ref mle, .int (nI my), .ref mrw, .ref mls])), (mtx, .inl (ky, 97, .inl (nA Mx)))] H := hP
    have hD : va_D A [(mo, .inr (5, [.int (nI sp), .int (nI d), .ref mdr, .int (nI mm - 1), .ref mtx, .ref mod, .ref mia, .ref mus, .ref mol, .ref mle, .int (nI my), .ref mrw, .ref mls])), (mtx, .inl (ky, 97, .inl (nA Mx)))] := hD
    have hk : k = 0 ∨ k + 1 ≤ mm := hk
    have hf : f = min mm 1 + nb T k := hf
    have hfk : f ≤ k + 1 := hfk
    refine lv_iload_n hx hb d_Mo_sequences_15 rfl (lv_at hl 0 rfl) ?_
    refine lv_aload_n hx hb d_Mo_sequences_16 rfl (lv_at hl 2 rfl) ?_
    refine va_get (D := (dC, dI)) (ci := 5) (v := .int (nI mm - 1)) (C := R_Mo) (T := F_Mo) (N := 13) hx hb htb in_Mo hown hK hP 0 rfl rfl 3 (by decide) (htb _ tw_364) (fun _ h9 => h9) rfl d_Mo_sequences_17 ?_
    refine lv_icmp_ge (tgt := 48) hx hb d_Mo_sequences_20 (by decide) (fun hc20 => ?_) (fun hc20 => ?_)
    · skip
      rw [bw_le_pn (by omega) (by omega)] at hc20
      refine lv_iload_n hx hb d_Mo_sequences_48 rfl (lv_at hl 1 rfl) ?_
      have hP9 := hP.sub (ws' := [(mo, .inr (5, [.int (nI sp), .int (nI d), .ref mdr, .int (nI mm - 1), .ref mtx, .ref mod, .ref mia, .ref mus, .ref mol, .ref mle, .int (nI my), .ref mrw, .ref mls])), (mtx, .inl (ky, 97, .inl (nA Mx)))]) [0, 1] rfl
      have hD9 := hD.sub (ws' := [(mo, .inr (5, [.int (nI sp), .int (nI d), .ref mdr, .int (nI mm - 1), .ref mtx, .ref mod, .ref mia, .ref mus, .ref mol, .ref mle, .int (nI my), .ref mrw, .ref mls])), (mtx, .inl (ky, 97, .inl (nA Mx)))]) [0, 1] (by decide) rfl
      exact W.iret (v := nI f) hx hb hr (fun t ht hW => ⟨⟨nI f, (), rfl, ⟨(by unfold sqs; rw [hf, show k = mm - 1 by omega]), (by first | trivial | assumption | omega)⟩, by rw [ht]; exact hP9, hD9⟩, hS.F ht⟩) hS.2.2 d_Mo_sequences_49
    · skip
      rw [bw_le_pn (by omega) (by omega)] at hc20
      refine lv_iload_n hx hb d_Mo_sequences_23 rfl (lv_at hl 1 rfl) ?_
      refine lv_aload_n hx hb d_Mo_sequences_24 rfl (lv_at hl 2 rfl) ?_
      refine va_get (D := (dC, dI)) (ci := 5) (v := .ref mtx) (C := R_Mo) (T := F_Mo) (N := 13) hx hb htb in_Mo hown hK hP 0 rfl rfl 4 (by decide) (htb _ tw_365) (fun _ h9 => h9) rfl d_Mo_sequences_25 ?_
      refine lv_iload_n hx hb d_Mo_sequences_28 rfl (lv_at hl 0 rfl) ?_
      have hcl := cod_lt (hT28 k)
      refine va_iald hx hb hK hP 1 0 rfl rfl (vp_in_nI (by omega) (by decide)) d_Mo_sequences_29 ?_
      rw [nI_clamp (by omega)]
      have hb29 := hMx k
      rw [nA_at]
      rw [show nI (Mx k) = nI (cod (T k)) from (by rw [hTx k (by omega)])]
      refine lv_bipush (v := nI 124) hx hb d_Mo_sequences_30 (by decide) ?_
      refine lv_icmp_ne (tgt := 39) hx hb d_Mo_sequences_32 (by decide) (fun hc32 => ?_) (fun hc32 => ?_)
      · skip
        rw [bw_eq_nn (by omega) (by omega)] at hc32
        refine lv_iconst (v := nI 0) hx hb d_Mo_sequences_39 (by decide) ?_
        refine lv_iadd hx hb d_Mo_sequences_40 ?_
        rw [nI_add]
        refine lv_istore_n hx hb d_Mo_sequences_41 rfl hl (by decide) rfl (fun ls hl => ?_)
        have hl : lv_has ls 3 [(1, .int (nI (f + 0))), (2, .int (nI k)), (0, .ref mo)] := hl
        refine lv_iinc (v := nI (k + 1)) (k := 1) hx hb d_Mo_sequences_42 hl rfl (bw_inc k 1) (by decide) rfl (fun ls hl => ?_)
        have hl : lv_has ls 3 [(2, .int (nI (k + 1))), (1, .int (nI (f + 0))), (0, .ref mo)] := hl
        refine lv_goto (tgt := 15) hx hb d_Mo_sequences_45 (by decide) ?_
        exact ih15 ((k + 1), (f + 0)) _ _ _ ⟨(by first | assumption | omega | (simp; done) | (simp_all; done)), (by first | (rw [nb_y ((cod124 (hT28 k)).mp (by assumption))]; omega) | (rw [nb_n (fun z => absurd ((cod124 (hT28 k)).mpr z) (by assumption))]; omega)), (by first | assumption | omega | (simp; done) | (simp_all; done)), hP, hD, hS, lv_sub hl [0, 1, 2] rfl⟩ (by first | omega | (simp only; omega) | (dsimp only; omega))
      · skip
        rw [bw_eq_nn (by omega) (by omega)] at hc32
        refine lv_iconst (v := nI 1) hx hb d_Mo_sequences_35 (by decide) ?_
        refine lv_goto (tgt := 40) hx hb d_Mo_sequences_36 (by decide) ?_
        refine lv_iadd hx hb d_Mo_sequences_40 ?_
        rw [nI_add]
        refine lv_istore_n hx hb d_Mo_sequences_41 rfl hl (by decide) rfl (fun ls hl => ?_)
        have hl : lv_has ls 3 [(1, .int (nI (f + 1))), (2, .int (nI k)), (0, .ref mo)] := hl
        refine lv_iinc (v := nI (k + 1)) (k := 1) hx hb d_Mo_sequences_42 hl rfl (bw_inc k 1) (by decide) rfl (fun ls hl => ?_)
        have hl : lv_has ls 3 [(2, .int (nI (k + 1))), (1, .int (nI (f + 1))), (0, .ref mo)] := hl
        refine lv_goto (tgt := 15) hx hb d_Mo_sequences_45 (by decide) ?_
        exact ih15 ((k + 1), (f + 1)) _ _ _ ⟨(by first | assumption | omega | (simp; done) | (simp_all; done)), (by first | (rw [nb_y ((cod124 (hT28 k)).mp (by assumption))]; omega) | (rw [nb_n (fun z => absurd ((cod124 (hT28 k)).mpr z) (by assumption))]; omega)), (by first | assumption | omega | (simp; done) | (simp_all; done)), hP, hD, hS, lv_sub hl [0, 1, 2] rfl⟩ (by first | omega | (simp only; omega) | (dsimp only; omega))
  · skip
    rw [← nI_0, bw_le_np (by omega) (by omega)] at hc4
    refine lv_iconst (v := nI 0) hx hb d_Mo_sequences_7 (by decide) ?_
    refine lv_goto (tgt := 12) hx hb d_Mo_sequences_8 (by decide) ?_
    refine lv_istore_n hx hb d_Mo_sequences_12 rfl hl (by decide) rfl (fun ls hl => ?_)
    have hl : lv_has ls 3 [(1, .int (nI 0)), (0, .ref mo)] := hl
    refine lv_iconst (v := nI 0) hx hb d_Mo_sequences_13 (by decide) ?_
    refine lv_istore_n hx hb d_Mo_sequences_14 rfl hl (by decide) rfl (fun ls hl => ?_)
    have hl : lv_has ls 3 [(2, .int (nI 0)), (1, .int (nI 0)), (0, .ref mo)] := hl
    refine wl_loop (σ := Nat × Nat) 15 [] (fun (a_ : Nat × Nat) => match a_ with | (k, f) => mm - k) (fun (a_ : Nat × Nat) (H : Heap) (locs : List Loc) (ls : Array Slot) => match a_ with | (k, f) => (k = 0 ∨ k + 1 ≤ mm) ∧ (f = min mm 1 + nb T k) ∧ (f ≤ k + 1) ∧ va_P (dC, dI) cls_ [(mo, .inr (5, [.int (nI sp), .int (nI d), .ref mdr, .int (nI mm - 1), .ref mtx, .ref mod, .ref mia, .ref mus, .ref mol, .ref mle, .int (nI my), .ref mrw, .ref mls])), (mtx, .inl (ky, 97, .inl (nA Mx)))] H ∧ va_D A [(mo, .inr (5, [.int (nI sp), .int (nI d), .ref mdr, .int (nI mm - 1), .ref mtx, .ref mod, .ref mia, .ref mus, .ref mol, .ref mle, .int (nI my), .ref mrw, .ref mls])), (mtx, .inl (ky, 97, .inl (nA Mx)))] ∧ va_S A s.heap H locs ∧ lv_has ls 3 [(2, .int (nI k)), (1, .int (nI f)), (0, .ref mo)]) ?_ (0, 0) ⟨(by first | assumption | omega | (simp; done) | (simp_all; done)), (by rw [nb_0]; omega), (by first | assumption | omega | (simp; done) | (simp_all; done)), hP, hD, hS, lv_sub hl [0, 1, 2] rfl⟩
    clear hP hD hS hl
    intro a_ H locs ls hI ih15
    obtain ⟨k, f⟩ := a_
    obtain ⟨hk, hf, hfk, hP, hD, hS, hl⟩ := hI
    have hl : lv_has ls 3 [(2, .int (nI k)), (1, .int (nI f)), (0, .ref mo)] := hl
    have hP : va_P (dC, dI) cls_ [(mo, .inr (5, [.int (nI sp), .int (nI d), .ref mdr, .int (nI mm - 1), .ref mtx, .ref mod, .ref mia, .ref mus, .ref mol, .ref mle, .int (nI my), .ref mrw, .ref mls])), (mtx, .inl (ky, 97, .inl (nA Mx)))] H := hP
    have hD : va_D A [(mo, .inr (5, [.int (nI sp), .int (nI d), .ref mdr, .int (nI mm - 1), .ref mtx, .ref mod, .ref mia, .ref mus, .ref mol, .ref mle, .int (nI my), .ref mrw, .ref mls])), (mtx, .inl (ky, 97, .inl (nA Mx)))] := hD
    have hk : k = 0 ∨ k + 1 ≤ mm := hk
    have hf : f = min mm 1 + nb T k := hf
    have hfk : f ≤ k + 1 := hfk
    refine lv_iload_n hx hb d_Mo_sequences_15 rfl (lv_at hl 0 rfl) ?_
    refine lv_aload_n hx hb d_Mo_sequences_16 rfl (lv_at hl 2 rfl) ?_
    refine va_get (D := (dC, dI)) (ci := 5) (v := .int (nI mm - 1)) (C := R_Mo) (T := F_Mo) (N := 13) hx hb htb in_Mo hown hK hP 0 rfl rfl 3 (by decide) (htb _ tw_364) (fun _ h9 => h9) rfl d_Mo_sequences_17 ?_
    refine lv_icmp_ge (tgt := 48) hx hb d_Mo_sequences_20 (by decide) (fun hc20 => ?_) (fun hc20 => ?_)
    · skip
      rw [bw_le_pn (by omega) (by omega)] at hc20
      refine lv_iload_n hx hb d_Mo_sequences_48 rfl (lv_at hl 1 rfl) ?_
      have hP9 := hP.sub (ws' := [(mo, .inr (5, [.int (nI sp), .int (nI d), .ref mdr, .int (nI mm - 1), .ref mtx, .ref mod, .ref mia, .ref mus, .ref mol, .ref mle, .int (nI my), .ref mrw, .ref mls])), (mtx, .inl (ky, 97, .inl (nA Mx)))]) [0, 1] rfl
      have hD9 := hD.sub (ws' := [(mo, .inr (5, [.int (nI sp), .int (nI d), .ref mdr, .int (nI mm - 1), .ref mtx, .ref mod, .ref mia, .ref mus, .ref mol, .ref mle, .int (nI my), .ref mrw, .ref mls])), (mtx, .inl (ky, 97, .inl (nA Mx)))]) [0, 1] (by decide) rfl
      exact W.iret (v := nI f) hx hb hr (fun t ht hW => ⟨⟨nI f, (), rfl, ⟨(by unfold sqs; rw [hf, show k = mm - 1 by omega]), (by first | trivial | assumption | omega)⟩, by rw [ht]; exact hP9, hD9⟩, hS.F ht⟩) hS.2.2 d_Mo_sequences_49
    · skip
      rw [bw_le_pn (by omega) (by omega)] at hc20
      refine lv_iload_n hx hb d_Mo_sequences_23 rfl (lv_at hl 1 rfl) ?_
      refine lv_aload_n hx hb d_Mo_sequences_24 rfl (lv_at hl 2 rfl) ?_
      refine va_get (D := (dC, dI)) (ci := 5) (v := .ref mtx) (C := R_Mo) (T := F_Mo) (N := 13) hx hb htb in_Mo hown hK hP 0 rfl rfl 4 (by decide) (htb _ tw_365) (fun _ h9 => h9) rfl d_Mo_sequences_25 ?_
      refine lv_iload_n hx hb d_Mo_sequences_28 rfl (lv_at hl 0 rfl) ?_
      have hcl := cod_lt (hT28 k)
      refine va_iald hx hb hK hP 1 0 rfl rfl (vp_in_nI (by omega) (by decide)) d_Mo_sequences_29 ?_
      rw [nI_clamp (by omega)]
      have hb29 := hMx k
      rw [nA_at]
      rw [show nI (Mx k) = nI (cod (T k)) from (by rw [hTx k (by omega)])]
      refine lv_bipush (v := nI 124) hx hb d_Mo_sequences_30 (by decide) ?_
      refine lv_icmp_ne (tgt := 39) hx hb d_Mo_sequences_32 (by decide) (fun hc32 => ?_) (fun hc32 => ?_)
      · skip
        rw [bw_eq_nn (by omega) (by omega)] at hc32
        refine lv_iconst (v := nI 0) hx hb d_Mo_sequences_39 (by decide) ?_
        refine lv_iadd hx hb d_Mo_sequences_40 ?_
        rw [nI_add]
        refine lv_istore_n hx hb d_Mo_sequences_41 rfl hl (by decide) rfl (fun ls hl => ?_)
        have hl : lv_has ls 3 [(1, .int (nI (f + 0))), (2, .int (nI k)), (0, .ref mo)] := hl
        refine lv_iinc (v := nI (k + 1)) (k := 1) hx hb d_Mo_sequences_42 hl rfl (bw_inc k 1) (by decide) rfl (fun ls hl => ?_)
        have hl : lv_has ls 3 [(2, .int (nI (k + 1))), (1, .int (nI (f + 0))), (0, .ref mo)] := hl
        refine lv_goto (tgt := 15) hx hb d_Mo_sequences_45 (by decide) ?_
        exact ih15 ((k + 1), (f + 0)) _ _ _ ⟨(by first | assumption | omega | (simp; done) | (simp_all; done)), (by first | (rw [nb_y ((cod124 (hT28 k)).mp (by assumption))]; omega) | (rw [nb_n (fun z => absurd ((cod124 (hT28 k)).mpr z) (by assumption))]; omega)), (by first | assumption | omega | (simp; done) | (simp_all; done)), hP, hD, hS, lv_sub hl [0, 1, 2] rfl⟩ (by first | omega | (simp only; omega) | (dsimp only; omega))
      · skip
        rw [bw_eq_nn (by omega) (by omega)] at hc32
        refine lv_iconst (v := nI 1) hx hb d_Mo_sequences_35 (by decide) ?_
        refine lv_goto (tgt := 40) hx hb d_Mo_sequences_36 (by decide) ?_
        refine lv_iadd hx hb d_Mo_sequences_40 ?_
        rw [nI_add]
        refine lv_istore_n hx hb d_Mo_sequences_41 rfl hl (by decide) rfl (fun ls hl => ?_)
        have hl : lv_has ls 3 [(1, .int (nI (f + 1))), (2, .int (nI k)), (0, .ref mo)] := hl
        refine lv_iinc (v := nI (k + 1)) (k := 1) hx hb d_Mo_sequences_42 hl rfl (bw_inc k 1) (by decide) rfl (fun ls hl => ?_)
        have hl : lv_has ls 3 [(2, .int (nI (k + 1))), (1, .int (nI (f + 1))), (0, .ref mo)] := hl
        refine lv_goto (tgt := 15) hx hb d_Mo_sequences_45 (by decide) ?_
        exact ih15 ((k + 1), (f + 1)) _ _ _ ⟨(by first | assumption | omega | (simp; done) | (simp_all; done)), (by first | (rw [nb_y ((cod124 (hT28 k)).mp (by assumption))]; omega) | (rw [nb_n (fun z => absurd ((cod124 (hT28 k)).mpr z) (by assumption))]; omega)), (by first | assumption | omega | (simp; done) | (simp_all; done)), hP, hD, hS, lv_sub hl [0, 1, 2] rfl⟩ (by first | omega | (simp only; omega) | (dsimp only; omega))

set_option maxHeartbeats 4000000 in
set_option maxRecDepth 100000 in
theorem c_Mo_beginning (l : Launch) (dC : Nat → ClassId) (dI : Nat → Nat → Nat) (ky : ClassId) (sz : Nat) (mo : Nat) (sp : Nat) (d : Nat) (mdr : Nat) (mm : Nat) (mtx : Nat) (mod : Nat) (mia : Nat) (mus : Nat) (mol : Nat) (mle : Nat) (my : Nat) (mrw : Nat) (mls : Nat) (Mx : Nat → Nat) (T : Nat → Nat) (xs : Int32) (hMx : ∀ k_, Mx k_ < 125) (hmm : mm ≤ 97) (hT28 : ∀ k_, T k_ < 28) (hTx : ∀ q, q + 1 < mm → Mx q = cod (T q)) : Met l y_Mo_beginning (Cond.code y_Mo_beginning prog_7_method_21_code 4 (some .int) :: W0) ({ frames := 1, cells := 0, slots := 0, locals := 22 }) (va_Pc [.ref mo, .int (xs)] (fun U => U.heap.size = sz ∧ va_P (dC, dI) cls_ [(mo, .inr (5, [.int (nI sp), .int (nI d), .ref mdr, .int (nI mm - 1), .ref mtx, .ref mod, .ref mia, .ref mus, .ref mol, .ref mle, .int (nI my), .ref mrw, .ref mls])), (mtx, .inl (ky, 97, .inl (nA Mx)))] U.heap ∧ va_K (dC, dI) cls_ [(ky, .int)] U ∧ va_D (fun _ => True) [(mo, .inr (5, [.int (nI sp), .int (nI d), .ref mdr, .int (nI mm - 1), .ref mtx, .ref mod, .ref mia, .ref mus, .ref mol, .ref mle, .int (nI my), .ref mrw, .ref mls])), (mtx, .inl (ky, 97, .inl (nA Mx)))])) (va_Qi (fun (r : Int32) (_ : Unit) => (∃ v, v < sqs T mm ∧ xs = nI v ∧ r = nI (gs T (mm - 1) v)) ∨ ((∀ v, v < sqs T mm → xs ≠ nI v) ∧ r = nI 0 - 1)) (fun (_ : Unit) (t : State) => va_P (dC, dI) cls_ [(mo, .inr (5, [.int (nI sp), .int (nI d), .ref mdr, .int (nI mm - 1), .ref mtx, .ref mod, .ref mia, .ref mus, .ref mol, .ref mle, .int (nI my), .ref mrw, .ref mls])), (mtx, .inl (ky, 97, .inl (nA Mx)))] t.heap ∧ va_D (va_A [(mo, .inr (5, [.int (nI sp), .int (nI d), .ref mdr, .int (nI mm - 1), .ref mtx, .ref mod, .ref mia, .ref mus, .ref mol, .ref mle, .int (nI my), .ref mrw, .ref mls])), (mtx, .inl (ky, 97, .inl (nA Mx)))] sz) [(mo, .inr (5, [.int (nI sp), .int (nI d), .ref mdr, .int (nI mm - 1), .ref mtx, .ref mod, .ref mia, .ref mus, .ref mol, .ref mle, .int (nI my), .ref mrw, .ref mls])), (mtx, .inl (ky, 97, .inl (nA Mx)))]) (va_A [(mo, .inr (5, [.int (nI sp), .int (nI d), .ref mdr, .int (nI mm - 1), .ref mtx, .ref mod, .ref mia, .ref mus, .ref mol, .ref mle, .int (nI my), .ref mrw, .ref mls])), (mtx, .inl (ky, 97, .inl (nA Mx)))] sz)) 0 0 (va_A [(mo, .inr (5, [.int (nI sp), .int (nI d), .ref mdr, .int (nI mm - 1), .ref mtx, .ref mod, .ref mia, .ref mus, .ref mol, .ref mle, .int (nI my), .ref mrw, .ref mls])), (mtx, .inl (ky, 97, .inl (nA Mx)))] sz) := by
  refine Met.ofW (cc := prog_7_method_21_code) (maxL := 4) (ret := (some .int)) (by decide) rfl ?_
  intro p e s m args below meth c s₁ B hml hv
  obtain ⟨rfl, hsz, hP, hK, hD0⟩ := hv
  have hx := B.exec
  have hb := B.bytes
  have hr := B.returns
  have hlocks := B.notSynchronized
  have hts := atoms_spec (ws := (Cond.code y_Mo_beginning prog_7_method_21_code 4 (some .int) :: W0)) B.pre
  have htb : ∀ w ∈ W0, w.before _ s = true := fun w h => hts w (List.mem_cons_of_mem _ h)
  have hown : s.vm.findClass "SelfIndexedSequencesModel" = some m.cls := findClass_of_methodNamed B.named
  subst hsz
  have hD := hD0.self (sz := s.heap.size)
  generalize hAe : va_A [(mo, .inr (5, [.int (nI sp), .int (nI d), .ref mdr, .int (nI mm - 1), .ref mtx, .ref mod, .ref mia, .ref mus, .ref mol, .ref mle, .int (nI my), .ref mrw, .ref mls])), (mtx, .inl (ky, 97, .inl (nA Mx)))] s.heap.size = A at hD ⊢
  have hA : ∀ q : Nat, s.heap.size ≤ q → A q := fun q h => by rw [← hAe]; exact Or.inr h
  have hS : va_S A s.heap s.heap [] := va_S.rf
  have hl := lv_entry ([.ref mo, .int (xs)]) (n := 4) (Nat.le_of_ble_eq_true rfl)
  rw [lg_entry_eq]
  generalize (lg_sl ([.ref mo, .int (xs)]) ++ List.replicate (4 - (lg_sl ([.ref mo, .int (xs)])).length) Slot.unset).toArray = ls at hl ⊢
  have hl : lv_has ls 4 [(0, .ref mo), (1, .int (xs))] := hl
  refine lv_iload_n hx hb d_Mo_beginning_0 rfl (lv_at hl 1 rfl) ?_
  refine lv_if_lt (tgt := 12) hx hb d_Mo_beginning_1 (by decide) (fun hc1 => ?_) (fun hc1 => ?_)
  · skip
    refine lv_iconst (v := nI 0 - 1) hx hb d_Mo_beginning_12 (by decide) ?_
    have hP9 := hP.sub (ws' := [(mo, .inr (5, [.int (nI sp), .int (nI d), .ref mdr, .int (nI mm - 1), .ref mtx, .ref mod, .ref mia, .ref mus, .ref mol, .ref mle, .int (nI my), .ref mrw, .ref mls])), (mtx, .inl (ky, 97, .inl (nA Mx)))]) [0, 1] rfl
    have hD9 := hD.sub (ws' := [(mo, .inr (5, [.int (nI sp), .int (nI d), .ref mdr, .int (nI mm - 1), .ref mtx, .ref mod, .ref mia, .ref mus, .ref mol, .ref mle, .int (nI my), .ref mrw, .ref mls])), (mtx, .inl (ky, 97, .inl (nA Mx)))]) [0, 1] (by decide) rfl
    exact W.iret (v := nI 0 - 1) hx hb hr (fun t ht hW => ⟨⟨nI 0 - 1, (), rfl, (by first | exact Or.inr ⟨bw_neg hc1 (by have := sqs_le T mm; omega), rfl⟩ | exact Or.inr ⟨fun u hu e => by rw [hxv, nI_eq (by omega) (by omega)] at e; omega, rfl⟩), by rw [ht]; exact hP9, hD9⟩, hS.F ht⟩) hS.2.2 d_Mo_beginning_13
  · skip
    obtain ⟨v, hv1, hxv⟩ := bw_nn hc1
    have hv_ : xs = nI v := hxv
    rw [hv_] at hl
    have hl : lv_has ls 4 [(0, .ref mo), (1, .int (nI v))] := hl
    refine lv_iload_n hx hb d_Mo_beginning_4 rfl (lv_at hl 1 rfl) ?_
    refine lv_aload_n hx hb d_Mo_beginning_5 rfl (lv_at hl 0 rfl) ?_
    have hPc := hP.sub (ws' := [(mo, .inr (5, [.int (nI sp), .int (nI d), .ref mdr, .int (nI mm - 1), .ref mtx, .ref mod, .ref mia, .ref mus, .ref mol, .ref mle, .int (nI my), .ref mrw, .ref mls])), (mtx, .inl (ky, 97, .inl (nA Mx)))]) [0, 1] rfl
    have hDc := hD.sub (ws' := [(mo, .inr (5, [.int (nI sp), .int (nI d), .ref mdr, .int (nI mm - 1), .ref mtx, .ref mod, .ref mia, .ref mus, .ref mol, .ref mle, .int (nI my), .ref mrw, .ref mls])), (mtx, .inl (ky, 97, .inl (nA Mx)))]) [0, 1] (by decide) rfl
    have hFc := va_free (wc := [(mo, .inr (5, [.int (nI sp), .int (nI d), .ref mdr, .int (nI mm - 1), .ref mtx, .ref mod, .ref mia, .ref mus, .ref mol, .ref mle, .int (nI my), .ref mrw, .ref mls])), (mtx, .inl (ky, 97, .inl (nA Mx)))]) hD hS hA [0, 1] rfl
    refine va_calli (va_runV (C := "SelfIndexedSequencesModel") (As := []) (rest := [.int (nI v)]) ⟨hx, hb, hml, hown, hts⟩ (c_Mo_sequences l dC dI ky s.heap.size mo sp d mdr mm mtx mod mia mus mol mle my mrw mls Mx T hMx (by first | assumption | omega | (simp; done) | (simp_all; done)) (by first | assumption | omega | (simp; done) | (simp_all; done)) (by first | assumption | omega | (simp; done) | (simp_all; done))) ⟨callB_of 0 hts (W0_good tw_442) rfl rfl rfl (htb _ tw_28) (htb _ tw_439) ⟨by decide, by decide, by decide +kernel⟩ ⟨(Nat.le_of_ble_eq_true rfl), (Nat.le_of_ble_eq_true rfl)⟩, htb _ tw_440, htb _ tw_441⟩ ⟨fun a U g mk q => by obtain ⟨q0, q1, qP, qK, qD⟩ := q; exact ⟨q0, q1, qP, va_K.moved (u := U) (U := U.calling g mk a) (Vm.Alike.refl U.vm) qK, qD⟩, va_recv hK hPc (q0 := 0) (q := (R_Mo, F_Mo, 13)) rfl rfl, fun U hU hW => ⟨rfl, by rw [hU], by rw [hU]; exact hPc, va_K.moved hW.alike hK, hDc.weaken (fun _ _ _ _ => trivial)⟩⟩ rfl rfl hl.1 rfl (lv_room (Nat.le_of_ble_eq_true rfl)) d_Mo_beginning_6 ⟨(Nat.le_of_ble_eq_true rfl), (Nat.le_of_ble_eq_true rfl)⟩) hS (fun q _ h => hFc q h) hFc (fun r6 u_ t H locs ht hvm hw6 hB hz1 hk1 hS => ?_)
    obtain ⟨hP1, hD1⟩ := hB
    rw [ht] at hP1
    obtain ⟨hP, hD⟩ := va_join (wr := []) (w1 := [(mo, .inr (5, [.int (nI sp), .int (nI d), .ref mdr, .int (nI mm - 1), .ref mtx, .ref mod, .ref mia, .ref mus, .ref mol, .ref mle, .int (nI my), .ref mrw, .ref mls])), (mtx, .inl (ky, 97, .inl (nA Mx)))]) hP hD [0, 1] [] rfl rfl (by decide) (by decide) hk1 hFc hP1 hD1
    have hP : va_P (dC, dI) cls_ [(mo, .inr (5, [.int (nI sp), .int (nI d), .ref mdr, .int (nI mm - 1), .ref mtx, .ref mod, .ref mia, .ref mus, .ref mol, .ref mle, .int (nI my), .ref mrw, .ref mls])), (mtx, .inl (ky, 97, .inl (nA Mx)))] H := hP
    have hD : va_D A [(mo, .inr (5, [.int (nI sp), .int (nI d), .ref mdr, .int (nI mm - 1), .ref mtx, .ref mod, .ref mia, .ref mus, .ref mol, .ref mle, .int (nI my), .ref mrw, .ref mls])), (mtx, .inl (ky, 97, .inl (nA Mx)))] := hD
    have hw6 : r6 = nI (sqs T mm) ∧ (True) := hw6
    obtain ⟨hre, hq6⟩ := hw6
    subst hre
    have hsl := sqs_le T mm
    refine lv_icmp_lt (tgt := 14) hx hb d_Mo_beginning_9 (by decide) (fun hc9 => ?_) (fun hc9 => ?_)
    · skip
      rw [bw_lt_nn (by omega) (by omega)] at hc9
      have hsi := sqs_in hc9
      have hnl := nb_le T (mm - 1)
      refine lv_iconst (v := nI 0) hx hb d_Mo_beginning_14 (by decide) ?_
      refine lv_istore_n hx hb d_Mo_beginning_15 rfl hl (by decide) rfl (fun ls hl => ?_)
      have hl : lv_has ls 4 [(2, .int (nI 0)), (0, .ref mo), (1, .int (nI v))] := hl
      refine lv_iload_n hx hb d_Mo_beginning_16 rfl (lv_at hl 2 rfl) ?_
      refine lv_istore_n hx hb d_Mo_beginning_17 rfl hl (by decide) rfl (fun ls hl => ?_)
      have hl : lv_has ls 4 [(3, .int (nI v)), (2, .int (nI 0)), (0, .ref mo), (1, .int (nI v))] := hl
      refine wl_loop (σ := Nat × Nat) 18 [] (fun (a_ : Nat × Nat) => match a_ with | (lf, p1) => mm - p1) (fun (a_ : Nat × Nat) (H : Heap) (locs : List Loc) (ls : Array Slot) => match a_ with | (lf, p1) => (lf + nb T p1 = v) ∧ (lf = 0 → p1 = gs T (mm - 1) v) ∧ (p1 + 1 ≤ mm) ∧ va_P (dC, dI) cls_ [(mo, .inr (5, [.int (nI sp), .int (nI d), .ref mdr, .int (nI mm - 1), .ref mtx, .ref mod, .ref mia, .ref mus, .ref mol, .ref mle, .int (nI my), .ref mrw, .ref mls])), (mtx, .inl (ky, 97, .inl (nA Mx)))] H ∧ va_D A [(mo, .inr (5, [.int (nI sp), .int (nI d), .ref mdr, .int (nI mm - 1), .ref mtx, .ref mod, .ref mia, .ref mus, .ref mol, .ref mle, .int (nI my), .ref mrw, .ref mls])), (mtx, .inl (ky, 97, .inl (nA Mx)))] ∧ va_S A s.heap H locs ∧ lv_has ls 4 [(3, .int (nI lf)), (2, .int (nI p1)), (0, .ref mo), (1, .int (nI v))]) ?_ (v, 0) ⟨(by rw [nb_0]; omega), (fun q => by rw [q, gs_0]), (by first | assumption | omega | (simp; done) | (simp_all; done)), hP, hD, hS, lv_sub hl [0, 1, 2, 3] rfl⟩
      clear hP hD hS hl
      intro a_ H locs ls hI ih18
      obtain ⟨lf, p1⟩ := a_
      obtain ⟨hlv, hl0, hp1, hP, hD, hS, hl⟩ := hI
      have hl : lv_has ls 4 [(3, .int (nI lf)), (2, .int (nI p1)), (0, .ref mo), (1, .int (nI v))] := hl
      have hP : va_P (dC, dI) cls_ [(mo, .inr (5, [.int (nI sp), .int (nI d), .ref mdr, .int (nI mm - 1), .ref mtx, .ref mod, .ref mia, .ref mus, .ref mol, .ref mle, .int (nI my), .ref mrw, .ref mls])), (mtx, .inl (ky, 97, .inl (nA Mx)))] H := hP
      have hD : va_D A [(mo, .inr (5, [.int (nI sp), .int (nI d), .ref mdr, .int (nI mm - 1), .ref mtx, .ref mod, .ref mia, .ref mus, .ref mol, .ref mle, .int (nI my), .ref mrw, .ref mls])), (mtx, .inl (ky, 97, .inl (nA Mx)))] := hD
      have hlv : lf + nb T p1 = v := hlv
      have hl0 : lf = 0 → p1 = gs T (mm - 1) v := hl0
      have hp1 : p1 + 1 ≤ mm := hp1
      refine lv_iload_n hx hb d_Mo_beginning_18 rfl (lv_at hl 0 rfl) ?_
      refine lv_if_le (tgt := 47) hx hb d_Mo_beginning_19 (by decide) (fun hc19 => ?_) (fun hc19 => ?_)
      · skip
        rw [← nI_0, bw_le_nn (by omega) (by omega)] at hc19
        refine lv_iload_n hx hb d_Mo_beginning_47 rfl (lv_at hl 1 rfl) ?_
        have hP9 := hP.sub (ws' := [(mo, .inr (5, [.int (nI sp), .int (nI d), .ref mdr, .int (nI mm - 1), .ref mtx, .ref mod, .ref mia, .ref mus, .ref mol, .ref mle, .int (nI my), .ref mrw, .ref mls])), (mtx, .inl (ky, 97, .inl (nA Mx)))]) [0, 1] rfl
        have hD9 := hD.sub (ws' := [(mo, .inr (5, [.int (nI sp), .int (nI d), .ref mdr, .int (nI mm - 1), .ref mtx, .ref mod, .ref mia, .ref mus, .ref mol, .ref mle, .int (nI my), .ref mrw, .ref mls])), (mtx, .inl (ky, 97, .inl (nA Mx)))]) [0, 1] (by decide) rfl
        exact W.iret (v := nI p1) hx hb hr (fun t ht hW => ⟨⟨nI p1, (), rfl, (Or.inl ⟨v, hc9, hxv, by rw [hl0 (by omega)]⟩), by rw [ht]; exact hP9, hD9⟩, hS.F ht⟩) hS.2.2 d_Mo_beginning_48
      · skip
        rw [← nI_0, bw_le_nn (by omega) (by omega)] at hc19
        have hpl : p1 < mm - 1 := Nat.lt_of_not_le fun q => by have := nb_mono T q; omega
        have hcl := cod_lt (hT28 p1)
        refine lv_iload_n hx hb d_Mo_beginning_22 rfl (lv_at hl 0 rfl) ?_
        refine lv_aload_n hx hb d_Mo_beginning_23 rfl (lv_at hl 2 rfl) ?_
        refine va_get (D := (dC, dI)) (ci := 5) (v := .ref mtx) (C := R_Mo) (T := F_Mo) (N := 13) hx hb htb in_Mo hown hK hP 0 rfl rfl 4 (by decide) (htb _ tw_365) (fun _ h9 => h9) rfl d_Mo_beginning_24 ?_
        refine lv_iload_n hx hb d_Mo_beginning_27 rfl (lv_at hl 1 rfl) ?_
        refine va_iald hx hb hK hP 1 0 rfl rfl (vp_in_nI (by omega) (by decide)) d_Mo_beginning_28 ?_
        rw [nI_clamp (by omega)]
        have hb28 := hMx p1
        rw [nA_at]
        rw [show nI (Mx p1) = nI (cod (T p1)) from (by rw [hTx p1 (by omega)])]
        refine lv_bipush (v := nI 124) hx hb d_Mo_beginning_29 (by decide) ?_
        refine lv_icmp_ne (tgt := 38) hx hb d_Mo_beginning_31 (by decide) (fun hc31 => ?_) (fun hc31 => ?_)
        · skip
          rw [bw_eq_nn (by omega) (by omega)] at hc31
          refine lv_iconst (v := nI 0) hx hb d_Mo_beginning_38 (by decide) ?_
          refine lv_isub hx hb d_Mo_beginning_39 ?_
          rw [pk_sub (show 0 ≤ lf by omega)]
          refine lv_istore_n hx hb d_Mo_beginning_40 rfl hl (by decide) rfl (fun ls hl => ?_)
          have hl : lv_has ls 4 [(3, .int (nI (lf - 0))), (2, .int (nI p1)), (0, .ref mo), (1, .int (nI v))] := hl
          refine lv_iinc (v := nI (p1 + 1)) (k := 1) hx hb d_Mo_beginning_41 hl rfl (bw_inc p1 1) (by decide) rfl (fun ls hl => ?_)
          have hl : lv_has ls 4 [(2, .int (nI (p1 + 1))), (3, .int (nI (lf - 0))), (0, .ref mo), (1, .int (nI v))] := hl
          refine lv_goto (tgt := 18) hx hb d_Mo_beginning_44 (by decide) ?_
          exact ih18 ((lf - 0), (p1 + 1)) _ _ _ ⟨(by first | (rw [nb_y ((cod124 (hT28 p1)).mp (by assumption))]; omega) | (rw [nb_n (fun z => absurd ((cod124 (hT28 p1)).mpr z) (by assumption))]; omega)), (by first | exact (fun q => by rw [show v = nb T p1 + 1 by omega, gs_bar ((cod124 (hT28 p1)).mp (by assumption)) (by omega)]) | exact (fun q => by omega)), (by first | assumption | omega | (simp; done) | (simp_all; done)), hP, hD, hS, lv_sub hl [1, 0, 2, 3] rfl⟩ (by first | omega | (simp only; omega) | (dsimp only; omega))
        · skip
          rw [bw_eq_nn (by omega) (by omega)] at hc31
          refine lv_iconst (v := nI 1) hx hb d_Mo_beginning_34 (by decide) ?_
          refine lv_goto (tgt := 39) hx hb d_Mo_beginning_35 (by decide) ?_
          refine lv_isub hx hb d_Mo_beginning_39 ?_
          rw [pk_sub (show 1 ≤ lf by omega)]
          refine lv_istore_n hx hb d_Mo_beginning_40 rfl hl (by decide) rfl (fun ls hl => ?_)
          have hl : lv_has ls 4 [(3, .int (nI (lf - 1))), (2, .int (nI p1)), (0, .ref mo), (1, .int (nI v))] := hl
          refine lv_iinc (v := nI (p1 + 1)) (k := 1) hx hb d_Mo_beginning_41 hl rfl (bw_inc p1 1) (by decide) rfl (fun ls hl => ?_)
          have hl : lv_has ls 4 [(2, .int (nI (p1 + 1))), (3, .int (nI (lf - 1))), (0, .ref mo), (1, .int (nI v))] := hl
          refine lv_goto (tgt := 18) hx hb d_Mo_beginning_44 (by decide) ?_
          exact ih18 ((lf - 1), (p1 + 1)) _ _ _ ⟨(by first | (rw [nb_y ((cod124 (hT28 p1)).mp (by assumption))]; omega) | (rw [nb_n (fun z => absurd ((cod124 (hT28 p1)).mpr z) (by assumption))]; omega)), (by first | exact (fun q => by rw [show v = nb T p1 + 1 by omega, gs_bar ((cod124 (hT28 p1)).mp (by assumption)) (by omega)]) | exact (fun q => by omega)), (by first | assumption | omega | (simp; done) | (simp_all; done)), hP, hD, hS, lv_sub hl [1, 0, 2, 3] rfl⟩ (by first | omega | (simp only; omega) | (dsimp only; omega))
    · skip
      rw [bw_lt_nn (by omega) (by omega)] at hc9
      refine lv_iconst (v := nI 0 - 1) hx hb d_Mo_beginning_12 (by decide) ?_
      have hP9 := hP.sub (ws' := [(mo, .inr (5, [.int (nI sp), .int (nI d), .ref mdr, .int (nI mm - 1), .ref mtx, .ref mod, .ref mia, .ref mus, .ref mol, .ref mle, .int (nI my), .ref mrw, .ref mls])), (mtx, .inl (ky, 97, .inl (nA Mx)))]) [0, 1] rfl
      have hD9 := hD.sub (ws' := [(mo, .inr (5, [.int (nI sp), .int (nI d), .ref mdr, .int (nI mm - 1), .ref mtx, .ref mod, .ref mia, .ref mus, .ref mol, .ref mle, .int (nI my), .ref mrw, .ref mls])), (mtx, .inl (ky, 97, .inl (nA Mx)))]) [0, 1] (by decide) rfl
      exact W.iret (v := nI 0 - 1) hx hb hr (fun t ht hW => ⟨⟨nI 0 - 1, (), rfl, (by first | exact Or.inr ⟨bw_neg hc1 (by have := sqs_le T mm; omega), rfl⟩ | exact Or.inr ⟨fun u hu e => by rw [hxv, nI_eq (by omega) (by omega)] at e; omega, rfl⟩), by rw [ht]; exact hP9, hD9⟩, hS.F ht⟩) hS.2.2 d_Mo_beginning_13

set_option maxHeartbeats 4000000 in
set_option maxRecDepth 100000 in
theorem c_Mo_end (l : Launch) (dC : Nat → ClassId) (dI : Nat → Nat → Nat) (ky : ClassId) (sz : Nat) (mo : Nat) (sp : Nat) (d : Nat) (mdr : Nat) (mm : Nat) (mtx : Nat) (mod : Nat) (mia : Nat) (mus : Nat) (mol : Nat) (mle : Nat) (my : Nat) (mrw : Nat) (mls : Nat) (Mx : Nat → Nat) (T : Nat → Nat) (fr : Nat) (hMx : ∀ k_, Mx k_ < 125) (hmm : mm ≤ 97) (hT28 : ∀ k_, T k_ < 28) (hTx : ∀ q, q + 1 < mm → Mx q = cod (T q)) (hfr : fr + 1 ≤ mm) : Met l y_Mo_end (Cond.code y_Mo_end prog_7_method_22_code 3 (some .int) :: W0) ({ frames := 0, cells := 0, slots := 0, locals := 0 }) (va_Pc [.ref mo, .int (nI fr)] (fun U => U.heap.size = sz ∧ va_P (dC, dI) cls_ [(mo, .inr (5, [.int (nI sp), .int (nI d), .ref mdr, .int (nI mm - 1), .ref mtx, .ref mod, .ref mia, .ref mus, .ref mol, .ref mle, .int (nI my), .ref mrw, .ref mls])), (mtx, .inl (ky, 97, .inl (nA Mx)))] U.heap ∧ va_K (dC, dI) cls_ [(ky, .int)] U ∧ va_D (fun _ => True) [(mo, .inr (5, [.int (nI sp), .int (nI d), .ref mdr, .int (nI mm - 1), .ref mtx, .ref mod, .ref mia, .ref mus, .ref mol, .ref mle, .int (nI my), .ref mrw, .ref mls])), (mtx, .inl (ky, 97, .inl (nA Mx)))])) (va_Qi (fun (r : Int32) (_ : Unit) => r = nI (gs T (mm - 1) (nb T fr + 1) - 1) ∧ (True)) (fun (_ : Unit) (t : State) => va_P (dC, dI) cls_ [(mo, .inr (5, [.int (nI sp), .int (nI d), .ref mdr, .int (nI mm - 1), .ref mtx, .ref mod, .ref mia, .ref mus, .ref mol, .ref mle, .int (nI my), .ref mrw, .ref mls])), (mtx, .inl (ky, 97, .inl (nA Mx)))] t.heap ∧ va_D (va_A [(mo, .inr (5, [.int (nI sp), .int (nI d), .ref mdr, .int (nI mm - 1), .ref mtx, .ref mod, .ref mia, .ref mus, .ref mol, .ref mle, .int (nI my), .ref mrw, .ref mls])), (mtx, .inl (ky, 97, .inl (nA Mx)))] sz) [(mo, .inr (5, [.int (nI sp), .int (nI d), .ref mdr, .int (nI mm - 1), .ref mtx, .ref mod, .ref mia, .ref mus, .ref mol, .ref mle, .int (nI my), .ref mrw, .ref mls])), (mtx, .inl (ky, 97, .inl (nA Mx)))]) (va_A [(mo, .inr (5, [.int (nI sp), .int (nI d), .ref mdr, .int (nI mm - 1), .ref mtx, .ref mod, .ref mia, .ref mus, .ref mol, .ref mle, .int (nI my), .ref mrw, .ref mls])), (mtx, .inl (ky, 97, .inl (nA Mx)))] sz)) 0 0 (va_A [(mo, .inr (5, [.int (nI sp), .int (nI d), .ref mdr, .int (nI mm - 1), .ref mtx, .ref mod, .ref mia, .ref mus, .ref mol, .ref mle, .int (nI my), .ref mrw, .ref mls])), (mtx, .inl (ky, 97, .inl (nA Mx)))] sz) := by
  refine Met.ofW (cc := prog_7_method_22_code) (maxL := 3) (ret := (some .int)) (by decide) rfl ?_
  intro p e s m args below meth c s₁ B hml hv
  obtain ⟨rfl, hsz, hP, hK, hD0⟩ := hv
  have hx := B.exec
  have hb := B.bytes
  have hr := B.returns
  have hlocks := B.notSynchronized
  have hts := atoms_spec (ws := (Cond.code y_Mo_end prog_7_method_22_code 3 (some .int) :: W0)) B.pre
  have htb : ∀ w ∈ W0, w.before _ s = true := fun w h => hts w (List.mem_cons_of_mem _ h)
  have hown : s.vm.findClass "SelfIndexedSequencesModel" = some m.cls := findClass_of_methodNamed B.named
  subst hsz
  have hD := hD0.self (sz := s.heap.size)
  generalize hAe : va_A [(mo, .inr (5, [.int (nI sp), .int (nI d), .ref mdr, .int (nI mm - 1), .ref mtx, .ref mod, .ref mia, .ref mus, .ref mol, .ref mle, .int (nI my), .ref mrw, .ref mls])), (mtx, .inl (ky, 97, .inl (nA Mx)))] s.heap.size = A at hD ⊢
  have hA : ∀ q : Nat, s.heap.size ≤ q → A q := fun q h => by rw [← hAe]; exact Or.inr h
  have hS : va_S A s.heap s.heap [] := va_S.rf
  have hl := lv_entry ([.ref mo, .int (nI fr)]) (n := 3) (Nat.le_of_ble_eq_true rfl)
  rw [lg_entry_eq]
  generalize (lg_sl ([.ref mo, .int (nI fr)]) ++ List.replicate (3 - (lg_sl ([.ref mo, .int (nI fr)])).length) Slot.unset).toArray = ls at hl ⊢
  have hl : lv_has ls 3 [(0, .ref mo), (1, .int (nI fr))] := hl
  refine lv_iload_n hx hb d_Mo_end_0 rfl (lv_at hl 1 rfl) ?_
  refine lv_istore_n hx hb d_Mo_end_1 rfl hl (by decide) rfl (fun ls hl => ?_)
  have hl : lv_has ls 3 [(2, .int (nI fr)), (0, .ref mo), (1, .int (nI fr))] := hl
  refine wl_loop (σ := Nat) 2 [] (fun (p1 : Nat) => mm - p1) (fun (p1 : Nat) (H : Heap) (locs : List Loc) (ls : Array Slot) => (fr ≤ p1) ∧ (p1 + 1 ≤ mm) ∧ (nb T p1 = nb T fr) ∧ va_P (dC, dI) cls_ [(mo, .inr (5, [.int (nI sp), .int (nI d), .ref mdr, .int (nI mm - 1), .ref mtx, .ref mod, .ref mia, .ref mus, .ref mol, .ref mle, .int (nI my), .ref mrw, .ref mls])), (mtx, .inl (ky, 97, .inl (nA Mx)))] H ∧ va_D A [(mo, .inr (5, [.int (nI sp), .int (nI d), .ref mdr, .int (nI mm - 1), .ref mtx, .ref mod, .ref mia, .ref mus, .ref mol, .ref mle, .int (nI my), .ref mrw, .ref mls])), (mtx, .inl (ky, 97, .inl (nA Mx)))] ∧ va_S A s.heap H locs ∧ lv_has ls 3 [(2, .int (nI p1)), (0, .ref mo), (1, .int (nI fr))]) ?_ fr ⟨(by first | assumption | omega | (simp; done) | (simp_all; done)), (by first | assumption | omega | (simp; done) | (simp_all; done)), rfl, hP, hD, hS, lv_sub hl [0, 1, 2] rfl⟩
  clear hP hD hS hl
  intro p1 H locs ls hI ih2
  obtain ⟨hfp, hp1, hnb, hP, hD, hS, hl⟩ := hI
  have hl : lv_has ls 3 [(2, .int (nI p1)), (0, .ref mo), (1, .int (nI fr))] := hl
  have hP : va_P (dC, dI) cls_ [(mo, .inr (5, [.int (nI sp), .int (nI d), .ref mdr, .int (nI mm - 1), .ref mtx, .ref mod, .ref mia, .ref mus, .ref mol, .ref mle, .int (nI my), .ref mrw, .ref mls])), (mtx, .inl (ky, 97, .inl (nA Mx)))] H := hP
  have hD : va_D A [(mo, .inr (5, [.int (nI sp), .int (nI d), .ref mdr, .int (nI mm - 1), .ref mtx, .ref mod, .ref mia, .ref mus, .ref mol, .ref mle, .int (nI my), .ref mrw, .ref mls])), (mtx, .inl (ky, 97, .inl (nA Mx)))] := hD
  have hfp : fr ≤ p1 := hfp
  have hp1 : p1 + 1 ≤ mm := hp1
  have hnb : nb T p1 = nb T fr := hnb
  refine lv_iload_n hx hb d_Mo_end_2 rfl (lv_at hl 0 rfl) ?_
  refine lv_aload_n hx hb d_Mo_end_3 rfl (lv_at hl 1 rfl) ?_
  refine va_get (D := (dC, dI)) (ci := 5) (v := .int (nI mm - 1)) (C := R_Mo) (T := F_Mo) (N := 13) hx hb htb in_Mo hown hK hP 0 rfl rfl 3 (by decide) (htb _ tw_364) (fun _ h9 => h9) rfl d_Mo_end_4 ?_
  refine lv_icmp_ge (tgt := 27) hx hb d_Mo_end_7 (by decide) (fun hc7 => ?_) (fun hc7 => ?_)
  · skip
    rw [bw_le_pn (by omega) (by omega)] at hc7
    refine lv_iload_n hx hb d_Mo_end_27 rfl (lv_at hl 0 rfl) ?_
    have hP9 := hP.sub (ws' := [(mo, .inr (5, [.int (nI sp), .int (nI d), .ref mdr, .int (nI mm - 1), .ref mtx, .ref mod, .ref mia, .ref mus, .ref mol, .ref mle, .int (nI my), .ref mrw, .ref mls])), (mtx, .inl (ky, 97, .inl (nA Mx)))]) [0, 1] rfl
    have hD9 := hD.sub (ws' := [(mo, .inr (5, [.int (nI sp), .int (nI d), .ref mdr, .int (nI mm - 1), .ref mtx, .ref mod, .ref mia, .ref mus, .ref mol, .ref mle, .int (nI my), .ref mrw, .ref mls])), (mtx, .inl (ky, 97, .inl (nA Mx)))]) [0, 1] (by decide) rfl
    exact W.iret (v := nI p1) hx hb hr (fun t ht hW => ⟨⟨nI p1, (), rfl, ⟨(by first | (rw [← hnb, gs_next (n := mm - 1) (by omega) (Or.inl (by omega)), Nat.add_sub_cancel]) | (rw [← hnb, gs_next (n := mm - 1) (by omega) (Or.inr ((cod124 (hT28 p1)).mp (by assumption))), Nat.add_sub_cancel])), (by first | trivial | assumption | omega)⟩, by rw [ht]; exact hP9, hD9⟩, hS.F ht⟩) hS.2.2 d_Mo_end_28
  · skip
    rw [bw_le_pn (by omega) (by omega)] at hc7
    refine lv_aload_n hx hb d_Mo_end_10 rfl (lv_at hl 1 rfl) ?_
    refine va_get (D := (dC, dI)) (ci := 5) (v := .ref mtx) (C := R_Mo) (T := F_Mo) (N := 13) hx hb htb in_Mo hown hK hP 0 rfl rfl 4 (by decide) (htb _ tw_365) (fun _ h9 => h9) rfl d_Mo_end_11 ?_
    refine lv_iload_n hx hb d_Mo_end_14 rfl (lv_at hl 0 rfl) ?_
    have hcl := cod_lt (hT28 p1)
    refine va_iald hx hb hK hP 1 0 rfl rfl (vp_in_nI (by omega) (by decide)) d_Mo_end_15 ?_
    rw [nI_clamp (by omega)]
    have hb15 := hMx p1
    rw [nA_at]
    rw [show nI (Mx p1) = nI (cod (T p1)) from (by rw [hTx p1 (by omega)])]
    refine lv_bipush (v := nI 124) hx hb d_Mo_end_16 (by decide) ?_
    refine lv_icmp_eq (tgt := 27) hx hb d_Mo_end_18 (by decide) (fun hc18 => ?_) (fun hc18 => ?_)
    · skip
      rw [bw_eq_nn (by omega) (by omega)] at hc18
      refine lv_iload_n hx hb d_Mo_end_27 rfl (lv_at hl 0 rfl) ?_
      have hP9 := hP.sub (ws' := [(mo, .inr (5, [.int (nI sp), .int (nI d), .ref mdr, .int (nI mm - 1), .ref mtx, .ref mod, .ref mia, .ref mus, .ref mol, .ref mle, .int (nI my), .ref mrw, .ref mls])), (mtx, .inl (ky, 97, .inl (nA Mx)))]) [0, 1] rfl
      have hD9 := hD.sub (ws' := [(mo, .inr (5, [.int (nI sp), .int (nI d), .ref mdr, .int (nI mm - 1), .ref mtx, .ref mod, .ref mia, .ref mus, .ref mol, .ref mle, .int (nI my), .ref mrw, .ref mls])), (mtx, .inl (ky, 97, .inl (nA Mx)))]) [0, 1] (by decide) rfl
      exact W.iret (v := nI p1) hx hb hr (fun t ht hW => ⟨⟨nI p1, (), rfl, ⟨(by first | (rw [← hnb, gs_next (n := mm - 1) (by omega) (Or.inl (by omega)), Nat.add_sub_cancel]) | (rw [← hnb, gs_next (n := mm - 1) (by omega) (Or.inr ((cod124 (hT28 p1)).mp (by assumption))), Nat.add_sub_cancel])), (by first | trivial | assumption | omega)⟩, by rw [ht]; exact hP9, hD9⟩, hS.F ht⟩) hS.2.2 d_Mo_end_28
    · skip
      rw [bw_eq_nn (by omega) (by omega)] at hc18
      refine lv_iinc (v := nI (p1 + 1)) (k := 0) hx hb d_Mo_end_21 hl rfl (bw_inc p1 1) (by decide) rfl (fun ls hl => ?_)
      have hl : lv_has ls 3 [(2, .int (nI (p1 + 1))), (0, .ref mo), (1, .int (nI fr))] := hl
      refine lv_goto (tgt := 2) hx hb d_Mo_end_24 (by decide) ?_
      exact ih2 (p1 + 1) _ _ _ ⟨(by first | assumption | omega | (simp; done) | (simp_all; done)), (by first | assumption | omega | (simp; done) | (simp_all; done)), (by rw [nb_n (fun z => absurd ((cod124 (hT28 p1)).mpr z) (by assumption))]; exact hnb), hP, hD, hS, lv_sub hl [0, 1, 2] rfl⟩ (by first | omega | (simp only; omega) | (dsimp only; omega))

set_option maxHeartbeats 4000000 in
set_option maxRecDepth 100000 in
theorem c_Mo_length (l : Launch) (dC : Nat → ClassId) (dI : Nat → Nat → Nat) (ky : ClassId) (sz : Nat) (mo : Nat) (sp : Nat) (d : Nat) (mdr : Nat) (mm : Nat) (mtx : Nat) (mod : Nat) (mia : Nat) (mus : Nat) (mol : Nat) (mle : Nat) (my : Nat) (mrw : Nat) (mls : Nat) (Mx : Nat → Nat) (T : Nat → Nat) (xs : Int32) (hMx : ∀ k_, Mx k_ < 125) (hmm : mm ≤ 97) (hT28 : ∀ k_, T k_ < 28) (hTx : ∀ q, q + 1 < mm → Mx q = cod (T q)) : Met l y_Mo_length (Cond.code y_Mo_length prog_7_method_23_code 3 (some .int) :: W0) ({ frames := 2, cells := 0, slots := 0, locals := 45 }) (va_Pc [.ref mo, .int (xs)] (fun U => U.heap.size = sz ∧ va_P (dC, dI) cls_ [(mo, .inr (5, [.int (nI sp), .int (nI d), .ref mdr, .int (nI mm - 1), .ref mtx, .ref mod, .ref mia, .ref mus, .ref mol, .ref mle, .int (nI my), .ref mrw, .ref mls])), (mtx, .inl (ky, 97, .inl (nA Mx)))] U.heap ∧ va_K (dC, dI) cls_ [(ky, .int)] U ∧ va_D (fun _ => True) [(mo, .inr (5, [.int (nI sp), .int (nI d), .ref mdr, .int (nI mm - 1), .ref mtx, .ref mod, .ref mia, .ref mus, .ref mol, .ref mle, .int (nI my), .ref mrw, .ref mls])), (mtx, .inl (ky, 97, .inl (nA Mx)))])) (va_Qi (fun (r : Int32) (_ : Unit) => (∃ v, v < sqs T mm ∧ xs = nI v ∧ r = nI (lns T mm v)) ∨ ((∀ v, v < sqs T mm → xs ≠ nI v) ∧ r = nI 0 - 1)) (fun (_ : Unit) (t : State) => va_P (dC, dI) cls_ [(mo, .inr (5, [.int (nI sp), .int (nI d), .ref mdr, .int (nI mm - 1), .ref mtx, .ref mod, .ref mia, .ref mus, .ref mol, .ref mle, .int (nI my), .ref mrw, .ref mls])), (mtx, .inl (ky, 97, .inl (nA Mx)))] t.heap ∧ va_D (va_A [(mo, .inr (5, [.int (nI sp), .int (nI d), .ref mdr, .int (nI mm - 1), .ref mtx, .ref mod, .ref mia, .ref mus, .ref mol, .ref mle, .int (nI my), .ref mrw, .ref mls])), (mtx, .inl (ky, 97, .inl (nA Mx)))] sz) [(mo, .inr (5, [.int (nI sp), .int (nI d), .ref mdr, .int (nI mm - 1), .ref mtx, .ref mod, .ref mia, .ref mus, .ref mol, .ref mle, .int (nI my), .ref mrw, .ref mls])), (mtx, .inl (ky, 97, .inl (nA Mx)))]) (va_A [(mo, .inr (5, [.int (nI sp), .int (nI d), .ref mdr, .int (nI mm - 1), .ref mtx, .ref mod, .ref mia, .ref mus, .ref mol, .ref mle, .int (nI my), .ref mrw, .ref mls])), (mtx, .inl (ky, 97, .inl (nA Mx)))] sz)) 0 0 (va_A [(mo, .inr (5, [.int (nI sp), .int (nI d), .ref mdr, .int (nI mm - 1), .ref mtx, .ref mod, .ref mia, .ref mus, .ref mol, .ref mle, .int (nI my), .ref mrw, .ref mls])), (mtx, .inl (ky, 97, .inl (nA Mx)))] sz) := by
  refine Met.ofW (cc := prog_7_method_23_code) (maxL := 3) (ret := (some .int)) (by decide) rfl ?_
  intro p e s m args below meth c s₁ B hml hv
  obtain ⟨rfl, hsz, hP, hK, hD0⟩ := hv
  have hx := B.exec
  have hb := B.bytes
  have hr := B.returns
  have hlocks := B.notSynchronized
  have hts := atoms_spec (ws := (Cond.code y_Mo_length prog_7_method_23_code 3 (some .int) :: W0)) B.pre
  have htb : ∀ w ∈ W0, w.before _ s = true := fun w h => hts w (List.mem_cons_of_mem _ h)
  have hown : s.vm.findClass "SelfIndexedSequencesModel" = some m.cls := findClass_of_methodNamed B.named
  subst hsz
  have hD := hD0.self (sz := s.heap.size)
  generalize hAe : va_A [(mo, .inr (5, [.int (nI sp), .int (nI d), .ref mdr, .int (nI mm - 1), .ref mtx, .ref mod, .ref mia, .ref mus, .ref mol, .ref mle, .int (nI my), .ref mrw, .ref mls])), (mtx, .inl (ky, 97, .inl (nA Mx)))] s.heap.size = A at hD ⊢
  have hA : ∀ q : Nat, s.heap.size ≤ q → A q := fun q h => by rw [← hAe]; exact Or.inr h
  have hS : va_S A s.heap s.heap [] := va_S.rf
  have hl := lv_entry ([.ref mo, .int (xs)]) (n := 3) (Nat.le_of_ble_eq_true rfl)
  rw [lg_entry_eq]
  generalize (lg_sl ([.ref mo, .int (xs)]) ++ List.replicate (3 - (lg_sl ([.ref mo, .int (xs)])).length) Slot.unset).toArray = ls at hl ⊢
  have hl : lv_has ls 3 [(0, .ref mo), (1, .int (xs))] := hl
  refine lv_aload_n hx hb d_Mo_length_0 rfl (lv_at hl 0 rfl) ?_
  refine lv_iload_n hx hb d_Mo_length_1 rfl (lv_at hl 1 rfl) ?_
  have hPc := hP.sub (ws' := [(mo, .inr (5, [.int (nI sp), .int (nI d), .ref mdr, .int (nI mm - 1), .ref mtx, .ref mod, .ref mia, .ref mus, .ref mol, .ref mle, .int (nI my), .ref mrw, .ref mls])), (mtx, .inl (ky, 97, .inl (nA Mx)))]) [0, 1] rfl
  have hDc := hD.sub (ws' := [(mo, .inr (5, [.int (nI sp), .int (nI d), .ref mdr, .int (nI mm - 1), .ref mtx, .ref mod, .ref mia, .ref mus, .ref mol, .ref mle, .int (nI my), .ref mrw, .ref mls])), (mtx, .inl (ky, 97, .inl (nA Mx)))]) [0, 1] (by decide) rfl
  have hFc := va_free (wc := [(mo, .inr (5, [.int (nI sp), .int (nI d), .ref mdr, .int (nI mm - 1), .ref mtx, .ref mod, .ref mia, .ref mus, .ref mol, .ref mle, .int (nI my), .ref mrw, .ref mls])), (mtx, .inl (ky, 97, .inl (nA Mx)))]) hD hS hA [0, 1] rfl
  refine va_calli (va_runV (C := "SelfIndexedSequencesModel") (As := [.int (xs)]) (rest := []) ⟨hx, hb, hml, hown, hts⟩ (c_Mo_beginning l dC dI ky s.heap.size mo sp d mdr mm mtx mod mia mus mol mle my mrw mls Mx T xs hMx (by first | assumption | omega | (simp; done) | (simp_all; done)) (by first | assumption | omega | (simp; done) | (simp_all; done)) (by first | assumption | omega | (simp; done) | (simp_all; done))) ⟨callB_of 1 hts (W0_good tw_483) rfl rfl rfl (htb _ tw_28) (htb _ tw_480) ⟨by decide, by decide, by decide +kernel⟩ ⟨(Nat.le_of_ble_eq_true rfl), (Nat.le_of_ble_eq_true rfl)⟩, htb _ tw_482, htb _ tw_14⟩ ⟨fun a U g mk q => by obtain ⟨q0, q1, qP, qK, qD⟩ := q; exact ⟨q0, q1, qP, va_K.moved (u := U) (U := U.calling g mk a) (Vm.Alike.refl U.vm) qK, qD⟩, va_recv hK hPc (q0 := 0) (q := (R_Mo, F_Mo, 13)) rfl rfl, fun U hU hW => ⟨rfl, by rw [hU], by rw [hU]; exact hPc, va_K.moved hW.alike hK, hDc.weaken (fun _ _ _ _ => trivial)⟩⟩ rfl rfl hl.1 rfl (lv_room (Nat.le_of_ble_eq_true rfl)) d_Mo_length_2 ⟨(Nat.le_of_ble_eq_true rfl), (Nat.le_of_ble_eq_true rfl)⟩) hS (fun q _ h => hFc q h) hFc (fun r2 u_ t H locs ht hvm hw2 hB hz1 hk1 hS => ?_)
  obtain ⟨hP1, hD1⟩ := hB
  rw [ht] at hP1
  obtain ⟨hP, hD⟩ := va_join (wr := []) (w1 := [(mo, .inr (5, [.int (nI sp), .int (nI d), .ref mdr, .int (nI mm - 1), .ref mtx, .ref mod, .ref mia, .ref mus, .ref mol, .ref mle, .int (nI my), .ref mrw, .ref mls])), (mtx, .inl (ky, 97, .inl (nA Mx)))]) hP hD [0, 1] [] rfl rfl (by decide) (by decide) hk1 hFc hP1 hD1
  have hP : va_P (dC, dI) cls_ [(mo, .inr (5, [.int (nI sp), .int (nI d), .ref mdr, .int (nI mm - 1), .ref mtx, .ref mod, .ref mia, .ref mus, .ref mol, .ref mle, .int (nI my), .ref mrw, .ref mls])), (mtx, .inl (ky, 97, .inl (nA Mx)))] H := hP
  have hD : va_D A [(mo, .inr (5, [.int (nI sp), .int (nI d), .ref mdr, .int (nI mm - 1), .ref mtx, .ref mod, .ref mia, .ref mus, .ref mol, .ref mle, .int (nI my), .ref mrw, .ref mls])), (mtx, .inl (ky, 97, .inl (nA Mx)))] := hD
  have hq2 : (∃ v, v < sqs T mm ∧ xs = nI v ∧ r2 = nI (gs T (mm - 1) v)) ∨ ((∀ v, v < sqs T mm → xs ≠ nI v) ∧ r2 = nI 0 - 1) := hw2
  rcases hq2 with ⟨v, hv, hxv, rfl⟩ | ⟨hnv, rfl⟩
  · skip
    have hsi := sqs_in hv
    have hgv := nb_gs T (mm - 1) v hsi.2
    have hgn := sq_next hsi.2
    have hgl := gs_le T (mm - 1) (v + 1)
    refine lv_istore_n hx hb d_Mo_length_5 rfl hl (by decide) rfl (fun ls hl => ?_)
    have hl : lv_has ls 3 [(2, .int (nI (gs T (mm - 1) v))), (0, .ref mo), (1, .int (xs))] := hl
    refine lv_iload_n hx hb d_Mo_length_6 rfl (lv_at hl 0 rfl) ?_
    refine lv_if_ge (tgt := 14) hx hb d_Mo_length_7 (by decide) (fun hc7 => ?_) (fun hc7 => ?_)
    · skip
      rw [← nI_0, bw_le_nn (by omega) (by omega)] at hc7
      refine lv_aload_n hx hb d_Mo_length_14 rfl (lv_at hl 1 rfl) ?_
      refine lv_iload_n hx hb d_Mo_length_15 rfl (lv_at hl 0 rfl) ?_
      have hPc := hP.sub (ws' := [(mo, .inr (5, [.int (nI sp), .int (nI d), .ref mdr, .int (nI mm - 1), .ref mtx, .ref mod, .ref mia, .ref mus, .ref mol, .ref mle, .int (nI my), .ref mrw, .ref mls])), (mtx, .inl (ky, 97, .inl (nA Mx)))]) [0, 1] rfl
      have hDc := hD.sub (ws' := [(mo, .inr (5, [.int (nI sp), .int (nI d), .ref mdr, .int (nI mm - 1), .ref mtx, .ref mod, .ref mia, .ref mus, .ref mol, .ref mle, .int (nI my), .ref mrw, .ref mls])), (mtx, .inl (ky, 97, .inl (nA Mx)))]) [0, 1] (by decide) rfl
      have hFc := va_free (wc := [(mo, .inr (5, [.int (nI sp), .int (nI d), .ref mdr, .int (nI mm - 1), .ref mtx, .ref mod, .ref mia, .ref mus, .ref mol, .ref mle, .int (nI my), .ref mrw, .ref mls])), (mtx, .inl (ky, 97, .inl (nA Mx)))]) hD hS hA [0, 1] rfl
      refine va_calli (va_runV (C := "SelfIndexedSequencesModel") (As := [.int (nI (gs T (mm - 1) v))]) (rest := []) ⟨hx, hb, hml, hown, hts⟩ (c_Mo_end l dC dI ky H.size mo sp d mdr mm mtx mod mia mus mol mle my mrw mls Mx T (gs T (mm - 1) v) hMx (by first | assumption | omega | (simp; done) | (simp_all; done)) (by first | assumption | omega | (simp; done) | (simp_all; done)) (by first | assumption | omega | (simp; done) | (simp_all; done)) (by first | assumption | omega | (simp; done) | (simp_all; done))) ⟨callB_of 1 hts (W0_good tw_487) rfl rfl rfl (htb _ tw_28) (htb _ tw_484) ⟨by decide, by decide, by decide +kernel⟩ ⟨(Nat.le_of_ble_eq_true rfl), (Nat.le_of_ble_eq_true rfl)⟩, htb _ tw_486, htb _ tw_15⟩ ⟨fun a U g mk q => by obtain ⟨q0, q1, qP, qK, qD⟩ := q; exact ⟨q0, q1, qP, va_K.moved (u := U) (U := U.calling g mk a) (Vm.Alike.refl U.vm) qK, qD⟩, va_recv hK hPc (q0 := 0) (q := (R_Mo, F_Mo, 13)) rfl rfl, fun U hU hW => ⟨rfl, by rw [hU], by rw [hU]; exact hPc, va_K.moved hW.alike hK, hDc.weaken (fun _ _ _ _ => trivial)⟩⟩ rfl rfl hl.1 rfl (lv_room (Nat.le_of_ble_eq_true rfl)) d_Mo_length_16 ⟨(Nat.le_of_ble_eq_true rfl), (Nat.le_of_ble_eq_true rfl)⟩) hS (fun q _ h => hFc q h) hFc (fun r16 u_ t H locs ht hvm hw16 hB hz1 hk1 hS => ?_)
      obtain ⟨hP1, hD1⟩ := hB
      rw [ht] at hP1
      obtain ⟨hP, hD⟩ := va_join (wr := []) (w1 := [(mo, .inr (5, [.int (nI sp), .int (nI d), .ref mdr, .int (nI mm - 1), .ref mtx, .ref mod, .ref mia, .ref mus, .ref mol, .ref mle, .int (nI my), .ref mrw, .ref mls])), (mtx, .inl (ky, 97, .inl (nA Mx)))]) hP hD [0, 1] [] rfl rfl (by decide) (by decide) hk1 hFc hP1 hD1
      have hP : va_P (dC, dI) cls_ [(mo, .inr (5, [.int (nI sp), .int (nI d), .ref mdr, .int (nI mm - 1), .ref mtx, .ref mod, .ref mia, .ref mus, .ref mol, .ref mle, .int (nI my), .ref mrw, .ref mls])), (mtx, .inl (ky, 97, .inl (nA Mx)))] H := hP
      have hD : va_D A [(mo, .inr (5, [.int (nI sp), .int (nI d), .ref mdr, .int (nI mm - 1), .ref mtx, .ref mod, .ref mia, .ref mus, .ref mol, .ref mle, .int (nI my), .ref mrw, .ref mls])), (mtx, .inl (ky, 97, .inl (nA Mx)))] := hD
      have hw16 : r16 = nI (gs T (mm - 1) (nb T (gs T (mm - 1) v) + 1) - 1) ∧ (True) := hw16
      obtain ⟨hre, hq16⟩ := hw16
      subst hre
      rw [show nI (gs T (mm - 1) (nb T (gs T (mm - 1) v) + 1) - 1) = nI (gs T (mm - 1) (v + 1) - 1) from (by rw [hgv.1])]
      refine lv_iload_n hx hb d_Mo_length_19 rfl (lv_at hl 0 rfl) ?_
      refine lv_isub hx hb d_Mo_length_20 ?_
      rw [pk_sub (show (gs T (mm - 1) v) ≤ (gs T (mm - 1) (v + 1) - 1) by omega)]
      have hP9 := hP.sub (ws' := [(mo, .inr (5, [.int (nI sp), .int (nI d), .ref mdr, .int (nI mm - 1), .ref mtx, .ref mod, .ref mia, .ref mus, .ref mol, .ref mle, .int (nI my), .ref mrw, .ref mls])), (mtx, .inl (ky, 97, .inl (nA Mx)))]) [0, 1] rfl
      have hD9 := hD.sub (ws' := [(mo, .inr (5, [.int (nI sp), .int (nI d), .ref mdr, .int (nI mm - 1), .ref mtx, .ref mod, .ref mia, .ref mus, .ref mol, .ref mle, .int (nI my), .ref mrw, .ref mls])), (mtx, .inl (ky, 97, .inl (nA Mx)))]) [0, 1] (by decide) rfl
      exact W.iret (v := nI ((gs T (mm - 1) (v + 1) - 1) - (gs T (mm - 1) v))) hx hb hr (fun t ht hW => ⟨⟨nI ((gs T (mm - 1) (v + 1) - 1) - (gs T (mm - 1) v)), (), rfl, (by first | exact Or.inl ⟨v, hv, hxv, rfl⟩ | exact Or.inr ⟨hnv, rfl⟩ | (exfalso; omega)), by rw [ht]; exact hP9, hD9⟩, hS.F ht⟩) hS.2.2 d_Mo_length_21
    · skip
      rw [← nI_0, bw_le_nn (by omega) (by omega)] at hc7
      refine lv_iconst (v := nI 0 - 1) hx hb d_Mo_length_10 (by decide) ?_
      refine lv_goto (tgt := 21) hx hb d_Mo_length_11 (by decide) ?_
      have hP9 := hP.sub (ws' := [(mo, .inr (5, [.int (nI sp), .int (nI d), .ref mdr, .int (nI mm - 1), .ref mtx, .ref mod, .ref mia, .ref mus, .ref mol, .ref mle, .int (nI my), .ref mrw, .ref mls])), (mtx, .inl (ky, 97, .inl (nA Mx)))]) [0, 1] rfl
      have hD9 := hD.sub (ws' := [(mo, .inr (5, [.int (nI sp), .int (nI d), .ref mdr, .int (nI mm - 1), .ref mtx, .ref mod, .ref mia, .ref mus, .ref mol, .ref mle, .int (nI my), .ref mrw, .ref mls])), (mtx, .inl (ky, 97, .inl (nA Mx)))]) [0, 1] (by decide) rfl
      exact W.iret (v := nI 0 - 1) hx hb hr (fun t ht hW => ⟨⟨nI 0 - 1, (), rfl, (by first | exact Or.inl ⟨v, hv, hxv, rfl⟩ | exact Or.inr ⟨hnv, rfl⟩ | (exfalso; omega)), by rw [ht]; exact hP9, hD9⟩, hS.F ht⟩) hS.2.2 d_Mo_length_21
  · skip
    refine lv_istore_n hx hb d_Mo_length_5 rfl hl (by decide) rfl (fun ls hl => ?_)
    have hl : lv_has ls 3 [(2, .int (nI 0 - 1)), (0, .ref mo), (1, .int (xs))] := hl
    refine lv_iload_n hx hb d_Mo_length_6 rfl (lv_at hl 0 rfl) ?_
    refine lv_if_ge (tgt := 14) hx hb d_Mo_length_7 (by decide) (fun hc7 => ?_) (fun hc7 => ?_)
    · exact absurd hc7 (by decide)
    · skip
      rw [← nI_0, bw_le_np (by omega) (by omega)] at hc7
      refine lv_iconst (v := nI 0 - 1) hx hb d_Mo_length_10 (by decide) ?_
      refine lv_goto (tgt := 21) hx hb d_Mo_length_11 (by decide) ?_
      have hP9 := hP.sub (ws' := [(mo, .inr (5, [.int (nI sp), .int (nI d), .ref mdr, .int (nI mm - 1), .ref mtx, .ref mod, .ref mia, .ref mus, .ref mol, .ref mle, .int (nI my), .ref mrw, .ref mls])), (mtx, .inl (ky, 97, .inl (nA Mx)))]) [0, 1] rfl
      have hD9 := hD.sub (ws' := [(mo, .inr (5, [.int (nI sp), .int (nI d), .ref mdr, .int (nI mm - 1), .ref mtx, .ref mod, .ref mia, .ref mus, .ref mol, .ref mle, .int (nI my), .ref mrw, .ref mls])), (mtx, .inl (ky, 97, .inl (nA Mx)))]) [0, 1] (by decide) rfl
      exact W.iret (v := nI 0 - 1) hx hb hr (fun t ht hW => ⟨⟨nI 0 - 1, (), rfl, (by first | exact Or.inl ⟨v, hv, hxv, rfl⟩ | exact Or.inr ⟨hnv, rfl⟩ | (exfalso; omega)), by rw [ht]; exact hP9, hD9⟩, hS.F ht⟩) hS.2.2 d_Mo_length_21

set_option maxHeartbeats 4000000 in
set_option maxRecDepth 100000 in
theorem c_Mo_size (l : Launch) (dC : Nat → ClassId) (dI : Nat → Nat → Nat) (ky : ClassId) (sz : Nat) (mo : Nat) (sp : Nat) (d : Nat) (mdr : Nat) (mm : Nat) (mtx : Nat) (mod : Nat) (mia : Nat) (mus : Nat) (mol : Nat) (mle : Nat) (my : Nat) (mrw : Nat) (mls : Nat) : Met l y_Mo_size (Cond.code y_Mo_size prog_7_method_15_code 1 (some .int) :: W0) ({ frames := 0, cells := 0, slots := 0, locals := 0 }) (va_Pc [.ref mo] (fun U => U.heap.size = sz ∧ va_P (dC, dI) cls_ [(mo, .inr (5, [.int (nI sp), .int (nI d), .ref mdr, .int (nI mm - 1), .ref mtx, .ref mod, .ref mia, .ref mus, .ref mol, .ref mle, .int (nI my), .ref mrw, .ref mls]))] U.heap ∧ va_K (dC, dI) cls_ [(ky, .int)] U ∧ va_D (fun _ => True) [(mo, .inr (5, [.int (nI sp), .int (nI d), .ref mdr, .int (nI mm - 1), .ref mtx, .ref mod, .ref mia, .ref mus, .ref mol, .ref mle, .int (nI my), .ref mrw, .ref mls]))])) (va_Qi (fun (r : Int32) (_ : Unit) => r = nI mm ∧ (True)) (fun (_ : Unit) (t : State) => va_P (dC, dI) cls_ [(mo, .inr (5, [.int (nI sp), .int (nI d), .ref mdr, .int (nI mm - 1), .ref mtx, .ref mod, .ref mia, .ref mus, .ref mol, .ref mle, .int (nI my), .ref mrw, .ref mls]))] t.heap ∧ va_D (va_A [(mo, .inr (5, [.int (nI sp), .int (nI d), .ref mdr, .int (nI mm - 1), .ref mtx, .ref mod, .ref mia, .ref mus, .ref mol, .ref mle, .int (nI my), .ref mrw, .ref mls]))] sz) [(mo, .inr (5, [.int (nI sp), .int (nI d), .ref mdr, .int (nI mm - 1), .ref mtx, .ref mod, .ref mia, .ref mus, .ref mol, .ref mle, .int (nI my), .ref mrw, .ref mls]))]) (va_A [(mo, .inr (5, [.int (nI sp), .int (nI d), .ref mdr, .int (nI mm - 1), .ref mtx, .ref mod, .ref mia, .ref mus, .ref mol, .ref mle, .int (nI my), .ref mrw, .ref mls]))] sz)) 0 0 (va_A [(mo, .inr (5, [.int (nI sp), .int (nI d), .ref mdr, .int (nI mm - 1), .ref mtx, .ref mod, .ref mia, .ref mus, .ref mol, .ref mle, .int (nI my), .ref mrw, .ref mls]))] sz) := by
  refine Met.ofW (cc := prog_7_method_15_code) (maxL := 1) (ret := (some .int)) (by decide) rfl ?_
  intro p e s m args below meth c s₁ B hml hv
  obtain ⟨rfl, hsz, hP, hK, hD0⟩ := hv
  have hx := B.exec
  have hb := B.bytes
  have hr := B.returns
  have hlocks := B.notSynchronized
  have hts := atoms_spec (ws := (Cond.code y_Mo_size prog_7_method_15_code 1 (some .int) :: W0)) B.pre
  have htb : ∀ w ∈ W0, w.before _ s = true := fun w h => hts w (List.mem_cons_of_mem _ h)
  have hown : s.vm.findClass "SelfIndexedSequencesModel" = some m.cls := findClass_of_methodNamed B.named
  subst hsz
  have hD := hD0.self (sz := s.heap.size)
  generalize hAe : va_A [(mo, .inr (5, [.int (nI sp), .int (nI d), .ref mdr, .int (nI mm - 1), .ref mtx, .ref mod, .ref mia, .ref mus, .ref mol, .ref mle, .int (nI my), .ref mrw, .ref mls]))] s.heap.size = A at hD ⊢
  have hA : ∀ q : Nat, s.heap.size ≤ q → A q := fun q h => by rw [← hAe]; exact Or.inr h
  have hS : va_S A s.heap s.heap [] := va_S.rf
  have hl := lv_entry ([.ref mo]) (n := 1) (Nat.le_of_ble_eq_true rfl)
  rw [lg_entry_eq]
  generalize (lg_sl ([.ref mo]) ++ List.replicate (1 - (lg_sl ([.ref mo])).length) Slot.unset).toArray = ls at hl ⊢
  have hl : lv_has ls 1 [(0, .ref mo)] := hl
  refine lv_aload_n hx hb d_Mo_size_0 rfl (lv_at hl 0 rfl) ?_
  refine va_get (D := (dC, dI)) (ci := 5) (v := .int (nI mm - 1)) (C := R_Mo) (T := F_Mo) (N := 13) hx hb htb in_Mo hown hK hP 0 rfl rfl 3 (by decide) (htb _ tw_364) (fun _ h9 => h9) rfl d_Mo_size_1 ?_
  refine lv_iconst (v := nI 1) hx hb d_Mo_size_4 (by decide) ?_
  refine lv_iadd hx hb d_Mo_size_5 ?_
  rw [bw_p1 mm]
  have hP9 := hP.sub (ws' := [(mo, .inr (5, [.int (nI sp), .int (nI d), .ref mdr, .int (nI mm - 1), .ref mtx, .ref mod, .ref mia, .ref mus, .ref mol, .ref mle, .int (nI my), .ref mrw, .ref mls]))]) [0] rfl
  have hD9 := hD.sub (ws' := [(mo, .inr (5, [.int (nI sp), .int (nI d), .ref mdr, .int (nI mm - 1), .ref mtx, .ref mod, .ref mia, .ref mus, .ref mol, .ref mle, .int (nI my), .ref mrw, .ref mls]))]) [0] (by decide) rfl
  exact W.iret (v := nI mm) hx hb hr (fun t ht hW => ⟨⟨nI mm, (), rfl, ⟨(by first | rfl | (congr 1; omega) | (simp; done)), (by first | trivial | assumption | omega)⟩, by rw [ht]; exact hP9, hD9⟩, hS.F ht⟩) hS.2.2 d_Mo_size_6

set_option maxHeartbeats 4000000 in
set_option maxRecDepth 100000 in
theorem c_Mo_scrap (l : Launch) (dC : Nat → ClassId) (dI : Nat → Nat → Nat) (ky : ClassId) (sz : Nat) (mo : Nat) (sp : Nat) (d : Nat) (mdr : Nat) (mm : Nat) (mtx : Nat) (mod : Nat) (mia : Nat) (mus : Nat) (mol : Nat) (mle : Nat) (my : Nat) (mrw : Nat) (mls : Nat) : Met l y_Mo_scrap (Cond.code y_Mo_scrap prog_7_method_6_code 1 none :: W0) ({ frames := 0, cells := 0, slots := 0, locals := 0 }) (va_Pc [.ref mo] (fun U => U.heap.size = sz ∧ va_P (dC, dI) cls_ [(mo, .inr (5, [.int (nI sp), .int (nI d), .ref mdr, .int (nI mm - 1), .ref mtx, .ref mod, .ref mia, .ref mus, .ref mol, .ref mle, .int (nI my), .ref mrw, .ref mls]))] U.heap ∧ va_K (dC, dI) cls_ [(ky, .int)] U ∧ va_D (fun _ => True) [(mo, .inr (5, [.int (nI sp), .int (nI d), .ref mdr, .int (nI mm - 1), .ref mtx, .ref mod, .ref mia, .ref mus, .ref mol, .ref mle, .int (nI my), .ref mrw, .ref mls]))])) (va_Qv (fun (_ : Unit) => True) (fun (_ : Unit) (t : State) => va_P (dC, dI) cls_ [(mo, .inr (5, [.int (nI sp), .int (nI 0), .ref mdr, .int (nI mm - 1), .ref mtx, .ref mod, .ref mia, .ref mus, .ref mol, .ref mle, .int (nI my), .ref mrw, .ref mls]))] t.heap ∧ va_D (va_A [(mo, .inr (5, [.int (nI sp), .int (nI d), .ref mdr, .int (nI mm - 1), .ref mtx, .ref mod, .ref mia, .ref mus, .ref mol, .ref mle, .int (nI my), .ref mrw, .ref mls]))] sz) [(mo, .inr (5, [.int (nI sp), .int (nI 0), .ref mdr, .int (nI mm - 1), .ref mtx, .ref mod, .ref mia, .ref mus, .ref mol, .ref mle, .int (nI my), .ref mrw, .ref mls]))]) (va_A [(mo, .inr (5, [.int (nI sp), .int (nI d), .ref mdr, .int (nI mm - 1), .ref mtx, .ref mod, .ref mia, .ref mus, .ref mol, .ref mle, .int (nI my), .ref mrw, .ref mls]))] sz)) 0 0 (va_A [(mo, .inr (5, [.int (nI sp), .int (nI d), .ref mdr, .int (nI mm - 1), .ref mtx, .ref mod, .ref mia, .ref mus, .ref mol, .ref mle, .int (nI my), .ref mrw, .ref mls]))] sz) := by
  refine Met.ofW (cc := prog_7_method_6_code) (maxL := 1) (ret := none) (by decide) rfl ?_
  intro p e s m args below meth c s₁ B hml hv
  obtain ⟨rfl, hsz, hP, hK, hD0⟩ := hv
  have hx := B.exec
  have hb := B.bytes
  have hr := B.returns
  have hlocks := B.notSynchronized
  have hts := atoms_spec (ws := (Cond.code y_Mo_scrap prog_7_method_6_code 1 none :: W0)) B.pre
  have htb : ∀ w ∈ W0, w.before _ s = true := fun w h => hts w (List.mem_cons_of_mem _ h)
  have hown : s.vm.findClass "SelfIndexedSequencesModel" = some m.cls := findClass_of_methodNamed B.named
  subst hsz
  have hD := hD0.self (sz := s.heap.size)
  generalize hAe : va_A [(mo, .inr (5, [.int (nI sp), .int (nI d), .ref mdr, .int (nI mm - 1), .ref mtx, .ref mod, .ref mia, .ref mus, .ref mol, .ref mle, .int (nI my), .ref mrw, .ref mls]))] s.heap.size = A at hD ⊢
  have hA : ∀ q : Nat, s.heap.size ≤ q → A q := fun q h => by rw [← hAe]; exact Or.inr h
  have hS : va_S A s.heap s.heap [] := va_S.rf
  have hl := lv_entry ([.ref mo]) (n := 1) (Nat.le_of_ble_eq_true rfl)
  rw [lg_entry_eq]
  generalize (lg_sl ([.ref mo]) ++ List.replicate (1 - (lg_sl ([.ref mo])).length) Slot.unset).toArray = ls at hl ⊢
  have hl : lv_has ls 1 [(0, .ref mo)] := hl
  refine lv_aload_n hx hb d_Mo_scrap_0 rfl (lv_at hl 0 rfl) ?_
  refine lv_iconst (v := nI 0) hx hb d_Mo_scrap_1 (by decide) ?_
  refine va_put (D := (dC, dI)) (ci := 5) (v := .int (nI 0)) (ty := .int) (C := R_Mo) (T := F_Mo) (N := 13) hx hb htb in_Mo t_Mo tk_Mo nm_Mo hown hK hP hD hS 0 rfl rfl 1 (by decide) (htb _ tw_362) (fun _ h9 => h9) rfl (by decide +kernel) rfl rfl (Nat.le_of_ble_eq_true rfl) d_Mo_scrap_2 (fun H locs hP hD hS => ?_)
  have hP : va_P (dC, dI) cls_ [(mo, .inr (5, [.int (nI sp), .int (nI 0), .ref mdr, .int (nI mm - 1), .ref mtx, .ref mod, .ref mia, .ref mus, .ref mol, .ref mle, .int (nI my), .ref mrw, .ref mls]))] H := hP
  have hD : va_D A [(mo, .inr (5, [.int (nI sp), .int (nI 0), .ref mdr, .int (nI mm - 1), .ref mtx, .ref mod, .ref mia, .ref mus, .ref mol, .ref mle, .int (nI my), .ref mrw, .ref mls]))] := hD
  have hP9 := hP.sub (ws' := [(mo, .inr (5, [.int (nI sp), .int (nI 0), .ref mdr, .int (nI mm - 1), .ref mtx, .ref mod, .ref mia, .ref mus, .ref mol, .ref mle, .int (nI my), .ref mrw, .ref mls]))]) [0] rfl
  have hD9 := hD.sub (ws' := [(mo, .inr (5, [.int (nI sp), .int (nI 0), .ref mdr, .int (nI mm - 1), .ref mtx, .ref mod, .ref mia, .ref mus, .ref mol, .ref mle, .int (nI my), .ref mrw, .ref mls]))]) [0] (by decide) rfl
  exact W.vret hx hb hr (fun t ht hW => ⟨⟨(), rfl, (by first | trivial | assumption | omega), by rw [ht]; exact hP9, hD9⟩, hS.F ht⟩) hS.2.2 d_Mo_scrap_5

set_option maxHeartbeats 4000000 in
set_option maxRecDepth 100000 in
theorem c_Mo_suffix (l : Launch) (dC : Nat → ClassId) (dI : Nat → Nat → Nat) (ky : ClassId) (sz : Nat) (mo : Nat) (sp : Nat) (d : Nat) (mdr : Nat) (mm : Nat) (mtx : Nat) (mod : Nat) (mia : Nat) (mus : Nat) (mol : Nat) (mle : Nat) (my : Nat) (mrw : Nat) (mls : Nat) (Od : Nat → Nat) (xk : Int32) (hOd : ∀ k_, Od k_ < 97) (hmm : mm ≤ 97) (hsp : 2 ≤ sp ∧ sp ≤ 16) : Met l y_Mo_suffix (Cond.code y_Mo_suffix prog_7_method_18_code 2 (some .int) :: W0) ({ frames := 0, cells := 0, slots := 0, locals := 0 }) (va_Pc [.ref mo, .int (xk)] (fun U => U.heap.size = sz ∧ va_P (dC, dI) cls_ [(mo, .inr (5, [.int (nI sp), .int (nI d), .ref mdr, .int (nI mm - 1), .ref mtx, .ref mod, .ref mia, .ref mus, .ref mol, .ref mle, .int (nI my), .ref mrw, .ref mls])), (mod, .inl (ky, 97, .inl (nA Od)))] U.heap ∧ va_K (dC, dI) cls_ [(ky, .int)] U ∧ va_D (fun _ => True) [(mo, .inr (5, [.int (nI sp), .int (nI d), .ref mdr, .int (nI mm - 1), .ref mtx, .ref mod, .ref mia, .ref mus, .ref mol, .ref mle, .int (nI my), .ref mrw, .ref mls])), (mod, .inl (ky, 97, .inl (nA Od)))])) (va_Qi (fun (r : Int32) (_ : Unit) => (∃ k, k < mm ∧ xk = nI k ∧ r = nI (Od k)) ∨ ((∀ k, k < mm → xk ≠ nI k) ∧ r = nI 0 - 1)) (fun (_ : Unit) (t : State) => va_P (dC, dI) cls_ [(mo, .inr (5, [.int (nI sp), .int (nI d), .ref mdr, .int (nI mm - 1), .ref mtx, .ref mod, .ref mia, .ref mus, .ref mol, .ref mle, .int (nI my), .ref mrw, .ref mls])), (mod, .inl (ky, 97, .inl (nA Od)))] t.heap ∧ va_D (va_A [(mo, .inr (5, [.int (nI sp), .int (nI d), .ref mdr, .int (nI mm - 1), .ref mtx, .ref mod, .ref mia, .ref mus, .ref mol, .ref mle, .int (nI my), .ref mrw, .ref mls])), (mod, .inl (ky, 97, .inl (nA Od)))] sz) [(mo, .inr (5, [.int (nI sp), .int (nI d), .ref mdr, .int (nI mm - 1), .ref mtx, .ref mod, .ref mia, .ref mus, .ref mol, .ref mle, .int (nI my), .ref mrw, .ref mls])), (mod, .inl (ky, 97, .inl (nA Od)))]) (va_A [(mo, .inr (5, [.int (nI sp), .int (nI d), .ref mdr, .int (nI mm - 1), .ref mtx, .ref mod, .ref mia, .ref mus, .ref mol, .ref mle, .int (nI my), .ref mrw, .ref mls])), (mod, .inl (ky, 97, .inl (nA Od)))] sz)) 0 0 (va_A [(mo, .inr (5, [.int (nI sp), .int (nI d), .ref mdr, .int (nI mm - 1), .ref mtx, .ref mod, .ref mia, .ref mus, .ref mol, .ref mle, .int (nI my), .ref mrw, .ref mls])), (mod, .inl (ky, 97, .inl (nA Od)))] sz) := by
  refine Met.ofW (cc := prog_7_method_18_code) (maxL := 2) (ret := (some .int)) (by decide) rfl ?_
  intro p e s m args below meth c s₁ B hml hv
  obtain ⟨rfl, hsz, hP, hK, hD0⟩ := hv
  have hx := B.exec
  have hb := B.bytes
  have hr := B.returns
  have hlocks := B.notSynchronized
  have hts := atoms_spec (ws := (Cond.code y_Mo_suffix prog_7_method_18_code 2 (some .int) :: W0)) B.pre
  have htb : ∀ w ∈ W0, w.before _ s = true := fun w h => hts w (List.mem_cons_of_mem _ h)
  have hown : s.vm.findClass "SelfIndexedSequencesModel" = some m.cls := findClass_of_methodNamed B.named
  subst hsz
  have hD := hD0.self (sz := s.heap.size)
  generalize hAe : va_A [(mo, .inr (5, [.int (nI sp), .int (nI d), .ref mdr, .int (nI mm - 1), .ref mtx, .ref mod, .ref mia, .ref mus, .ref mol, .ref mle, .int (nI my), .ref mrw, .ref mls])), (mod, .inl (ky, 97, .inl (nA Od)))] s.heap.size = A at hD ⊢
  have hA : ∀ q : Nat, s.heap.size ≤ q → A q := fun q h => by rw [← hAe]; exact Or.inr h
  have hS : va_S A s.heap s.heap [] := va_S.rf
  have hl := lv_entry ([.ref mo, .int (xk)]) (n := 2) (Nat.le_of_ble_eq_true rfl)
  rw [lg_entry_eq]
  generalize (lg_sl ([.ref mo, .int (xk)]) ++ List.replicate (2 - (lg_sl ([.ref mo, .int (xk)])).length) Slot.unset).toArray = ls at hl ⊢
  have hl : lv_has ls 2 [(0, .ref mo), (1, .int (xk))] := hl
  refine lv_iload_n hx hb d_Mo_suffix_0 rfl (lv_at hl 1 rfl) ?_
  refine lv_if_lt (tgt := 12) hx hb d_Mo_suffix_1 (by decide) (fun hc1 => ?_) (fun hc1 => ?_)
  · skip
    refine lv_iconst (v := nI 0 - 1) hx hb d_Mo_suffix_12 (by decide) ?_
    refine lv_goto (tgt := 22) hx hb d_Mo_suffix_13 (by decide) ?_
    have hP9 := hP.sub (ws' := [(mo, .inr (5, [.int (nI sp), .int (nI d), .ref mdr, .int (nI mm - 1), .ref mtx, .ref mod, .ref mia, .ref mus, .ref mol, .ref mle, .int (nI my), .ref mrw, .ref mls])), (mod, .inl (ky, 97, .inl (nA Od)))]) [0, 1] rfl
    have hD9 := hD.sub (ws' := [(mo, .inr (5, [.int (nI sp), .int (nI d), .ref mdr, .int (nI mm - 1), .ref mtx, .ref mod, .ref mia, .ref mus, .ref mol, .ref mle, .int (nI my), .ref mrw, .ref mls])), (mod, .inl (ky, 97, .inl (nA Od)))]) [0, 1] (by decide) rfl
    exact W.iret (v := nI 0 - 1) hx hb hr (fun t ht hW => ⟨⟨nI 0 - 1, (), rfl, (by first | exact Or.inl ⟨k, by omega, hxk, rfl⟩ | exact Or.inr ⟨bw_neg hc1, rfl⟩ | exact Or.inr ⟨fun u hu e => by rw [hxk, nI_eq (by omega) (by omega)] at e; omega, rfl⟩), by rw [ht]; exact hP9, hD9⟩, hS.F ht⟩) hS.2.2 d_Mo_suffix_22
  · skip
    obtain ⟨k, hk1, hxk⟩ := bw_nn hc1
    have hv_ : xk = nI k := hxk
    rw [hv_] at hl
    have hl : lv_has ls 2 [(0, .ref mo), (1, .int (nI k))] := hl
    refine lv_iload_n hx hb d_Mo_suffix_4 rfl (lv_at hl 1 rfl) ?_
    refine lv_aload_n hx hb d_Mo_suffix_5 rfl (lv_at hl 0 rfl) ?_
    refine va_get (D := (dC, dI)) (ci := 5) (v := .int (nI mm - 1)) (C := R_Mo) (T := F_Mo) (N := 13) hx hb htb in_Mo hown hK hP 0 rfl rfl 3 (by decide) (htb _ tw_364) (fun _ h9 => h9) rfl d_Mo_suffix_6 ?_
    refine lv_icmp_le (tgt := 16) hx hb d_Mo_suffix_9 (by decide) (fun hc9 => ?_) (fun hc9 => ?_)
    · skip
      rw [bw_le_np (by omega) (by omega)] at hc9
      refine lv_aload_n hx hb d_Mo_suffix_16 rfl (lv_at hl 0 rfl) ?_
      refine va_get (D := (dC, dI)) (ci := 5) (v := .ref mod) (C := R_Mo) (T := F_Mo) (N := 13) hx hb htb in_Mo hown hK hP 0 rfl rfl 5 (by decide) (htb _ tw_366) (fun _ h9 => h9) rfl d_Mo_suffix_17 ?_
      refine lv_iload_n hx hb d_Mo_suffix_20 rfl (lv_at hl 1 rfl) ?_
      refine va_iald hx hb hK hP 1 0 rfl rfl (vp_in_nI (by omega) (by decide)) d_Mo_suffix_21 ?_
      rw [nI_clamp (by omega)]
      have hb21 := hOd k
      rw [nA_at]
      have hP9 := hP.sub (ws' := [(mo, .inr (5, [.int (nI sp), .int (nI d), .ref mdr, .int (nI mm - 1), .ref mtx, .ref mod, .ref mia, .ref mus, .ref mol, .ref mle, .int (nI my), .ref mrw, .ref mls])), (mod, .inl (ky, 97, .inl (nA Od)))]) [0, 1] rfl
      have hD9 := hD.sub (ws' := [(mo, .inr (5, [.int (nI sp), .int (nI d), .ref mdr, .int (nI mm - 1), .ref mtx, .ref mod, .ref mia, .ref mus, .ref mol, .ref mle, .int (nI my), .ref mrw, .ref mls])), (mod, .inl (ky, 97, .inl (nA Od)))]) [0, 1] (by decide) rfl
      exact W.iret (v := nI (Od k)) hx hb hr (fun t ht hW => ⟨⟨nI (Od k), (), rfl, (by first | exact Or.inl ⟨k, by omega, hxk, rfl⟩ | exact Or.inr ⟨bw_neg hc1, rfl⟩ | exact Or.inr ⟨fun u hu e => by rw [hxk, nI_eq (by omega) (by omega)] at e; omega, rfl⟩), by rw [ht]; exact hP9, hD9⟩, hS.F ht⟩) hS.2.2 d_Mo_suffix_22
    · skip
      rw [bw_le_np (by omega) (by omega)] at hc9
      refine lv_iconst (v := nI 0 - 1) hx hb d_Mo_suffix_12 (by decide) ?_
      refine lv_goto (tgt := 22) hx hb d_Mo_suffix_13 (by decide) ?_
      have hP9 := hP.sub (ws' := [(mo, .inr (5, [.int (nI sp), .int (nI d), .ref mdr, .int (nI mm - 1), .ref mtx, .ref mod, .ref mia, .ref mus, .ref mol, .ref mle, .int (nI my), .ref mrw, .ref mls])), (mod, .inl (ky, 97, .inl (nA Od)))]) [0, 1] rfl
      have hD9 := hD.sub (ws' := [(mo, .inr (5, [.int (nI sp), .int (nI d), .ref mdr, .int (nI mm - 1), .ref mtx, .ref mod, .ref mia, .ref mus, .ref mol, .ref mle, .int (nI my), .ref mrw, .ref mls])), (mod, .inl (ky, 97, .inl (nA Od)))]) [0, 1] (by decide) rfl
      exact W.iret (v := nI 0 - 1) hx hb hr (fun t ht hW => ⟨⟨nI 0 - 1, (), rfl, (by first | exact Or.inl ⟨k, by omega, hxk, rfl⟩ | exact Or.inr ⟨bw_neg hc1, rfl⟩ | exact Or.inr ⟨fun u hu e => by rw [hxk, nI_eq (by omega) (by omega)] at e; omega, rfl⟩), by rw [ht]; exact hP9, hD9⟩, hS.F ht⟩) hS.2.2 d_Mo_suffix_22

set_option maxHeartbeats 4000000 in
set_option maxRecDepth 100000 in
theorem c_Mo_walk (l : Launch) (dC : Nat → ClassId) (dI : Nat → Nat → Nat) (ky : ClassId) (sz : Nat) (mo : Nat) (sp : Nat) (d : Nat) (mdr : Nat) (mm : Nat) (mtx : Nat) (mod : Nat) (mia : Nat) (mus : Nat) (mol : Nat) (mle : Nat) (my : Nat) (mrw : Nat) (mls : Nat) (Od : Nat → Nat) (xk : Int32) (hOd : ∀ k_, Od k_ < 97) (hmm : mm ≤ 97) (hsp : 2 ≤ sp ∧ sp ≤ 16) : Met l y_Mo_walk (Cond.code y_Mo_walk prog_7_method_19_code 2 (some .int) :: W0) ({ frames := 0, cells := 0, slots := 0, locals := 0 }) (va_Pc [.ref mo, .int (xk)] (fun U => U.heap.size = sz ∧ va_P (dC, dI) cls_ [(mo, .inr (5, [.int (nI sp), .int (nI d), .ref mdr, .int (nI mm - 1), .ref mtx, .ref mod, .ref mia, .ref mus, .ref mol, .ref mle, .int (nI my), .ref mrw, .ref mls])), (mod, .inl (ky, 97, .inl (nA Od)))] U.heap ∧ va_K (dC, dI) cls_ [(ky, .int)] U ∧ va_D (fun _ => True) [(mo, .inr (5, [.int (nI sp), .int (nI d), .ref mdr, .int (nI mm - 1), .ref mtx, .ref mod, .ref mia, .ref mus, .ref mol, .ref mle, .int (nI my), .ref mrw, .ref mls])), (mod, .inl (ky, 97, .inl (nA Od)))])) (va_Qi (fun (r : Int32) (_ : Unit) => (∃ k, k < mm ∧ xk = nI k ∧ r = nI (Od k % sp)) ∨ ((∀ k, k < mm → xk ≠ nI k) ∧ r = nI 0 - 1)) (fun (_ : Unit) (t : State) => va_P (dC, dI) cls_ [(mo, .inr (5, [.int (nI sp), .int (nI d), .ref mdr, .int (nI mm - 1), .ref mtx, .ref mod, .ref mia, .ref mus, .ref mol, .ref mle, .int (nI my), .ref mrw, .ref mls])), (mod, .inl (ky, 97, .inl (nA Od)))] t.heap ∧ va_D (va_A [(mo, .inr (5, [.int (nI sp), .int (nI d), .ref mdr, .int (nI mm - 1), .ref mtx, .ref mod, .ref mia, .ref mus, .ref mol, .ref mle, .int (nI my), .ref mrw, .ref mls])), (mod, .inl (ky, 97, .inl (nA Od)))] sz) [(mo, .inr (5, [.int (nI sp), .int (nI d), .ref mdr, .int (nI mm - 1), .ref mtx, .ref mod, .ref mia, .ref mus, .ref mol, .ref mle, .int (nI my), .ref mrw, .ref mls])), (mod, .inl (ky, 97, .inl (nA Od)))]) (va_A [(mo, .inr (5, [.int (nI sp), .int (nI d), .ref mdr, .int (nI mm - 1), .ref mtx, .ref mod, .ref mia, .ref mus, .ref mol, .ref mle, .int (nI my), .ref mrw, .ref mls])), (mod, .inl (ky, 97, .inl (nA Od)))] sz)) 0 0 (va_A [(mo, .inr (5, [.int (nI sp), .int (nI d), .ref mdr, .int (nI mm - 1), .ref mtx, .ref mod, .ref mia, .ref mus, .ref mol, .ref mle, .int (nI my), .ref mrw, .ref mls])), (mod, .inl (ky, 97, .inl (nA Od)))] sz) := by
  refine Met.ofW (cc := prog_7_method_19_code) (maxL := 2) (ret := (some .int)) (by decide) rfl ?_
  intro p e s m args below meth c s₁ B hml hv
  obtain ⟨rfl, hsz, hP, hK, hD0⟩ := hv
  have hx := B.exec
  have hb := B.bytes
  have hr := B.returns
  have hlocks := B.notSynchronized
  have hts := atoms_spec (ws := (Cond.code y_Mo_walk prog_7_method_19_code 2 (some .int) :: W0)) B.pre
  have htb : ∀ w ∈ W0, w.before _ s = true := fun w h => hts w (List.mem_cons_of_mem _ h)
  have hown : s.vm.findClass "SelfIndexedSequencesModel" = some m.cls := findClass_of_methodNamed B.named
  subst hsz
  have hD := hD0.self (sz := s.heap.size)
  generalize hAe : va_A [(mo, .inr (5, [.int (nI sp), .int (nI d), .ref mdr, .int (nI mm - 1), .ref mtx, .ref mod, .ref mia, .ref mus, .ref mol, .ref mle, .int (nI my), .ref mrw, .ref mls])), (mod, .inl (ky, 97, .inl (nA Od)))] s.heap.size = A at hD ⊢
  have hA : ∀ q : Nat, s.heap.size ≤ q → A q := fun q h => by rw [← hAe]; exact Or.inr h
  have hS : va_S A s.heap s.heap [] := va_S.rf
  have hl := lv_entry ([.ref mo, .int (xk)]) (n := 2) (Nat.le_of_ble_eq_true rfl)
  rw [lg_entry_eq]
  generalize (lg_sl ([.ref mo, .int (xk)]) ++ List.replicate (2 - (lg_sl ([.ref mo, .int (xk)])).length) Slot.unset).toArray = ls at hl ⊢
  have hl : lv_has ls 2 [(0, .ref mo), (1, .int (xk))] := hl
  refine lv_iload_n hx hb d_Mo_walk_0 rfl (lv_at hl 1 rfl) ?_
  refine lv_if_lt (tgt := 12) hx hb d_Mo_walk_1 (by decide) (fun hc1 => ?_) (fun hc1 => ?_)
  · skip
    refine lv_iconst (v := nI 0 - 1) hx hb d_Mo_walk_12 (by decide) ?_
    refine lv_goto (tgt := 27) hx hb d_Mo_walk_13 (by decide) ?_
    have hP9 := hP.sub (ws' := [(mo, .inr (5, [.int (nI sp), .int (nI d), .ref mdr, .int (nI mm - 1), .ref mtx, .ref mod, .ref mia, .ref mus, .ref mol, .ref mle, .int (nI my), .ref mrw, .ref mls])), (mod, .inl (ky, 97, .inl (nA Od)))]) [0, 1] rfl
    have hD9 := hD.sub (ws' := [(mo, .inr (5, [.int (nI sp), .int (nI d), .ref mdr, .int (nI mm - 1), .ref mtx, .ref mod, .ref mia, .ref mus, .ref mol, .ref mle, .int (nI my), .ref mrw, .ref mls])), (mod, .inl (ky, 97, .inl (nA Od)))]) [0, 1] (by decide) rfl
    exact W.iret (v := nI 0 - 1) hx hb hr (fun t ht hW => ⟨⟨nI 0 - 1, (), rfl, (by first | exact Or.inl ⟨k, by omega, hxk, rfl⟩ | exact Or.inr ⟨bw_neg hc1, rfl⟩ | exact Or.inr ⟨fun u hu e => by rw [hxk, nI_eq (by omega) (by omega)] at e; omega, rfl⟩), by rw [ht]; exact hP9, hD9⟩, hS.F ht⟩) hS.2.2 d_Mo_walk_27
  · skip
    obtain ⟨k, hk1, hxk⟩ := bw_nn hc1
    have hv_ : xk = nI k := hxk
    rw [hv_] at hl
    have hl : lv_has ls 2 [(0, .ref mo), (1, .int (nI k))] := hl
    refine lv_iload_n hx hb d_Mo_walk_4 rfl (lv_at hl 1 rfl) ?_
    refine lv_aload_n hx hb d_Mo_walk_5 rfl (lv_at hl 0 rfl) ?_
    refine va_get (D := (dC, dI)) (ci := 5) (v := .int (nI mm - 1)) (C := R_Mo) (T := F_Mo) (N := 13) hx hb htb in_Mo hown hK hP 0 rfl rfl 3 (by decide) (htb _ tw_364) (fun _ h9 => h9) rfl d_Mo_walk_6 ?_
    refine lv_icmp_le (tgt := 16) hx hb d_Mo_walk_9 (by decide) (fun hc9 => ?_) (fun hc9 => ?_)
    · skip
      rw [bw_le_np (by omega) (by omega)] at hc9
      refine lv_aload_n hx hb d_Mo_walk_16 rfl (lv_at hl 0 rfl) ?_
      refine va_get (D := (dC, dI)) (ci := 5) (v := .ref mod) (C := R_Mo) (T := F_Mo) (N := 13) hx hb htb in_Mo hown hK hP 0 rfl rfl 5 (by decide) (htb _ tw_366) (fun _ h9 => h9) rfl d_Mo_walk_17 ?_
      refine lv_iload_n hx hb d_Mo_walk_20 rfl (lv_at hl 1 rfl) ?_
      refine va_iald hx hb hK hP 1 0 rfl rfl (vp_in_nI (by omega) (by decide)) d_Mo_walk_21 ?_
      rw [nI_clamp (by omega)]
      have hb21 := hOd k
      rw [nA_at]
      refine lv_aload_n hx hb d_Mo_walk_22 rfl (lv_at hl 0 rfl) ?_
      refine va_get (D := (dC, dI)) (ci := 5) (v := .int (nI sp)) (C := R_Mo) (T := F_Mo) (N := 13) hx hb htb in_Mo hown hK hP 0 rfl rfl 0 (by decide) (htb _ tw_361) (fun _ h9 => h9) rfl d_Mo_walk_23 ?_
      refine lv_irem hx hb d_Mo_walk_26 (bw_ne0 (by omega) (by omega)) ?_
      rw [pk_rem (by omega) (by omega) (by omega)]
      have hP9 := hP.sub (ws' := [(mo, .inr (5, [.int (nI sp), .int (nI d), .ref mdr, .int (nI mm - 1), .ref mtx, .ref mod, .ref mia, .ref mus, .ref mol, .ref mle, .int (nI my), .ref mrw, .ref mls])), (mod, .inl (ky, 97, .inl (nA Od)))]) [0, 1] rfl
      have hD9 := hD.sub (ws' := [(mo, .inr (5, [.int (nI sp), .int (nI d), .ref mdr, .int (nI mm - 1), .ref mtx, .ref mod, .ref mia, .ref mus, .ref mol, .ref mle, .int (nI my), .ref mrw, .ref mls])), (mod, .inl (ky, 97, .inl (nA Od)))]) [0, 1] (by decide) rfl
      exact W.iret (v := nI ((Od k) % sp)) hx hb hr (fun t ht hW => ⟨⟨nI ((Od k) % sp), (), rfl, (by first | exact Or.inl ⟨k, by omega, hxk, rfl⟩ | exact Or.inr ⟨bw_neg hc1, rfl⟩ | exact Or.inr ⟨fun u hu e => by rw [hxk, nI_eq (by omega) (by omega)] at e; omega, rfl⟩), by rw [ht]; exact hP9, hD9⟩, hS.F ht⟩) hS.2.2 d_Mo_walk_27
    · skip
      rw [bw_le_np (by omega) (by omega)] at hc9
      refine lv_iconst (v := nI 0 - 1) hx hb d_Mo_walk_12 (by decide) ?_
      refine lv_goto (tgt := 27) hx hb d_Mo_walk_13 (by decide) ?_
      have hP9 := hP.sub (ws' := [(mo, .inr (5, [.int (nI sp), .int (nI d), .ref mdr, .int (nI mm - 1), .ref mtx, .ref mod, .ref mia, .ref mus, .ref mol, .ref mle, .int (nI my), .ref mrw, .ref mls])), (mod, .inl (ky, 97, .inl (nA Od)))]) [0, 1] rfl
      have hD9 := hD.sub (ws' := [(mo, .inr (5, [.int (nI sp), .int (nI d), .ref mdr, .int (nI mm - 1), .ref mtx, .ref mod, .ref mia, .ref mus, .ref mol, .ref mle, .int (nI my), .ref mrw, .ref mls])), (mod, .inl (ky, 97, .inl (nA Od)))]) [0, 1] (by decide) rfl
      exact W.iret (v := nI 0 - 1) hx hb hr (fun t ht hW => ⟨⟨nI 0 - 1, (), rfl, (by first | exact Or.inl ⟨k, by omega, hxk, rfl⟩ | exact Or.inr ⟨bw_neg hc1, rfl⟩ | exact Or.inr ⟨fun u hu e => by rw [hxk, nI_eq (by omega) (by omega)] at e; omega, rfl⟩), by rw [ht]; exact hP9, hD9⟩, hS.F ht⟩) hS.2.2 d_Mo_walk_27

set_option maxHeartbeats 4000000 in
set_option maxRecDepth 100000 in
theorem c_Mo_isLetterI (l : Launch) (dC : Nat → ClassId) (dI : Nat → Nat → Nat) (ky : ClassId) (sz : Nat) (x : Int32) : Met l y_Mo_isLetter (Cond.code y_Mo_isLetter prog_7_method_2_code 1 (some .boolean) :: W0) ({ frames := 0, cells := 0, slots := 0, locals := 0 }) (va_Pc [.int (x)] (fun U => U.heap.size = sz ∧ va_P (dC, dI) cls_ [] U.heap ∧ va_K (dC, dI) cls_ [(ky, .int)] U ∧ va_D (fun _ => True) [])) (va_Qi (fun (r : Int32) (_ : Unit) => ((∃ v, 97 ≤ v ∧ v ≤ 122 ∧ x = nI v) ∧ r = nI 1) ∨ ((∀ v, 97 ≤ v → v ≤ 122 → x ≠ nI v) ∧ r = nI 0)) (fun (_ : Unit) (t : State) => va_P (dC, dI) cls_ [] t.heap ∧ va_D (va_A [] sz) []) (va_A [] sz)) 0 0 (va_A [] sz) := by
  refine Met.ofW (cc := prog_7_method_2_code) (maxL := 1) (ret := (some .boolean)) (by decide) rfl ?_
  intro p e s m args below meth c s₁ B hml hv
  obtain ⟨rfl, hsz, hP, hK, hD0⟩ := hv
  have hx := B.exec
  have hb := B.bytes
  have hr := B.returns
  have hlocks := B.notSynchronized
  have hts := atoms_spec (ws := (Cond.code y_Mo_isLetter prog_7_method_2_code 1 (some .boolean) :: W0)) B.pre
  have htb : ∀ w ∈ W0, w.before _ s = true := fun w h => hts w (List.mem_cons_of_mem _ h)
  have hown : s.vm.findClass "SelfIndexedSequencesModel" = some m.cls := findClass_of_methodNamed B.named
  subst hsz
  have hD := hD0.self (sz := s.heap.size)
  generalize hAe : va_A [] s.heap.size = A at hD ⊢
  have hA : ∀ q : Nat, s.heap.size ≤ q → A q := fun q h => by rw [← hAe]; exact Or.inr h
  have hS : va_S A s.heap s.heap [] := va_S.rf
  have hl := lv_entry ([.int (x)]) (n := 1) (Nat.le_of_ble_eq_true rfl)
  rw [lg_entry_eq]
  generalize (lg_sl ([.int (x)]) ++ List.replicate (1 - (lg_sl ([.int (x)])).length) Slot.unset).toArray = ls at hl ⊢
  have hl : lv_has ls 1 [(0, .int (x))] := hl
  refine lv_iload_n hx hb d_Mo_isLetter_0 rfl (lv_at hl 0 rfl) ?_
  refine lv_bipush (v := nI 97) hx hb d_Mo_isLetter_1 (by decide) ?_
  refine lv_icmp_lt (tgt := 16) hx hb d_Mo_isLetter_3 (by decide) (fun hc3 => ?_) (fun hc3 => ?_)
  · skip
    refine lv_iconst (v := nI 0) hx hb d_Mo_isLetter_16 (by decide) ?_
    have hP9 := hP.sub (ws' := []) [] rfl
    have hD9 := hD.sub (ws' := []) [] (by decide) rfl
    exact W.zret (v := nI 0) hx hb hr (by first | rfl | decide) (fun t ht hW => ⟨⟨nI 0, (), rfl, (by first | exact Or.inl ⟨bw_rng hc3 hc9, rfl⟩ | exact Or.inr ⟨bw_nrg (by first | exact Or.inl hc3 | exact Or.inr hc9), rfl⟩), by rw [ht]; exact hP9, hD9⟩, hS.F ht⟩) hS.2.2 d_Mo_isLetter_17
  · skip
    refine lv_iload_n hx hb d_Mo_isLetter_6 rfl (lv_at hl 0 rfl) ?_
    refine lv_bipush (v := nI 122) hx hb d_Mo_isLetter_7 (by decide) ?_
    refine lv_icmp_gt (tgt := 16) hx hb d_Mo_isLetter_9 (by decide) (fun hc9 => ?_) (fun hc9 => ?_)
    · skip
      refine lv_iconst (v := nI 0) hx hb d_Mo_isLetter_16 (by decide) ?_
      have hP9 := hP.sub (ws' := []) [] rfl
      have hD9 := hD.sub (ws' := []) [] (by decide) rfl
      exact W.zret (v := nI 0) hx hb hr (by first | rfl | decide) (fun t ht hW => ⟨⟨nI 0, (), rfl, (by first | exact Or.inl ⟨bw_rng hc3 hc9, rfl⟩ | exact Or.inr ⟨bw_nrg (by first | exact Or.inl hc3 | exact Or.inr hc9), rfl⟩), by rw [ht]; exact hP9, hD9⟩, hS.F ht⟩) hS.2.2 d_Mo_isLetter_17
    · skip
      refine lv_iconst (v := nI 1) hx hb d_Mo_isLetter_12 (by decide) ?_
      refine lv_goto (tgt := 17) hx hb d_Mo_isLetter_13 (by decide) ?_
      have hP9 := hP.sub (ws' := []) [] rfl
      have hD9 := hD.sub (ws' := []) [] (by decide) rfl
      exact W.zret (v := nI 1) hx hb hr (by first | rfl | decide) (fun t ht hW => ⟨⟨nI 1, (), rfl, (by first | exact Or.inl ⟨bw_rng hc3 hc9, rfl⟩ | exact Or.inr ⟨bw_nrg (by first | exact Or.inl hc3 | exact Or.inr hc9), rfl⟩), by rw [ht]; exact hP9, hD9⟩, hS.F ht⟩) hS.2.2 d_Mo_isLetter_17

set_option maxHeartbeats 4000000 in
set_option maxRecDepth 100000 in
theorem c_Mo_isSymbolI (l : Launch) (dC : Nat → ClassId) (dI : Nat → Nat → Nat) (ky : ClassId) (sz : Nat) (x : Int32) : Met l y_Mo_isSymbol (Cond.code y_Mo_isSymbol prog_7_method_3_code 1 (some .boolean) :: W0) ({ frames := 1, cells := 0, slots := 0, locals := 20 }) (va_Pc [.int (x)] (fun U => U.heap.size = sz ∧ va_P (dC, dI) cls_ [] U.heap ∧ va_K (dC, dI) cls_ [(ky, .int)] U ∧ va_D (fun _ => True) [])) (va_Qi (fun (r : Int32) (_ : Unit) => ((∃ v, isS v ∧ x = nI v) ∧ r = nI 1) ∨ ((∀ v, isS v → x ≠ nI v) ∧ r = nI 0)) (fun (_ : Unit) (t : State) => va_P (dC, dI) cls_ [] t.heap ∧ va_D (va_A [] sz) []) (va_A [] sz)) 0 0 (va_A [] sz) := by
  refine Met.ofW (cc := prog_7_method_3_code) (maxL := 1) (ret := (some .boolean)) (by decide) rfl ?_
  intro p e s m args below meth c s₁ B hml hv
  obtain ⟨rfl, hsz, hP, hK, hD0⟩ := hv
  have hx := B.exec
  have hb := B.bytes
  have hr := B.returns
  have hlocks := B.notSynchronized
  have hts := atoms_spec (ws := (Cond.code y_Mo_isSymbol prog_7_method_3_code 1 (some .boolean) :: W0)) B.pre
  have htb : ∀ w ∈ W0, w.before _ s = true := fun w h => hts w (List.mem_cons_of_mem _ h)
  have hown : s.vm.findClass "SelfIndexedSequencesModel" = some m.cls := findClass_of_methodNamed B.named
  subst hsz
  have hD := hD0.self (sz := s.heap.size)
  generalize hAe : va_A [] s.heap.size = A at hD ⊢
  have hA : ∀ q : Nat, s.heap.size ≤ q → A q := fun q h => by rw [← hAe]; exact Or.inr h
  have hS : va_S A s.heap s.heap [] := va_S.rf
  have hl := lv_entry ([.int (x)]) (n := 1) (Nat.le_of_ble_eq_true rfl)
  rw [lg_entry_eq]
  generalize (lg_sl ([.int (x)]) ++ List.replicate (1 - (lg_sl ([.int (x)])).length) Slot.unset).toArray = ls at hl ⊢
  have hl : lv_has ls 1 [(0, .int (x))] := hl
  refine lv_iload_n hx hb d_Mo_isSymbol_0 rfl (lv_at hl 0 rfl) ?_
  refine lv_bipush (v := nI 36) hx hb d_Mo_isSymbol_1 (by decide) ?_
  refine lv_icmp_eq (tgt := 19) hx hb d_Mo_isSymbol_3 (by decide) (fun hc3 => ?_) (fun hc3 => ?_)
  · skip
    refine lv_iconst (v := nI 1) hx hb d_Mo_isSymbol_19 (by decide) ?_
    refine lv_goto (tgt := 24) hx hb d_Mo_isSymbol_20 (by decide) ?_
    have hP9 := hP.sub (ws' := []) [] rfl
    have hD9 := hD.sub (ws' := []) [] (by decide) rfl
    exact W.zret (v := nI 1) hx hb hr (by first | rfl | decide) (fun t ht hW => ⟨⟨nI 1, (), rfl, (by first | exact Or.inl ⟨⟨36, Or.inl rfl, by assumption⟩, rfl⟩ | exact Or.inl ⟨⟨124, Or.inr (Or.inl rfl), by assumption⟩, rfl⟩ | exact Or.inl ⟨⟨v, Or.inr (Or.inr ⟨h1, h2⟩), h3⟩, rfl⟩ | exact Or.inr ⟨fun v hs e => by rcases hs with q | q | q; exact hc3 (by rw [e, q]); exact hc9 (by rw [e, q]); exact h1 v q.1 q.2 e, rfl⟩), by rw [ht]; exact hP9, hD9⟩, hS.F ht⟩) hS.2.2 d_Mo_isSymbol_24
  · skip
    refine lv_iload_n hx hb d_Mo_isSymbol_6 rfl (lv_at hl 0 rfl) ?_
    refine lv_bipush (v := nI 124) hx hb d_Mo_isSymbol_7 (by decide) ?_
    refine lv_icmp_eq (tgt := 19) hx hb d_Mo_isSymbol_9 (by decide) (fun hc9 => ?_) (fun hc9 => ?_)
    · skip
      refine lv_iconst (v := nI 1) hx hb d_Mo_isSymbol_19 (by decide) ?_
      refine lv_goto (tgt := 24) hx hb d_Mo_isSymbol_20 (by decide) ?_
      have hP9 := hP.sub (ws' := []) [] rfl
      have hD9 := hD.sub (ws' := []) [] (by decide) rfl
      exact W.zret (v := nI 1) hx hb hr (by first | rfl | decide) (fun t ht hW => ⟨⟨nI 1, (), rfl, (by first | exact Or.inl ⟨⟨36, Or.inl rfl, by assumption⟩, rfl⟩ | exact Or.inl ⟨⟨124, Or.inr (Or.inl rfl), by assumption⟩, rfl⟩ | exact Or.inl ⟨⟨v, Or.inr (Or.inr ⟨h1, h2⟩), h3⟩, rfl⟩ | exact Or.inr ⟨fun v hs e => by rcases hs with q | q | q; exact hc3 (by rw [e, q]); exact hc9 (by rw [e, q]); exact h1 v q.1 q.2 e, rfl⟩), by rw [ht]; exact hP9, hD9⟩, hS.F ht⟩) hS.2.2 d_Mo_isSymbol_24
    · skip
      refine lv_iload_n hx hb d_Mo_isSymbol_12 rfl (lv_at hl 0 rfl) ?_
      have hPc := hP.sub (ws' := []) [] rfl
      have hDc := hD.sub (ws' := []) [] (by decide) rfl
      have hFc := va_free (wc := []) hD hS hA [] rfl
      refine va_calli (va_runS (As := [.int (x)]) (rest := []) ⟨hx, hb, hml, hown, hts⟩ (c_Mo_isLetterI l dC dI ky s.heap.size x ) ⟨callB_of 1 hts (W0_good tw_415) rfl rfl rfl (htb _ tw_28) (htb _ tw_413) ⟨by decide, by decide, by decide +kernel⟩ ⟨(Nat.le_of_ble_eq_true rfl), (Nat.le_of_ble_eq_true rfl)⟩, htb _ tw_414⟩ ⟨fun a U g mk q => by obtain ⟨q0, q1, qP, qK, qD⟩ := q; exact ⟨q0, q1, qP, va_K.moved (u := U) (U := U.calling g mk a) (Vm.Alike.refl U.vm) qK, qD⟩, fun U hU hW => ⟨rfl, by rw [hU], by rw [hU]; exact hPc, va_K.moved hW.alike hK, hDc.weaken (fun _ _ _ _ => trivial)⟩⟩ rfl rfl hl.1 rfl (lv_room (Nat.le_of_ble_eq_true rfl)) d_Mo_isSymbol_13 ⟨(Nat.le_of_ble_eq_true rfl), (Nat.le_of_ble_eq_true rfl)⟩) hS (fun q _ h => hFc q h) hFc (fun r13 u_ t H locs ht hvm hw13 hB hz1 hk1 hS => ?_)
      obtain ⟨hP1, hD1⟩ := hB
      rw [ht] at hP1
      obtain ⟨hP, hD⟩ := va_join (wr := []) (w1 := []) hP hD [] [] rfl rfl (by decide) (by decide) hk1 hFc hP1 hD1
      have hP : va_P (dC, dI) cls_ [] H := hP
      have hD : va_D A [] := hD
      have hq13 : ((∃ v, 97 ≤ v ∧ v ≤ 122 ∧ x = nI v) ∧ r13 = nI 1) ∨ ((∀ v, 97 ≤ v → v ≤ 122 → x ≠ nI v) ∧ r13 = nI 0) := hw13
      rcases hq13 with ⟨⟨v, h1, h2, h3⟩, rfl⟩ | ⟨h1, rfl⟩
      · skip
        refine lv_if_eq (tgt := 23) hx hb d_Mo_isSymbol_16 (by decide) (fun hc16 => ?_) (fun hc16 => ?_)
        · exact absurd hc16 (by decide)
        · skip
          rw [← nI_0, bw_eq_nn (by omega) (by omega)] at hc16
          refine lv_iconst (v := nI 1) hx hb d_Mo_isSymbol_19 (by decide) ?_
          refine lv_goto (tgt := 24) hx hb d_Mo_isSymbol_20 (by decide) ?_
          have hP9 := hP.sub (ws' := []) [] rfl
          have hD9 := hD.sub (ws' := []) [] (by decide) rfl
          exact W.zret (v := nI 1) hx hb hr (by first | rfl | decide) (fun t ht hW => ⟨⟨nI 1, (), rfl, (by first | exact Or.inl ⟨⟨36, Or.inl rfl, by assumption⟩, rfl⟩ | exact Or.inl ⟨⟨124, Or.inr (Or.inl rfl), by assumption⟩, rfl⟩ | exact Or.inl ⟨⟨v, Or.inr (Or.inr ⟨h1, h2⟩), h3⟩, rfl⟩ | exact Or.inr ⟨fun v hs e => by rcases hs with q | q | q; exact hc3 (by rw [e, q]); exact hc9 (by rw [e, q]); exact h1 v q.1 q.2 e, rfl⟩), by rw [ht]; exact hP9, hD9⟩, hS.F ht⟩) hS.2.2 d_Mo_isSymbol_24
      · skip
        refine lv_if_eq (tgt := 23) hx hb d_Mo_isSymbol_16 (by decide) (fun hc16 => ?_) (fun hc16 => ?_)
        · skip
          rw [← nI_0, bw_eq_nn (by omega) (by omega)] at hc16
          refine lv_iconst (v := nI 0) hx hb d_Mo_isSymbol_23 (by decide) ?_
          have hP9 := hP.sub (ws' := []) [] rfl
          have hD9 := hD.sub (ws' := []) [] (by decide) rfl
          exact W.zret (v := nI 0) hx hb hr (by first | rfl | decide) (fun t ht hW => ⟨⟨nI 0, (), rfl, (by first | exact Or.inl ⟨⟨36, Or.inl rfl, by assumption⟩, rfl⟩ | exact Or.inl ⟨⟨124, Or.inr (Or.inl rfl), by assumption⟩, rfl⟩ | exact Or.inl ⟨⟨v, Or.inr (Or.inr ⟨h1, h2⟩), h3⟩, rfl⟩ | exact Or.inr ⟨fun v hs e => by rcases hs with q | q | q; exact hc3 (by rw [e, q]); exact hc9 (by rw [e, q]); exact h1 v q.1 q.2 e, rfl⟩), by rw [ht]; exact hP9, hD9⟩, hS.F ht⟩) hS.2.2 d_Mo_isSymbol_24
        · exact absurd hc16 (by decide)

set_option maxHeartbeats 4000000 in
set_option maxRecDepth 100000 in
theorem c_Mo_rank (l : Launch) (dC : Nat → ClassId) (dI : Nat → Nat → Nat) (ky : ClassId) (sz : Nat) (mo : Nat) (sp : Nat) (d : Nat) (mdr : Nat) (mm : Nat) (mtx : Nat) (mod : Nat) (mia : Nat) (mus : Nat) (mol : Nat) (mle : Nat) (my : Nat) (mrw : Nat) (mls : Nat) (Ia : Nat → Nat) (S : Nat → Nat) (xs : Int32) (xi : Int32) (hIa : ∀ k_, Ia k_ < 125) (hmm : mm ≤ 97) (hS28 : ∀ k_, S k_ < 28) (hIS : ∀ j, j < mm → Ia j = cod (S j)) : Met l y_Mo_rank (Cond.code y_Mo_rank prog_7_method_17_code 5 (some .int) :: W0) ({ frames := 2, cells := 0, slots := 0, locals := 40 }) (va_Pc [.ref mo, .int (xs), .int (xi)] (fun U => U.heap.size = sz ∧ va_P (dC, dI) cls_ [(mo, .inr (5, [.int (nI sp), .int (nI d), .ref mdr, .int (nI mm - 1), .ref mtx, .ref mod, .ref mia, .ref mus, .ref mol, .ref mle, .int (nI my), .ref mrw, .ref mls])), (mia, .inl (ky, 97, .inl (nA Ia)))] U.heap ∧ va_K (dC, dI) cls_ [(ky, .int)] U ∧ va_D (fun _ => True) [(mo, .inr (5, [.int (nI sp), .int (nI d), .ref mdr, .int (nI mm - 1), .ref mtx, .ref mod, .ref mia, .ref mus, .ref mol, .ref mle, .int (nI my), .ref mrw, .ref mls])), (mia, .inl (ky, 97, .inl (nA Ia)))])) (va_Qi (fun (r : Int32) (_ : Unit) => (∃ v i, isS v ∧ xs = nI v ∧ i ≤ mm ∧ xi = nI i ∧ r = nI (num (fun j => S j = sno v) i)) ∨ ((∀ v i, isS v → xs = nI v → i ≤ mm → xi ≠ nI i) ∧ r = nI 0 - 1)) (fun (_ : Unit) (t : State) => va_P (dC, dI) cls_ [(mo, .inr (5, [.int (nI sp), .int (nI d), .ref mdr, .int (nI mm - 1), .ref mtx, .ref mod, .ref mia, .ref mus, .ref mol, .ref mle, .int (nI my), .ref mrw, .ref mls])), (mia, .inl (ky, 97, .inl (nA Ia)))] t.heap ∧ va_D (va_A [(mo, .inr (5, [.int (nI sp), .int (nI d), .ref mdr, .int (nI mm - 1), .ref mtx, .ref mod, .ref mia, .ref mus, .ref mol, .ref mle, .int (nI my), .ref mrw, .ref mls])), (mia, .inl (ky, 97, .inl (nA Ia)))] sz) [(mo, .inr (5, [.int (nI sp), .int (nI d), .ref mdr, .int (nI mm - 1), .ref mtx, .ref mod, .ref mia, .ref mus, .ref mol, .ref mle, .int (nI my), .ref mrw, .ref mls])), (mia, .inl (ky, 97, .inl (nA Ia)))]) (va_A [(mo, .inr (5, [.int (nI sp), .int (nI d), .ref mdr, .int (nI mm - 1), .ref mtx, .ref mod, .ref mia, .ref mus, .ref mol, .ref mle, .int (nI my), .ref mrw, .ref mls])), (mia, .inl (ky, 97, .inl (nA Ia)))] sz)) 0 0 (va_A [(mo, .inr (5, [.int (nI sp), .int (nI d), .ref mdr, .int (nI mm - 1), .ref mtx, .ref mod, .ref mia, .ref mus, .ref mol, .ref mle, .int (nI my), .ref mrw, .ref mls])), (mia, .inl (ky, 97, .inl (nA Ia)))] sz) := by
  refine Met.ofW (cc := prog_7_method_17_code) (maxL := 5) (ret := (some .int)) (by decide) rfl ?_
  intro p e s m args below meth c s₁ B hml hv
  obtain ⟨rfl, hsz, hP, hK, hD0⟩ := hv
  have hx := B.exec
  have hb := B.bytes
  have hr := B.returns
  have hlocks := B.notSynchronized
  have hts := atoms_spec (ws := (Cond.code y_Mo_rank prog_7_method_17_code 5 (some .int) :: W0)) B.pre
  have htb : ∀ w ∈ W0, w.before _ s = true := fun w h => hts w (List.mem_cons_of_mem _ h)
  have hown : s.vm.findClass "SelfIndexedSequencesModel" = some m.cls := findClass_of_methodNamed B.named
  subst hsz
  have hD := hD0.self (sz := s.heap.size)
  generalize hAe : va_A [(mo, .inr (5, [.int (nI sp), .int (nI d), .ref mdr, .int (nI mm - 1), .ref mtx, .ref mod, .ref mia, .ref mus, .ref mol, .ref mle, .int (nI my), .ref mrw, .ref mls])), (mia, .inl (ky, 97, .inl (nA Ia)))] s.heap.size = A at hD ⊢
  have hA : ∀ q : Nat, s.heap.size ≤ q → A q := fun q h => by rw [← hAe]; exact Or.inr h
  have hS : va_S A s.heap s.heap [] := va_S.rf
  have hl := lv_entry ([.ref mo, .int (xs), .int (xi)]) (n := 5) (Nat.le_of_ble_eq_true rfl)
  rw [lg_entry_eq]
  generalize (lg_sl ([.ref mo, .int (xs), .int (xi)]) ++ List.replicate (5 - (lg_sl ([.ref mo, .int (xs), .int (xi)])).length) Slot.unset).toArray = ls at hl ⊢
  have hl : lv_has ls 5 [(0, .ref mo), (1, .int (xs)), (2, .int (xi))] := hl
  refine lv_iload_n hx hb d_Mo_rank_0 rfl (lv_at hl 2 rfl) ?_
  refine lv_if_lt (tgt := 21) hx hb d_Mo_rank_1 (by decide) (fun hc1 => ?_) (fun hc1 => ?_)
  · skip
    refine lv_iconst (v := nI 0 - 1) hx hb d_Mo_rank_21 (by decide) ?_
    have hP9 := hP.sub (ws' := [(mo, .inr (5, [.int (nI sp), .int (nI d), .ref mdr, .int (nI mm - 1), .ref mtx, .ref mod, .ref mia, .ref mus, .ref mol, .ref mle, .int (nI my), .ref mrw, .ref mls])), (mia, .inl (ky, 97, .inl (nA Ia)))]) [0, 1] rfl
    have hD9 := hD.sub (ws' := [(mo, .inr (5, [.int (nI sp), .int (nI d), .ref mdr, .int (nI mm - 1), .ref mtx, .ref mod, .ref mia, .ref mus, .ref mol, .ref mle, .int (nI my), .ref mrw, .ref mls])), (mia, .inl (ky, 97, .inl (nA Ia)))]) [0, 1] (by decide) rfl
    exact W.iret (v := nI 0 - 1) hx hb hr (fun t ht hW => ⟨⟨nI 0 - 1, (), rfl, (by first | exact Or.inr ⟨fun v i _ _ hi => bw_neg (n := mm + 1) hc1 (by omega) i (by omega), rfl⟩ | exact Or.inr ⟨fun v i _ _ hi e => by rw [hxi, nI_eq (by omega) (by omega)] at e; omega, rfl⟩ | exact Or.inr ⟨fun v i hs e _ _ => hnS v hs e, rfl⟩), by rw [ht]; exact hP9, hD9⟩, hS.F ht⟩) hS.2.2 d_Mo_rank_22
  · skip
    obtain ⟨i0, hi1, hxi⟩ := bw_nn hc1
    have hv_ : xi = nI i0 := hxi
    rw [hv_] at hl
    have hl : lv_has ls 5 [(0, .ref mo), (1, .int (xs)), (2, .int (nI i0))] := hl
    refine lv_iload_n hx hb d_Mo_rank_4 rfl (lv_at hl 2 rfl) ?_
    refine lv_aload_n hx hb d_Mo_rank_5 rfl (lv_at hl 0 rfl) ?_
    refine va_get (D := (dC, dI)) (ci := 5) (v := .int (nI mm - 1)) (C := R_Mo) (T := F_Mo) (N := 13) hx hb htb in_Mo hown hK hP 0 rfl rfl 3 (by decide) (htb _ tw_364) (fun _ h9 => h9) rfl d_Mo_rank_6 ?_
    refine lv_iconst (v := nI 1) hx hb d_Mo_rank_9 (by decide) ?_
    refine lv_iadd hx hb d_Mo_rank_10 ?_
    rw [bw_p1 mm]
    refine lv_icmp_gt (tgt := 21) hx hb d_Mo_rank_11 (by decide) (fun hc11 => ?_) (fun hc11 => ?_)
    · skip
      rw [bw_lt_nn (by omega) (by omega)] at hc11
      refine lv_iconst (v := nI 0 - 1) hx hb d_Mo_rank_21 (by decide) ?_
      have hP9 := hP.sub (ws' := [(mo, .inr (5, [.int (nI sp), .int (nI d), .ref mdr, .int (nI mm - 1), .ref mtx, .ref mod, .ref mia, .ref mus, .ref mol, .ref mle, .int (nI my), .ref mrw, .ref mls])), (mia, .inl (ky, 97, .inl (nA Ia)))]) [0, 1] rfl
      have hD9 := hD.sub (ws' := [(mo, .inr (5, [.int (nI sp), .int (nI d), .ref mdr, .int (nI mm - 1), .ref mtx, .ref mod, .ref mia, .ref mus, .ref mol, .ref mle, .int (nI my), .ref mrw, .ref mls])), (mia, .inl (ky, 97, .inl (nA Ia)))]) [0, 1] (by decide) rfl
      exact W.iret (v := nI 0 - 1) hx hb hr (fun t ht hW => ⟨⟨nI 0 - 1, (), rfl, (by first | exact Or.inr ⟨fun v i _ _ hi => bw_neg (n := mm + 1) hc1 (by omega) i (by omega), rfl⟩ | exact Or.inr ⟨fun v i _ _ hi e => by rw [hxi, nI_eq (by omega) (by omega)] at e; omega, rfl⟩ | exact Or.inr ⟨fun v i hs e _ _ => hnS v hs e, rfl⟩), by rw [ht]; exact hP9, hD9⟩, hS.F ht⟩) hS.2.2 d_Mo_rank_22
    · skip
      rw [bw_lt_nn (by omega) (by omega)] at hc11
      refine lv_iload_n hx hb d_Mo_rank_14 rfl (lv_at hl 1 rfl) ?_
      have hPc := hP.sub (ws' := []) [] rfl
      have hDc := hD.sub (ws' := []) [] (by decide) rfl
      have hFc := va_free (wc := []) hD hS hA [] rfl
      refine va_calli (va_runS (As := [.int (xs)]) (rest := []) ⟨hx, hb, hml, hown, hts⟩ (c_Mo_isSymbolI l dC dI ky s.heap.size xs ) ⟨callB_of 1 hts (W0_good tw_412) rfl rfl rfl (htb _ tw_28) (htb _ tw_410) ⟨by decide, by decide, by decide +kernel⟩ ⟨(Nat.le_of_ble_eq_true rfl), (Nat.le_of_ble_eq_true rfl)⟩, htb _ tw_411⟩ ⟨fun a U g mk q => by obtain ⟨q0, q1, qP, qK, qD⟩ := q; exact ⟨q0, q1, qP, va_K.moved (u := U) (U := U.calling g mk a) (Vm.Alike.refl U.vm) qK, qD⟩, fun U hU hW => ⟨rfl, by rw [hU], by rw [hU]; exact hPc, va_K.moved hW.alike hK, hDc.weaken (fun _ _ _ _ => trivial)⟩⟩ rfl rfl hl.1 rfl (lv_room (Nat.le_of_ble_eq_true rfl)) d_Mo_rank_15 ⟨(Nat.le_of_ble_eq_true rfl), (Nat.le_of_ble_eq_true rfl)⟩) hS (fun q _ h => hFc q h) hFc (fun r15 u_ t H locs ht hvm hw15 hB hz1 hk1 hS => ?_)
      obtain ⟨hP1, hD1⟩ := hB
      rw [ht] at hP1
      obtain ⟨hP, hD⟩ := va_join (wr := [(mo, .inr (5, [.int (nI sp), .int (nI d), .ref mdr, .int (nI mm - 1), .ref mtx, .ref mod, .ref mia, .ref mus, .ref mol, .ref mle, .int (nI my), .ref mrw, .ref mls])), (mia, .inl (ky, 97, .inl (nA Ia)))]) (w1 := []) hP hD [] [0, 1] rfl rfl (by decide) (by decide) hk1 hFc hP1 hD1
      have hP : va_P (dC, dI) cls_ [(mo, .inr (5, [.int (nI sp), .int (nI d), .ref mdr, .int (nI mm - 1), .ref mtx, .ref mod, .ref mia, .ref mus, .ref mol, .ref mle, .int (nI my), .ref mrw, .ref mls])), (mia, .inl (ky, 97, .inl (nA Ia)))] H := hP
      have hD : va_D A [(mo, .inr (5, [.int (nI sp), .int (nI d), .ref mdr, .int (nI mm - 1), .ref mtx, .ref mod, .ref mia, .ref mus, .ref mol, .ref mle, .int (nI my), .ref mrw, .ref mls])), (mia, .inl (ky, 97, .inl (nA Ia)))] := hD
      have hq15 : ((∃ v, isS v ∧ xs = nI v) ∧ r15 = nI 1) ∨ ((∀ v, isS v → xs ≠ nI v) ∧ r15 = nI 0) := hw15
      rcases hq15 with ⟨⟨v, hvS, hxv⟩, rfl⟩ | ⟨hnS, rfl⟩
      · skip
        have hv122 : v < 125 := by unfold isS at hvS; omega
        have hcs := cod_sno hvS
        have hv_ : xs = nI v := hxv
        rw [hv_] at hl
        have hl : lv_has ls 5 [(0, .ref mo), (1, .int (nI v)), (2, .int (nI i0))] := hl
        refine lv_if_ne (tgt := 23) hx hb d_Mo_rank_18 (by decide) (fun hc18 => ?_) (fun hc18 => ?_)
        · skip
          rw [← nI_0, bw_eq_nn (by omega) (by omega)] at hc18
          refine lv_iconst (v := nI 0) hx hb d_Mo_rank_23 (by decide) ?_
          refine lv_istore_n hx hb d_Mo_rank_24 rfl hl (by decide) rfl (fun ls hl => ?_)
          have hl : lv_has ls 5 [(3, .int (nI 0)), (0, .ref mo), (1, .int (nI v)), (2, .int (nI i0))] := hl
          refine lv_iconst (v := nI 0) hx hb d_Mo_rank_25 (by decide) ?_
          refine lv_istore hx hb d_Mo_rank_26 hl (by decide) rfl (fun ls hl => ?_)
          have hl : lv_has ls 5 [(4, .int (nI 0)), (3, .int (nI 0)), (0, .ref mo), (1, .int (nI v)), (2, .int (nI i0))] := hl
          refine wl_loop (σ := Nat × Nat) 28 [] (fun (a_ : Nat × Nat) => match a_ with | (k, f) => i0 - k) (fun (a_ : Nat × Nat) (H : Heap) (locs : List Loc) (ls : Array Slot) => match a_ with | (k, f) => (k ≤ i0) ∧ (f = num (fun j => S j = sno v) k) ∧ (f ≤ k) ∧ va_P (dC, dI) cls_ [(mo, .inr (5, [.int (nI sp), .int (nI d), .ref mdr, .int (nI mm - 1), .ref mtx, .ref mod, .ref mia, .ref mus, .ref mol, .ref mle, .int (nI my), .ref mrw, .ref mls])), (mia, .inl (ky, 97, .inl (nA Ia)))] H ∧ va_D A [(mo, .inr (5, [.int (nI sp), .int (nI d), .ref mdr, .int (nI mm - 1), .ref mtx, .ref mod, .ref mia, .ref mus, .ref mol, .ref mle, .int (nI my), .ref mrw, .ref mls])), (mia, .inl (ky, 97, .inl (nA Ia)))] ∧ va_S A s.heap H locs ∧ lv_has ls 5 [(4, .int (nI k)), (3, .int (nI f)), (0, .ref mo), (1, .int (nI v)), (2, .int (nI i0))]) ?_ (0, 0) ⟨(by first | assumption | omega | (simp; done) | (simp_all; done)), rfl, (by first | assumption | omega | (simp; done) | (simp_all; done)), hP, hD, hS, lv_sub hl [0, 1, 2, 3, 4] rfl⟩
          clear hP hD hS hl
          intro a_ H locs ls hI ih28
          obtain ⟨k, f⟩ := a_
          obtain ⟨hk, hf, hfk, hP, hD, hS, hl⟩ := hI
          have hl : lv_has ls 5 [(4, .int (nI k)), (3, .int (nI f)), (0, .ref mo), (1, .int (nI v)), (2, .int (nI i0))] := hl
          have hP : va_P (dC, dI) cls_ [(mo, .inr (5, [.int (nI sp), .int (nI d), .ref mdr, .int (nI mm - 1), .ref mtx, .ref mod, .ref mia, .ref mus, .ref mol, .ref mle, .int (nI my), .ref mrw, .ref mls])), (mia, .inl (ky, 97, .inl (nA Ia)))] H := hP
          have hD : va_D A [(mo, .inr (5, [.int (nI sp), .int (nI d), .ref mdr, .int (nI mm - 1), .ref mtx, .ref mod, .ref mia, .ref mus, .ref mol, .ref mle, .int (nI my), .ref mrw, .ref mls])), (mia, .inl (ky, 97, .inl (nA Ia)))] := hD
          have hk : k ≤ i0 := hk
          have hf : f = num (fun j => S j = sno v) k := hf
          have hfk : f ≤ k := hfk
          refine lv_iload hx hb d_Mo_rank_28 (lv_at hl 0 rfl) ?_
          refine lv_iload_n hx hb d_Mo_rank_30 rfl (lv_at hl 4 rfl) ?_
          refine lv_icmp_ge (tgt := 59) hx hb d_Mo_rank_31 (by decide) (fun hc31 => ?_) (fun hc31 => ?_)
          · skip
            rw [bw_le_nn (by omega) (by omega)] at hc31
            refine lv_iload_n hx hb d_Mo_rank_59 rfl (lv_at hl 1 rfl) ?_
            have hP9 := hP.sub (ws' := [(mo, .inr (5, [.int (nI sp), .int (nI d), .ref mdr, .int (nI mm - 1), .ref mtx, .ref mod, .ref mia, .ref mus, .ref mol, .ref mle, .int (nI my), .ref mrw, .ref mls])), (mia, .inl (ky, 97, .inl (nA Ia)))]) [0, 1] rfl
            have hD9 := hD.sub (ws' := [(mo, .inr (5, [.int (nI sp), .int (nI d), .ref mdr, .int (nI mm - 1), .ref mtx, .ref mod, .ref mia, .ref mus, .ref mol, .ref mle, .int (nI my), .ref mrw, .ref mls])), (mia, .inl (ky, 97, .inl (nA Ia)))]) [0, 1] (by decide) rfl
            exact W.iret (v := nI f) hx hb hr (fun t ht hW => ⟨⟨nI f, (), rfl, (Or.inl ⟨v, i0, hvS, hxv, by omega, hxi, by rw [hf, show k = i0 by omega]⟩), by rw [ht]; exact hP9, hD9⟩, hS.F ht⟩) hS.2.2 d_Mo_rank_60
          · skip
            rw [bw_le_nn (by omega) (by omega)] at hc31
            refine lv_iload_n hx hb d_Mo_rank_34 rfl (lv_at hl 1 rfl) ?_
            refine lv_aload_n hx hb d_Mo_rank_35 rfl (lv_at hl 2 rfl) ?_
            refine va_get (D := (dC, dI)) (ci := 5) (v := .ref mia) (C := R_Mo) (T := F_Mo) (N := 13) hx hb htb in_Mo hown hK hP 0 rfl rfl 6 (by decide) (htb _ tw_367) (fun _ h9 => h9) rfl d_Mo_rank_36 ?_
            refine lv_iload hx hb d_Mo_rank_39 (lv_at hl 0 rfl) ?_
            have hcl := cod_lt (hS28 k)
            refine va_iald hx hb hK hP 1 0 rfl rfl (vp_in_nI (by omega) (by decide)) d_Mo_rank_41 ?_
            rw [nI_clamp (by omega)]
            have hb41 := hIa k
            rw [nA_at]
            rw [show nI (Ia k) = nI (cod (S k)) from (by rw [hIS k (by omega)])]
            refine lv_iload_n hx hb d_Mo_rank_42 rfl (lv_at hl 3 rfl) ?_
            refine lv_icmp_ne (tgt := 50) hx hb d_Mo_rank_43 (by decide) (fun hc43 => ?_) (fun hc43 => ?_)
            · skip
              rw [bw_eq_nn (by omega) (by omega)] at hc43
              refine lv_iconst (v := nI 0) hx hb d_Mo_rank_50 (by decide) ?_
              refine lv_iadd hx hb d_Mo_rank_51 ?_
              rw [nI_add]
              refine lv_istore_n hx hb d_Mo_rank_52 rfl hl (by decide) rfl (fun ls hl => ?_)
              have hl : lv_has ls 5 [(3, .int (nI (f + 0))), (4, .int (nI k)), (0, .ref mo), (1, .int (nI v)), (2, .int (nI i0))] := hl
              refine lv_iinc (v := nI (k + 1)) (k := 1) hx hb d_Mo_rank_53 hl rfl (bw_inc k 1) (by decide) rfl (fun ls hl => ?_)
              have hl : lv_has ls 5 [(4, .int (nI (k + 1))), (3, .int (nI (f + 0))), (0, .ref mo), (1, .int (nI v)), (2, .int (nI i0))] := hl
              refine lv_goto (tgt := 28) hx hb d_Mo_rank_56 (by decide) ?_
              exact ih28 ((k + 1), (f + 0)) _ _ _ ⟨(by first | assumption | omega | (simp; done) | (simp_all; done)), (by first | exact num_sy (cod_inj (hS28 k) hcs.1 (by rw [hcs.2]; assumption)) hf | exact num_sn (fun z => absurd (show cod (S k) = v by rw [z, hcs.2]) (by assumption)) hf), (by first | assumption | omega | (simp; done) | (simp_all; done)), hP, hD, hS, lv_sub hl [0, 1, 2, 3, 4] rfl⟩ (by first | omega | (simp only; omega) | (dsimp only; omega))
            · skip
              rw [bw_eq_nn (by omega) (by omega)] at hc43
              refine lv_iconst (v := nI 1) hx hb d_Mo_rank_46 (by decide) ?_
              refine lv_goto (tgt := 51) hx hb d_Mo_rank_47 (by decide) ?_
              refine lv_iadd hx hb d_Mo_rank_51 ?_
              rw [nI_add]
              refine lv_istore_n hx hb d_Mo_rank_52 rfl hl (by decide) rfl (fun ls hl => ?_)
              have hl : lv_has ls 5 [(3, .int (nI (f + 1))), (4, .int (nI k)), (0, .ref mo), (1, .int (nI v)), (2, .int (nI i0))] := hl
              refine lv_iinc (v := nI (k + 1)) (k := 1) hx hb d_Mo_rank_53 hl rfl (bw_inc k 1) (by decide) rfl (fun ls hl => ?_)
              have hl : lv_has ls 5 [(4, .int (nI (k + 1))), (3, .int (nI (f + 1))), (0, .ref mo), (1, .int (nI v)), (2, .int (nI i0))] := hl
              refine lv_goto (tgt := 28) hx hb d_Mo_rank_56 (by decide) ?_
              exact ih28 ((k + 1), (f + 1)) _ _ _ ⟨(by first | assumption | omega | (simp; done) | (simp_all; done)), (by first | exact num_sy (cod_inj (hS28 k) hcs.1 (by rw [hcs.2]; assumption)) hf | exact num_sn (fun z => absurd (show cod (S k) = v by rw [z, hcs.2]) (by assumption)) hf), (by first | assumption | omega | (simp; done) | (simp_all; done)), hP, hD, hS, lv_sub hl [0, 1, 2, 3, 4] rfl⟩ (by first | omega | (simp only; omega) | (dsimp only; omega))
        · exact absurd hc18 (by decide)
      · skip
        refine lv_if_ne (tgt := 23) hx hb d_Mo_rank_18 (by decide) (fun hc18 => ?_) (fun hc18 => ?_)
        · exact absurd hc18 (by decide)
        · skip
          rw [← nI_0, bw_eq_nn (by omega) (by omega)] at hc18
          refine lv_iconst (v := nI 0 - 1) hx hb d_Mo_rank_21 (by decide) ?_
          have hP9 := hP.sub (ws' := [(mo, .inr (5, [.int (nI sp), .int (nI d), .ref mdr, .int (nI mm - 1), .ref mtx, .ref mod, .ref mia, .ref mus, .ref mol, .ref mle, .int (nI my), .ref mrw, .ref mls])), (mia, .inl (ky, 97, .inl (nA Ia)))]) [0, 1] rfl
          have hD9 := hD.sub (ws' := [(mo, .inr (5, [.int (nI sp), .int (nI d), .ref mdr, .int (nI mm - 1), .ref mtx, .ref mod, .ref mia, .ref mus, .ref mol, .ref mle, .int (nI my), .ref mrw, .ref mls])), (mia, .inl (ky, 97, .inl (nA Ia)))]) [0, 1] (by decide) rfl
          exact W.iret (v := nI 0 - 1) hx hb hr (fun t ht hW => ⟨⟨nI 0 - 1, (), rfl, (by first | exact Or.inr ⟨fun v i _ _ hi => bw_neg (n := mm + 1) hc1 (by omega) i (by omega), rfl⟩ | exact Or.inr ⟨fun v i _ _ hi e => by rw [hxi, nI_eq (by omega) (by omega)] at e; omega, rfl⟩ | exact Or.inr ⟨fun v i hs e _ _ => hnS v hs e, rfl⟩), by rw [ht]; exact hP9, hD9⟩, hS.F ht⟩) hS.2.2 d_Mo_rank_22
