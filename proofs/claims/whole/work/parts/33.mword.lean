set_option maxHeartbeats 4000000 in
set_option maxRecDepth 100000 in
theorem c_Mo_image (l : Launch) (dC : Nat → ClassId) (dI : Nat → Nat → Nat) (ky : ClassId) (sz : Nat) (mo : Nat) (sp : Nat) (d : Nat) (mdr : Nat) (mm : Nat) (mtx : Nat) (mod : Nat) (mia : Nat) (mus : Nat) (mol : Nat) (mle : Nat) (my : Nat) (mrw : Nat) (mls : Nat) (Ia : Nat → Nat) (S : Nat → Nat) (xk : Int32) (hIa : ∀ k_, Ia k_ < 125) (hmm : mm ≤ 97) (hS28 : ∀ k_, S k_ < 28) (hIS : ∀ j, j < mm → Ia j = cod (S j)) : Met l y_Mo_image (Cond.code y_Mo_image prog_7_method_16_code 5 (some .long) :: W0) ({ frames := 0, cells := 0, slots := 0, locals := 0 }) (va_Pc [.ref mo, .int (xk)] (fun U => U.heap.size = sz ∧ va_P (dC, dI) cls_ [(mo, .inr (5, [.int (nI sp), .int (nI d), .ref mdr, .int (nI mm - 1), .ref mtx, .ref mod, .ref mia, .ref mus, .ref mol, .ref mle, .int (nI my), .ref mrw, .ref mls])), (mia, .inl (ky, 97, .inl (nA Ia)))] U.heap ∧ va_K (dC, dI) cls_ [(ky, .int)] U ∧ va_D (fun _ => True) [(mo, .inr (5, [.int (nI sp), .int (nI d), .ref mdr, .int (nI mm - 1), .ref mtx, .ref mod, .ref mia, .ref mus, .ref mol, .ref mle, .int (nI my), .ref mrw, .ref mls])), (mia, .inl (ky, 97, .inl (nA Ia)))])) (va_Ql (fun (r : Int64) (_ : Unit) => (∃ k, k < 13 ∧ xk = nI k ∧ r = lN (wsum (imw S mm k) 8)) ∨ ((∀ k, k < 13 → xk ≠ nI k) ∧ r = lN 0)) (fun (_ : Unit) (t : State) => va_P (dC, dI) cls_ [(mo, .inr (5, [.int (nI sp), .int (nI d), .ref mdr, .int (nI mm - 1), .ref mtx, .ref mod, .ref mia, .ref mus, .ref mol, .ref mle, .int (nI my), .ref mrw, .ref mls])), (mia, .inl (ky, 97, .inl (nA Ia)))] t.heap ∧ va_D (va_A [(mo, .inr (5, [.int (nI sp), .int (nI d), .ref mdr, .int (nI mm - 1), .ref mtx, .ref mod, .ref mia, .ref mus, .ref mol, .ref mle, .int (nI my), .ref mrw, .ref mls])), (mia, .inl (ky, 97, .inl (nA Ia)))] sz) [(mo, .inr (5, [.int (nI sp), .int (nI d), .ref mdr, .int (nI mm - 1), .ref mtx, .ref mod, .ref mia, .ref mus, .ref mol, .ref mle, .int (nI my), .ref mrw, .ref mls])), (mia, .inl (ky, 97, .inl (nA Ia)))]) (va_A [(mo, .inr (5, [.int (nI sp), .int (nI d), .ref mdr, .int (nI mm - 1), .ref mtx, .ref mod, .ref mia, .ref mus, .ref mol, .ref mle, .int (nI my), .ref mrw, .ref mls])), (mia, .inl (ky, 97, .inl (nA Ia)))] sz)) 0 0 (va_A [(mo, .inr (5, [.int (nI sp), .int (nI d), .ref mdr, .int (nI mm - 1), .ref mtx, .ref mod, .ref mia, .ref mus, .ref mol, .ref mle, .int (nI my), .ref mrw, .ref mls])), (mia, .inl (ky, 97, .inl (nA Ia)))] sz) := by
  refine Met.ofW (cc := prog_7_method_16_code) (maxL := 5) (ret := (some .long)) (by decide) rfl ?_
  intro p e s m args below meth c s₁ B hml hv
  obtain ⟨rfl, hsz, hP, hK, hD0⟩ := hv
  have hx := B.exec
  have hb := B.bytes
  have hr := B.returns
  have hlocks := B.notSynchronized
  have hts := atoms_spec (ws := (Cond.code y_Mo_image prog_7_method_16_code 5 (some .long) :: W0)) B.pre
  have htb : ∀ w ∈ W0, w.before _ s = true := fun w h => hts w (List.mem_cons_of_mem _ h)
  have hown : s.vm.findClass "SelfIndexedSequencesModel" = some m.cls := findClass_of_methodNamed B.named
  subst hsz
  have hD := hD0.self (sz := s.heap.size)
  generalize hAe : va_A [(mo, .inr (5, [.int (nI sp), .int (nI d), .ref mdr, .int (nI mm - 1), .ref mtx, .ref mod, .ref mia, .ref mus, .ref mol, .ref mle, .int (nI my), .ref mrw, .ref mls])), (mia, .inl (ky, 97, .inl (nA Ia)))] s.heap.size = A at hD ⊢
  have hA : ∀ q : Nat, s.heap.size ≤ q → A q := fun q h => by rw [← hAe]; exact Or.inr h
  have hS : va_S A s.heap s.heap [] := va_S.rf
  have hl := lv_entry ([.ref mo, .int (xk)]) (n := 5) (Nat.le_of_ble_eq_true rfl)
  rw [lg_entry_eq]
  generalize (lg_sl ([.ref mo, .int (xk)]) ++ List.replicate (5 - (lg_sl ([.ref mo, .int (xk)])).length) Slot.unset).toArray = ls at hl ⊢
  have hl : lv_has ls 5 [(0, .ref mo), (1, .int (xk))] := hl
  rcases Classical.em (∃ k, k < 13 ∧ xk = nI k) with ⟨k, hk13, hxk⟩ | hno
  · skip
    have hv_ : xk = nI k := hxk
    rw [hv_] at hl
    have hl : lv_has ls 5 [(0, .ref mo), (1, .int (nI k))] := hl
    have hl : lv_has ls 5 [(0, .ref mo), (1, .int (nI k))] := hl
    refine lv_lconst (v := lN 0) hx hb d_Mo_image_0 (by decide) ?_
    refine lv_lstore_n hx hb d_Mo_image_1 rfl hl (by decide) rfl (fun ls hl => ?_)
    have hl : lv_has ls 5 [(2, .long (lN 0)), (0, .ref mo), (1, .int (nI k))] := hl
    refine lv_bipush (v := nI 7) hx hb d_Mo_image_2 (by decide) ?_
    refine lv_istore hx hb d_Mo_image_4 hl (by decide) rfl (fun ls hl => ?_)
    have hl : lv_has ls 5 [(4, .int (nI 7)), (2, .long (lN 0)), (0, .ref mo), (1, .int (nI k))] := hl
    have hl : lv_has ls 5 [(4, .int (nI (7 + 1) - 1)), (2, .long (lN 0)), (0, .ref mo), (1, .int (nI k))] := by rw [nI_pred 7]; exact hl
    refine wl_loop (σ := Nat × Nat) 6 [] (fun (a_ : Nat × Nat) => match a_ with | (q1, X1) => q1) (fun (a_ : Nat × Nat) (H : Heap) (locs : List Loc) (ls : Array Slot) => match a_ with | (q1, X1) => (q1 ≤ 8) ∧ (X1 = hor (imw S mm k) q1 (8 - q1)) ∧ va_P (dC, dI) cls_ [(mo, .inr (5, [.int (nI sp), .int (nI d), .ref mdr, .int (nI mm - 1), .ref mtx, .ref mod, .ref mia, .ref mus, .ref mol, .ref mle, .int (nI my), .ref mrw, .ref mls])), (mia, .inl (ky, 97, .inl (nA Ia)))] H ∧ va_D A [(mo, .inr (5, [.int (nI sp), .int (nI d), .ref mdr, .int (nI mm - 1), .ref mtx, .ref mod, .ref mia, .ref mus, .ref mol, .ref mle, .int (nI my), .ref mrw, .ref mls])), (mia, .inl (ky, 97, .inl (nA Ia)))] ∧ va_S A s.heap H locs ∧ lv_has ls 5 [(4, .int (nI q1 - 1)), (2, .long (lN X1)), (0, .ref mo), (1, .int (nI k))]) ?_ ((7 + 1), 0) ⟨(by first | assumption | omega | (simp; done) | (simp_all; done)), rfl, hP, hD, hS, lv_sub hl [0, 1, 2, 3] rfl⟩
    clear hP hD hS hl
    intro a_ H locs ls hI ih6
    obtain ⟨q1, X1⟩ := a_
    obtain ⟨hq8, hX, hP, hD, hS, hl⟩ := hI
    have hl : lv_has ls 5 [(4, .int (nI q1 - 1)), (2, .long (lN X1)), (0, .ref mo), (1, .int (nI k))] := hl
    have hP : va_P (dC, dI) cls_ [(mo, .inr (5, [.int (nI sp), .int (nI d), .ref mdr, .int (nI mm - 1), .ref mtx, .ref mod, .ref mia, .ref mus, .ref mol, .ref mle, .int (nI my), .ref mrw, .ref mls])), (mia, .inl (ky, 97, .inl (nA Ia)))] H := hP
    have hD : va_D A [(mo, .inr (5, [.int (nI sp), .int (nI d), .ref mdr, .int (nI mm - 1), .ref mtx, .ref mod, .ref mia, .ref mus, .ref mol, .ref mle, .int (nI my), .ref mrw, .ref mls])), (mia, .inl (ky, 97, .inl (nA Ia)))] := hD
    have hq8 : q1 ≤ 8 := hq8
    have hX : X1 = hor (imw S mm k) q1 (8 - q1) := hX
    refine lv_iload hx hb d_Mo_image_6 (lv_at hl 0 rfl) ?_
    refine lv_if_lt (tgt := 64) hx hb d_Mo_image_8 (by decide) (fun hc8 => ?_) (fun hc8 => ?_)
    · skip
      rw [← nI_0, bw_lt_pn (by omega) (by omega)] at hc8
      refine lv_lload_n hx hb d_Mo_image_64 rfl (lv_at hl 1 rfl) ?_
      have hP9 := hP.sub (ws' := [(mo, .inr (5, [.int (nI sp), .int (nI d), .ref mdr, .int (nI mm - 1), .ref mtx, .ref mod, .ref mia, .ref mus, .ref mol, .ref mle, .int (nI my), .ref mrw, .ref mls])), (mia, .inl (ky, 97, .inl (nA Ia)))]) [0, 1] rfl
      have hD9 := hD.sub (ws' := [(mo, .inr (5, [.int (nI sp), .int (nI d), .ref mdr, .int (nI mm - 1), .ref mtx, .ref mod, .ref mia, .ref mus, .ref mol, .ref mle, .int (nI my), .ref mrw, .ref mls])), (mia, .inl (ky, 97, .inl (nA Ia)))]) [0, 1] (by decide) rfl
      exact W.lret (v := lN X1) hx hb hr (fun t ht hW => ⟨⟨lN X1, (), rfl, (by first | exact Or.inl ⟨k, hk13, hxk, by rw [hX, show q1 = 0 by omega]; exact congrArg lN (hor_all _)⟩ | (exfalso; omega)), by rw [ht]; exact hP9, hD9⟩, hS.F ht⟩) hS.2.2 d_Mo_image_65
    · skip
      rw [← nI_0, bw_lt_pn (by omega) (by omega)] at hc8
      rw [bw_pn (show 0 < q1 by omega)] at hl
      have hl : lv_has ls 5 [(4, .int (nI (q1 - 1))), (2, .long (lN X1)), (0, .ref mo), (1, .int (nI k))] := hl
      refine lv_iload_n hx hb d_Mo_image_11 rfl (lv_at hl 3 rfl) ?_
      refine lv_if_lt (tgt := 64) hx hb d_Mo_image_12 (by decide) (fun hc12 => ?_) (fun hc12 => ?_)
      · skip
        rw [← nI_0, bw_lt_nn (by omega) (by omega)] at hc12
        refine lv_lload_n hx hb d_Mo_image_64 rfl (lv_at hl 1 rfl) ?_
        have hP9 := hP.sub (ws' := [(mo, .inr (5, [.int (nI sp), .int (nI d), .ref mdr, .int (nI mm - 1), .ref mtx, .ref mod, .ref mia, .ref mus, .ref mol, .ref mle, .int (nI my), .ref mrw, .ref mls])), (mia, .inl (ky, 97, .inl (nA Ia)))]) [0, 1] rfl
        have hD9 := hD.sub (ws' := [(mo, .inr (5, [.int (nI sp), .int (nI d), .ref mdr, .int (nI mm - 1), .ref mtx, .ref mod, .ref mia, .ref mus, .ref mol, .ref mle, .int (nI my), .ref mrw, .ref mls])), (mia, .inl (ky, 97, .inl (nA Ia)))]) [0, 1] (by decide) rfl
        exact W.lret (v := lN X1) hx hb hr (fun t ht hW => ⟨⟨lN X1, (), rfl, (by first | exact Or.inl ⟨k, hk13, hxk, by rw [hX, show q1 = 0 by omega]; exact congrArg lN (hor_all _)⟩ | (exfalso; omega)), by rw [ht]; exact hP9, hD9⟩, hS.F ht⟩) hS.2.2 d_Mo_image_65
      · skip
        rw [← nI_0, bw_lt_nn (by omega) (by omega)] at hc12
        refine lv_iload_n hx hb d_Mo_image_15 rfl (lv_at hl 3 rfl) ?_
        refine lv_bipush (v := nI 13) hx hb d_Mo_image_16 (by decide) ?_
        refine lv_icmp_ge (tgt := 64) hx hb d_Mo_image_18 (by decide) (fun hc18 => ?_) (fun hc18 => ?_)
        · skip
          rw [bw_le_nn (by omega) (by omega)] at hc18
          refine lv_lload_n hx hb d_Mo_image_64 rfl (lv_at hl 1 rfl) ?_
          have hP9 := hP.sub (ws' := [(mo, .inr (5, [.int (nI sp), .int (nI d), .ref mdr, .int (nI mm - 1), .ref mtx, .ref mod, .ref mia, .ref mus, .ref mol, .ref mle, .int (nI my), .ref mrw, .ref mls])), (mia, .inl (ky, 97, .inl (nA Ia)))]) [0, 1] rfl
          have hD9 := hD.sub (ws' := [(mo, .inr (5, [.int (nI sp), .int (nI d), .ref mdr, .int (nI mm - 1), .ref mtx, .ref mod, .ref mia, .ref mus, .ref mol, .ref mle, .int (nI my), .ref mrw, .ref mls])), (mia, .inl (ky, 97, .inl (nA Ia)))]) [0, 1] (by decide) rfl
          exact W.lret (v := lN X1) hx hb hr (fun t ht hW => ⟨⟨lN X1, (), rfl, (by first | exact Or.inl ⟨k, hk13, hxk, by rw [hX, show q1 = 0 by omega]; exact congrArg lN (hor_all _)⟩ | (exfalso; omega)), by rw [ht]; exact hP9, hD9⟩, hS.F ht⟩) hS.2.2 d_Mo_image_65
        · skip
          rw [bw_le_nn (by omega) (by omega)] at hc18
          refine lv_lload_n hx hb d_Mo_image_21 rfl (lv_at hl 1 rfl) ?_
          refine lv_bipush (v := nI 8) hx hb d_Mo_image_22 (by decide) ?_
          refine lv_lshl hx hb d_Mo_image_24 rfl ?_
          refine lv_bipush (v := nI 8) hx hb d_Mo_image_25 (by decide) ?_
          refine lv_iload_n hx hb d_Mo_image_27 rfl (lv_at hl 3 rfl) ?_
          refine lv_imul hx hb d_Mo_image_28 ?_
          rw [pk_mul]
          refine lv_iload hx hb d_Mo_image_29 (lv_at hl 0 rfl) ?_
          refine lv_iadd hx hb d_Mo_image_31 ?_
          rw [nI_add]
          refine lv_aload_n hx hb d_Mo_image_32 rfl (lv_at hl 2 rfl) ?_
          refine va_get (D := (dC, dI)) (ci := 5) (v := .int (nI mm - 1)) (C := R_Mo) (T := F_Mo) (N := 13) hx hb htb in_Mo hown hK hP 0 rfl rfl 3 (by decide) (htb _ tw_364) (fun _ h9 => h9) rfl d_Mo_image_33 ?_
          refine lv_icmp_gt (tgt := 54) hx hb d_Mo_image_36 (by decide) (fun hc36 => ?_) (fun hc36 => ?_)
          · skip
            rw [bw_lt_pn (by omega) (by omega)] at hc36
            refine lv_iconst (v := nI 0) hx hb d_Mo_image_54 (by decide) ?_
            refine lv_i2l hx hb d_Mo_image_55 rfl ?_
            rw [show (nI 0).toInt64 = lN (imw S mm k (q1 - 1)) from (by rw [bw_i2l (by first | omega | decide)]; congr 1; unfold imw; first | (rw [if_pos (by omega), hIS _ (by omega)]) | (rw [if_neg (by omega)]))]
            refine lv_lor hx hb d_Mo_image_56 ?_
            rw [show ((lN X1) <<< ((nI 8).toInt64 &&& 63)) ||| (lN (imw S mm k (q1 - 1))) = lN (hor (imw S mm k) (q1 - 1) (8 - (q1 - 1))) from (by rw [hX]; exact hor_dn (imw_lt hS28 mm k) (by omega) hq8 rfl)]
            refine lv_lstore_n hx hb d_Mo_image_57 rfl hl (by decide) rfl (fun ls hl => ?_)
            have hl : lv_has ls 5 [(2, .long (lN (hor (imw S mm k) (q1 - 1) (8 - (q1 - 1))))), (4, .int (nI (q1 - 1))), (0, .ref mo), (1, .int (nI k))] := hl
            refine lv_iinc (v := nI (q1 - 1) - 1) (k := 1) hx hb d_Mo_image_58 hl rfl (bw_dec (q1 - 1)) (by decide) rfl (fun ls hl => ?_)
            have hl : lv_has ls 5 [(4, .int (nI (q1 - 1) - 1)), (2, .long (lN (hor (imw S mm k) (q1 - 1) (8 - (q1 - 1))))), (0, .ref mo), (1, .int (nI k))] := hl
            refine lv_goto (tgt := 6) hx hb d_Mo_image_61 (by decide) ?_
            exact ih6 ((q1 - 1), (hor (imw S mm k) (q1 - 1) (8 - (q1 - 1)))) _ _ _ ⟨(by first | assumption | omega | (simp; done) | (simp_all; done)), rfl, hP, hD, hS, lv_sub hl [0, 1, 2, 3] rfl⟩ (by first | omega | (simp only; omega) | (dsimp only; omega))
          · skip
            rw [bw_lt_pn (by omega) (by omega)] at hc36
            refine lv_aload_n hx hb d_Mo_image_39 rfl (lv_at hl 2 rfl) ?_
            refine va_get (D := (dC, dI)) (ci := 5) (v := .ref mia) (C := R_Mo) (T := F_Mo) (N := 13) hx hb htb in_Mo hown hK hP 0 rfl rfl 6 (by decide) (htb _ tw_367) (fun _ h9 => h9) rfl d_Mo_image_40 ?_
            refine lv_bipush (v := nI 8) hx hb d_Mo_image_43 (by decide) ?_
            refine lv_iload_n hx hb d_Mo_image_45 rfl (lv_at hl 3 rfl) ?_
            refine lv_imul hx hb d_Mo_image_46 ?_
            rw [pk_mul]
            refine lv_iload hx hb d_Mo_image_47 (lv_at hl 0 rfl) ?_
            refine lv_iadd hx hb d_Mo_image_49 ?_
            rw [nI_add]
            refine va_iald hx hb hK hP 1 0 rfl rfl (vp_in_nI (by omega) (by decide)) d_Mo_image_50 ?_
            rw [nI_clamp (by omega)]
            have hb50 := hIa ((8 * k) + (q1 - 1))
            rw [nA_at]
            refine lv_goto (tgt := 55) hx hb d_Mo_image_51 (by decide) ?_
            refine lv_i2l hx hb d_Mo_image_55 rfl ?_
            rw [show (nI (Ia ((8 * k) + (q1 - 1)))).toInt64 = lN (imw S mm k (q1 - 1)) from (by rw [bw_i2l (by first | omega | decide)]; congr 1; unfold imw; first | (rw [if_pos (by omega), hIS _ (by omega)]) | (rw [if_neg (by omega)]))]
            refine lv_lor hx hb d_Mo_image_56 ?_
            rw [show ((lN X1) <<< ((nI 8).toInt64 &&& 63)) ||| (lN (imw S mm k (q1 - 1))) = lN (hor (imw S mm k) (q1 - 1) (8 - (q1 - 1))) from (by rw [hX]; exact hor_dn (imw_lt hS28 mm k) (by omega) hq8 rfl)]
            refine lv_lstore_n hx hb d_Mo_image_57 rfl hl (by decide) rfl (fun ls hl => ?_)
            have hl : lv_has ls 5 [(2, .long (lN (hor (imw S mm k) (q1 - 1) (8 - (q1 - 1))))), (4, .int (nI (q1 - 1))), (0, .ref mo), (1, .int (nI k))] := hl
            refine lv_iinc (v := nI (q1 - 1) - 1) (k := 1) hx hb d_Mo_image_58 hl rfl (bw_dec (q1 - 1)) (by decide) rfl (fun ls hl => ?_)
            have hl : lv_has ls 5 [(4, .int (nI (q1 - 1) - 1)), (2, .long (lN (hor (imw S mm k) (q1 - 1) (8 - (q1 - 1))))), (0, .ref mo), (1, .int (nI k))] := hl
            refine lv_goto (tgt := 6) hx hb d_Mo_image_61 (by decide) ?_
            exact ih6 ((q1 - 1), (hor (imw S mm k) (q1 - 1) (8 - (q1 - 1)))) _ _ _ ⟨(by first | assumption | omega | (simp; done) | (simp_all; done)), rfl, hP, hD, hS, lv_sub hl [0, 1, 2, 3] rfl⟩ (by first | omega | (simp only; omega) | (dsimp only; omega))
  · skip
    have hl : lv_has ls 5 [(0, .ref mo), (1, .int (xk))] := hl
    refine lv_lconst (v := lN 0) hx hb d_Mo_image_0 (by decide) ?_
    refine lv_lstore_n hx hb d_Mo_image_1 rfl hl (by decide) rfl (fun ls hl => ?_)
    have hl : lv_has ls 5 [(2, .long (lN 0)), (0, .ref mo), (1, .int (xk))] := hl
    refine lv_bipush (v := nI 7) hx hb d_Mo_image_2 (by decide) ?_
    refine lv_istore hx hb d_Mo_image_4 hl (by decide) rfl (fun ls hl => ?_)
    have hl : lv_has ls 5 [(4, .int (nI 7)), (2, .long (lN 0)), (0, .ref mo), (1, .int (xk))] := hl
    refine lv_iload hx hb d_Mo_image_6 (lv_at hl 0 rfl) ?_
    refine lv_if_lt (tgt := 64) hx hb d_Mo_image_8 (by decide) (fun hc8 => ?_) (fun hc8 => ?_)
    · exact absurd hc8 (by decide)
    · skip
      rw [← nI_0, bw_lt_nn (by omega) (by omega)] at hc8
      refine lv_iload_n hx hb d_Mo_image_11 rfl (lv_at hl 3 rfl) ?_
      refine lv_if_lt (tgt := 64) hx hb d_Mo_image_12 (by decide) (fun hc12 => ?_) (fun hc12 => ?_)
      · skip
        refine lv_lload_n hx hb d_Mo_image_64 rfl (lv_at hl 1 rfl) ?_
        have hP9 := hP.sub (ws' := [(mo, .inr (5, [.int (nI sp), .int (nI d), .ref mdr, .int (nI mm - 1), .ref mtx, .ref mod, .ref mia, .ref mus, .ref mol, .ref mle, .int (nI my), .ref mrw, .ref mls])), (mia, .inl (ky, 97, .inl (nA Ia)))]) [0, 1] rfl
        have hD9 := hD.sub (ws' := [(mo, .inr (5, [.int (nI sp), .int (nI d), .ref mdr, .int (nI mm - 1), .ref mtx, .ref mod, .ref mia, .ref mus, .ref mol, .ref mle, .int (nI my), .ref mrw, .ref mls])), (mia, .inl (ky, 97, .inl (nA Ia)))]) [0, 1] (by decide) rfl
        exact W.lret (v := lN 0) hx hb hr (fun t ht hW => ⟨⟨lN 0, (), rfl, (Or.inr ⟨fun k hk e => hno ⟨k, hk, e⟩, rfl⟩), by rw [ht]; exact hP9, hD9⟩, hS.F ht⟩) hS.2.2 d_Mo_image_65
      · skip
        refine lv_iload_n hx hb d_Mo_image_15 rfl (lv_at hl 3 rfl) ?_
        refine lv_bipush (v := nI 13) hx hb d_Mo_image_16 (by decide) ?_
        refine lv_icmp_ge (tgt := 64) hx hb d_Mo_image_18 (by decide) (fun hc18 => ?_) (fun hc18 => ?_)
        · skip
          refine lv_lload_n hx hb d_Mo_image_64 rfl (lv_at hl 1 rfl) ?_
          have hP9 := hP.sub (ws' := [(mo, .inr (5, [.int (nI sp), .int (nI d), .ref mdr, .int (nI mm - 1), .ref mtx, .ref mod, .ref mia, .ref mus, .ref mol, .ref mle, .int (nI my), .ref mrw, .ref mls])), (mia, .inl (ky, 97, .inl (nA Ia)))]) [0, 1] rfl
          have hD9 := hD.sub (ws' := [(mo, .inr (5, [.int (nI sp), .int (nI d), .ref mdr, .int (nI mm - 1), .ref mtx, .ref mod, .ref mia, .ref mus, .ref mol, .ref mle, .int (nI my), .ref mrw, .ref mls])), (mia, .inl (ky, 97, .inl (nA Ia)))]) [0, 1] (by decide) rfl
          exact W.lret (v := lN 0) hx hb hr (fun t ht hW => ⟨⟨lN 0, (), rfl, (Or.inr ⟨fun k hk e => hno ⟨k, hk, e⟩, rfl⟩), by rw [ht]; exact hP9, hD9⟩, hS.F ht⟩) hS.2.2 d_Mo_image_65
        · skip
          exact absurd (bw_below hc12 hc18) hno

set_option maxHeartbeats 4000000 in
set_option maxRecDepth 100000 in
theorem c_Mo_extract (l : Launch) (dC : Nat → ClassId) (dI : Nat → Nat → Nat) (ky : ClassId) (sz : Nat) (mo : Nat) (sp : Nat) (d : Nat) (mdr : Nat) (mm : Nat) (mtx : Nat) (mod : Nat) (mia : Nat) (mus : Nat) (mol : Nat) (mle : Nat) (my : Nat) (mrw : Nat) (mls : Nat) (Mx : Nat → Nat) (T : Nat → Nat) (xs : Int32) (xo : Int32) (hMx : ∀ k_, Mx k_ < 125) (hmm : mm ≤ 97) (hT28 : ∀ k_, T k_ < 28) (hTx : ∀ q, q + 1 < mm → Mx q = cod (T q)) : Met l y_Mo_extract (Cond.code y_Mo_extract prog_7_method_24_code 7 (some .long) :: W0) ({ frames := 3, cells := 0, slots := 0, locals := 67 }) (va_Pc [.ref mo, .int (xs), .int (xo)] (fun U => U.heap.size = sz ∧ va_P (dC, dI) cls_ [(mo, .inr (5, [.int (nI sp), .int (nI d), .ref mdr, .int (nI mm - 1), .ref mtx, .ref mod, .ref mia, .ref mus, .ref mol, .ref mle, .int (nI my), .ref mrw, .ref mls])), (mtx, .inl (ky, 97, .inl (nA Mx)))] U.heap ∧ va_K (dC, dI) cls_ [(ky, .int)] U ∧ va_D (fun _ => True) [(mo, .inr (5, [.int (nI sp), .int (nI d), .ref mdr, .int (nI mm - 1), .ref mtx, .ref mod, .ref mia, .ref mus, .ref mol, .ref mle, .int (nI my), .ref mrw, .ref mls])), (mtx, .inl (ky, 97, .inl (nA Mx)))])) (va_Ql (fun (r : Int64) (_ : Unit) => (∃ v o, v < sqs T mm ∧ xs = nI v ∧ o < lns T mm v ∧ xo = nI o ∧ r = lN (wsum (exw T mm v o) 8)) ∨ ((∀ v o, v < sqs T mm → xs = nI v → o < lns T mm v → xo ≠ nI o) ∧ r = lN 0)) (fun (_ : Unit) (t : State) => va_P (dC, dI) cls_ [(mo, .inr (5, [.int (nI sp), .int (nI d), .ref mdr, .int (nI mm - 1), .ref mtx, .ref mod, .ref mia, .ref mus, .ref mol, .ref mle, .int (nI my), .ref mrw, .ref mls])), (mtx, .inl (ky, 97, .inl (nA Mx)))] t.heap ∧ va_D (va_A [(mo, .inr (5, [.int (nI sp), .int (nI d), .ref mdr, .int (nI mm - 1), .ref mtx, .ref mod, .ref mia, .ref mus, .ref mol, .ref mle, .int (nI my), .ref mrw, .ref mls])), (mtx, .inl (ky, 97, .inl (nA Mx)))] sz) [(mo, .inr (5, [.int (nI sp), .int (nI d), .ref mdr, .int (nI mm - 1), .ref mtx, .ref mod, .ref mia, .ref mus, .ref mol, .ref mle, .int (nI my), .ref mrw, .ref mls])), (mtx, .inl (ky, 97, .inl (nA Mx)))]) (va_A [(mo, .inr (5, [.int (nI sp), .int (nI d), .ref mdr, .int (nI mm - 1), .ref mtx, .ref mod, .ref mia, .ref mus, .ref mol, .ref mle, .int (nI my), .ref mrw, .ref mls])), (mtx, .inl (ky, 97, .inl (nA Mx)))] sz)) 0 0 (va_A [(mo, .inr (5, [.int (nI sp), .int (nI d), .ref mdr, .int (nI mm - 1), .ref mtx, .ref mod, .ref mia, .ref mus, .ref mol, .ref mle, .int (nI my), .ref mrw, .ref mls])), (mtx, .inl (ky, 97, .inl (nA Mx)))] sz) := by
  refine Met.ofW (cc := prog_7_method_24_code) (maxL := 7) (ret := (some .long)) (by decide) rfl ?_
  intro p e s m args below meth c s₁ B hml hv
  obtain ⟨rfl, hsz, hP, hK, hD0⟩ := hv
  have hx := B.exec
  have hb := B.bytes
  have hr := B.returns
  have hlocks := B.notSynchronized
  have hts := atoms_spec (ws := (Cond.code y_Mo_extract prog_7_method_24_code 7 (some .long) :: W0)) B.pre
  have htb : ∀ w ∈ W0, w.before _ s = true := fun w h => hts w (List.mem_cons_of_mem _ h)
  have hown : s.vm.findClass "SelfIndexedSequencesModel" = some m.cls := findClass_of_methodNamed B.named
  subst hsz
  have hD := hD0.self (sz := s.heap.size)
  generalize hAe : va_A [(mo, .inr (5, [.int (nI sp), .int (nI d), .ref mdr, .int (nI mm - 1), .ref mtx, .ref mod, .ref mia, .ref mus, .ref mol, .ref mle, .int (nI my), .ref mrw, .ref mls])), (mtx, .inl (ky, 97, .inl (nA Mx)))] s.heap.size = A at hD ⊢
  have hA : ∀ q : Nat, s.heap.size ≤ q → A q := fun q h => by rw [← hAe]; exact Or.inr h
  have hS : va_S A s.heap s.heap [] := va_S.rf
  have hl := lv_entry ([.ref mo, .int (xs), .int (xo)]) (n := 7) (Nat.le_of_ble_eq_true rfl)
  rw [lg_entry_eq]
  generalize (lg_sl ([.ref mo, .int (xs), .int (xo)]) ++ List.replicate (7 - (lg_sl ([.ref mo, .int (xs), .int (xo)])).length) Slot.unset).toArray = ls at hl ⊢
  have hl : lv_has ls 7 [(0, .ref mo), (1, .int (xs)), (2, .int (xo))] := hl
  rcases Classical.em (∃ v o, v < sqs T mm ∧ xs = nI v ∧ o < lns T mm v ∧ xo = nI o) with ⟨v, o, hv, hxv, ho, hxo⟩ | hno
  · skip
    have hv_ : xs = nI v := hxv
    rw [hv_] at hl
    have hv_ : xo = nI o := hxo
    rw [hv_] at hl
    have hl : lv_has ls 7 [(0, .ref mo), (1, .int (nI v)), (2, .int (nI o))] := hl
    have hl : lv_has ls 7 [(0, .ref mo), (1, .int (nI v)), (2, .int (nI o))] := hl
    refine lv_aload_n hx hb d_Mo_extract_0 rfl (lv_at hl 0 rfl) ?_
    refine lv_iload_n hx hb d_Mo_extract_1 rfl (lv_at hl 1 rfl) ?_
    have hPc := hP.sub (ws' := [(mo, .inr (5, [.int (nI sp), .int (nI d), .ref mdr, .int (nI mm - 1), .ref mtx, .ref mod, .ref mia, .ref mus, .ref mol, .ref mle, .int (nI my), .ref mrw, .ref mls])), (mtx, .inl (ky, 97, .inl (nA Mx)))]) [0, 1] rfl
    have hDc := hD.sub (ws' := [(mo, .inr (5, [.int (nI sp), .int (nI d), .ref mdr, .int (nI mm - 1), .ref mtx, .ref mod, .ref mia, .ref mus, .ref mol, .ref mle, .int (nI my), .ref mrw, .ref mls])), (mtx, .inl (ky, 97, .inl (nA Mx)))]) [0, 1] (by decide) rfl
    have hFc := va_free (wc := [(mo, .inr (5, [.int (nI sp), .int (nI d), .ref mdr, .int (nI mm - 1), .ref mtx, .ref mod, .ref mia, .ref mus, .ref mol, .ref mle, .int (nI my), .ref mrw, .ref mls])), (mtx, .inl (ky, 97, .inl (nA Mx)))]) hD hS hA [0, 1] rfl
    refine va_calli (va_runV (C := "SelfIndexedSequencesModel") (As := [.int (nI v)]) (rest := []) ⟨hx, hb, hml, hown, hts⟩ (c_Mo_length l dC dI ky s.heap.size mo sp d mdr mm mtx mod mia mus mol mle my mrw mls Mx T (nI v) hMx (by first | assumption | omega | (simp; done) | (simp_all; done)) (by first | assumption | omega | (simp; done) | (simp_all; done)) (by first | assumption | omega | (simp; done) | (simp_all; done))) ⟨callB_of 1 hts (W0_good tw_479) rfl rfl rfl (htb _ tw_28) (htb _ tw_492) ⟨by decide, by decide, by decide +kernel⟩ ⟨(Nat.le_of_ble_eq_true rfl), (Nat.le_of_ble_eq_true rfl)⟩, htb _ tw_477, htb _ tw_478⟩ ⟨fun a U g mk q => by obtain ⟨q0, q1, qP, qK, qD⟩ := q; exact ⟨q0, q1, qP, va_K.moved (u := U) (U := U.calling g mk a) (Vm.Alike.refl U.vm) qK, qD⟩, va_recv hK hPc (q0 := 0) (q := (R_Mo, F_Mo, 13)) rfl rfl, fun U hU hW => ⟨rfl, by rw [hU], by rw [hU]; exact hPc, va_K.moved hW.alike hK, hDc.weaken (fun _ _ _ _ => trivial)⟩⟩ rfl rfl hl.1 rfl (lv_room (Nat.le_of_ble_eq_true rfl)) d_Mo_extract_2 ⟨(Nat.le_of_ble_eq_true rfl), (Nat.le_of_ble_eq_true rfl)⟩) hS (fun q _ h => hFc q h) hFc (fun r2 u_ t H locs ht hvm hw2 hB hz1 hk1 hS => ?_)
    obtain ⟨hP1, hD1⟩ := hB
    rw [ht] at hP1
    obtain ⟨hP, hD⟩ := va_join (wr := []) (w1 := [(mo, .inr (5, [.int (nI sp), .int (nI d), .ref mdr, .int (nI mm - 1), .ref mtx, .ref mod, .ref mia, .ref mus, .ref mol, .ref mle, .int (nI my), .ref mrw, .ref mls])), (mtx, .inl (ky, 97, .inl (nA Mx)))]) hP hD [0, 1] [] rfl rfl (by decide) (by decide) hk1 hFc hP1 hD1
    have hP : va_P (dC, dI) cls_ [(mo, .inr (5, [.int (nI sp), .int (nI d), .ref mdr, .int (nI mm - 1), .ref mtx, .ref mod, .ref mia, .ref mus, .ref mol, .ref mle, .int (nI my), .ref mrw, .ref mls])), (mtx, .inl (ky, 97, .inl (nA Mx)))] H := hP
    have hD : va_D A [(mo, .inr (5, [.int (nI sp), .int (nI d), .ref mdr, .int (nI mm - 1), .ref mtx, .ref mod, .ref mia, .ref mus, .ref mol, .ref mle, .int (nI my), .ref mrw, .ref mls])), (mtx, .inl (ky, 97, .inl (nA Mx)))] := hD
    have hq2 := hw2
    rcases hq2 with ⟨v1, hv1, hxv1, rfl⟩ | ⟨hnv, rfl⟩
    · skip
      have hsl := sqs_le T mm
      have hvv : v1 = v := ((nI_eq (by omega) (by omega)).mp hxv1).symm
      rw [hvv]
      have hsi := sqs_in hv
      have hgv := nb_gs T (mm - 1) v hsi.2
      have hgn := sq_next hsi.2
      have hgl := gs_le T (mm - 1) (v + 1)
      have hln : lns T mm v = gs T (mm - 1) (v + 1) - 1 - gs T (mm - 1) v := rfl
      refine lv_istore_n hx hb d_Mo_extract_5 rfl hl (by decide) rfl (fun ls hl => ?_)
      have hl : lv_has ls 7 [(3, .int (nI (lns T mm v))), (0, .ref mo), (1, .int (nI v)), (2, .int (nI o))] := hl
      refine lv_lconst (v := lN 0) hx hb d_Mo_extract_6 (by decide) ?_
      refine lv_lstore hx hb d_Mo_extract_7 hl (by decide) rfl (fun ls hl => ?_)
      have hl : lv_has ls 7 [(4, .long (lN 0)), (3, .int (nI (lns T mm v))), (0, .ref mo), (1, .int (nI v)), (2, .int (nI o))] := hl
      refine lv_bipush (v := nI 7) hx hb d_Mo_extract_9 (by decide) ?_
      refine lv_istore hx hb d_Mo_extract_11 hl (by decide) rfl (fun ls hl => ?_)
      have hl : lv_has ls 7 [(6, .int (nI 7)), (4, .long (lN 0)), (3, .int (nI (lns T mm v))), (0, .ref mo), (1, .int (nI v)), (2, .int (nI o))] := hl
      have hl : lv_has ls 7 [(6, .int (nI (7 + 1) - 1)), (4, .long (lN 0)), (3, .int (nI (lns T mm v))), (0, .ref mo), (1, .int (nI v)), (2, .int (nI o))] := by rw [nI_pred 7]; exact hl
      refine wl_loop (σ := Nat × Nat) 13 [] (fun (a_ : Nat × Nat) => match a_ with | (q1, X1) => q1) (fun (a_ : Nat × Nat) (H : Heap) (locs : List Loc) (ls : Array Slot) => match a_ with | (q1, X1) => (q1 ≤ 8) ∧ (X1 = hor (exw T mm v o) q1 (8 - q1)) ∧ va_P (dC, dI) cls_ [(mo, .inr (5, [.int (nI sp), .int (nI d), .ref mdr, .int (nI mm - 1), .ref mtx, .ref mod, .ref mia, .ref mus, .ref mol, .ref mle, .int (nI my), .ref mrw, .ref mls])), (mtx, .inl (ky, 97, .inl (nA Mx)))] H ∧ va_D A [(mo, .inr (5, [.int (nI sp), .int (nI d), .ref mdr, .int (nI mm - 1), .ref mtx, .ref mod, .ref mia, .ref mus, .ref mol, .ref mle, .int (nI my), .ref mrw, .ref mls])), (mtx, .inl (ky, 97, .inl (nA Mx)))] ∧ va_S A s.heap H locs ∧ lv_has ls 7 [(6, .int (nI q1 - 1)), (4, .long (lN X1)), (0, .ref mo), (1, .int (nI v)), (2, .int (nI o)), (3, .int (nI (lns T mm v)))]) ?_ ((7 + 1), 0) ⟨(by first | assumption | omega | (simp; done) | (simp_all; done)), rfl, hP, hD, hS, lv_sub hl [0, 1, 3, 4, 5, 2] rfl⟩
      clear hP hD hS hl
      intro a_ H locs ls hI ih13
      obtain ⟨q1, X1⟩ := a_
      obtain ⟨hq8, hX, hP, hD, hS, hl⟩ := hI
      have hl : lv_has ls 7 [(6, .int (nI q1 - 1)), (4, .long (lN X1)), (0, .ref mo), (1, .int (nI v)), (2, .int (nI o)), (3, .int (nI (lns T mm v)))] := hl
      have hP : va_P (dC, dI) cls_ [(mo, .inr (5, [.int (nI sp), .int (nI d), .ref mdr, .int (nI mm - 1), .ref mtx, .ref mod, .ref mia, .ref mus, .ref mol, .ref mle, .int (nI my), .ref mrw, .ref mls])), (mtx, .inl (ky, 97, .inl (nA Mx)))] H := hP
      have hD : va_D A [(mo, .inr (5, [.int (nI sp), .int (nI d), .ref mdr, .int (nI mm - 1), .ref mtx, .ref mod, .ref mia, .ref mus, .ref mol, .ref mle, .int (nI my), .ref mrw, .ref mls])), (mtx, .inl (ky, 97, .inl (nA Mx)))] := hD
      have hq8 : q1 ≤ 8 := hq8
      have hX : X1 = hor (exw T mm v o) q1 (8 - q1) := hX
      refine lv_iload hx hb d_Mo_extract_13 (lv_at hl 0 rfl) ?_
      refine lv_if_lt (tgt := 69) hx hb d_Mo_extract_15 (by decide) (fun hc15 => ?_) (fun hc15 => ?_)
      · skip
        rw [← nI_0, bw_lt_pn (by omega) (by omega)] at hc15
        refine lv_lload hx hb d_Mo_extract_69 (lv_at hl 1 rfl) ?_
        have hP9 := hP.sub (ws' := [(mo, .inr (5, [.int (nI sp), .int (nI d), .ref mdr, .int (nI mm - 1), .ref mtx, .ref mod, .ref mia, .ref mus, .ref mol, .ref mle, .int (nI my), .ref mrw, .ref mls])), (mtx, .inl (ky, 97, .inl (nA Mx)))]) [0, 1] rfl
        have hD9 := hD.sub (ws' := [(mo, .inr (5, [.int (nI sp), .int (nI d), .ref mdr, .int (nI mm - 1), .ref mtx, .ref mod, .ref mia, .ref mus, .ref mol, .ref mle, .int (nI my), .ref mrw, .ref mls])), (mtx, .inl (ky, 97, .inl (nA Mx)))]) [0, 1] (by decide) rfl
        exact W.lret (v := lN X1) hx hb hr (fun t ht hW => ⟨⟨lN X1, (), rfl, (by first | exact Or.inl ⟨v, o, hv, hxv, ho, hxo, by rw [hX, show q1 = 0 by omega]; exact congrArg lN (hor_all _)⟩ | (exfalso; omega)), by rw [ht]; exact hP9, hD9⟩, hS.F ht⟩) hS.2.2 d_Mo_extract_71
      · skip
        rw [← nI_0, bw_lt_pn (by omega) (by omega)] at hc15
        rw [bw_pn (show 0 < q1 by omega)] at hl
        have hl : lv_has ls 7 [(6, .int (nI (q1 - 1))), (4, .long (lN X1)), (0, .ref mo), (1, .int (nI v)), (2, .int (nI o)), (3, .int (nI (lns T mm v)))] := hl
        refine lv_iload_n hx hb d_Mo_extract_18 rfl (lv_at hl 4 rfl) ?_
        refine lv_if_lt (tgt := 69) hx hb d_Mo_extract_19 (by decide) (fun hc19 => ?_) (fun hc19 => ?_)
        · skip
          rw [← nI_0, bw_lt_nn (by omega) (by omega)] at hc19
          refine lv_lload hx hb d_Mo_extract_69 (lv_at hl 1 rfl) ?_
          have hP9 := hP.sub (ws' := [(mo, .inr (5, [.int (nI sp), .int (nI d), .ref mdr, .int (nI mm - 1), .ref mtx, .ref mod, .ref mia, .ref mus, .ref mol, .ref mle, .int (nI my), .ref mrw, .ref mls])), (mtx, .inl (ky, 97, .inl (nA Mx)))]) [0, 1] rfl
          have hD9 := hD.sub (ws' := [(mo, .inr (5, [.int (nI sp), .int (nI d), .ref mdr, .int (nI mm - 1), .ref mtx, .ref mod, .ref mia, .ref mus, .ref mol, .ref mle, .int (nI my), .ref mrw, .ref mls])), (mtx, .inl (ky, 97, .inl (nA Mx)))]) [0, 1] (by decide) rfl
          exact W.lret (v := lN X1) hx hb hr (fun t ht hW => ⟨⟨lN X1, (), rfl, (by first | exact Or.inl ⟨v, o, hv, hxv, ho, hxo, by rw [hX, show q1 = 0 by omega]; exact congrArg lN (hor_all _)⟩ | (exfalso; omega)), by rw [ht]; exact hP9, hD9⟩, hS.F ht⟩) hS.2.2 d_Mo_extract_71
        · skip
          rw [← nI_0, bw_lt_nn (by omega) (by omega)] at hc19
          refine lv_iload_n hx hb d_Mo_extract_22 rfl (lv_at hl 4 rfl) ?_
          refine lv_iload_n hx hb d_Mo_extract_23 rfl (lv_at hl 5 rfl) ?_
          refine lv_icmp_ge (tgt := 69) hx hb d_Mo_extract_24 (by decide) (fun hc24 => ?_) (fun hc24 => ?_)
          · skip
            rw [bw_le_nn (by omega) (by omega)] at hc24
            refine lv_lload hx hb d_Mo_extract_69 (lv_at hl 1 rfl) ?_
            have hP9 := hP.sub (ws' := [(mo, .inr (5, [.int (nI sp), .int (nI d), .ref mdr, .int (nI mm - 1), .ref mtx, .ref mod, .ref mia, .ref mus, .ref mol, .ref mle, .int (nI my), .ref mrw, .ref mls])), (mtx, .inl (ky, 97, .inl (nA Mx)))]) [0, 1] rfl
            have hD9 := hD.sub (ws' := [(mo, .inr (5, [.int (nI sp), .int (nI d), .ref mdr, .int (nI mm - 1), .ref mtx, .ref mod, .ref mia, .ref mus, .ref mol, .ref mle, .int (nI my), .ref mrw, .ref mls])), (mtx, .inl (ky, 97, .inl (nA Mx)))]) [0, 1] (by decide) rfl
            exact W.lret (v := lN X1) hx hb hr (fun t ht hW => ⟨⟨lN X1, (), rfl, (by first | exact Or.inl ⟨v, o, hv, hxv, ho, hxo, by rw [hX, show q1 = 0 by omega]; exact congrArg lN (hor_all _)⟩ | (exfalso; omega)), by rw [ht]; exact hP9, hD9⟩, hS.F ht⟩) hS.2.2 d_Mo_extract_71
          · skip
            rw [bw_le_nn (by omega) (by omega)] at hc24
            refine lv_lload hx hb d_Mo_extract_27 (lv_at hl 1 rfl) ?_
            refine lv_bipush (v := nI 8) hx hb d_Mo_extract_29 (by decide) ?_
            refine lv_lshl hx hb d_Mo_extract_31 rfl ?_
            refine lv_iload_n hx hb d_Mo_extract_32 rfl (lv_at hl 4 rfl) ?_
            refine lv_iload hx hb d_Mo_extract_33 (lv_at hl 0 rfl) ?_
            refine lv_iadd hx hb d_Mo_extract_35 ?_
            rw [nI_add]
            refine lv_iload_n hx hb d_Mo_extract_36 rfl (lv_at hl 5 rfl) ?_
            refine lv_icmp_ge (tgt := 58) hx hb d_Mo_extract_37 (by decide) (fun hc37 => ?_) (fun hc37 => ?_)
            · skip
              rw [bw_le_nn (by omega) (by omega)] at hc37
              refine lv_iconst (v := nI 0) hx hb d_Mo_extract_58 (by decide) ?_
              refine lv_i2l hx hb d_Mo_extract_59 rfl ?_
              rw [show (nI 0).toInt64 = lN (exw T mm v o (q1 - 1)) from (by rw [bw_i2l (by first | omega | decide)]; congr 1; unfold exw; first | rw [if_pos (by omega)] | rw [if_neg (by omega)])]
              refine lv_lor hx hb d_Mo_extract_60 ?_
              rw [show ((lN X1) <<< ((nI 8).toInt64 &&& 63)) ||| (lN (exw T mm v o (q1 - 1))) = lN (hor (exw T mm v o) (q1 - 1) (8 - (q1 - 1))) from (by rw [hX]; exact hor_dn (exw_lt hT28 mm v o) (by omega) hq8 rfl)]
              refine lv_lstore hx hb d_Mo_extract_61 hl (by decide) rfl (fun ls hl => ?_)
              have hl : lv_has ls 7 [(4, .long (lN (hor (exw T mm v o) (q1 - 1) (8 - (q1 - 1))))), (6, .int (nI (q1 - 1))), (0, .ref mo), (1, .int (nI v)), (2, .int (nI o)), (3, .int (nI (lns T mm v)))] := hl
              refine lv_iinc (v := nI (q1 - 1) - 1) (k := 1) hx hb d_Mo_extract_63 hl rfl (bw_dec (q1 - 1)) (by decide) rfl (fun ls hl => ?_)
              have hl : lv_has ls 7 [(6, .int (nI (q1 - 1) - 1)), (4, .long (lN (hor (exw T mm v o) (q1 - 1) (8 - (q1 - 1))))), (0, .ref mo), (1, .int (nI v)), (2, .int (nI o)), (3, .int (nI (lns T mm v)))] := hl
              refine lv_goto (tgt := 13) hx hb d_Mo_extract_66 (by decide) ?_
              exact ih13 ((q1 - 1), (hor (exw T mm v o) (q1 - 1) (8 - (q1 - 1)))) _ _ _ ⟨(by first | assumption | omega | (simp; done) | (simp_all; done)), rfl, hP, hD, hS, lv_sub hl [0, 1, 2, 3, 4, 5] rfl⟩ (by first | omega | (simp only; omega) | (dsimp only; omega))
            · skip
              rw [bw_le_nn (by omega) (by omega)] at hc37
              refine lv_aload_n hx hb d_Mo_extract_40 rfl (lv_at hl 2 rfl) ?_
              refine va_get (D := (dC, dI)) (ci := 5) (v := .ref mtx) (C := R_Mo) (T := F_Mo) (N := 13) hx hb htb in_Mo hown hK hP 0 rfl rfl 4 (by decide) (htb _ tw_365) (fun _ h9 => h9) rfl d_Mo_extract_41 ?_
              refine lv_aload_n hx hb d_Mo_extract_44 rfl (lv_at hl 2 rfl) ?_
              refine lv_iload_n hx hb d_Mo_extract_45 rfl (lv_at hl 3 rfl) ?_
              have hPc := hP.sub (ws' := [(mo, .inr (5, [.int (nI sp), .int (nI d), .ref mdr, .int (nI mm - 1), .ref mtx, .ref mod, .ref mia, .ref mus, .ref mol, .ref mle, .int (nI my), .ref mrw, .ref mls])), (mtx, .inl (ky, 97, .inl (nA Mx)))]) [0, 1] rfl
              have hDc := hD.sub (ws' := [(mo, .inr (5, [.int (nI sp), .int (nI d), .ref mdr, .int (nI mm - 1), .ref mtx, .ref mod, .ref mia, .ref mus, .ref mol, .ref mle, .int (nI my), .ref mrw, .ref mls])), (mtx, .inl (ky, 97, .inl (nA Mx)))]) [0, 1] (by decide) rfl
              have hFc := va_free (wc := [(mo, .inr (5, [.int (nI sp), .int (nI d), .ref mdr, .int (nI mm - 1), .ref mtx, .ref mod, .ref mia, .ref mus, .ref mol, .ref mle, .int (nI my), .ref mrw, .ref mls])), (mtx, .inl (ky, 97, .inl (nA Mx)))]) hD hS hA [0, 1] rfl
              refine va_calli (va_runV (C := "SelfIndexedSequencesModel") (As := [.int (nI v)]) (rest := [.ref mtx, .long ((lN X1) <<< ((nI 8).toInt64 &&& 63))]) ⟨hx, hb, hml, hown, hts⟩ (c_Mo_beginning l dC dI ky H.size mo sp d mdr mm mtx mod mia mus mol mle my mrw mls Mx T (nI v) hMx (by first | assumption | omega | (simp; done) | (simp_all; done)) (by first | assumption | omega | (simp; done) | (simp_all; done)) (by first | assumption | omega | (simp; done) | (simp_all; done))) ⟨callB_of 1 hts (W0_good tw_483) rfl rfl rfl (htb _ tw_28) (htb _ tw_480) ⟨by decide, by decide, by decide +kernel⟩ ⟨(Nat.le_of_ble_eq_true rfl), (Nat.le_of_ble_eq_true rfl)⟩, htb _ tw_482, htb _ tw_14⟩ ⟨fun a U g mk q => by obtain ⟨q0, q1, qP, qK, qD⟩ := q; exact ⟨q0, q1, qP, va_K.moved (u := U) (U := U.calling g mk a) (Vm.Alike.refl U.vm) qK, qD⟩, va_recv hK hPc (q0 := 0) (q := (R_Mo, F_Mo, 13)) rfl rfl, fun U hU hW => ⟨rfl, by rw [hU], by rw [hU]; exact hPc, va_K.moved hW.alike hK, hDc.weaken (fun _ _ _ _ => trivial)⟩⟩ rfl rfl hl.1 rfl (lv_room (Nat.le_of_ble_eq_true rfl)) d_Mo_extract_46 ⟨(Nat.le_of_ble_eq_true rfl), (Nat.le_of_ble_eq_true rfl)⟩) hS (fun q _ h => hFc q h) hFc (fun r46 u_ t H locs ht hvm hw46 hB hz1 hk1 hS => ?_)
              obtain ⟨hP1, hD1⟩ := hB
              rw [ht] at hP1
              obtain ⟨hP, hD⟩ := va_join (wr := []) (w1 := [(mo, .inr (5, [.int (nI sp), .int (nI d), .ref mdr, .int (nI mm - 1), .ref mtx, .ref mod, .ref mia, .ref mus, .ref mol, .ref mle, .int (nI my), .ref mrw, .ref mls])), (mtx, .inl (ky, 97, .inl (nA Mx)))]) hP hD [0, 1] [] rfl rfl (by decide) (by decide) hk1 hFc hP1 hD1
              have hP : va_P (dC, dI) cls_ [(mo, .inr (5, [.int (nI sp), .int (nI d), .ref mdr, .int (nI mm - 1), .ref mtx, .ref mod, .ref mia, .ref mus, .ref mol, .ref mle, .int (nI my), .ref mrw, .ref mls])), (mtx, .inl (ky, 97, .inl (nA Mx)))] H := hP
              have hD : va_D A [(mo, .inr (5, [.int (nI sp), .int (nI d), .ref mdr, .int (nI mm - 1), .ref mtx, .ref mod, .ref mia, .ref mus, .ref mol, .ref mle, .int (nI my), .ref mrw, .ref mls])), (mtx, .inl (ky, 97, .inl (nA Mx)))] := hD
              have hq46 := hw46
              rcases hq46 with ⟨v1, hv1, hxv1, rfl⟩ | ⟨hnv, rfl⟩
              · skip
                have hsl := sqs_le T mm
                have hvv : v1 = v := ((nI_eq (by omega) (by omega)).mp hxv1).symm
                rw [hvv]
                refine lv_iload_n hx hb d_Mo_extract_49 rfl (lv_at hl 4 rfl) ?_
                refine lv_iadd hx hb d_Mo_extract_50 ?_
                rw [nI_add]
                refine lv_iload hx hb d_Mo_extract_51 (lv_at hl 0 rfl) ?_
                refine lv_iadd hx hb d_Mo_extract_53 ?_
                rw [nI_add]
                have hcl := cod_lt (hT28 (gs T (mm - 1) v + o + (q1 - 1)))
                refine va_iald hx hb hK hP 1 0 rfl rfl (vp_in_nI (by omega) (by decide)) d_Mo_extract_54 ?_
                rw [nI_clamp (by omega)]
                have hb54 := hMx (((gs T (mm - 1) v) + o) + (q1 - 1))
                rw [nA_at]
                rw [show nI (Mx (((gs T (mm - 1) v) + o) + (q1 - 1))) = nI (cod (T (gs T (mm - 1) v + o + (q1 - 1)))) from (by rw [hTx _ (by omega)])]
                refine lv_goto (tgt := 59) hx hb d_Mo_extract_55 (by decide) ?_
                refine lv_i2l hx hb d_Mo_extract_59 rfl ?_
                rw [show (nI (cod (T (gs T (mm - 1) v + o + (q1 - 1))))).toInt64 = lN (exw T mm v o (q1 - 1)) from (by rw [bw_i2l (by first | omega | decide)]; congr 1; unfold exw; first | rw [if_pos (by omega)] | rw [if_neg (by omega)])]
                refine lv_lor hx hb d_Mo_extract_60 ?_
                rw [show ((lN X1) <<< ((nI 8).toInt64 &&& 63)) ||| (lN (exw T mm v o (q1 - 1))) = lN (hor (exw T mm v o) (q1 - 1) (8 - (q1 - 1))) from (by rw [hX]; exact hor_dn (exw_lt hT28 mm v o) (by omega) hq8 rfl)]
                refine lv_lstore hx hb d_Mo_extract_61 hl (by decide) rfl (fun ls hl => ?_)
                have hl : lv_has ls 7 [(4, .long (lN (hor (exw T mm v o) (q1 - 1) (8 - (q1 - 1))))), (6, .int (nI (q1 - 1))), (0, .ref mo), (1, .int (nI v)), (2, .int (nI o)), (3, .int (nI (lns T mm v)))] := hl
                refine lv_iinc (v := nI (q1 - 1) - 1) (k := 1) hx hb d_Mo_extract_63 hl rfl (bw_dec (q1 - 1)) (by decide) rfl (fun ls hl => ?_)
                have hl : lv_has ls 7 [(6, .int (nI (q1 - 1) - 1)), (4, .long (lN (hor (exw T mm v o) (q1 - 1) (8 - (q1 - 1))))), (0, .ref mo), (1, .int (nI v)), (2, .int (nI o)), (3, .int (nI (lns T mm v)))] := hl
                refine lv_goto (tgt := 13) hx hb d_Mo_extract_66 (by decide) ?_
                exact ih13 ((q1 - 1), (hor (exw T mm v o) (q1 - 1) (8 - (q1 - 1)))) _ _ _ ⟨(by first | assumption | omega | (simp; done) | (simp_all; done)), rfl, hP, hD, hS, lv_sub hl [0, 1, 2, 3, 4, 5] rfl⟩ (by first | omega | (simp only; omega) | (dsimp only; omega))
              · exact absurd rfl (hnv v hv)
    · exact absurd rfl (hnv v hv)
  · skip
    have hl : lv_has ls 7 [(0, .ref mo), (1, .int (xs)), (2, .int (xo))] := hl
    refine lv_aload_n hx hb d_Mo_extract_0 rfl (lv_at hl 0 rfl) ?_
    refine lv_iload_n hx hb d_Mo_extract_1 rfl (lv_at hl 1 rfl) ?_
    have hPc := hP.sub (ws' := [(mo, .inr (5, [.int (nI sp), .int (nI d), .ref mdr, .int (nI mm - 1), .ref mtx, .ref mod, .ref mia, .ref mus, .ref mol, .ref mle, .int (nI my), .ref mrw, .ref mls])), (mtx, .inl (ky, 97, .inl (nA Mx)))]) [0, 1] rfl
    have hDc := hD.sub (ws' := [(mo, .inr (5, [.int (nI sp), .int (nI d), .ref mdr, .int (nI mm - 1), .ref mtx, .ref mod, .ref mia, .ref mus, .ref mol, .ref mle, .int (nI my), .ref mrw, .ref mls])), (mtx, .inl (ky, 97, .inl (nA Mx)))]) [0, 1] (by decide) rfl
    have hFc := va_free (wc := [(mo, .inr (5, [.int (nI sp), .int (nI d), .ref mdr, .int (nI mm - 1), .ref mtx, .ref mod, .ref mia, .ref mus, .ref mol, .ref mle, .int (nI my), .ref mrw, .ref mls])), (mtx, .inl (ky, 97, .inl (nA Mx)))]) hD hS hA [0, 1] rfl
    refine va_calli (va_runV (C := "SelfIndexedSequencesModel") (As := [.int (xs)]) (rest := []) ⟨hx, hb, hml, hown, hts⟩ (c_Mo_length l dC dI ky s.heap.size mo sp d mdr mm mtx mod mia mus mol mle my mrw mls Mx T xs hMx (by first | assumption | omega | (simp; done) | (simp_all; done)) (by first | assumption | omega | (simp; done) | (simp_all; done)) (by first | assumption | omega | (simp; done) | (simp_all; done))) ⟨callB_of 1 hts (W0_good tw_479) rfl rfl rfl (htb _ tw_28) (htb _ tw_492) ⟨by decide, by decide, by decide +kernel⟩ ⟨(Nat.le_of_ble_eq_true rfl), (Nat.le_of_ble_eq_true rfl)⟩, htb _ tw_477, htb _ tw_478⟩ ⟨fun a U g mk q => by obtain ⟨q0, q1, qP, qK, qD⟩ := q; exact ⟨q0, q1, qP, va_K.moved (u := U) (U := U.calling g mk a) (Vm.Alike.refl U.vm) qK, qD⟩, va_recv hK hPc (q0 := 0) (q := (R_Mo, F_Mo, 13)) rfl rfl, fun U hU hW => ⟨rfl, by rw [hU], by rw [hU]; exact hPc, va_K.moved hW.alike hK, hDc.weaken (fun _ _ _ _ => trivial)⟩⟩ rfl rfl hl.1 rfl (lv_room (Nat.le_of_ble_eq_true rfl)) d_Mo_extract_2 ⟨(Nat.le_of_ble_eq_true rfl), (Nat.le_of_ble_eq_true rfl)⟩) hS (fun q _ h => hFc q h) hFc (fun r2 u_ t H locs ht hvm hw2 hB hz1 hk1 hS => ?_)
    obtain ⟨hP1, hD1⟩ := hB
    rw [ht] at hP1
    obtain ⟨hP, hD⟩ := va_join (wr := []) (w1 := [(mo, .inr (5, [.int (nI sp), .int (nI d), .ref mdr, .int (nI mm - 1), .ref mtx, .ref mod, .ref mia, .ref mus, .ref mol, .ref mle, .int (nI my), .ref mrw, .ref mls])), (mtx, .inl (ky, 97, .inl (nA Mx)))]) hP hD [0, 1] [] rfl rfl (by decide) (by decide) hk1 hFc hP1 hD1
    have hP : va_P (dC, dI) cls_ [(mo, .inr (5, [.int (nI sp), .int (nI d), .ref mdr, .int (nI mm - 1), .ref mtx, .ref mod, .ref mia, .ref mus, .ref mol, .ref mle, .int (nI my), .ref mrw, .ref mls])), (mtx, .inl (ky, 97, .inl (nA Mx)))] H := hP
    have hD : va_D A [(mo, .inr (5, [.int (nI sp), .int (nI d), .ref mdr, .int (nI mm - 1), .ref mtx, .ref mod, .ref mia, .ref mus, .ref mol, .ref mle, .int (nI my), .ref mrw, .ref mls])), (mtx, .inl (ky, 97, .inl (nA Mx)))] := hD
    have hq2 : (∃ v, v < sqs T mm ∧ xs = nI v ∧ r2 = nI (lns T mm v)) ∨ ((∀ v, v < sqs T mm → xs ≠ nI v) ∧ r2 = nI 0 - 1) := hw2
    rcases hq2 with ⟨v1, hv1, hxv1, rfl⟩ | ⟨hnv, rfl⟩
    · skip
      have hsl := sqs_in hv1
      have hgl := gs_le T (mm - 1) (v1 + 1)
      have hln : lns T mm v1 = gs T (mm - 1) (v1 + 1) - 1 - gs T (mm - 1) v1 := rfl
      refine lv_istore_n hx hb d_Mo_extract_5 rfl hl (by decide) rfl (fun ls hl => ?_)
      have hl : lv_has ls 7 [(3, .int (nI (lns T mm v1))), (0, .ref mo), (1, .int (xs)), (2, .int (xo))] := hl
      refine lv_lconst (v := lN 0) hx hb d_Mo_extract_6 (by decide) ?_
      refine lv_lstore hx hb d_Mo_extract_7 hl (by decide) rfl (fun ls hl => ?_)
      have hl : lv_has ls 7 [(4, .long (lN 0)), (3, .int (nI (lns T mm v1))), (0, .ref mo), (1, .int (xs)), (2, .int (xo))] := hl
      refine lv_bipush (v := nI 7) hx hb d_Mo_extract_9 (by decide) ?_
      refine lv_istore hx hb d_Mo_extract_11 hl (by decide) rfl (fun ls hl => ?_)
      have hl : lv_has ls 7 [(6, .int (nI 7)), (4, .long (lN 0)), (3, .int (nI (lns T mm v1))), (0, .ref mo), (1, .int (xs)), (2, .int (xo))] := hl
      refine lv_iload hx hb d_Mo_extract_13 (lv_at hl 0 rfl) ?_
      refine lv_if_lt (tgt := 69) hx hb d_Mo_extract_15 (by decide) (fun hc15 => ?_) (fun hc15 => ?_)
      · exact absurd hc15 (by decide)
      · skip
        rw [← nI_0, bw_lt_nn (by omega) (by omega)] at hc15
        refine lv_iload_n hx hb d_Mo_extract_18 rfl (lv_at hl 5 rfl) ?_
        refine lv_if_lt (tgt := 69) hx hb d_Mo_extract_19 (by decide) (fun hc19 => ?_) (fun hc19 => ?_)
        · skip
          refine lv_lload hx hb d_Mo_extract_69 (lv_at hl 1 rfl) ?_
          have hP9 := hP.sub (ws' := [(mo, .inr (5, [.int (nI sp), .int (nI d), .ref mdr, .int (nI mm - 1), .ref mtx, .ref mod, .ref mia, .ref mus, .ref mol, .ref mle, .int (nI my), .ref mrw, .ref mls])), (mtx, .inl (ky, 97, .inl (nA Mx)))]) [0, 1] rfl
          have hD9 := hD.sub (ws' := [(mo, .inr (5, [.int (nI sp), .int (nI d), .ref mdr, .int (nI mm - 1), .ref mtx, .ref mod, .ref mia, .ref mus, .ref mol, .ref mle, .int (nI my), .ref mrw, .ref mls])), (mtx, .inl (ky, 97, .inl (nA Mx)))]) [0, 1] (by decide) rfl
          exact W.lret (v := lN 0) hx hb hr (fun t ht hW => ⟨⟨lN 0, (), rfl, (Or.inr ⟨fun v o h1 h2 h3 h4 => hno ⟨v, o, h1, h2, h3, h4⟩, rfl⟩), by rw [ht]; exact hP9, hD9⟩, hS.F ht⟩) hS.2.2 d_Mo_extract_71
        · skip
          refine lv_iload_n hx hb d_Mo_extract_22 rfl (lv_at hl 5 rfl) ?_
          refine lv_iload_n hx hb d_Mo_extract_23 rfl (lv_at hl 2 rfl) ?_
          refine lv_icmp_ge (tgt := 69) hx hb d_Mo_extract_24 (by decide) (fun hc24 => ?_) (fun hc24 => ?_)
          · skip
            refine lv_lload hx hb d_Mo_extract_69 (lv_at hl 1 rfl) ?_
            have hP9 := hP.sub (ws' := [(mo, .inr (5, [.int (nI sp), .int (nI d), .ref mdr, .int (nI mm - 1), .ref mtx, .ref mod, .ref mia, .ref mus, .ref mol, .ref mle, .int (nI my), .ref mrw, .ref mls])), (mtx, .inl (ky, 97, .inl (nA Mx)))]) [0, 1] rfl
            have hD9 := hD.sub (ws' := [(mo, .inr (5, [.int (nI sp), .int (nI d), .ref mdr, .int (nI mm - 1), .ref mtx, .ref mod, .ref mia, .ref mus, .ref mol, .ref mle, .int (nI my), .ref mrw, .ref mls])), (mtx, .inl (ky, 97, .inl (nA Mx)))]) [0, 1] (by decide) rfl
            exact W.lret (v := lN 0) hx hb hr (fun t ht hW => ⟨⟨lN 0, (), rfl, (Or.inr ⟨fun v o h1 h2 h3 h4 => hno ⟨v, o, h1, h2, h3, h4⟩, rfl⟩), by rw [ht]; exact hP9, hD9⟩, hS.F ht⟩) hS.2.2 d_Mo_extract_71
          · skip
            exact (by first | exact absurd (bw_m1 hc19) hc24 | exact absurd (show ∃ v o, v < sqs T mm ∧ xs = nI v ∧ o < lns T mm v ∧ xo = nI o from (by obtain ⟨o, h1, h2⟩ := bw_below hc19 hc24; exact ⟨v1, o, hv1, hxv1, h1, h2⟩)) hno)
    · skip
      refine lv_istore_n hx hb d_Mo_extract_5 rfl hl (by decide) rfl (fun ls hl => ?_)
      have hl : lv_has ls 7 [(3, .int (nI 0 - 1)), (0, .ref mo), (1, .int (xs)), (2, .int (xo))] := hl
      refine lv_lconst (v := lN 0) hx hb d_Mo_extract_6 (by decide) ?_
      refine lv_lstore hx hb d_Mo_extract_7 hl (by decide) rfl (fun ls hl => ?_)
      have hl : lv_has ls 7 [(4, .long (lN 0)), (3, .int (nI 0 - 1)), (0, .ref mo), (1, .int (xs)), (2, .int (xo))] := hl
      refine lv_bipush (v := nI 7) hx hb d_Mo_extract_9 (by decide) ?_
      refine lv_istore hx hb d_Mo_extract_11 hl (by decide) rfl (fun ls hl => ?_)
      have hl : lv_has ls 7 [(6, .int (nI 7)), (4, .long (lN 0)), (3, .int (nI 0 - 1)), (0, .ref mo), (1, .int (xs)), (2, .int (xo))] := hl
      refine lv_iload hx hb d_Mo_extract_13 (lv_at hl 0 rfl) ?_
      refine lv_if_lt (tgt := 69) hx hb d_Mo_extract_15 (by decide) (fun hc15 => ?_) (fun hc15 => ?_)
      · exact absurd hc15 (by decide)
      · skip
        rw [← nI_0, bw_lt_nn (by omega) (by omega)] at hc15
        refine lv_iload_n hx hb d_Mo_extract_18 rfl (lv_at hl 5 rfl) ?_
        refine lv_if_lt (tgt := 69) hx hb d_Mo_extract_19 (by decide) (fun hc19 => ?_) (fun hc19 => ?_)
        · skip
          refine lv_lload hx hb d_Mo_extract_69 (lv_at hl 1 rfl) ?_
          have hP9 := hP.sub (ws' := [(mo, .inr (5, [.int (nI sp), .int (nI d), .ref mdr, .int (nI mm - 1), .ref mtx, .ref mod, .ref mia, .ref mus, .ref mol, .ref mle, .int (nI my), .ref mrw, .ref mls])), (mtx, .inl (ky, 97, .inl (nA Mx)))]) [0, 1] rfl
          have hD9 := hD.sub (ws' := [(mo, .inr (5, [.int (nI sp), .int (nI d), .ref mdr, .int (nI mm - 1), .ref mtx, .ref mod, .ref mia, .ref mus, .ref mol, .ref mle, .int (nI my), .ref mrw, .ref mls])), (mtx, .inl (ky, 97, .inl (nA Mx)))]) [0, 1] (by decide) rfl
          exact W.lret (v := lN 0) hx hb hr (fun t ht hW => ⟨⟨lN 0, (), rfl, (Or.inr ⟨fun v o h1 h2 h3 h4 => hno ⟨v, o, h1, h2, h3, h4⟩, rfl⟩), by rw [ht]; exact hP9, hD9⟩, hS.F ht⟩) hS.2.2 d_Mo_extract_71
        · skip
          refine lv_iload_n hx hb d_Mo_extract_22 rfl (lv_at hl 5 rfl) ?_
          refine lv_iload_n hx hb d_Mo_extract_23 rfl (lv_at hl 2 rfl) ?_
          refine lv_icmp_ge (tgt := 69) hx hb d_Mo_extract_24 (by decide) (fun hc24 => ?_) (fun hc24 => ?_)
          · skip
            refine lv_lload hx hb d_Mo_extract_69 (lv_at hl 1 rfl) ?_
            have hP9 := hP.sub (ws' := [(mo, .inr (5, [.int (nI sp), .int (nI d), .ref mdr, .int (nI mm - 1), .ref mtx, .ref mod, .ref mia, .ref mus, .ref mol, .ref mle, .int (nI my), .ref mrw, .ref mls])), (mtx, .inl (ky, 97, .inl (nA Mx)))]) [0, 1] rfl
            have hD9 := hD.sub (ws' := [(mo, .inr (5, [.int (nI sp), .int (nI d), .ref mdr, .int (nI mm - 1), .ref mtx, .ref mod, .ref mia, .ref mus, .ref mol, .ref mle, .int (nI my), .ref mrw, .ref mls])), (mtx, .inl (ky, 97, .inl (nA Mx)))]) [0, 1] (by decide) rfl
            exact W.lret (v := lN 0) hx hb hr (fun t ht hW => ⟨⟨lN 0, (), rfl, (Or.inr ⟨fun v o h1 h2 h3 h4 => hno ⟨v, o, h1, h2, h3, h4⟩, rfl⟩), by rw [ht]; exact hP9, hD9⟩, hS.F ht⟩) hS.2.2 d_Mo_extract_71
          · skip
            exact (by first | exact absurd (bw_m1 hc19) hc24 | exact absurd (show ∃ v o, v < sqs T mm ∧ xs = nI v ∧ o < lns T mm v ∧ xo = nI o from (by obtain ⟨o, h1, h2⟩ := bw_below hc19 hc24; exact ⟨v1, o, hv1, hxv1, h1, h2⟩)) hno)

set_option maxHeartbeats 4000000 in
set_option maxRecDepth 100000 in
theorem c_Mo_read (l : Launch) (dC : Nat → ClassId) (dI : Nat → Nat → Nat) (ky : ClassId) (sz : Nat) (mo : Nat) (sp : Nat) (d : Nat) (mdr : Nat) (mm : Nat) (mtx : Nat) (mod : Nat) (mia : Nat) (mus : Nat) (mol : Nat) (mle : Nat) (my : Nat) (mrw : Nat) (mls : Nat) (Lw : Nat → Nat) (w : Nat) (hLw : ∀ k_, Lw k_ < 125) (hw : w < 2 ^ 64) : Met l y_Mo_read (Cond.code y_Mo_read prog_7_method_25_code 4 (some .boolean) :: W0) ({ frames := 1, cells := 0, slots := 0, locals := 22 }) (va_Pc [.ref mo, .long (lN w)] (fun U => U.heap.size = sz ∧ va_P (dC, dI) cls_ [(mo, .inr (5, [.int (nI sp), .int (nI d), .ref mdr, .int (nI mm - 1), .ref mtx, .ref mod, .ref mia, .ref mus, .ref mol, .ref mle, .int (nI my), .ref mrw, .ref mls])), (mle, .inl (ky, 8, .inl (nA Lw)))] U.heap ∧ va_K (dC, dI) cls_ [(ky, .int)] U ∧ va_D (fun _ => True) [(mo, .inr (5, [.int (nI sp), .int (nI d), .ref mdr, .int (nI mm - 1), .ref mtx, .ref mod, .ref mia, .ref mus, .ref mol, .ref mle, .int (nI my), .ref mrw, .ref mls])), (mle, .inl (ky, 8, .inl (nA Lw)))])) (va_Qi (fun (r : Int32) (u : (Nat) × (Nat → Nat)) => match u with | (kn, Wn) => ((r = nI 1 ∧ Pat w kn ∧ ∀ i, i < kn → Wn i = by8 w i) ∨ (r = nI 0 ∧ ∀ k, ¬ Pat w k)) ∧ kn ≤ 8 ∧ (∀ k_, Wn k_ < 125)) (fun (u : (Nat) × (Nat → Nat)) (t : State) => match u with | (kn, Wn) => va_P (dC, dI) cls_ [(mo, .inr (5, [.int (nI sp), .int (nI d), .ref mdr, .int (nI mm - 1), .ref mtx, .ref mod, .ref mia, .ref mus, .ref mol, .ref mle, .int (nI kn), .ref mrw, .ref mls])), (mle, .inl (ky, 8, .inl (nA Wn)))] t.heap ∧ va_D (va_A [(mo, .inr (5, [.int (nI sp), .int (nI d), .ref mdr, .int (nI mm - 1), .ref mtx, .ref mod, .ref mia, .ref mus, .ref mol, .ref mle, .int (nI my), .ref mrw, .ref mls])), (mle, .inl (ky, 8, .inl (nA Lw)))] sz) [(mo, .inr (5, [.int (nI sp), .int (nI d), .ref mdr, .int (nI mm - 1), .ref mtx, .ref mod, .ref mia, .ref mus, .ref mol, .ref mle, .int (nI kn), .ref mrw, .ref mls])), (mle, .inl (ky, 8, .inl (nA Wn)))]) (va_A [(mo, .inr (5, [.int (nI sp), .int (nI d), .ref mdr, .int (nI mm - 1), .ref mtx, .ref mod, .ref mia, .ref mus, .ref mol, .ref mle, .int (nI my), .ref mrw, .ref mls])), (mle, .inl (ky, 8, .inl (nA Lw)))] sz)) 0 0 (va_A [(mo, .inr (5, [.int (nI sp), .int (nI d), .ref mdr, .int (nI mm - 1), .ref mtx, .ref mod, .ref mia, .ref mus, .ref mol, .ref mle, .int (nI my), .ref mrw, .ref mls])), (mle, .inl (ky, 8, .inl (nA Lw)))] sz) := by
  refine Met.ofW (cc := prog_7_method_25_code) (maxL := 4) (ret := (some .boolean)) (by decide) rfl ?_
  intro p e s m args below meth c s₁ B hml hv
  obtain ⟨rfl, hsz, hP, hK, hD0⟩ := hv
  have hx := B.exec
  have hb := B.bytes
  have hr := B.returns
  have hlocks := B.notSynchronized
  have hts := atoms_spec (ws := (Cond.code y_Mo_read prog_7_method_25_code 4 (some .boolean) :: W0)) B.pre
  have htb : ∀ w ∈ W0, w.before _ s = true := fun w h => hts w (List.mem_cons_of_mem _ h)
  have hown : s.vm.findClass "SelfIndexedSequencesModel" = some m.cls := findClass_of_methodNamed B.named
  subst hsz
  have hD := hD0.self (sz := s.heap.size)
  generalize hAe : va_A [(mo, .inr (5, [.int (nI sp), .int (nI d), .ref mdr, .int (nI mm - 1), .ref mtx, .ref mod, .ref mia, .ref mus, .ref mol, .ref mle, .int (nI my), .ref mrw, .ref mls])), (mle, .inl (ky, 8, .inl (nA Lw)))] s.heap.size = A at hD ⊢
  have hA : ∀ q : Nat, s.heap.size ≤ q → A q := fun q h => by rw [← hAe]; exact Or.inr h
  have hS : va_S A s.heap s.heap [] := va_S.rf
  have hl := lv_entry ([.ref mo, .long (lN w)]) (n := 4) (Nat.le_of_ble_eq_true rfl)
  rw [lg_entry_eq]
  generalize (lg_sl ([.ref mo, .long (lN w)]) ++ List.replicate (4 - (lg_sl ([.ref mo, .long (lN w)])).length) Slot.unset).toArray = ls at hl ⊢
  have hl : lv_has ls 4 [(0, .ref mo), (1, .long (lN w))] := hl
  refine lv_aload_n hx hb d_Mo_read_0 rfl (lv_at hl 0 rfl) ?_
  refine lv_iconst (v := nI 0) hx hb d_Mo_read_1 (by decide) ?_
  refine va_put (D := (dC, dI)) (ci := 5) (v := .int (nI 0)) (ty := .int) (C := R_Mo) (T := F_Mo) (N := 13) hx hb htb in_Mo t_Mo tk_Mo nm_Mo hown hK hP hD hS 0 rfl rfl 10 (by decide) (htb _ tw_371) (fun _ h9 => h9) rfl (by decide +kernel) rfl rfl (Nat.le_of_ble_eq_true rfl) d_Mo_read_2 (fun H locs hP hD hS => ?_)
  have hP : va_P (dC, dI) cls_ [(mo, .inr (5, [.int (nI sp), .int (nI d), .ref mdr, .int (nI mm - 1), .ref mtx, .ref mod, .ref mia, .ref mus, .ref mol, .ref mle, .int (nI 0), .ref mrw, .ref mls])), (mle, .inl (ky, 8, .inl (nA Lw)))] H := hP
  have hD : va_D A [(mo, .inr (5, [.int (nI sp), .int (nI d), .ref mdr, .int (nI mm - 1), .ref mtx, .ref mod, .ref mia, .ref mus, .ref mol, .ref mle, .int (nI 0), .ref mrw, .ref mls])), (mle, .inl (ky, 8, .inl (nA Lw)))] := hD
  refine wl_loop (σ := Nat × (Nat → Nat)) 5 [] (fun (a_ : Nat × (Nat → Nat)) => match a_ with | (k1, Lq) => 8 - k1) (fun (a_ : Nat × (Nat → Nat)) (H : Heap) (locs : List Loc) (ls : Array Slot) => match a_ with | (k1, Lq) => (k1 ≤ 8) ∧ (∀ i, i < k1 → 97 ≤ by8 w i ∧ by8 w i ≤ 122) ∧ (∀ i, i < k1 → Lq i = by8 w i) ∧ (∀ k_, Lq k_ < 125) ∧ va_P (dC, dI) cls_ [(mo, .inr (5, [.int (nI sp), .int (nI d), .ref mdr, .int (nI mm - 1), .ref mtx, .ref mod, .ref mia, .ref mus, .ref mol, .ref mle, .int (nI k1), .ref mrw, .ref mls])), (mle, .inl (ky, 8, .inl (nA Lq)))] H ∧ va_D A [(mo, .inr (5, [.int (nI sp), .int (nI d), .ref mdr, .int (nI mm - 1), .ref mtx, .ref mod, .ref mia, .ref mus, .ref mol, .ref mle, .int (nI k1), .ref mrw, .ref mls])), (mle, .inl (ky, 8, .inl (nA Lq)))] ∧ va_S A s.heap H locs ∧ lv_has ls 4 [(0, .ref mo), (1, .long (lN w))]) ?_ (0, Lw) ⟨(by first | assumption | omega | (simp; done) | (simp_all; done)), (fun i hi => by omega), (fun i hi => by omega), hLw, hP, hD, hS, lv_sub hl [0, 1] rfl⟩
  clear hP hD hS hl
  intro a_ H locs ls hI ih5
  obtain ⟨k1, Lq⟩ := a_
  obtain ⟨hk8, hle, hLi, hLq, hP, hD, hS, hl⟩ := hI
  have hl : lv_has ls 4 [(0, .ref mo), (1, .long (lN w))] := hl
  have hP : va_P (dC, dI) cls_ [(mo, .inr (5, [.int (nI sp), .int (nI d), .ref mdr, .int (nI mm - 1), .ref mtx, .ref mod, .ref mia, .ref mus, .ref mol, .ref mle, .int (nI k1), .ref mrw, .ref mls])), (mle, .inl (ky, 8, .inl (nA Lq)))] H := hP
  have hD : va_D A [(mo, .inr (5, [.int (nI sp), .int (nI d), .ref mdr, .int (nI mm - 1), .ref mtx, .ref mod, .ref mia, .ref mus, .ref mol, .ref mle, .int (nI k1), .ref mrw, .ref mls])), (mle, .inl (ky, 8, .inl (nA Lq)))] := hD
  have hk8 : k1 ≤ 8 := hk8
  have hle : ∀ i, i < k1 → 97 ≤ by8 w i ∧ by8 w i ≤ 122 := hle
  have hLi : ∀ i, i < k1 → Lq i = by8 w i := hLi
  have hLq : ∀ k_, Lq k_ < 125 := hLq
  refine lv_aload_n hx hb d_Mo_read_5 rfl (lv_at hl 0 rfl) ?_
  refine va_get (D := (dC, dI)) (ci := 5) (v := .int (nI k1)) (C := R_Mo) (T := F_Mo) (N := 13) hx hb htb in_Mo hown hK hP 0 rfl rfl 10 (by decide) (htb _ tw_371) (fun _ h9 => h9) rfl d_Mo_read_6 ?_
  refine lv_bipush (v := nI 8) hx hb d_Mo_read_9 (by decide) ?_
  refine lv_icmp_ge (tgt := 58) hx hb d_Mo_read_11 (by decide) (fun hc11 => ?_) (fun hc11 => ?_)
  · skip
    rw [bw_le_nn (by omega) (by omega)] at hc11
    refine lv_aload_n hx hb d_Mo_read_58 rfl (lv_at hl 0 rfl) ?_
    refine va_get (D := (dC, dI)) (ci := 5) (v := .int (nI k1)) (C := R_Mo) (T := F_Mo) (N := 13) hx hb htb in_Mo hown hK hP 0 rfl rfl 10 (by decide) (htb _ tw_371) (fun _ h9 => h9) rfl d_Mo_read_59 ?_
    refine lv_istore_n hx hb d_Mo_read_62 rfl hl (by decide) rfl (fun ls hl => ?_)
    have hl : lv_has ls 4 [(3, .int (nI k1)), (0, .ref mo), (1, .long (lN w))] := hl
    refine wl_loop (σ := Nat) 63 [] (fun (j : Nat) => 8 - j) (fun (j : Nat) (H : Heap) (locs : List Loc) (ls : Array Slot) => (k1 ≤ j) ∧ (j ≤ 8) ∧ (∀ i, k1 ≤ i → i < j → by8 w i = 0) ∧ va_P (dC, dI) cls_ [(mo, .inr (5, [.int (nI sp), .int (nI d), .ref mdr, .int (nI mm - 1), .ref mtx, .ref mod, .ref mia, .ref mus, .ref mol, .ref mle, .int (nI k1), .ref mrw, .ref mls])), (mle, .inl (ky, 8, .inl (nA Lq)))] H ∧ va_D A [(mo, .inr (5, [.int (nI sp), .int (nI d), .ref mdr, .int (nI mm - 1), .ref mtx, .ref mod, .ref mia, .ref mus, .ref mol, .ref mle, .int (nI k1), .ref mrw, .ref mls])), (mle, .inl (ky, 8, .inl (nA Lq)))] ∧ va_S A s.heap H locs ∧ lv_has ls 4 [(3, .int (nI j)), (0, .ref mo), (1, .long (lN w))]) ?_ k1 ⟨(by first | assumption | omega | (simp; done) | (simp_all; done)), (by first | assumption | omega | (simp; done) | (simp_all; done)), (fun i h1 h2 => by omega), hP, hD, hS, lv_sub hl [0, 1, 2] rfl⟩
    clear hP hD hS hl
    intro j H locs ls hI ih63
    obtain ⟨hkj, hj8, hz, hP, hD, hS, hl⟩ := hI
    have hl : lv_has ls 4 [(3, .int (nI j)), (0, .ref mo), (1, .long (lN w))] := hl
    have hP : va_P (dC, dI) cls_ [(mo, .inr (5, [.int (nI sp), .int (nI d), .ref mdr, .int (nI mm - 1), .ref mtx, .ref mod, .ref mia, .ref mus, .ref mol, .ref mle, .int (nI k1), .ref mrw, .ref mls])), (mle, .inl (ky, 8, .inl (nA Lq)))] H := hP
    have hD : va_D A [(mo, .inr (5, [.int (nI sp), .int (nI d), .ref mdr, .int (nI mm - 1), .ref mtx, .ref mod, .ref mia, .ref mus, .ref mol, .ref mle, .int (nI k1), .ref mrw, .ref mls])), (mle, .inl (ky, 8, .inl (nA Lq)))] := hD
    have hkj : k1 ≤ j := hkj
    have hj8 : j ≤ 8 := hj8
    have hz : ∀ i, k1 ≤ i → i < j → by8 w i = 0 := hz
    refine lv_iload_n hx hb d_Mo_read_63 rfl (lv_at hl 0 rfl) ?_
    refine lv_bipush (v := nI 8) hx hb d_Mo_read_64 (by decide) ?_
    refine lv_icmp_ge (tgt := 85) hx hb d_Mo_read_66 (by decide) (fun hc66 => ?_) (fun hc66 => ?_)
    · skip
      rw [bw_le_nn (by omega) (by omega)] at hc66
      refine lv_aload_n hx hb d_Mo_read_85 rfl (lv_at hl 1 rfl) ?_
      refine va_get (D := (dC, dI)) (ci := 5) (v := .int (nI k1)) (C := R_Mo) (T := F_Mo) (N := 13) hx hb htb in_Mo hown hK hP 0 rfl rfl 10 (by decide) (htb _ tw_371) (fun _ h9 => h9) rfl d_Mo_read_86 ?_
      refine lv_if_le (tgt := 96) hx hb d_Mo_read_89 (by decide) (fun hc89 => ?_) (fun hc89 => ?_)
      · skip
        rw [← nI_0, bw_le_nn (by omega) (by omega)] at hc89
        refine lv_iconst (v := nI 0) hx hb d_Mo_read_96 (by decide) ?_
        have hP9 := hP.sub (ws' := [(mo, .inr (5, [.int (nI sp), .int (nI d), .ref mdr, .int (nI mm - 1), .ref mtx, .ref mod, .ref mia, .ref mus, .ref mol, .ref mle, .int (nI k1), .ref mrw, .ref mls])), (mle, .inl (ky, 8, .inl (nA Lq)))]) [0, 1] rfl
        have hD9 := hD.sub (ws' := [(mo, .inr (5, [.int (nI sp), .int (nI d), .ref mdr, .int (nI mm - 1), .ref mtx, .ref mod, .ref mia, .ref mus, .ref mol, .ref mle, .int (nI k1), .ref mrw, .ref mls])), (mle, .inl (ky, 8, .inl (nA Lq)))]) [0, 1] (by decide) rfl
        exact W.zret (v := nI 0) hx hb hr (by first | rfl | decide) (fun t ht hW => ⟨⟨nI 0, (k1, Lq), rfl, (by first | exact ⟨Or.inl ⟨rfl, rd_y (by omega) hk8 hle (by omega) hz, hLi⟩, hk8, hLq⟩ | exact ⟨Or.inr ⟨rfl, rd_0 (by omega) (fun i _ h2 => hz i (by omega) h2)⟩, hk8, hLq⟩), by rw [ht]; exact hP9, hD9⟩, hS.F ht⟩) hS.2.2 d_Mo_read_97
      · skip
        rw [← nI_0, bw_le_nn (by omega) (by omega)] at hc89
        refine lv_iconst (v := nI 1) hx hb d_Mo_read_92 (by decide) ?_
        refine lv_goto (tgt := 97) hx hb d_Mo_read_93 (by decide) ?_
        have hP9 := hP.sub (ws' := [(mo, .inr (5, [.int (nI sp), .int (nI d), .ref mdr, .int (nI mm - 1), .ref mtx, .ref mod, .ref mia, .ref mus, .ref mol, .ref mle, .int (nI k1), .ref mrw, .ref mls])), (mle, .inl (ky, 8, .inl (nA Lq)))]) [0, 1] rfl
        have hD9 := hD.sub (ws' := [(mo, .inr (5, [.int (nI sp), .int (nI d), .ref mdr, .int (nI mm - 1), .ref mtx, .ref mod, .ref mia, .ref mus, .ref mol, .ref mle, .int (nI k1), .ref mrw, .ref mls])), (mle, .inl (ky, 8, .inl (nA Lq)))]) [0, 1] (by decide) rfl
        exact W.zret (v := nI 1) hx hb hr (by first | rfl | decide) (fun t ht hW => ⟨⟨nI 1, (k1, Lq), rfl, (by first | exact ⟨Or.inl ⟨rfl, rd_y (by omega) hk8 hle (by omega) hz, hLi⟩, hk8, hLq⟩ | exact ⟨Or.inr ⟨rfl, rd_0 (by omega) (fun i _ h2 => hz i (by omega) h2)⟩, hk8, hLq⟩), by rw [ht]; exact hP9, hD9⟩, hS.F ht⟩) hS.2.2 d_Mo_read_97
    · skip
      rw [bw_le_nn (by omega) (by omega)] at hc66
      refine lv_lload_n hx hb d_Mo_read_69 rfl (lv_at hl 2 rfl) ?_
      refine lv_iload_n hx hb d_Mo_read_70 rfl (lv_at hl 0 rfl) ?_
      have hPc := hP.sub (ws' := []) [] rfl
      have hDc := hD.sub (ws' := []) [] (by decide) rfl
      have hFc := va_free (wc := []) hD hS hA [] rfl
      refine va_calli (va_runS (As := [.long (lN w), .int (nI j)]) (rest := []) ⟨hx, hb, hml, hown, hts⟩ (c_Mo_byteOf l dC dI ky H.size w j (by first | assumption | omega | (simp; done) | (simp_all; done)) (by first | assumption | omega | (simp; done) | (simp_all; done))) ⟨callB_of 2 hts (W0_good tw_408) rfl rfl rfl (htb _ tw_28) (htb _ tw_406) ⟨by decide, by decide, by decide +kernel⟩ ⟨(Nat.le_of_ble_eq_true rfl), (Nat.le_of_ble_eq_true rfl)⟩, htb _ tw_407⟩ ⟨fun a U g mk q => by obtain ⟨q0, q1, qP, qK, qD⟩ := q; exact ⟨q0, q1, qP, va_K.moved (u := U) (U := U.calling g mk a) (Vm.Alike.refl U.vm) qK, qD⟩, fun U hU hW => ⟨rfl, by rw [hU], by rw [hU]; exact hPc, va_K.moved hW.alike hK, hDc.weaken (fun _ _ _ _ => trivial)⟩⟩ rfl rfl hl.1 rfl (lv_room (Nat.le_of_ble_eq_true rfl)) d_Mo_read_71 ⟨(Nat.le_of_ble_eq_true rfl), (Nat.le_of_ble_eq_true rfl)⟩) hS (fun q _ h => hFc q h) hFc (fun r71 u_ t H locs ht hvm hw71 hB hz1 hk1 hS => ?_)
      obtain ⟨hP1, hD1⟩ := hB
      rw [ht] at hP1
      obtain ⟨hP, hD⟩ := va_join (wr := [(mo, .inr (5, [.int (nI sp), .int (nI d), .ref mdr, .int (nI mm - 1), .ref mtx, .ref mod, .ref mia, .ref mus, .ref mol, .ref mle, .int (nI k1), .ref mrw, .ref mls])), (mle, .inl (ky, 8, .inl (nA Lq)))]) (w1 := []) hP hD [] [0, 1] rfl rfl (by decide) (by decide) hk1 hFc hP1 hD1
      have hP : va_P (dC, dI) cls_ [(mo, .inr (5, [.int (nI sp), .int (nI d), .ref mdr, .int (nI mm - 1), .ref mtx, .ref mod, .ref mia, .ref mus, .ref mol, .ref mle, .int (nI k1), .ref mrw, .ref mls])), (mle, .inl (ky, 8, .inl (nA Lq)))] H := hP
      have hD : va_D A [(mo, .inr (5, [.int (nI sp), .int (nI d), .ref mdr, .int (nI mm - 1), .ref mtx, .ref mod, .ref mia, .ref mus, .ref mol, .ref mle, .int (nI k1), .ref mrw, .ref mls])), (mle, .inl (ky, 8, .inl (nA Lq)))] := hD
      have hw71 : r71 = nI (by8 w j) ∧ (True) := hw71
      obtain ⟨hre, hq71⟩ := hw71
      subst hre
      have hb256 := by8_lt w j
      refine lv_if_eq (tgt := 79) hx hb d_Mo_read_74 (by decide) (fun hc74 => ?_) (fun hc74 => ?_)
      · skip
        rw [← nI_0, bw_eq_nn (by omega) (by omega)] at hc74
        refine lv_iinc (v := nI (j + 1)) (k := 0) hx hb d_Mo_read_79 hl rfl (bw_inc j 1) (by decide) rfl (fun ls hl => ?_)
        have hl : lv_has ls 4 [(3, .int (nI (j + 1))), (0, .ref mo), (1, .long (lN w))] := hl
        refine lv_goto (tgt := 63) hx hb d_Mo_read_82 (by decide) ?_
        exact ih63 (j + 1) _ _ _ ⟨(by first | assumption | omega | (simp; done) | (simp_all; done)), (by first | assumption | omega | (simp; done) | (simp_all; done)), (fun i h1 h2 => if e : i = j then (by rw [e]; assumption) else hz i h1 (by omega)), hP, hD, hS, lv_sub hl [0, 1, 2] rfl⟩ (by first | omega | (simp only; omega) | (dsimp only; omega))
      · skip
        rw [← nI_0, bw_eq_nn (by omega) (by omega)] at hc74
        refine lv_iconst (v := nI 0) hx hb d_Mo_read_77 (by decide) ?_
        have hP9 := hP.sub (ws' := [(mo, .inr (5, [.int (nI sp), .int (nI d), .ref mdr, .int (nI mm - 1), .ref mtx, .ref mod, .ref mia, .ref mus, .ref mol, .ref mle, .int (nI k1), .ref mrw, .ref mls])), (mle, .inl (ky, 8, .inl (nA Lq)))]) [0, 1] rfl
        have hD9 := hD.sub (ws' := [(mo, .inr (5, [.int (nI sp), .int (nI d), .ref mdr, .int (nI mm - 1), .ref mtx, .ref mod, .ref mia, .ref mus, .ref mol, .ref mle, .int (nI k1), .ref mrw, .ref mls])), (mle, .inl (ky, 8, .inl (nA Lq)))]) [0, 1] (by decide) rfl
        exact W.zret (v := nI 0) hx hb hr (by first | rfl | decide) (fun t ht hW => ⟨⟨nI 0, (k1, Lq), rfl, (by first | exact ⟨Or.inr ⟨rfl, rd_no hnl hkj (by omega) (by assumption)⟩, hk8, hLq⟩ | (exfalso; omega)), by rw [ht]; exact hP9, hD9⟩, hS.F ht⟩) hS.2.2 d_Mo_read_78
  · skip
    rw [bw_le_nn (by omega) (by omega)] at hc11
    refine lv_lload_n hx hb d_Mo_read_14 rfl (lv_at hl 1 rfl) ?_
    refine lv_aload_n hx hb d_Mo_read_15 rfl (lv_at hl 0 rfl) ?_
    refine va_get (D := (dC, dI)) (ci := 5) (v := .int (nI k1)) (C := R_Mo) (T := F_Mo) (N := 13) hx hb htb in_Mo hown hK hP 0 rfl rfl 10 (by decide) (htb _ tw_371) (fun _ h9 => h9) rfl d_Mo_read_16 ?_
    have hPc := hP.sub (ws' := []) [] rfl
    have hDc := hD.sub (ws' := []) [] (by decide) rfl
    have hFc := va_free (wc := []) hD hS hA [] rfl
    refine va_calli (va_runS (As := [.long (lN w), .int (nI k1)]) (rest := []) ⟨hx, hb, hml, hown, hts⟩ (c_Mo_byteOf l dC dI ky H.size w k1 (by first | assumption | omega | (simp; done) | (simp_all; done)) (by first | assumption | omega | (simp; done) | (simp_all; done))) ⟨callB_of 2 hts (W0_good tw_408) rfl rfl rfl (htb _ tw_28) (htb _ tw_406) ⟨by decide, by decide, by decide +kernel⟩ ⟨(Nat.le_of_ble_eq_true rfl), (Nat.le_of_ble_eq_true rfl)⟩, htb _ tw_407⟩ ⟨fun a U g mk q => by obtain ⟨q0, q1, qP, qK, qD⟩ := q; exact ⟨q0, q1, qP, va_K.moved (u := U) (U := U.calling g mk a) (Vm.Alike.refl U.vm) qK, qD⟩, fun U hU hW => ⟨rfl, by rw [hU], by rw [hU]; exact hPc, va_K.moved hW.alike hK, hDc.weaken (fun _ _ _ _ => trivial)⟩⟩ rfl rfl hl.1 rfl (lv_room (Nat.le_of_ble_eq_true rfl)) d_Mo_read_19 ⟨(Nat.le_of_ble_eq_true rfl), (Nat.le_of_ble_eq_true rfl)⟩) hS (fun q _ h => hFc q h) hFc (fun r19 u_ t H locs ht hvm hw19 hB hz1 hk1 hS => ?_)
    obtain ⟨hP1, hD1⟩ := hB
    rw [ht] at hP1
    obtain ⟨hP, hD⟩ := va_join (wr := [(mo, .inr (5, [.int (nI sp), .int (nI d), .ref mdr, .int (nI mm - 1), .ref mtx, .ref mod, .ref mia, .ref mus, .ref mol, .ref mle, .int (nI k1), .ref mrw, .ref mls])), (mle, .inl (ky, 8, .inl (nA Lq)))]) (w1 := []) hP hD [] [0, 1] rfl rfl (by decide) (by decide) hk1 hFc hP1 hD1
    have hP : va_P (dC, dI) cls_ [(mo, .inr (5, [.int (nI sp), .int (nI d), .ref mdr, .int (nI mm - 1), .ref mtx, .ref mod, .ref mia, .ref mus, .ref mol, .ref mle, .int (nI k1), .ref mrw, .ref mls])), (mle, .inl (ky, 8, .inl (nA Lq)))] H := hP
    have hD : va_D A [(mo, .inr (5, [.int (nI sp), .int (nI d), .ref mdr, .int (nI mm - 1), .ref mtx, .ref mod, .ref mia, .ref mus, .ref mol, .ref mle, .int (nI k1), .ref mrw, .ref mls])), (mle, .inl (ky, 8, .inl (nA Lq)))] := hD
    have hw19 : r19 = nI (by8 w k1) ∧ (True) := hw19
    obtain ⟨hre, hq19⟩ := hw19
    subst hre
    have hb256 := by8_lt w k1
    have hPc := hP.sub (ws' := []) [] rfl
    have hDc := hD.sub (ws' := []) [] (by decide) rfl
    have hFc := va_free (wc := []) hD hS hA [] rfl
    refine va_calli (va_runS (As := [.int (nI (by8 w k1))]) (rest := []) ⟨hx, hb, hml, hown, hts⟩ (c_Mo_isLetter l dC dI ky H.size (by8 w k1) (by first | assumption | omega | (simp; done) | (simp_all; done))) ⟨callB_of 1 hts (W0_good tw_415) rfl rfl rfl (htb _ tw_28) (htb _ tw_413) ⟨by decide, by decide, by decide +kernel⟩ ⟨(Nat.le_of_ble_eq_true rfl), (Nat.le_of_ble_eq_true rfl)⟩, htb _ tw_414⟩ ⟨fun a U g mk q => by obtain ⟨q0, q1, qP, qK, qD⟩ := q; exact ⟨q0, q1, qP, va_K.moved (u := U) (U := U.calling g mk a) (Vm.Alike.refl U.vm) qK, qD⟩, fun U hU hW => ⟨rfl, by rw [hU], by rw [hU]; exact hPc, va_K.moved hW.alike hK, hDc.weaken (fun _ _ _ _ => trivial)⟩⟩ rfl rfl hl.1 rfl (lv_room (Nat.le_of_ble_eq_true rfl)) d_Mo_read_22 ⟨(Nat.le_of_ble_eq_true rfl), (Nat.le_of_ble_eq_true rfl)⟩) hS (fun q _ h => hFc q h) hFc (fun r22 u_ t H locs ht hvm hw22 hB hz1 hk1 hS => ?_)
    obtain ⟨hP1, hD1⟩ := hB
    rw [ht] at hP1
    obtain ⟨hP, hD⟩ := va_join (wr := [(mo, .inr (5, [.int (nI sp), .int (nI d), .ref mdr, .int (nI mm - 1), .ref mtx, .ref mod, .ref mia, .ref mus, .ref mol, .ref mle, .int (nI k1), .ref mrw, .ref mls])), (mle, .inl (ky, 8, .inl (nA Lq)))]) (w1 := []) hP hD [] [0, 1] rfl rfl (by decide) (by decide) hk1 hFc hP1 hD1
    have hP : va_P (dC, dI) cls_ [(mo, .inr (5, [.int (nI sp), .int (nI d), .ref mdr, .int (nI mm - 1), .ref mtx, .ref mod, .ref mia, .ref mus, .ref mol, .ref mle, .int (nI k1), .ref mrw, .ref mls])), (mle, .inl (ky, 8, .inl (nA Lq)))] H := hP
    have hD : va_D A [(mo, .inr (5, [.int (nI sp), .int (nI d), .ref mdr, .int (nI mm - 1), .ref mtx, .ref mod, .ref mia, .ref mus, .ref mol, .ref mle, .int (nI k1), .ref mrw, .ref mls])), (mle, .inl (ky, 8, .inl (nA Lq)))] := hD
    have hq22 : (97 ≤ (by8 w k1) ∧ (by8 w k1) ≤ 122 ∧ r22 = nI 1) ∨ (¬ (97 ≤ (by8 w k1) ∧ (by8 w k1) ≤ 122) ∧ r22 = nI 0) := hw22
    rcases hq22 with ⟨hl1, hl2, rfl⟩ | ⟨hnl, rfl⟩
    · skip
      refine lv_if_eq (tgt := 58) hx hb d_Mo_read_25 (by decide) (fun hc25 => ?_) (fun hc25 => ?_)
      · exact absurd hc25 (by decide)
      · skip
        rw [← nI_0, bw_eq_nn (by omega) (by omega)] at hc25
        refine lv_aload_n hx hb d_Mo_read_28 rfl (lv_at hl 0 rfl) ?_
        refine va_get (D := (dC, dI)) (ci := 5) (v := .ref mle) (C := R_Mo) (T := F_Mo) (N := 13) hx hb htb in_Mo hown hK hP 0 rfl rfl 9 (by decide) (htb _ tw_370) (fun _ h9 => h9) rfl d_Mo_read_29 ?_
        refine lv_aload_n hx hb d_Mo_read_32 rfl (lv_at hl 0 rfl) ?_
        refine va_get (D := (dC, dI)) (ci := 5) (v := .int (nI k1)) (C := R_Mo) (T := F_Mo) (N := 13) hx hb htb in_Mo hown hK hP 0 rfl rfl 10 (by decide) (htb _ tw_371) (fun _ h9 => h9) rfl d_Mo_read_33 ?_
        refine lv_lload_n hx hb d_Mo_read_36 rfl (lv_at hl 1 rfl) ?_
        refine lv_aload_n hx hb d_Mo_read_37 rfl (lv_at hl 0 rfl) ?_
        refine va_get (D := (dC, dI)) (ci := 5) (v := .int (nI k1)) (C := R_Mo) (T := F_Mo) (N := 13) hx hb htb in_Mo hown hK hP 0 rfl rfl 10 (by decide) (htb _ tw_371) (fun _ h9 => h9) rfl d_Mo_read_38 ?_
        have hPc := hP.sub (ws' := []) [] rfl
        have hDc := hD.sub (ws' := []) [] (by decide) rfl
        have hFc := va_free (wc := []) hD hS hA [] rfl
        refine va_calli (va_runS (As := [.long (lN w), .int (nI k1)]) (rest := [.int (nI k1), .ref mle]) ⟨hx, hb, hml, hown, hts⟩ (c_Mo_byteOf l dC dI ky H.size w k1 (by first | assumption | omega | (simp; done) | (simp_all; done)) (by first | assumption | omega | (simp; done) | (simp_all; done))) ⟨callB_of 2 hts (W0_good tw_408) rfl rfl rfl (htb _ tw_28) (htb _ tw_406) ⟨by decide, by decide, by decide +kernel⟩ ⟨(Nat.le_of_ble_eq_true rfl), (Nat.le_of_ble_eq_true rfl)⟩, htb _ tw_407⟩ ⟨fun a U g mk q => by obtain ⟨q0, q1, qP, qK, qD⟩ := q; exact ⟨q0, q1, qP, va_K.moved (u := U) (U := U.calling g mk a) (Vm.Alike.refl U.vm) qK, qD⟩, fun U hU hW => ⟨rfl, by rw [hU], by rw [hU]; exact hPc, va_K.moved hW.alike hK, hDc.weaken (fun _ _ _ _ => trivial)⟩⟩ rfl rfl hl.1 rfl (lv_room (Nat.le_of_ble_eq_true rfl)) d_Mo_read_41 ⟨(Nat.le_of_ble_eq_true rfl), (Nat.le_of_ble_eq_true rfl)⟩) hS (fun q _ h => hFc q h) hFc (fun r41 u_ t H locs ht hvm hw41 hB hz1 hk1 hS => ?_)
        obtain ⟨hP1, hD1⟩ := hB
        rw [ht] at hP1
        obtain ⟨hP, hD⟩ := va_join (wr := [(mo, .inr (5, [.int (nI sp), .int (nI d), .ref mdr, .int (nI mm - 1), .ref mtx, .ref mod, .ref mia, .ref mus, .ref mol, .ref mle, .int (nI k1), .ref mrw, .ref mls])), (mle, .inl (ky, 8, .inl (nA Lq)))]) (w1 := []) hP hD [] [0, 1] rfl rfl (by decide) (by decide) hk1 hFc hP1 hD1
        have hP : va_P (dC, dI) cls_ [(mo, .inr (5, [.int (nI sp), .int (nI d), .ref mdr, .int (nI mm - 1), .ref mtx, .ref mod, .ref mia, .ref mus, .ref mol, .ref mle, .int (nI k1), .ref mrw, .ref mls])), (mle, .inl (ky, 8, .inl (nA Lq)))] H := hP
        have hD : va_D A [(mo, .inr (5, [.int (nI sp), .int (nI d), .ref mdr, .int (nI mm - 1), .ref mtx, .ref mod, .ref mia, .ref mus, .ref mol, .ref mle, .int (nI k1), .ref mrw, .ref mls])), (mle, .inl (ky, 8, .inl (nA Lq)))] := hD
        have hw41 : r41 = nI (by8 w k1) ∧ (True) := hw41
        obtain ⟨hre, hq41⟩ := hw41
        subst hre
        refine va_iast hx hb hK hP hD hS 1 0 rfl rfl (vp_in_nI (by omega) (by decide)) d_Mo_read_44 (fun H locs hP hD hS => ?_)
        rw [nI_clamp (by omega)] at hP hD
        rw [nA_upd] at hP hD
        have hu1 : ∀ k_, (upN Lq k1 (by8 w k1)) k_ < 125 := upN_lt hLq (by omega)
        have hP : va_P (dC, dI) cls_ [(mo, .inr (5, [.int (nI sp), .int (nI d), .ref mdr, .int (nI mm - 1), .ref mtx, .ref mod, .ref mia, .ref mus, .ref mol, .ref mle, .int (nI k1), .ref mrw, .ref mls])), (mle, .inl (ky, 8, .inl (nA (upN Lq k1 (by8 w k1)))))] H := hP
        have hD : va_D A [(mo, .inr (5, [.int (nI sp), .int (nI d), .ref mdr, .int (nI mm - 1), .ref mtx, .ref mod, .ref mia, .ref mus, .ref mol, .ref mle, .int (nI k1), .ref mrw, .ref mls])), (mle, .inl (ky, 8, .inl (nA (upN Lq k1 (by8 w k1)))))] := hD
        refine lv_aload_n hx hb d_Mo_read_45 rfl (lv_at hl 0 rfl) ?_
        refine lv_dup hx hb d_Mo_read_46 rfl ?_
        refine va_get (D := (dC, dI)) (ci := 5) (v := .int (nI k1)) (C := R_Mo) (T := F_Mo) (N := 13) hx hb htb in_Mo hown hK hP 0 rfl rfl 10 (by decide) (htb _ tw_371) (fun _ h9 => h9) rfl d_Mo_read_47 ?_
        refine lv_iconst (v := nI 1) hx hb d_Mo_read_50 (by decide) ?_
        refine lv_iadd hx hb d_Mo_read_51 ?_
        rw [nI_add]
        refine va_put (D := (dC, dI)) (ci := 5) (v := .int (nI (k1 + 1))) (ty := .int) (C := R_Mo) (T := F_Mo) (N := 13) hx hb htb in_Mo t_Mo tk_Mo nm_Mo hown hK hP hD hS 0 rfl rfl 10 (by decide) (htb _ tw_371) (fun _ h9 => h9) rfl (by decide +kernel) rfl rfl (Nat.le_of_ble_eq_true rfl) d_Mo_read_52 (fun H locs hP hD hS => ?_)
        have hP : va_P (dC, dI) cls_ [(mo, .inr (5, [.int (nI sp), .int (nI d), .ref mdr, .int (nI mm - 1), .ref mtx, .ref mod, .ref mia, .ref mus, .ref mol, .ref mle, .int (nI (k1 + 1)), .ref mrw, .ref mls])), (mle, .inl (ky, 8, .inl (nA (upN Lq k1 (by8 w k1)))))] H := hP
        have hD : va_D A [(mo, .inr (5, [.int (nI sp), .int (nI d), .ref mdr, .int (nI mm - 1), .ref mtx, .ref mod, .ref mia, .ref mus, .ref mol, .ref mle, .int (nI (k1 + 1)), .ref mrw, .ref mls])), (mle, .inl (ky, 8, .inl (nA (upN Lq k1 (by8 w k1)))))] := hD
        refine lv_goto (tgt := 5) hx hb d_Mo_read_55 (by decide) ?_
        exact ih5 ((k1 + 1), (upN Lq k1 (by8 w k1))) _ _ _ ⟨(by first | assumption | omega | (simp; done) | (simp_all; done)), (fun i hi => if e : i = k1 then (by rw [e]; exact ⟨hl1, hl2⟩) else hle i (by omega)), (fun i hi => if e : i = k1 then (by rw [e, upN_s]) else (by rw [upN_o e]; exact hLi i (by omega))), (by assumption), hP, hD, hS, lv_sub hl [0, 1] rfl⟩ (by first | omega | (simp only; omega) | (dsimp only; omega))
    · skip
      refine lv_if_eq (tgt := 58) hx hb d_Mo_read_25 (by decide) (fun hc25 => ?_) (fun hc25 => ?_)
      · skip
        rw [← nI_0, bw_eq_nn (by omega) (by omega)] at hc25
        refine lv_aload_n hx hb d_Mo_read_58 rfl (lv_at hl 0 rfl) ?_
        refine va_get (D := (dC, dI)) (ci := 5) (v := .int (nI k1)) (C := R_Mo) (T := F_Mo) (N := 13) hx hb htb in_Mo hown hK hP 0 rfl rfl 10 (by decide) (htb _ tw_371) (fun _ h9 => h9) rfl d_Mo_read_59 ?_
        refine lv_istore_n hx hb d_Mo_read_62 rfl hl (by decide) rfl (fun ls hl => ?_)
        have hl : lv_has ls 4 [(3, .int (nI k1)), (0, .ref mo), (1, .long (lN w))] := hl
        refine wl_loop (σ := Nat) 63 [] (fun (j : Nat) => 8 - j) (fun (j : Nat) (H : Heap) (locs : List Loc) (ls : Array Slot) => (k1 ≤ j) ∧ (j ≤ 8) ∧ (∀ i, k1 ≤ i → i < j → by8 w i = 0) ∧ va_P (dC, dI) cls_ [(mo, .inr (5, [.int (nI sp), .int (nI d), .ref mdr, .int (nI mm - 1), .ref mtx, .ref mod, .ref mia, .ref mus, .ref mol, .ref mle, .int (nI k1), .ref mrw, .ref mls])), (mle, .inl (ky, 8, .inl (nA Lq)))] H ∧ va_D A [(mo, .inr (5, [.int (nI sp), .int (nI d), .ref mdr, .int (nI mm - 1), .ref mtx, .ref mod, .ref mia, .ref mus, .ref mol, .ref mle, .int (nI k1), .ref mrw, .ref mls])), (mle, .inl (ky, 8, .inl (nA Lq)))] ∧ va_S A s.heap H locs ∧ lv_has ls 4 [(3, .int (nI j)), (0, .ref mo), (1, .long (lN w))]) ?_ k1 ⟨(by first | assumption | omega | (simp; done) | (simp_all; done)), (by first | assumption | omega | (simp; done) | (simp_all; done)), (fun i h1 h2 => by omega), hP, hD, hS, lv_sub hl [0, 1, 2] rfl⟩
        clear hP hD hS hl
        intro j H locs ls hI ih63
        obtain ⟨hkj, hj8, hz, hP, hD, hS, hl⟩ := hI
        have hl : lv_has ls 4 [(3, .int (nI j)), (0, .ref mo), (1, .long (lN w))] := hl
        have hP : va_P (dC, dI) cls_ [(mo, .inr (5, [.int (nI sp), .int (nI d), .ref mdr, .int (nI mm - 1), .ref mtx, .ref mod, .ref mia, .ref mus, .ref mol, .ref mle, .int (nI k1), .ref mrw, .ref mls])), (mle, .inl (ky, 8, .inl (nA Lq)))] H := hP
        have hD : va_D A [(mo, .inr (5, [.int (nI sp), .int (nI d), .ref mdr, .int (nI mm - 1), .ref mtx, .ref mod, .ref mia, .ref mus, .ref mol, .ref mle, .int (nI k1), .ref mrw, .ref mls])), (mle, .inl (ky, 8, .inl (nA Lq)))] := hD
        have hkj : k1 ≤ j := hkj
        have hj8 : j ≤ 8 := hj8
        have hz : ∀ i, k1 ≤ i → i < j → by8 w i = 0 := hz
        refine lv_iload_n hx hb d_Mo_read_63 rfl (lv_at hl 0 rfl) ?_
        refine lv_bipush (v := nI 8) hx hb d_Mo_read_64 (by decide) ?_
        refine lv_icmp_ge (tgt := 85) hx hb d_Mo_read_66 (by decide) (fun hc66 => ?_) (fun hc66 => ?_)
        · skip
          rw [bw_le_nn (by omega) (by omega)] at hc66
          refine lv_aload_n hx hb d_Mo_read_85 rfl (lv_at hl 1 rfl) ?_
          refine va_get (D := (dC, dI)) (ci := 5) (v := .int (nI k1)) (C := R_Mo) (T := F_Mo) (N := 13) hx hb htb in_Mo hown hK hP 0 rfl rfl 10 (by decide) (htb _ tw_371) (fun _ h9 => h9) rfl d_Mo_read_86 ?_
          refine lv_if_le (tgt := 96) hx hb d_Mo_read_89 (by decide) (fun hc89 => ?_) (fun hc89 => ?_)
          · skip
            rw [← nI_0, bw_le_nn (by omega) (by omega)] at hc89
            refine lv_iconst (v := nI 0) hx hb d_Mo_read_96 (by decide) ?_
            have hP9 := hP.sub (ws' := [(mo, .inr (5, [.int (nI sp), .int (nI d), .ref mdr, .int (nI mm - 1), .ref mtx, .ref mod, .ref mia, .ref mus, .ref mol, .ref mle, .int (nI k1), .ref mrw, .ref mls])), (mle, .inl (ky, 8, .inl (nA Lq)))]) [0, 1] rfl
            have hD9 := hD.sub (ws' := [(mo, .inr (5, [.int (nI sp), .int (nI d), .ref mdr, .int (nI mm - 1), .ref mtx, .ref mod, .ref mia, .ref mus, .ref mol, .ref mle, .int (nI k1), .ref mrw, .ref mls])), (mle, .inl (ky, 8, .inl (nA Lq)))]) [0, 1] (by decide) rfl
            exact W.zret (v := nI 0) hx hb hr (by first | rfl | decide) (fun t ht hW => ⟨⟨nI 0, (k1, Lq), rfl, (by first | exact ⟨Or.inl ⟨rfl, rd_y (by omega) hk8 hle (by omega) hz, hLi⟩, hk8, hLq⟩ | exact ⟨Or.inr ⟨rfl, rd_0 (by omega) (fun i _ h2 => hz i (by omega) h2)⟩, hk8, hLq⟩), by rw [ht]; exact hP9, hD9⟩, hS.F ht⟩) hS.2.2 d_Mo_read_97
          · skip
            rw [← nI_0, bw_le_nn (by omega) (by omega)] at hc89
            refine lv_iconst (v := nI 1) hx hb d_Mo_read_92 (by decide) ?_
            refine lv_goto (tgt := 97) hx hb d_Mo_read_93 (by decide) ?_
            have hP9 := hP.sub (ws' := [(mo, .inr (5, [.int (nI sp), .int (nI d), .ref mdr, .int (nI mm - 1), .ref mtx, .ref mod, .ref mia, .ref mus, .ref mol, .ref mle, .int (nI k1), .ref mrw, .ref mls])), (mle, .inl (ky, 8, .inl (nA Lq)))]) [0, 1] rfl
            have hD9 := hD.sub (ws' := [(mo, .inr (5, [.int (nI sp), .int (nI d), .ref mdr, .int (nI mm - 1), .ref mtx, .ref mod, .ref mia, .ref mus, .ref mol, .ref mle, .int (nI k1), .ref mrw, .ref mls])), (mle, .inl (ky, 8, .inl (nA Lq)))]) [0, 1] (by decide) rfl
            exact W.zret (v := nI 1) hx hb hr (by first | rfl | decide) (fun t ht hW => ⟨⟨nI 1, (k1, Lq), rfl, (by first | exact ⟨Or.inl ⟨rfl, rd_y (by omega) hk8 hle (by omega) hz, hLi⟩, hk8, hLq⟩ | exact ⟨Or.inr ⟨rfl, rd_0 (by omega) (fun i _ h2 => hz i (by omega) h2)⟩, hk8, hLq⟩), by rw [ht]; exact hP9, hD9⟩, hS.F ht⟩) hS.2.2 d_Mo_read_97
        · skip
          rw [bw_le_nn (by omega) (by omega)] at hc66
          refine lv_lload_n hx hb d_Mo_read_69 rfl (lv_at hl 2 rfl) ?_
          refine lv_iload_n hx hb d_Mo_read_70 rfl (lv_at hl 0 rfl) ?_
          have hPc := hP.sub (ws' := []) [] rfl
          have hDc := hD.sub (ws' := []) [] (by decide) rfl
          have hFc := va_free (wc := []) hD hS hA [] rfl
          refine va_calli (va_runS (As := [.long (lN w), .int (nI j)]) (rest := []) ⟨hx, hb, hml, hown, hts⟩ (c_Mo_byteOf l dC dI ky H.size w j (by first | assumption | omega | (simp; done) | (simp_all; done)) (by first | assumption | omega | (simp; done) | (simp_all; done))) ⟨callB_of 2 hts (W0_good tw_408) rfl rfl rfl (htb _ tw_28) (htb _ tw_406) ⟨by decide, by decide, by decide +kernel⟩ ⟨(Nat.le_of_ble_eq_true rfl), (Nat.le_of_ble_eq_true rfl)⟩, htb _ tw_407⟩ ⟨fun a U g mk q => by obtain ⟨q0, q1, qP, qK, qD⟩ := q; exact ⟨q0, q1, qP, va_K.moved (u := U) (U := U.calling g mk a) (Vm.Alike.refl U.vm) qK, qD⟩, fun U hU hW => ⟨rfl, by rw [hU], by rw [hU]; exact hPc, va_K.moved hW.alike hK, hDc.weaken (fun _ _ _ _ => trivial)⟩⟩ rfl rfl hl.1 rfl (lv_room (Nat.le_of_ble_eq_true rfl)) d_Mo_read_71 ⟨(Nat.le_of_ble_eq_true rfl), (Nat.le_of_ble_eq_true rfl)⟩) hS (fun q _ h => hFc q h) hFc (fun r71 u_ t H locs ht hvm hw71 hB hz1 hk1 hS => ?_)
          obtain ⟨hP1, hD1⟩ := hB
          rw [ht] at hP1
          obtain ⟨hP, hD⟩ := va_join (wr := [(mo, .inr (5, [.int (nI sp), .int (nI d), .ref mdr, .int (nI mm - 1), .ref mtx, .ref mod, .ref mia, .ref mus, .ref mol, .ref mle, .int (nI k1), .ref mrw, .ref mls])), (mle, .inl (ky, 8, .inl (nA Lq)))]) (w1 := []) hP hD [] [0, 1] rfl rfl (by decide) (by decide) hk1 hFc hP1 hD1
          have hP : va_P (dC, dI) cls_ [(mo, .inr (5, [.int (nI sp), .int (nI d), .ref mdr, .int (nI mm - 1), .ref mtx, .ref mod, .ref mia, .ref mus, .ref mol, .ref mle, .int (nI k1), .ref mrw, .ref mls])), (mle, .inl (ky, 8, .inl (nA Lq)))] H := hP
          have hD : va_D A [(mo, .inr (5, [.int (nI sp), .int (nI d), .ref mdr, .int (nI mm - 1), .ref mtx, .ref mod, .ref mia, .ref mus, .ref mol, .ref mle, .int (nI k1), .ref mrw, .ref mls])), (mle, .inl (ky, 8, .inl (nA Lq)))] := hD
          have hw71 : r71 = nI (by8 w j) ∧ (True) := hw71
          obtain ⟨hre, hq71⟩ := hw71
          subst hre
          have hb256 := by8_lt w j
          refine lv_if_eq (tgt := 79) hx hb d_Mo_read_74 (by decide) (fun hc74 => ?_) (fun hc74 => ?_)
          · skip
            rw [← nI_0, bw_eq_nn (by omega) (by omega)] at hc74
            refine lv_iinc (v := nI (j + 1)) (k := 0) hx hb d_Mo_read_79 hl rfl (bw_inc j 1) (by decide) rfl (fun ls hl => ?_)
            have hl : lv_has ls 4 [(3, .int (nI (j + 1))), (0, .ref mo), (1, .long (lN w))] := hl
            refine lv_goto (tgt := 63) hx hb d_Mo_read_82 (by decide) ?_
            exact ih63 (j + 1) _ _ _ ⟨(by first | assumption | omega | (simp; done) | (simp_all; done)), (by first | assumption | omega | (simp; done) | (simp_all; done)), (fun i h1 h2 => if e : i = j then (by rw [e]; assumption) else hz i h1 (by omega)), hP, hD, hS, lv_sub hl [0, 1, 2] rfl⟩ (by first | omega | (simp only; omega) | (dsimp only; omega))
          · skip
            rw [← nI_0, bw_eq_nn (by omega) (by omega)] at hc74
            refine lv_iconst (v := nI 0) hx hb d_Mo_read_77 (by decide) ?_
            have hP9 := hP.sub (ws' := [(mo, .inr (5, [.int (nI sp), .int (nI d), .ref mdr, .int (nI mm - 1), .ref mtx, .ref mod, .ref mia, .ref mus, .ref mol, .ref mle, .int (nI k1), .ref mrw, .ref mls])), (mle, .inl (ky, 8, .inl (nA Lq)))]) [0, 1] rfl
            have hD9 := hD.sub (ws' := [(mo, .inr (5, [.int (nI sp), .int (nI d), .ref mdr, .int (nI mm - 1), .ref mtx, .ref mod, .ref mia, .ref mus, .ref mol, .ref mle, .int (nI k1), .ref mrw, .ref mls])), (mle, .inl (ky, 8, .inl (nA Lq)))]) [0, 1] (by decide) rfl
            exact W.zret (v := nI 0) hx hb hr (by first | rfl | decide) (fun t ht hW => ⟨⟨nI 0, (k1, Lq), rfl, (by first | exact ⟨Or.inr ⟨rfl, rd_no hnl hkj (by omega) (by assumption)⟩, hk8, hLq⟩ | (exfalso; omega)), by rw [ht]; exact hP9, hD9⟩, hS.F ht⟩) hS.2.2 d_Mo_read_78
      · exact absurd hc25 (by decide)

set_option maxHeartbeats 4000000 in
set_option maxRecDepth 100000 in
theorem c_Mo_occurs (l : Launch) (dC : Nat → ClassId) (dI : Nat → Nat → Nat) (ky : ClassId) (sz : Nat) (mo : Nat) (sp : Nat) (d : Nat) (mdr : Nat) (mm : Nat) (mtx : Nat) (mod : Nat) (mia : Nat) (mus : Nat) (mol : Nat) (mle : Nat) (my : Nat) (mrw : Nat) (mls : Nat) (Mx : Nat → Nat) (T : Nat → Nat) (Lw : Nat → Nat) (Wl : Nat → Nat) (px : Nat) (hMx : ∀ k_, Mx k_ < 125) (hmm : mm ≤ 97) (hT28 : ∀ k_, T k_ < 28) (hTx : ∀ q, q + 1 < mm → Mx q = cod (T q)) (hmy : 1 ≤ my ∧ my ≤ 8) (hLw : ∀ k_, Lw k_ < 125) (hWl28 : ∀ k_, Wl k_ < 28) (hLW : ∀ i, i < my → Lw i = cod (Wl i)) (hW0 : ∀ i, i < my → 2 ≤ Wl i) (hTm : ∀ nn, mm = nn + 1 → Txt T nn) (hpx : px + 1 < mm) : Met l y_Mo_occurs (Cond.code y_Mo_occurs prog_7_method_26_code 4 (some .boolean) :: W0) ({ frames := 0, cells := 0, slots := 0, locals := 0 }) (va_Pc [.ref mo, .int (nI px)] (fun U => U.heap.size = sz ∧ va_P (dC, dI) cls_ [(mo, .inr (5, [.int (nI sp), .int (nI d), .ref mdr, .int (nI mm - 1), .ref mtx, .ref mod, .ref mia, .ref mus, .ref mol, .ref mle, .int (nI my), .ref mrw, .ref mls])), (mtx, .inl (ky, 97, .inl (nA Mx))), (mle, .inl (ky, 8, .inl (nA Lw)))] U.heap ∧ va_K (dC, dI) cls_ [(ky, .int)] U ∧ va_D (fun _ => True) [(mo, .inr (5, [.int (nI sp), .int (nI d), .ref mdr, .int (nI mm - 1), .ref mtx, .ref mod, .ref mia, .ref mus, .ref mol, .ref mle, .int (nI my), .ref mrw, .ref mls])), (mtx, .inl (ky, 97, .inl (nA Mx))), (mle, .inl (ky, 8, .inl (nA Lw)))])) (va_Qi (fun (r : Int32) (_ : Unit) => (occ T Wl my 0 px ∧ r = nI 1) ∨ (¬ occ T Wl my 0 px ∧ r = nI 0)) (fun (_ : Unit) (t : State) => va_P (dC, dI) cls_ [(mo, .inr (5, [.int (nI sp), .int (nI d), .ref mdr, .int (nI mm - 1), .ref mtx, .ref mod, .ref mia, .ref mus, .ref mol, .ref mle, .int (nI my), .ref mrw, .ref mls])), (mtx, .inl (ky, 97, .inl (nA Mx))), (mle, .inl (ky, 8, .inl (nA Lw)))] t.heap ∧ va_D (va_A [(mo, .inr (5, [.int (nI sp), .int (nI d), .ref mdr, .int (nI mm - 1), .ref mtx, .ref mod, .ref mia, .ref mus, .ref mol, .ref mle, .int (nI my), .ref mrw, .ref mls])), (mtx, .inl (ky, 97, .inl (nA Mx))), (mle, .inl (ky, 8, .inl (nA Lw)))] sz) [(mo, .inr (5, [.int (nI sp), .int (nI d), .ref mdr, .int (nI mm - 1), .ref mtx, .ref mod, .ref mia, .ref mus, .ref mol, .ref mle, .int (nI my), .ref mrw, .ref mls])), (mtx, .inl (ky, 97, .inl (nA Mx))), (mle, .inl (ky, 8, .inl (nA Lw)))]) (va_A [(mo, .inr (5, [.int (nI sp), .int (nI d), .ref mdr, .int (nI mm - 1), .ref mtx, .ref mod, .ref mia, .ref mus, .ref mol, .ref mle, .int (nI my), .ref mrw, .ref mls])), (mtx, .inl (ky, 97, .inl (nA Mx))), (mle, .inl (ky, 8, .inl (nA Lw)))] sz)) 0 0 (va_A [(mo, .inr (5, [.int (nI sp), .int (nI d), .ref mdr, .int (nI mm - 1), .ref mtx, .ref mod, .ref mia, .ref mus, .ref mol, .ref mle, .int (nI my), .ref mrw, .ref mls])), (mtx, .inl (ky, 97, .inl (nA Mx))), (mle, .inl (ky, 8, .inl (nA Lw)))] sz) := by
  refine Met.ofW (cc := prog_7_method_26_code) (maxL := 4) (ret := (some .boolean)) (by decide) rfl ?_
  intro p e s m args below meth c s₁ B hml hv
  obtain ⟨rfl, hsz, hP, hK, hD0⟩ := hv
  have hx := B.exec
  have hb := B.bytes
  have hr := B.returns
  have hlocks := B.notSynchronized
  have hts := atoms_spec (ws := (Cond.code y_Mo_occurs prog_7_method_26_code 4 (some .boolean) :: W0)) B.pre
  have htb : ∀ w ∈ W0, w.before _ s = true := fun w h => hts w (List.mem_cons_of_mem _ h)
  have hown : s.vm.findClass "SelfIndexedSequencesModel" = some m.cls := findClass_of_methodNamed B.named
  subst hsz
  have hD := hD0.self (sz := s.heap.size)
  generalize hAe : va_A [(mo, .inr (5, [.int (nI sp), .int (nI d), .ref mdr, .int (nI mm - 1), .ref mtx, .ref mod, .ref mia, .ref mus, .ref mol, .ref mle, .int (nI my), .ref mrw, .ref mls])), (mtx, .inl (ky, 97, .inl (nA Mx))), (mle, .inl (ky, 8, .inl (nA Lw)))] s.heap.size = A at hD ⊢
  have hA : ∀ q : Nat, s.heap.size ≤ q → A q := fun q h => by rw [← hAe]; exact Or.inr h
  have hS : va_S A s.heap s.heap [] := va_S.rf
  have hl := lv_entry ([.ref mo, .int (nI px)]) (n := 4) (Nat.le_of_ble_eq_true rfl)
  rw [lg_entry_eq]
  generalize (lg_sl ([.ref mo, .int (nI px)]) ++ List.replicate (4 - (lg_sl ([.ref mo, .int (nI px)])).length) Slot.unset).toArray = ls at hl ⊢
  have hl : lv_has ls 4 [(0, .ref mo), (1, .int (nI px))] := hl
  refine lv_iload_n hx hb d_Mo_occurs_0 rfl (lv_at hl 1 rfl) ?_
  refine lv_aload_n hx hb d_Mo_occurs_1 rfl (lv_at hl 0 rfl) ?_
  refine va_get (D := (dC, dI)) (ci := 5) (v := .int (nI my)) (C := R_Mo) (T := F_Mo) (N := 13) hx hb htb in_Mo hown hK hP 0 rfl rfl 10 (by decide) (htb _ tw_371) (fun _ h9 => h9) rfl d_Mo_occurs_2 ?_
  refine lv_iadd hx hb d_Mo_occurs_5 ?_
  rw [nI_add]
  refine lv_aload_n hx hb d_Mo_occurs_6 rfl (lv_at hl 0 rfl) ?_
  refine va_get (D := (dC, dI)) (ci := 5) (v := .int (nI mm - 1)) (C := R_Mo) (T := F_Mo) (N := 13) hx hb htb in_Mo hown hK hP 0 rfl rfl 3 (by decide) (htb _ tw_364) (fun _ h9 => h9) rfl d_Mo_occurs_7 ?_
  refine lv_icmp_gt (tgt := 17) hx hb d_Mo_occurs_10 (by decide) (fun hc10 => ?_) (fun hc10 => ?_)
  · skip
    rw [bw_lt_pn (by omega) (by omega)] at hc10
    have hnoc : ¬ occ T Wl my 0 px := fun h => by have := occ_in (hTm (mm - 1) (by omega)) (by omega) (fun i hi => by have := hW0 i hi; omega) h; omega
    refine lv_iconst (v := nI 0) hx hb d_Mo_occurs_17 (by decide) ?_
    refine lv_istore_n hx hb d_Mo_occurs_18 rfl hl (by decide) rfl (fun ls hl => ?_)
    have hl : lv_has ls 4 [(2, .int (nI 0)), (0, .ref mo), (1, .int (nI px))] := hl
    refine lv_iconst (v := nI 0) hx hb d_Mo_occurs_19 (by decide) ?_
    refine lv_istore_n hx hb d_Mo_occurs_20 rfl hl (by decide) rfl (fun ls hl => ?_)
    have hl : lv_has ls 4 [(3, .int (nI 0)), (2, .int (nI 0)), (0, .ref mo), (1, .int (nI px))] := hl
    refine wl_loop (σ := Nat × Nat) 21 [] (fun (a_ : Nat × Nat) => match a_ with | (k, al) => my - k) (fun (a_ : Nat × Nat) (H : Heap) (locs : List Loc) (ls : Array Slot) => match a_ with | (k, al) => (k ≤ my) ∧ (OcI T Wl my px k al) ∧ (al ≤ 1) ∧ (al = 0 ∨ px + my + 1 ≤ mm) ∧ va_P (dC, dI) cls_ [(mo, .inr (5, [.int (nI sp), .int (nI d), .ref mdr, .int (nI mm - 1), .ref mtx, .ref mod, .ref mia, .ref mus, .ref mol, .ref mle, .int (nI my), .ref mrw, .ref mls])), (mtx, .inl (ky, 97, .inl (nA Mx))), (mle, .inl (ky, 8, .inl (nA Lw)))] H ∧ va_D A [(mo, .inr (5, [.int (nI sp), .int (nI d), .ref mdr, .int (nI mm - 1), .ref mtx, .ref mod, .ref mia, .ref mus, .ref mol, .ref mle, .int (nI my), .ref mrw, .ref mls])), (mtx, .inl (ky, 97, .inl (nA Mx))), (mle, .inl (ky, 8, .inl (nA Lw)))] ∧ va_S A s.heap H locs ∧ lv_has ls 4 [(3, .int (nI k)), (2, .int (nI al)), (0, .ref mo), (1, .int (nI px))]) ?_ (0, 0) ⟨(by first | assumption | omega | (simp; done) | (simp_all; done)), (by first | exact Or.inr ⟨rfl, hnoc⟩ | exact Or.inl ⟨rfl, fun i hi => by omega⟩), (by first | assumption | omega | (simp; done) | (simp_all; done)), (by first | assumption | omega | (simp; done) | (simp_all; done)), hP, hD, hS, lv_sub hl [0, 1, 2, 3] rfl⟩
    clear hP hD hS hl
    intro a_ H locs ls hI ih21
    obtain ⟨k, al⟩ := a_
    obtain ⟨hk, hal, hal1, hpm, hP, hD, hS, hl⟩ := hI
    have hl : lv_has ls 4 [(3, .int (nI k)), (2, .int (nI al)), (0, .ref mo), (1, .int (nI px))] := hl
    have hP : va_P (dC, dI) cls_ [(mo, .inr (5, [.int (nI sp), .int (nI d), .ref mdr, .int (nI mm - 1), .ref mtx, .ref mod, .ref mia, .ref mus, .ref mol, .ref mle, .int (nI my), .ref mrw, .ref mls])), (mtx, .inl (ky, 97, .inl (nA Mx))), (mle, .inl (ky, 8, .inl (nA Lw)))] H := hP
    have hD : va_D A [(mo, .inr (5, [.int (nI sp), .int (nI d), .ref mdr, .int (nI mm - 1), .ref mtx, .ref mod, .ref mia, .ref mus, .ref mol, .ref mle, .int (nI my), .ref mrw, .ref mls])), (mtx, .inl (ky, 97, .inl (nA Mx))), (mle, .inl (ky, 8, .inl (nA Lw)))] := hD
    have hk : k ≤ my := hk
    have hal : OcI T Wl my px k al := hal
    have hal1 : al ≤ 1 := hal1
    have hpm : al = 0 ∨ px + my + 1 ≤ mm := hpm
    refine lv_iload_n hx hb d_Mo_occurs_21 rfl (lv_at hl 0 rfl) ?_
    refine lv_aload_n hx hb d_Mo_occurs_22 rfl (lv_at hl 2 rfl) ?_
    refine va_get (D := (dC, dI)) (ci := 5) (v := .int (nI my)) (C := R_Mo) (T := F_Mo) (N := 13) hx hb htb in_Mo hown hK hP 0 rfl rfl 10 (by decide) (htb _ tw_371) (fun _ h9 => h9) rfl d_Mo_occurs_23 ?_
    refine lv_icmp_ge (tgt := 62) hx hb d_Mo_occurs_26 (by decide) (fun hc26 => ?_) (fun hc26 => ?_)
    · skip
      rw [bw_le_nn (by omega) (by omega)] at hc26
      refine lv_iload_n hx hb d_Mo_occurs_62 rfl (lv_at hl 1 rfl) ?_
      have hP9 := hP.sub (ws' := [(mo, .inr (5, [.int (nI sp), .int (nI d), .ref mdr, .int (nI mm - 1), .ref mtx, .ref mod, .ref mia, .ref mus, .ref mol, .ref mle, .int (nI my), .ref mrw, .ref mls])), (mtx, .inl (ky, 97, .inl (nA Mx))), (mle, .inl (ky, 8, .inl (nA Lw)))]) [0, 1, 2] rfl
      have hD9 := hD.sub (ws' := [(mo, .inr (5, [.int (nI sp), .int (nI d), .ref mdr, .int (nI mm - 1), .ref mtx, .ref mod, .ref mia, .ref mus, .ref mol, .ref mle, .int (nI my), .ref mrw, .ref mls])), (mtx, .inl (ky, 97, .inl (nA Mx))), (mle, .inl (ky, 8, .inl (nA Lw)))]) [0, 1, 2] (by decide) rfl
      exact W.zret (v := nI al) hx hb hr (bw_nar hal1) (fun t ht hW => ⟨⟨nI al, (), rfl, (OcI_end hal (by omega)), by rw [ht]; exact hP9, hD9⟩, hS.F ht⟩) hS.2.2 d_Mo_occurs_63
    · skip
      rw [bw_le_nn (by omega) (by omega)] at hc26
      refine lv_iload_n hx hb d_Mo_occurs_29 rfl (lv_at hl 1 rfl) ?_
      refine lv_if_eq (tgt := 62) hx hb d_Mo_occurs_30 (by decide) (fun hc30 => ?_) (fun hc30 => ?_)
      · skip
        rw [← nI_0, bw_eq_nn (by omega) (by omega)] at hc30
        refine lv_iload_n hx hb d_Mo_occurs_62 rfl (lv_at hl 1 rfl) ?_
        have hP9 := hP.sub (ws' := [(mo, .inr (5, [.int (nI sp), .int (nI d), .ref mdr, .int (nI mm - 1), .ref mtx, .ref mod, .ref mia, .ref mus, .ref mol, .ref mle, .int (nI my), .ref mrw, .ref mls])), (mtx, .inl (ky, 97, .inl (nA Mx))), (mle, .inl (ky, 8, .inl (nA Lw)))]) [0, 1, 2] rfl
        have hD9 := hD.sub (ws' := [(mo, .inr (5, [.int (nI sp), .int (nI d), .ref mdr, .int (nI mm - 1), .ref mtx, .ref mod, .ref mia, .ref mus, .ref mol, .ref mle, .int (nI my), .ref mrw, .ref mls])), (mtx, .inl (ky, 97, .inl (nA Mx))), (mle, .inl (ky, 8, .inl (nA Lw)))]) [0, 1, 2] (by decide) rfl
        exact W.zret (v := nI al) hx hb hr (bw_nar hal1) (fun t ht hW => ⟨⟨nI al, (), rfl, (OcI_end hal (by omega)), by rw [ht]; exact hP9, hD9⟩, hS.F ht⟩) hS.2.2 d_Mo_occurs_63
      · skip
        rw [← nI_0, bw_eq_nn (by omega) (by omega)] at hc30
        refine lv_aload_n hx hb d_Mo_occurs_33 rfl (lv_at hl 2 rfl) ?_
        refine va_get (D := (dC, dI)) (ci := 5) (v := .ref mtx) (C := R_Mo) (T := F_Mo) (N := 13) hx hb htb in_Mo hown hK hP 0 rfl rfl 4 (by decide) (htb _ tw_365) (fun _ h9 => h9) rfl d_Mo_occurs_34 ?_
        refine lv_iload_n hx hb d_Mo_occurs_37 rfl (lv_at hl 3 rfl) ?_
        refine lv_iload_n hx hb d_Mo_occurs_38 rfl (lv_at hl 0 rfl) ?_
        refine lv_iadd hx hb d_Mo_occurs_39 ?_
        rw [nI_add]
        have hcl := cod_lt (hT28 (px + k))
        have hcw := cod_lt (hWl28 k)
        refine va_iald hx hb hK hP 1 0 rfl rfl (vp_in_nI (by omega) (by decide)) d_Mo_occurs_40 ?_
        rw [nI_clamp (by omega)]
        have hb40 := hMx (px + k)
        rw [nA_at]
        rw [show nI (Mx (px + k)) = nI (cod (T (px + k))) from (by rw [hTx _ (by omega)])]
        refine lv_aload_n hx hb d_Mo_occurs_41 rfl (lv_at hl 2 rfl) ?_
        refine va_get (D := (dC, dI)) (ci := 5) (v := .ref mle) (C := R_Mo) (T := F_Mo) (N := 13) hx hb htb in_Mo hown hK hP 0 rfl rfl 9 (by decide) (htb _ tw_370) (fun _ h9 => h9) rfl d_Mo_occurs_42 ?_
        refine lv_iload_n hx hb d_Mo_occurs_45 rfl (lv_at hl 0 rfl) ?_
        refine va_iald hx hb hK hP 2 0 rfl rfl (vp_in_nI (by omega) (by decide)) d_Mo_occurs_46 ?_
        rw [nI_clamp (by omega)]
        have hb46 := hLw k
        rw [nA_at]
        rw [show nI (Lw k) = nI (cod (Wl k)) from (by rw [hLW k (by omega)])]
        refine lv_icmp_ne (tgt := 54) hx hb d_Mo_occurs_47 (by decide) (fun hc47 => ?_) (fun hc47 => ?_)
        · skip
          rw [bw_eq_nn (by omega) (by omega)] at hc47
          refine lv_iconst (v := nI 0) hx hb d_Mo_occurs_54 (by decide) ?_
          refine lv_istore_n hx hb d_Mo_occurs_55 rfl hl (by decide) rfl (fun ls hl => ?_)
          have hl : lv_has ls 4 [(2, .int (nI 0)), (3, .int (nI k)), (0, .ref mo), (1, .int (nI px))] := hl
          refine lv_iinc (v := nI (k + 1)) (k := 1) hx hb d_Mo_occurs_56 hl rfl (bw_inc k 1) (by decide) rfl (fun ls hl => ?_)
          have hl : lv_has ls 4 [(3, .int (nI (k + 1))), (2, .int (nI 0)), (0, .ref mo), (1, .int (nI px))] := hl
          refine lv_goto (tgt := 21) hx hb d_Mo_occurs_59 (by decide) ?_
          exact ih21 ((k + 1), 0) _ _ _ ⟨(by first | assumption | omega | (simp; done) | (simp_all; done)), (by first | exact OcI_y hal (by assumption) (cod_inj (hT28 _) (hWl28 _) (by assumption)) | exact OcI_n (by omega) (fun z => absurd (congrArg cod z) (by assumption))), (by first | assumption | omega | (simp; done) | (simp_all; done)), (by first | assumption | omega | (simp; done) | (simp_all; done)), hP, hD, hS, lv_sub hl [0, 1, 2, 3] rfl⟩ (by first | omega | (simp only; omega) | (dsimp only; omega))
        · skip
          rw [bw_eq_nn (by omega) (by omega)] at hc47
          refine lv_iconst (v := nI 1) hx hb d_Mo_occurs_50 (by decide) ?_
          refine lv_goto (tgt := 55) hx hb d_Mo_occurs_51 (by decide) ?_
          refine lv_istore_n hx hb d_Mo_occurs_55 rfl hl (by decide) rfl (fun ls hl => ?_)
          have hl : lv_has ls 4 [(2, .int (nI 1)), (3, .int (nI k)), (0, .ref mo), (1, .int (nI px))] := hl
          refine lv_iinc (v := nI (k + 1)) (k := 1) hx hb d_Mo_occurs_56 hl rfl (bw_inc k 1) (by decide) rfl (fun ls hl => ?_)
          have hl : lv_has ls 4 [(3, .int (nI (k + 1))), (2, .int (nI 1)), (0, .ref mo), (1, .int (nI px))] := hl
          refine lv_goto (tgt := 21) hx hb d_Mo_occurs_59 (by decide) ?_
          exact ih21 ((k + 1), 1) _ _ _ ⟨(by first | assumption | omega | (simp; done) | (simp_all; done)), (by first | exact OcI_y hal (by assumption) (cod_inj (hT28 _) (hWl28 _) (by assumption)) | exact OcI_n (by omega) (fun z => absurd (congrArg cod z) (by assumption))), (by first | assumption | omega | (simp; done) | (simp_all; done)), (by first | assumption | omega | (simp; done) | (simp_all; done)), hP, hD, hS, lv_sub hl [0, 1, 2, 3] rfl⟩ (by first | omega | (simp only; omega) | (dsimp only; omega))
  · skip
    rw [bw_lt_pn (by omega) (by omega)] at hc10
    refine lv_iconst (v := nI 1) hx hb d_Mo_occurs_13 (by decide) ?_
    refine lv_goto (tgt := 18) hx hb d_Mo_occurs_14 (by decide) ?_
    refine lv_istore_n hx hb d_Mo_occurs_18 rfl hl (by decide) rfl (fun ls hl => ?_)
    have hl : lv_has ls 4 [(2, .int (nI 1)), (0, .ref mo), (1, .int (nI px))] := hl
    refine lv_iconst (v := nI 0) hx hb d_Mo_occurs_19 (by decide) ?_
    refine lv_istore_n hx hb d_Mo_occurs_20 rfl hl (by decide) rfl (fun ls hl => ?_)
    have hl : lv_has ls 4 [(3, .int (nI 0)), (2, .int (nI 1)), (0, .ref mo), (1, .int (nI px))] := hl
    refine wl_loop (σ := Nat × Nat) 21 [] (fun (a_ : Nat × Nat) => match a_ with | (k, al) => my - k) (fun (a_ : Nat × Nat) (H : Heap) (locs : List Loc) (ls : Array Slot) => match a_ with | (k, al) => (k ≤ my) ∧ (OcI T Wl my px k al) ∧ (al ≤ 1) ∧ (al = 0 ∨ px + my + 1 ≤ mm) ∧ va_P (dC, dI) cls_ [(mo, .inr (5, [.int (nI sp), .int (nI d), .ref mdr, .int (nI mm - 1), .ref mtx, .ref mod, .ref mia, .ref mus, .ref mol, .ref mle, .int (nI my), .ref mrw, .ref mls])), (mtx, .inl (ky, 97, .inl (nA Mx))), (mle, .inl (ky, 8, .inl (nA Lw)))] H ∧ va_D A [(mo, .inr (5, [.int (nI sp), .int (nI d), .ref mdr, .int (nI mm - 1), .ref mtx, .ref mod, .ref mia, .ref mus, .ref mol, .ref mle, .int (nI my), .ref mrw, .ref mls])), (mtx, .inl (ky, 97, .inl (nA Mx))), (mle, .inl (ky, 8, .inl (nA Lw)))] ∧ va_S A s.heap H locs ∧ lv_has ls 4 [(3, .int (nI k)), (2, .int (nI al)), (0, .ref mo), (1, .int (nI px))]) ?_ (0, 1) ⟨(by first | assumption | omega | (simp; done) | (simp_all; done)), (by first | exact Or.inr ⟨rfl, hnoc⟩ | exact Or.inl ⟨rfl, fun i hi => by omega⟩), (by first | assumption | omega | (simp; done) | (simp_all; done)), (by first | assumption | omega | (simp; done) | (simp_all; done)), hP, hD, hS, lv_sub hl [0, 1, 2, 3] rfl⟩
    clear hP hD hS hl
    intro a_ H locs ls hI ih21
    obtain ⟨k, al⟩ := a_
    obtain ⟨hk, hal, hal1, hpm, hP, hD, hS, hl⟩ := hI
    have hl : lv_has ls 4 [(3, .int (nI k)), (2, .int (nI al)), (0, .ref mo), (1, .int (nI px))] := hl
    have hP : va_P (dC, dI) cls_ [(mo, .inr (5, [.int (nI sp), .int (nI d), .ref mdr, .int (nI mm - 1), .ref mtx, .ref mod, .ref mia, .ref mus, .ref mol, .ref mle, .int (nI my), .ref mrw, .ref mls])), (mtx, .inl (ky, 97, .inl (nA Mx))), (mle, .inl (ky, 8, .inl (nA Lw)))] H := hP
    have hD : va_D A [(mo, .inr (5, [.int (nI sp), .int (nI d), .ref mdr, .int (nI mm - 1), .ref mtx, .ref mod, .ref mia, .ref mus, .ref mol, .ref mle, .int (nI my), .ref mrw, .ref mls])), (mtx, .inl (ky, 97, .inl (nA Mx))), (mle, .inl (ky, 8, .inl (nA Lw)))] := hD
    have hk : k ≤ my := hk
    have hal : OcI T Wl my px k al := hal
    have hal1 : al ≤ 1 := hal1
    have hpm : al = 0 ∨ px + my + 1 ≤ mm := hpm
    refine lv_iload_n hx hb d_Mo_occurs_21 rfl (lv_at hl 0 rfl) ?_
    refine lv_aload_n hx hb d_Mo_occurs_22 rfl (lv_at hl 2 rfl) ?_
    refine va_get (D := (dC, dI)) (ci := 5) (v := .int (nI my)) (C := R_Mo) (T := F_Mo) (N := 13) hx hb htb in_Mo hown hK hP 0 rfl rfl 10 (by decide) (htb _ tw_371) (fun _ h9 => h9) rfl d_Mo_occurs_23 ?_
    refine lv_icmp_ge (tgt := 62) hx hb d_Mo_occurs_26 (by decide) (fun hc26 => ?_) (fun hc26 => ?_)
    · skip
      rw [bw_le_nn (by omega) (by omega)] at hc26
      refine lv_iload_n hx hb d_Mo_occurs_62 rfl (lv_at hl 1 rfl) ?_
      have hP9 := hP.sub (ws' := [(mo, .inr (5, [.int (nI sp), .int (nI d), .ref mdr, .int (nI mm - 1), .ref mtx, .ref mod, .ref mia, .ref mus, .ref mol, .ref mle, .int (nI my), .ref mrw, .ref mls])), (mtx, .inl (ky, 97, .inl (nA Mx))), (mle, .inl (ky, 8, .inl (nA Lw)))]) [0, 1, 2] rfl
      have hD9 := hD.sub (ws' := [(mo, .inr (5, [.int (nI sp), .int (nI d), .ref mdr, .int (nI mm - 1), .ref mtx, .ref mod, .ref mia, .ref mus, .ref mol, .ref mle, .int (nI my), .ref mrw, .ref mls])), (mtx, .inl (ky, 97, .inl (nA Mx))), (mle, .inl (ky, 8, .inl (nA Lw)))]) [0, 1, 2] (by decide) rfl
      exact W.zret (v := nI al) hx hb hr (bw_nar hal1) (fun t ht hW => ⟨⟨nI al, (), rfl, (OcI_end hal (by omega)), by rw [ht]; exact hP9, hD9⟩, hS.F ht⟩) hS.2.2 d_Mo_occurs_63
    · skip
      rw [bw_le_nn (by omega) (by omega)] at hc26
      refine lv_iload_n hx hb d_Mo_occurs_29 rfl (lv_at hl 1 rfl) ?_
      refine lv_if_eq (tgt := 62) hx hb d_Mo_occurs_30 (by decide) (fun hc30 => ?_) (fun hc30 => ?_)
      · skip
        rw [← nI_0, bw_eq_nn (by omega) (by omega)] at hc30
        refine lv_iload_n hx hb d_Mo_occurs_62 rfl (lv_at hl 1 rfl) ?_
        have hP9 := hP.sub (ws' := [(mo, .inr (5, [.int (nI sp), .int (nI d), .ref mdr, .int (nI mm - 1), .ref mtx, .ref mod, .ref mia, .ref mus, .ref mol, .ref mle, .int (nI my), .ref mrw, .ref mls])), (mtx, .inl (ky, 97, .inl (nA Mx))), (mle, .inl (ky, 8, .inl (nA Lw)))]) [0, 1, 2] rfl
        have hD9 := hD.sub (ws' := [(mo, .inr (5, [.int (nI sp), .int (nI d), .ref mdr, .int (nI mm - 1), .ref mtx, .ref mod, .ref mia, .ref mus, .ref mol, .ref mle, .int (nI my), .ref mrw, .ref mls])), (mtx, .inl (ky, 97, .inl (nA Mx))), (mle, .inl (ky, 8, .inl (nA Lw)))]) [0, 1, 2] (by decide) rfl
        exact W.zret (v := nI al) hx hb hr (bw_nar hal1) (fun t ht hW => ⟨⟨nI al, (), rfl, (OcI_end hal (by omega)), by rw [ht]; exact hP9, hD9⟩, hS.F ht⟩) hS.2.2 d_Mo_occurs_63
      · skip
        rw [← nI_0, bw_eq_nn (by omega) (by omega)] at hc30
        refine lv_aload_n hx hb d_Mo_occurs_33 rfl (lv_at hl 2 rfl) ?_
        refine va_get (D := (dC, dI)) (ci := 5) (v := .ref mtx) (C := R_Mo) (T := F_Mo) (N := 13) hx hb htb in_Mo hown hK hP 0 rfl rfl 4 (by decide) (htb _ tw_365) (fun _ h9 => h9) rfl d_Mo_occurs_34 ?_
        refine lv_iload_n hx hb d_Mo_occurs_37 rfl (lv_at hl 3 rfl) ?_
        refine lv_iload_n hx hb d_Mo_occurs_38 rfl (lv_at hl 0 rfl) ?_
        refine lv_iadd hx hb d_Mo_occurs_39 ?_
        rw [nI_add]
        have hcl := cod_lt (hT28 (px + k))
        have hcw := cod_lt (hWl28 k)
        refine va_iald hx hb hK hP 1 0 rfl rfl (vp_in_nI (by omega) (by decide)) d_Mo_occurs_40 ?_
        rw [nI_clamp (by omega)]
        have hb40 := hMx (px + k)
        rw [nA_at]
        rw [show nI (Mx (px + k)) = nI (cod (T (px + k))) from (by rw [hTx _ (by omega)])]
        refine lv_aload_n hx hb d_Mo_occurs_41 rfl (lv_at hl 2 rfl) ?_
        refine va_get (D := (dC, dI)) (ci := 5) (v := .ref mle) (C := R_Mo) (T := F_Mo) (N := 13) hx hb htb in_Mo hown hK hP 0 rfl rfl 9 (by decide) (htb _ tw_370) (fun _ h9 => h9) rfl d_Mo_occurs_42 ?_
        refine lv_iload_n hx hb d_Mo_occurs_45 rfl (lv_at hl 0 rfl) ?_
        refine va_iald hx hb hK hP 2 0 rfl rfl (vp_in_nI (by omega) (by decide)) d_Mo_occurs_46 ?_
        rw [nI_clamp (by omega)]
        have hb46 := hLw k
        rw [nA_at]
        rw [show nI (Lw k) = nI (cod (Wl k)) from (by rw [hLW k (by omega)])]
        refine lv_icmp_ne (tgt := 54) hx hb d_Mo_occurs_47 (by decide) (fun hc47 => ?_) (fun hc47 => ?_)
        · skip
          rw [bw_eq_nn (by omega) (by omega)] at hc47
          refine lv_iconst (v := nI 0) hx hb d_Mo_occurs_54 (by decide) ?_
          refine lv_istore_n hx hb d_Mo_occurs_55 rfl hl (by decide) rfl (fun ls hl => ?_)
          have hl : lv_has ls 4 [(2, .int (nI 0)), (3, .int (nI k)), (0, .ref mo), (1, .int (nI px))] := hl
          refine lv_iinc (v := nI (k + 1)) (k := 1) hx hb d_Mo_occurs_56 hl rfl (bw_inc k 1) (by decide) rfl (fun ls hl => ?_)
          have hl : lv_has ls 4 [(3, .int (nI (k + 1))), (2, .int (nI 0)), (0, .ref mo), (1, .int (nI px))] := hl
          refine lv_goto (tgt := 21) hx hb d_Mo_occurs_59 (by decide) ?_
          exact ih21 ((k + 1), 0) _ _ _ ⟨(by first | assumption | omega | (simp; done) | (simp_all; done)), (by first | exact OcI_y hal (by assumption) (cod_inj (hT28 _) (hWl28 _) (by assumption)) | exact OcI_n (by omega) (fun z => absurd (congrArg cod z) (by assumption))), (by first | assumption | omega | (simp; done) | (simp_all; done)), (by first | assumption | omega | (simp; done) | (simp_all; done)), hP, hD, hS, lv_sub hl [0, 1, 2, 3] rfl⟩ (by first | omega | (simp only; omega) | (dsimp only; omega))
        · skip
          rw [bw_eq_nn (by omega) (by omega)] at hc47
          refine lv_iconst (v := nI 1) hx hb d_Mo_occurs_50 (by decide) ?_
          refine lv_goto (tgt := 55) hx hb d_Mo_occurs_51 (by decide) ?_
          refine lv_istore_n hx hb d_Mo_occurs_55 rfl hl (by decide) rfl (fun ls hl => ?_)
          have hl : lv_has ls 4 [(2, .int (nI 1)), (3, .int (nI k)), (0, .ref mo), (1, .int (nI px))] := hl
          refine lv_iinc (v := nI (k + 1)) (k := 1) hx hb d_Mo_occurs_56 hl rfl (bw_inc k 1) (by decide) rfl (fun ls hl => ?_)
          have hl : lv_has ls 4 [(3, .int (nI (k + 1))), (2, .int (nI 1)), (0, .ref mo), (1, .int (nI px))] := hl
          refine lv_goto (tgt := 21) hx hb d_Mo_occurs_59 (by decide) ?_
          exact ih21 ((k + 1), 1) _ _ _ ⟨(by first | assumption | omega | (simp; done) | (simp_all; done)), (by first | exact OcI_y hal (by assumption) (cod_inj (hT28 _) (hWl28 _) (by assumption)) | exact OcI_n (by omega) (fun z => absurd (congrArg cod z) (by assumption))), (by first | assumption | omega | (simp; done) | (simp_all; done)), (by first | assumption | omega | (simp; done) | (simp_all; done)), hP, hD, hS, lv_sub hl [0, 1, 2, 3] rfl⟩ (by first | omega | (simp only; omega) | (dsimp only; omega))

set_option maxHeartbeats 4000000 in
set_option maxRecDepth 100000 in
theorem c_Mo_search (l : Launch) (dC : Nat → ClassId) (dI : Nat → Nat → Nat) (ky : ClassId) (sz : Nat) (mo : Nat) (sp : Nat) (d : Nat) (mdr : Nat) (mm : Nat) (mtx : Nat) (mod : Nat) (mia : Nat) (mus : Nat) (mol : Nat) (mle : Nat) (my : Nat) (mrw : Nat) (mls : Nat) (Mx : Nat → Nat) (T : Nat → Nat) (Lw : Nat → Nat) (Wl : Nat → Nat) (xi : Int32) (hMx : ∀ k_, Mx k_ < 125) (hmm : mm ≤ 97) (hT28 : ∀ k_, T k_ < 28) (hTx : ∀ q, q + 1 < mm → Mx q = cod (T q)) (hmy : 1 ≤ my ∧ my ≤ 8) (hLw : ∀ k_, Lw k_ < 125) (hWl28 : ∀ k_, Wl k_ < 28) (hLW : ∀ i, i < my → Lw i = cod (Wl i)) (hW0 : ∀ i, i < my → 2 ≤ Wl i) (hTm : ∀ nn, mm = nn + 1 → Txt T nn) : Met l y_Mo_search (Cond.code y_Mo_search prog_7_method_27_code 4 (some .int) :: W0) ({ frames := 1, cells := 0, slots := 0, locals := 23 }) (va_Pc [.ref mo, .int (xi)] (fun U => U.heap.size = sz ∧ va_P (dC, dI) cls_ [(mo, .inr (5, [.int (nI sp), .int (nI d), .ref mdr, .int (nI mm - 1), .ref mtx, .ref mod, .ref mia, .ref mus, .ref mol, .ref mle, .int (nI my), .ref mrw, .ref mls])), (mtx, .inl (ky, 97, .inl (nA Mx))), (mle, .inl (ky, 8, .inl (nA Lw)))] U.heap ∧ va_K (dC, dI) cls_ [(ky, .int)] U ∧ va_D (fun _ => True) [(mo, .inr (5, [.int (nI sp), .int (nI d), .ref mdr, .int (nI mm - 1), .ref mtx, .ref mod, .ref mia, .ref mus, .ref mol, .ref mle, .int (nI my), .ref mrw, .ref mls])), (mtx, .inl (ky, 97, .inl (nA Mx))), (mle, .inl (ky, 8, .inl (nA Lw)))])) (va_Qi (fun (r : Int32) (_ : Unit) => (∃ v, v + 1 < mm ∧ occ T Wl my 0 v ∧ xi = nI (num (occ T Wl my 0) v) ∧ r = nI v) ∨ ((∀ v, v + 1 < mm → occ T Wl my 0 v → xi ≠ nI (num (occ T Wl my 0) v)) ∧ ((xi < 0 ∧ r = nI (num (occ T Wl my 0) (mm - 1))) ∨ (¬ xi < 0 ∧ r = nI 0 - 1)))) (fun (_ : Unit) (t : State) => va_P (dC, dI) cls_ [(mo, .inr (5, [.int (nI sp), .int (nI d), .ref mdr, .int (nI mm - 1), .ref mtx, .ref mod, .ref mia, .ref mus, .ref mol, .ref mle, .int (nI my), .ref mrw, .ref mls])), (mtx, .inl (ky, 97, .inl (nA Mx))), (mle, .inl (ky, 8, .inl (nA Lw)))] t.heap ∧ va_D (va_A [(mo, .inr (5, [.int (nI sp), .int (nI d), .ref mdr, .int (nI mm - 1), .ref mtx, .ref mod, .ref mia, .ref mus, .ref mol, .ref mle, .int (nI my), .ref mrw, .ref mls])), (mtx, .inl (ky, 97, .inl (nA Mx))), (mle, .inl (ky, 8, .inl (nA Lw)))] sz) [(mo, .inr (5, [.int (nI sp), .int (nI d), .ref mdr, .int (nI mm - 1), .ref mtx, .ref mod, .ref mia, .ref mus, .ref mol, .ref mle, .int (nI my), .ref mrw, .ref mls])), (mtx, .inl (ky, 97, .inl (nA Mx))), (mle, .inl (ky, 8, .inl (nA Lw)))]) (va_A [(mo, .inr (5, [.int (nI sp), .int (nI d), .ref mdr, .int (nI mm - 1), .ref mtx, .ref mod, .ref mia, .ref mus, .ref mol, .ref mle, .int (nI my), .ref mrw, .ref mls])), (mtx, .inl (ky, 97, .inl (nA Mx))), (mle, .inl (ky, 8, .inl (nA Lw)))] sz)) 0 0 (va_A [(mo, .inr (5, [.int (nI sp), .int (nI d), .ref mdr, .int (nI mm - 1), .ref mtx, .ref mod, .ref mia, .ref mus, .ref mol, .ref mle, .int (nI my), .ref mrw, .ref mls])), (mtx, .inl (ky, 97, .inl (nA Mx))), (mle, .inl (ky, 8, .inl (nA Lw)))] sz) := by
  refine Met.ofW (cc := prog_7_method_27_code) (maxL := 4) (ret := (some .int)) (by decide) rfl ?_
  intro p e s m args below meth c s₁ B hml hv
  obtain ⟨rfl, hsz, hP, hK, hD0⟩ := hv
  have hx := B.exec
  have hb := B.bytes
  have hr := B.returns
  have hlocks := B.notSynchronized
  have hts := atoms_spec (ws := (Cond.code y_Mo_search prog_7_method_27_code 4 (some .int) :: W0)) B.pre
  have htb : ∀ w ∈ W0, w.before _ s = true := fun w h => hts w (List.mem_cons_of_mem _ h)
  have hown : s.vm.findClass "SelfIndexedSequencesModel" = some m.cls := findClass_of_methodNamed B.named
  subst hsz
  have hD := hD0.self (sz := s.heap.size)
  generalize hAe : va_A [(mo, .inr (5, [.int (nI sp), .int (nI d), .ref mdr, .int (nI mm - 1), .ref mtx, .ref mod, .ref mia, .ref mus, .ref mol, .ref mle, .int (nI my), .ref mrw, .ref mls])), (mtx, .inl (ky, 97, .inl (nA Mx))), (mle, .inl (ky, 8, .inl (nA Lw)))] s.heap.size = A at hD ⊢
  have hA : ∀ q : Nat, s.heap.size ≤ q → A q := fun q h => by rw [← hAe]; exact Or.inr h
  have hS : va_S A s.heap s.heap [] := va_S.rf
  have hl := lv_entry ([.ref mo, .int (xi)]) (n := 4) (Nat.le_of_ble_eq_true rfl)
  rw [lg_entry_eq]
  generalize (lg_sl ([.ref mo, .int (xi)]) ++ List.replicate (4 - (lg_sl ([.ref mo, .int (xi)])).length) Slot.unset).toArray = ls at hl ⊢
  have hl : lv_has ls 4 [(0, .ref mo), (1, .int (xi))] := hl
  refine lv_iconst (v := nI 0) hx hb d_Mo_search_0 (by decide) ?_
  refine lv_istore_n hx hb d_Mo_search_1 rfl hl (by decide) rfl (fun ls hl => ?_)
  have hl : lv_has ls 4 [(2, .int (nI 0)), (0, .ref mo), (1, .int (xi))] := hl
  refine lv_iconst (v := nI 0) hx hb d_Mo_search_2 (by decide) ?_
  refine lv_istore_n hx hb d_Mo_search_3 rfl hl (by decide) rfl (fun ls hl => ?_)
  have hl : lv_has ls 4 [(3, .int (nI 0)), (2, .int (nI 0)), (0, .ref mo), (1, .int (xi))] := hl
  refine wl_loop (σ := Nat × Nat) 4 [] (fun (a_ : Nat × Nat) => match a_ with | (p1, f) => mm - p1) (fun (a_ : Nat × Nat) (H : Heap) (locs : List Loc) (ls : Array Slot) => match a_ with | (p1, f) => (p1 = 0 ∨ p1 + 1 ≤ mm) ∧ (f = num (occ T Wl my 0) p1) ∧ (f ≤ p1) ∧ (∀ v, v < p1 → occ T Wl my 0 v → xi ≠ nI (num (occ T Wl my 0) v)) ∧ va_P (dC, dI) cls_ [(mo, .inr (5, [.int (nI sp), .int (nI d), .ref mdr, .int (nI mm - 1), .ref mtx, .ref mod, .ref mia, .ref mus, .ref mol, .ref mle, .int (nI my), .ref mrw, .ref mls])), (mtx, .inl (ky, 97, .inl (nA Mx))), (mle, .inl (ky, 8, .inl (nA Lw)))] H ∧ va_D A [(mo, .inr (5, [.int (nI sp), .int (nI d), .ref mdr, .int (nI mm - 1), .ref mtx, .ref mod, .ref mia, .ref mus, .ref mol, .ref mle, .int (nI my), .ref mrw, .ref mls])), (mtx, .inl (ky, 97, .inl (nA Mx))), (mle, .inl (ky, 8, .inl (nA Lw)))] ∧ va_S A s.heap H locs ∧ lv_has ls 4 [(3, .int (nI p1)), (2, .int (nI f)), (0, .ref mo), (1, .int (xi))]) ?_ (0, 0) ⟨(by first | assumption | omega | (simp; done) | (simp_all; done)), rfl, (by first | assumption | omega | (simp; done) | (simp_all; done)), (fun v hv => by omega), hP, hD, hS, lv_sub hl [0, 1, 2, 3] rfl⟩
  clear hP hD hS hl
  intro a_ H locs ls hI ih4
  obtain ⟨p1, f⟩ := a_
  obtain ⟨hp1, hf, hfk, hno, hP, hD, hS, hl⟩ := hI
  have hl : lv_has ls 4 [(3, .int (nI p1)), (2, .int (nI f)), (0, .ref mo), (1, .int (xi))] := hl
  have hP : va_P (dC, dI) cls_ [(mo, .inr (5, [.int (nI sp), .int (nI d), .ref mdr, .int (nI mm - 1), .ref mtx, .ref mod, .ref mia, .ref mus, .ref mol, .ref mle, .int (nI my), .ref mrw, .ref mls])), (mtx, .inl (ky, 97, .inl (nA Mx))), (mle, .inl (ky, 8, .inl (nA Lw)))] H := hP
  have hD : va_D A [(mo, .inr (5, [.int (nI sp), .int (nI d), .ref mdr, .int (nI mm - 1), .ref mtx, .ref mod, .ref mia, .ref mus, .ref mol, .ref mle, .int (nI my), .ref mrw, .ref mls])), (mtx, .inl (ky, 97, .inl (nA Mx))), (mle, .inl (ky, 8, .inl (nA Lw)))] := hD
  have hp1 : p1 = 0 ∨ p1 + 1 ≤ mm := hp1
  have hf : f = num (occ T Wl my 0) p1 := hf
  have hfk : f ≤ p1 := hfk
  have hno : ∀ v, v < p1 → occ T Wl my 0 v → xi ≠ nI (num (occ T Wl my 0) v) := hno
  refine lv_iload_n hx hb d_Mo_search_4 rfl (lv_at hl 0 rfl) ?_
  refine lv_aload_n hx hb d_Mo_search_5 rfl (lv_at hl 2 rfl) ?_
  refine va_get (D := (dC, dI)) (ci := 5) (v := .int (nI mm - 1)) (C := R_Mo) (T := F_Mo) (N := 13) hx hb htb in_Mo hown hK hP 0 rfl rfl 3 (by decide) (htb _ tw_364) (fun _ h9 => h9) rfl d_Mo_search_6 ?_
  refine lv_icmp_ge (tgt := 36) hx hb d_Mo_search_9 (by decide) (fun hc9 => ?_) (fun hc9 => ?_)
  · skip
    rw [bw_le_pn (by omega) (by omega)] at hc9
    refine lv_iload_n hx hb d_Mo_search_36 rfl (lv_at hl 3 rfl) ?_
    refine lv_if_ge (tgt := 44) hx hb d_Mo_search_37 (by decide) (fun hc37 => ?_) (fun hc37 => ?_)
    · skip
      refine lv_iconst (v := nI 0 - 1) hx hb d_Mo_search_44 (by decide) ?_
      have hP9 := hP.sub (ws' := [(mo, .inr (5, [.int (nI sp), .int (nI d), .ref mdr, .int (nI mm - 1), .ref mtx, .ref mod, .ref mia, .ref mus, .ref mol, .ref mle, .int (nI my), .ref mrw, .ref mls])), (mtx, .inl (ky, 97, .inl (nA Mx))), (mle, .inl (ky, 8, .inl (nA Lw)))]) [0, 1, 2] rfl
      have hD9 := hD.sub (ws' := [(mo, .inr (5, [.int (nI sp), .int (nI d), .ref mdr, .int (nI mm - 1), .ref mtx, .ref mod, .ref mia, .ref mus, .ref mol, .ref mle, .int (nI my), .ref mrw, .ref mls])), (mtx, .inl (ky, 97, .inl (nA Mx))), (mle, .inl (ky, 8, .inl (nA Lw)))]) [0, 1, 2] (by decide) rfl
      exact W.iret (v := nI 0 - 1) hx hb hr (fun t ht hW => ⟨⟨nI 0 - 1, (), rfl, (Or.inr ⟨fun v hv => hno v (by omega), by first | exact Or.inl ⟨bw_nge hc37, by rw [hf, show p1 = mm - 1 by omega]⟩ | exact Or.inr ⟨bw_ge hc37, rfl⟩⟩), by rw [ht]; exact hP9, hD9⟩, hS.F ht⟩) hS.2.2 d_Mo_search_45
    · skip
      refine lv_iload_n hx hb d_Mo_search_40 rfl (lv_at hl 1 rfl) ?_
      refine lv_goto (tgt := 45) hx hb d_Mo_search_41 (by decide) ?_
      have hP9 := hP.sub (ws' := [(mo, .inr (5, [.int (nI sp), .int (nI d), .ref mdr, .int (nI mm - 1), .ref mtx, .ref mod, .ref mia, .ref mus, .ref mol, .ref mle, .int (nI my), .ref mrw, .ref mls])), (mtx, .inl (ky, 97, .inl (nA Mx))), (mle, .inl (ky, 8, .inl (nA Lw)))]) [0, 1, 2] rfl
      have hD9 := hD.sub (ws' := [(mo, .inr (5, [.int (nI sp), .int (nI d), .ref mdr, .int (nI mm - 1), .ref mtx, .ref mod, .ref mia, .ref mus, .ref mol, .ref mle, .int (nI my), .ref mrw, .ref mls])), (mtx, .inl (ky, 97, .inl (nA Mx))), (mle, .inl (ky, 8, .inl (nA Lw)))]) [0, 1, 2] (by decide) rfl
      exact W.iret (v := nI f) hx hb hr (fun t ht hW => ⟨⟨nI f, (), rfl, (Or.inr ⟨fun v hv => hno v (by omega), by first | exact Or.inl ⟨bw_nge hc37, by rw [hf, show p1 = mm - 1 by omega]⟩ | exact Or.inr ⟨bw_ge hc37, rfl⟩⟩), by rw [ht]; exact hP9, hD9⟩, hS.F ht⟩) hS.2.2 d_Mo_search_45
  · skip
    rw [bw_le_pn (by omega) (by omega)] at hc9
    refine lv_aload_n hx hb d_Mo_search_12 rfl (lv_at hl 2 rfl) ?_
    refine lv_iload_n hx hb d_Mo_search_13 rfl (lv_at hl 0 rfl) ?_
    have hPc := hP.sub (ws' := [(mo, .inr (5, [.int (nI sp), .int (nI d), .ref mdr, .int (nI mm - 1), .ref mtx, .ref mod, .ref mia, .ref mus, .ref mol, .ref mle, .int (nI my), .ref mrw, .ref mls])), (mtx, .inl (ky, 97, .inl (nA Mx))), (mle, .inl (ky, 8, .inl (nA Lw)))]) [0, 1, 2] rfl
    have hDc := hD.sub (ws' := [(mo, .inr (5, [.int (nI sp), .int (nI d), .ref mdr, .int (nI mm - 1), .ref mtx, .ref mod, .ref mia, .ref mus, .ref mol, .ref mle, .int (nI my), .ref mrw, .ref mls])), (mtx, .inl (ky, 97, .inl (nA Mx))), (mle, .inl (ky, 8, .inl (nA Lw)))]) [0, 1, 2] (by decide) rfl
    have hFc := va_free (wc := [(mo, .inr (5, [.int (nI sp), .int (nI d), .ref mdr, .int (nI mm - 1), .ref mtx, .ref mod, .ref mia, .ref mus, .ref mol, .ref mle, .int (nI my), .ref mrw, .ref mls])), (mtx, .inl (ky, 97, .inl (nA Mx))), (mle, .inl (ky, 8, .inl (nA Lw)))]) hD hS hA [0, 1, 2] rfl
    refine va_calli (va_runV (C := "SelfIndexedSequencesModel") (As := [.int (nI p1)]) (rest := []) ⟨hx, hb, hml, hown, hts⟩ (c_Mo_occurs l dC dI ky H.size mo sp d mdr mm mtx mod mia mus mol mle my mrw mls Mx T Lw Wl p1 hMx (by first | assumption | omega | (simp; done) | (simp_all; done)) (by first | assumption | omega | (simp; done) | (simp_all; done)) (by first | assumption | omega | (simp; done) | (simp_all; done)) (by first | assumption | omega | (simp; done) | (simp_all; done)) hLw (by first | assumption | omega | (simp; done) | (simp_all; done)) (by first | assumption | omega | (simp; done) | (simp_all; done)) (by first | assumption | omega | (simp; done) | (simp_all; done)) (by first | assumption | omega | (simp; done) | (simp_all; done)) (by first | assumption | omega | (simp; done) | (simp_all; done))) ⟨callB_of 1 hts (W0_good tw_508) rfl rfl rfl (htb _ tw_28) (htb _ tw_505) ⟨by decide, by decide, by decide +kernel⟩ ⟨(Nat.le_of_ble_eq_true rfl), (Nat.le_of_ble_eq_true rfl)⟩, htb _ tw_507, htb _ tw_18⟩ ⟨fun a U g mk q => by obtain ⟨q0, q1, qP, qK, qD⟩ := q; exact ⟨q0, q1, qP, va_K.moved (u := U) (U := U.calling g mk a) (Vm.Alike.refl U.vm) qK, qD⟩, va_recv hK hPc (q0 := 0) (q := (R_Mo, F_Mo, 13)) rfl rfl, fun U hU hW => ⟨rfl, by rw [hU], by rw [hU]; exact hPc, va_K.moved hW.alike hK, hDc.weaken (fun _ _ _ _ => trivial)⟩⟩ rfl rfl hl.1 rfl (lv_room (Nat.le_of_ble_eq_true rfl)) d_Mo_search_14 ⟨(Nat.le_of_ble_eq_true rfl), (Nat.le_of_ble_eq_true rfl)⟩) hS (fun q _ h => hFc q h) hFc (fun r14 u_ t H locs ht hvm hw14 hB hz1 hk1 hS => ?_)
    obtain ⟨hP1, hD1⟩ := hB
    rw [ht] at hP1
    obtain ⟨hP, hD⟩ := va_join (wr := []) (w1 := [(mo, .inr (5, [.int (nI sp), .int (nI d), .ref mdr, .int (nI mm - 1), .ref mtx, .ref mod, .ref mia, .ref mus, .ref mol, .ref mle, .int (nI my), .ref mrw, .ref mls])), (mtx, .inl (ky, 97, .inl (nA Mx))), (mle, .inl (ky, 8, .inl (nA Lw)))]) hP hD [0, 1, 2] [] rfl rfl (by decide) (by decide) hk1 hFc hP1 hD1
    have hP : va_P (dC, dI) cls_ [(mo, .inr (5, [.int (nI sp), .int (nI d), .ref mdr, .int (nI mm - 1), .ref mtx, .ref mod, .ref mia, .ref mus, .ref mol, .ref mle, .int (nI my), .ref mrw, .ref mls])), (mtx, .inl (ky, 97, .inl (nA Mx))), (mle, .inl (ky, 8, .inl (nA Lw)))] H := hP
    have hD : va_D A [(mo, .inr (5, [.int (nI sp), .int (nI d), .ref mdr, .int (nI mm - 1), .ref mtx, .ref mod, .ref mia, .ref mus, .ref mol, .ref mle, .int (nI my), .ref mrw, .ref mls])), (mtx, .inl (ky, 97, .inl (nA Mx))), (mle, .inl (ky, 8, .inl (nA Lw)))] := hD
    have hq14 : (occ T Wl my 0 p1 ∧ r14 = nI 1) ∨ (¬ occ T Wl my 0 p1 ∧ r14 = nI 0) := hw14
    rcases hq14 with ⟨hoc, rfl⟩ | ⟨hoc, rfl⟩
    · skip
      refine lv_if_eq (tgt := 30) hx hb d_Mo_search_17 (by decide) (fun hc17 => ?_) (fun hc17 => ?_)
      · exact absurd hc17 (by decide)
      · skip
        rw [← nI_0, bw_eq_nn (by omega) (by omega)] at hc17
        refine lv_iload_n hx hb d_Mo_search_20 rfl (lv_at hl 1 rfl) ?_
        refine lv_iload_n hx hb d_Mo_search_21 rfl (lv_at hl 3 rfl) ?_
        refine lv_icmp_ne (tgt := 27) hx hb d_Mo_search_22 (by decide) (fun hc22 => ?_) (fun hc22 => ?_)
        · skip
          refine lv_iinc (v := nI (f + 1)) (k := 1) hx hb d_Mo_search_27 hl rfl (bw_inc f 1) (by decide) rfl (fun ls hl => ?_)
          have hl : lv_has ls 4 [(2, .int (nI (f + 1))), (3, .int (nI p1)), (0, .ref mo), (1, .int (xi))] := hl
          refine lv_iinc (v := nI (p1 + 1)) (k := 1) hx hb d_Mo_search_30 hl rfl (bw_inc p1 1) (by decide) rfl (fun ls hl => ?_)
          have hl : lv_has ls 4 [(3, .int (nI (p1 + 1))), (2, .int (nI (f + 1))), (0, .ref mo), (1, .int (xi))] := hl
          refine lv_goto (tgt := 4) hx hb d_Mo_search_33 (by decide) ?_
          exact ih4 ((p1 + 1), (f + 1)) _ _ _ ⟨(by first | assumption | omega | (simp; done) | (simp_all; done)), (by first | exact num_sy hoc hf | exact num_sn hoc hf), (by first | assumption | omega | (simp; done) | (simp_all; done)), (fun v hv hq => if e : v = p1 then (by subst e; first | exact absurd hq hoc | (rw [← hf]; exact fun z => hc22 z.symm)) else hno v (by omega) hq), hP, hD, hS, lv_sub hl [0, 1, 2, 3] rfl⟩ (by first | omega | (simp only; omega) | (dsimp only; omega))
        · skip
          refine lv_iload_n hx hb d_Mo_search_25 rfl (lv_at hl 0 rfl) ?_
          have hP9 := hP.sub (ws' := [(mo, .inr (5, [.int (nI sp), .int (nI d), .ref mdr, .int (nI mm - 1), .ref mtx, .ref mod, .ref mia, .ref mus, .ref mol, .ref mle, .int (nI my), .ref mrw, .ref mls])), (mtx, .inl (ky, 97, .inl (nA Mx))), (mle, .inl (ky, 8, .inl (nA Lw)))]) [0, 1, 2] rfl
          have hD9 := hD.sub (ws' := [(mo, .inr (5, [.int (nI sp), .int (nI d), .ref mdr, .int (nI mm - 1), .ref mtx, .ref mod, .ref mia, .ref mus, .ref mol, .ref mle, .int (nI my), .ref mrw, .ref mls])), (mtx, .inl (ky, 97, .inl (nA Mx))), (mle, .inl (ky, 8, .inl (nA Lw)))]) [0, 1, 2] (by decide) rfl
          exact W.iret (v := nI p1) hx hb hr (fun t ht hW => ⟨⟨nI p1, (), rfl, (Or.inl ⟨p1, by omega, hoc, by rw [← hf]; exact hc22.symm, rfl⟩), by rw [ht]; exact hP9, hD9⟩, hS.F ht⟩) hS.2.2 d_Mo_search_26
    · skip
      refine lv_if_eq (tgt := 30) hx hb d_Mo_search_17 (by decide) (fun hc17 => ?_) (fun hc17 => ?_)
      · skip
        rw [← nI_0, bw_eq_nn (by omega) (by omega)] at hc17
        refine lv_iinc (v := nI (p1 + 1)) (k := 0) hx hb d_Mo_search_30 hl rfl (bw_inc p1 1) (by decide) rfl (fun ls hl => ?_)
        have hl : lv_has ls 4 [(3, .int (nI (p1 + 1))), (2, .int (nI f)), (0, .ref mo), (1, .int (xi))] := hl
        refine lv_goto (tgt := 4) hx hb d_Mo_search_33 (by decide) ?_
        exact ih4 ((p1 + 1), f) _ _ _ ⟨(by first | assumption | omega | (simp; done) | (simp_all; done)), (by first | exact num_sy hoc hf | exact num_sn hoc hf), (by first | assumption | omega | (simp; done) | (simp_all; done)), (fun v hv hq => if e : v = p1 then (by subst e; first | exact absurd hq hoc | (rw [← hf]; exact fun z => hc22 z.symm)) else hno v (by omega) hq), hP, hD, hS, lv_sub hl [0, 1, 2, 3] rfl⟩ (by first | omega | (simp only; omega) | (dsimp only; omega))
      · exact absurd hc17 (by decide)
