set_option maxHeartbeats 4000000 in
set_option maxRecDepth 100000 in
theorem c_Mo_matches (l : Launch) (dC : Nat → ClassId) (dI : Nat → Nat → Nat) (ky : ClassId) (sz : Nat) (mo : Nat) (sp : Nat) (d : Nat) (mdr : Nat) (mm : Nat) (mtx : Nat) (mod : Nat) (mia : Nat) (mus : Nat) (mol : Nat) (mle : Nat) (my : Nat) (mrw : Nat) (mls : Nat) (Mx : Nat → Nat) (T : Nat → Nat) (Lw : Nat → Nat) (Rr : Nat → Nat) (Ls : Nat → Nat) (w : Nat) (xk : Int32) (hMx : ∀ k_, Mx k_ < 125) (hmm : mm ≤ 97) (hT28 : ∀ k_, T k_ < 28) (hTx : ∀ q, q + 1 < mm → Mx q = cod (T q)) (hLw : ∀ k_, Lw k_ < 125) (hw : w < 2 ^ 64) (hTm : ∀ nn, mm = nn + 1 → Txt T nn) (hmy8 : my ≤ 8) (hRr : ∀ k_, Rr k_ < 110) (hLs : ∀ k_, Ls k_ < 9) : Met l y_Mo_matches (Cond.code y_Mo_matches prog_7_method_33_code 4 (some .int) :: W0) ({ frames := 3, cells := 0, slots := 0, locals := 77 }) (va_Pc [.ref mo, .long (lN w), .int (xk)] (fun U => U.heap.size = sz ∧ va_P (dC, dI) cls_ [(mo, .inr (5, [.int (nI sp), .int (nI d), .ref mdr, .int (nI mm - 1), .ref mtx, .ref mod, .ref mia, .ref mus, .ref mol, .ref mle, .int (nI my), .ref mrw, .ref mls])), (mtx, .inl (ky, 97, .inl (nA Mx))), (mle, .inl (ky, 8, .inl (nA Lw))), (mrw, .inl (ky, 9, .inl (nA Rr))), (mls, .inl (ky, 97, .inl (nA Ls)))] U.heap ∧ va_K (dC, dI) cls_ [(ky, .int)] U ∧ va_D (fun _ => True) [(mo, .inr (5, [.int (nI sp), .int (nI d), .ref mdr, .int (nI mm - 1), .ref mtx, .ref mod, .ref mia, .ref mus, .ref mol, .ref mle, .int (nI my), .ref mrw, .ref mls])), (mtx, .inl (ky, 97, .inl (nA Mx))), (mle, .inl (ky, 8, .inl (nA Lw))), (mrw, .inl (ky, 9, .inl (nA Rr))), (mls, .inl (ky, 97, .inl (nA Ls)))])) (va_Qi (fun (r : Int32) (u : (Nat) × (Nat → Nat) × (Nat → Nat) × (Nat → Nat)) => match u with | (kn, Wn, Rn, Ln) => ((∃ k kk, Pat w k ∧ kk ≤ 4 ∧ xk = nI kk ∧ r = nI (num (fun v => Er (pw w) T v k ≤ kk) mm)) ∨ ((∀ k kk, Pat w k → kk ≤ 4 → xk ≠ nI kk) ∧ r = nI 0 - 1)) ∧ kn ≤ 8 ∧ (∀ k_, Wn k_ < 125) ∧ (∀ k_, Rn k_ < 110) ∧ (∀ k_, Ln k_ < 9)) (fun (u : (Nat) × (Nat → Nat) × (Nat → Nat) × (Nat → Nat)) (t : State) => match u with | (kn, Wn, Rn, Ln) => va_P (dC, dI) cls_ [(mo, .inr (5, [.int (nI sp), .int (nI d), .ref mdr, .int (nI mm - 1), .ref mtx, .ref mod, .ref mia, .ref mus, .ref mol, .ref mle, .int (nI kn), .ref mrw, .ref mls])), (mtx, .inl (ky, 97, .inl (nA Mx))), (mle, .inl (ky, 8, .inl (nA Wn))), (mrw, .inl (ky, 9, .inl (nA Rn))), (mls, .inl (ky, 97, .inl (nA Ln)))] t.heap ∧ va_D (va_A [(mo, .inr (5, [.int (nI sp), .int (nI d), .ref mdr, .int (nI mm - 1), .ref mtx, .ref mod, .ref mia, .ref mus, .ref mol, .ref mle, .int (nI my), .ref mrw, .ref mls])), (mtx, .inl (ky, 97, .inl (nA Mx))), (mle, .inl (ky, 8, .inl (nA Lw))), (mrw, .inl (ky, 9, .inl (nA Rr))), (mls, .inl (ky, 97, .inl (nA Ls)))] sz) [(mo, .inr (5, [.int (nI sp), .int (nI d), .ref mdr, .int (nI mm - 1), .ref mtx, .ref mod, .ref mia, .ref mus, .ref mol, .ref mle, .int (nI kn), .ref mrw, .ref mls])), (mtx, .inl (ky, 97, .inl (nA Mx))), (mle, .inl (ky, 8, .inl (nA Wn))), (mrw, .inl (ky, 9, .inl (nA Rn))), (mls, .inl (ky, 97, .inl (nA Ln)))]) (va_A [(mo, .inr (5, [.int (nI sp), .int (nI d), .ref mdr, .int (nI mm - 1), .ref mtx, .ref mod, .ref mia, .ref mus, .ref mol, .ref mle, .int (nI my), .ref mrw, .ref mls])), (mtx, .inl (ky, 97, .inl (nA Mx))), (mle, .inl (ky, 8, .inl (nA Lw))), (mrw, .inl (ky, 9, .inl (nA Rr))), (mls, .inl (ky, 97, .inl (nA Ls)))] sz)) 0 0 (va_A [(mo, .inr (5, [.int (nI sp), .int (nI d), .ref mdr, .int (nI mm - 1), .ref mtx, .ref mod, .ref mia, .ref mus, .ref mol, .ref mle, .int (nI my), .ref mrw, .ref mls])), (mtx, .inl (ky, 97, .inl (nA Mx))), (mle, .inl (ky, 8, .inl (nA Lw))), (mrw, .inl (ky, 9, .inl (nA Rr))), (mls, .inl (ky, 97, .inl (nA Ls)))] sz) := by
  refine Met.ofW (cc := prog_7_method_33_code) (maxL := 4) (ret := (some .int)) (by decide) rfl ?_
  intro p e s m args below meth c s₁ B hml hv
  obtain ⟨rfl, hsz, hP, hK, hD0⟩ := hv
  have hx := B.exec
  have hb := B.bytes
  have hr := B.returns
  have hlocks := B.notSynchronized
  have hts := atoms_spec (ws := (Cond.code y_Mo_matches prog_7_method_33_code 4 (some .int) :: W0)) B.pre
  have htb : ∀ w ∈ W0, w.before _ s = true := fun w h => hts w (List.mem_cons_of_mem _ h)
  have hown : s.vm.findClass "SelfIndexedSequencesModel" = some m.cls := findClass_of_methodNamed B.named
  subst hsz
  have hD := hD0.self (sz := s.heap.size)
  generalize hAe : va_A [(mo, .inr (5, [.int (nI sp), .int (nI d), .ref mdr, .int (nI mm - 1), .ref mtx, .ref mod, .ref mia, .ref mus, .ref mol, .ref mle, .int (nI my), .ref mrw, .ref mls])), (mtx, .inl (ky, 97, .inl (nA Mx))), (mle, .inl (ky, 8, .inl (nA Lw))), (mrw, .inl (ky, 9, .inl (nA Rr))), (mls, .inl (ky, 97, .inl (nA Ls)))] s.heap.size = A at hD ⊢
  have hA : ∀ q : Nat, s.heap.size ≤ q → A q := fun q h => by rw [← hAe]; exact Or.inr h
  have hS : va_S A s.heap s.heap [] := va_S.rf
  have hl := lv_entry ([.ref mo, .long (lN w), .int (xk)]) (n := 4) (Nat.le_of_ble_eq_true rfl)
  rw [lg_entry_eq]
  generalize (lg_sl ([.ref mo, .long (lN w), .int (xk)]) ++ List.replicate (4 - (lg_sl ([.ref mo, .long (lN w), .int (xk)])).length) Slot.unset).toArray = ls at hl ⊢
  have hl : lv_has ls 4 [(0, .ref mo), (1, .long (lN w)), (3, .int (xk))] := hl
  refine lv_iload_n hx hb d_Mo_matches_0 rfl (lv_at hl 2 rfl) ?_
  refine lv_if_lt (tgt := 17) hx hb d_Mo_matches_1 (by decide) (fun hc1 => ?_) (fun hc1 => ?_)
  · skip
    refine lv_iconst (v := nI 0 - 1) hx hb d_Mo_matches_17 (by decide) ?_
    refine lv_goto (tgt := 27) hx hb d_Mo_matches_18 (by decide) ?_
    have hP9 := hP.sub (ws' := [(mo, .inr (5, [.int (nI sp), .int (nI d), .ref mdr, .int (nI mm - 1), .ref mtx, .ref mod, .ref mia, .ref mus, .ref mol, .ref mle, .int (nI my), .ref mrw, .ref mls])), (mtx, .inl (ky, 97, .inl (nA Mx))), (mle, .inl (ky, 8, .inl (nA Lw))), (mrw, .inl (ky, 9, .inl (nA Rr))), (mls, .inl (ky, 97, .inl (nA Ls)))]) [0, 1, 2, 3, 4] rfl
    have hD9 := hD.sub (ws' := [(mo, .inr (5, [.int (nI sp), .int (nI d), .ref mdr, .int (nI mm - 1), .ref mtx, .ref mod, .ref mia, .ref mus, .ref mol, .ref mle, .int (nI my), .ref mrw, .ref mls])), (mtx, .inl (ky, 97, .inl (nA Mx))), (mle, .inl (ky, 8, .inl (nA Lw))), (mrw, .inl (ky, 9, .inl (nA Rr))), (mls, .inl (ky, 97, .inl (nA Ls)))]) [0, 1, 2, 3, 4] (by decide) rfl
    exact W.iret (v := nI 0 - 1) hx hb hr (fun t ht hW => ⟨⟨nI 0 - 1, (my, Lw, Rr, Ls), rfl, (by first | exact ⟨Or.inl ⟨kn, kk, hPt, hk4, hxk, rfl⟩, hk8, hWb, hRk, hLk⟩ | exact ⟨Or.inr ⟨fun k kk hp => absurd hp (hnP k), rfl⟩, hk8, hWb, hRr, hLs⟩ | exact ⟨Or.inr ⟨fun k kk _ hk => bw_no04 (by first | exact Or.inl hc1 | exact Or.inr hc6) kk hk, rfl⟩, hmy8, hLw, hRr, hLs⟩), by rw [ht]; exact hP9, hD9⟩, hS.F ht⟩) hS.2.2 d_Mo_matches_27
  · skip
    refine lv_iload_n hx hb d_Mo_matches_4 rfl (lv_at hl 2 rfl) ?_
    refine lv_iconst (v := nI 4) hx hb d_Mo_matches_5 (by decide) ?_
    refine lv_icmp_gt (tgt := 17) hx hb d_Mo_matches_6 (by decide) (fun hc6 => ?_) (fun hc6 => ?_)
    · skip
      refine lv_iconst (v := nI 0 - 1) hx hb d_Mo_matches_17 (by decide) ?_
      refine lv_goto (tgt := 27) hx hb d_Mo_matches_18 (by decide) ?_
      have hP9 := hP.sub (ws' := [(mo, .inr (5, [.int (nI sp), .int (nI d), .ref mdr, .int (nI mm - 1), .ref mtx, .ref mod, .ref mia, .ref mus, .ref mol, .ref mle, .int (nI my), .ref mrw, .ref mls])), (mtx, .inl (ky, 97, .inl (nA Mx))), (mle, .inl (ky, 8, .inl (nA Lw))), (mrw, .inl (ky, 9, .inl (nA Rr))), (mls, .inl (ky, 97, .inl (nA Ls)))]) [0, 1, 2, 3, 4] rfl
      have hD9 := hD.sub (ws' := [(mo, .inr (5, [.int (nI sp), .int (nI d), .ref mdr, .int (nI mm - 1), .ref mtx, .ref mod, .ref mia, .ref mus, .ref mol, .ref mle, .int (nI my), .ref mrw, .ref mls])), (mtx, .inl (ky, 97, .inl (nA Mx))), (mle, .inl (ky, 8, .inl (nA Lw))), (mrw, .inl (ky, 9, .inl (nA Rr))), (mls, .inl (ky, 97, .inl (nA Ls)))]) [0, 1, 2, 3, 4] (by decide) rfl
      exact W.iret (v := nI 0 - 1) hx hb hr (fun t ht hW => ⟨⟨nI 0 - 1, (my, Lw, Rr, Ls), rfl, (by first | exact ⟨Or.inl ⟨kn, kk, hPt, hk4, hxk, rfl⟩, hk8, hWb, hRk, hLk⟩ | exact ⟨Or.inr ⟨fun k kk hp => absurd hp (hnP k), rfl⟩, hk8, hWb, hRr, hLs⟩ | exact ⟨Or.inr ⟨fun k kk _ hk => bw_no04 (by first | exact Or.inl hc1 | exact Or.inr hc6) kk hk, rfl⟩, hmy8, hLw, hRr, hLs⟩), by rw [ht]; exact hP9, hD9⟩, hS.F ht⟩) hS.2.2 d_Mo_matches_27
    · skip
      obtain ⟨kk, _, hk4, hxk⟩ := bw_rng (a := 0) (b := 4) hc1 hc6
      have hv_ : xk = nI kk := hxk
      rw [hv_] at hl
      have hl : lv_has ls 4 [(0, .ref mo), (1, .long (lN w)), (3, .int (nI kk))] := hl
      refine lv_aload_n hx hb d_Mo_matches_9 rfl (lv_at hl 0 rfl) ?_
      refine lv_lload_n hx hb d_Mo_matches_10 rfl (lv_at hl 1 rfl) ?_
      have hPc := hP.sub (ws' := [(mo, .inr (5, [.int (nI sp), .int (nI d), .ref mdr, .int (nI mm - 1), .ref mtx, .ref mod, .ref mia, .ref mus, .ref mol, .ref mle, .int (nI my), .ref mrw, .ref mls])), (mle, .inl (ky, 8, .inl (nA Lw)))]) [0, 2] rfl
      have hDc := hD.sub (ws' := [(mo, .inr (5, [.int (nI sp), .int (nI d), .ref mdr, .int (nI mm - 1), .ref mtx, .ref mod, .ref mia, .ref mus, .ref mol, .ref mle, .int (nI my), .ref mrw, .ref mls])), (mle, .inl (ky, 8, .inl (nA Lw)))]) [0, 2] (by decide) rfl
      have hFc := va_free (wc := [(mo, .inr (5, [.int (nI sp), .int (nI d), .ref mdr, .int (nI mm - 1), .ref mtx, .ref mod, .ref mia, .ref mus, .ref mol, .ref mle, .int (nI my), .ref mrw, .ref mls])), (mle, .inl (ky, 8, .inl (nA Lw)))]) hD hS hA [0, 2] rfl
      refine va_calli (va_runV (C := "SelfIndexedSequencesModel") (As := [.long (lN w)]) (rest := []) ⟨hx, hb, hml, hown, hts⟩ (c_Mo_read l dC dI ky s.heap.size mo sp d mdr mm mtx mod mia mus mol mle my mrw mls Lw w hLw (by first | assumption | omega | (simp; done) | (simp_all; done))) ⟨callB_of 1 hts (W0_good tw_500) rfl rfl rfl (htb _ tw_28) (htb _ tw_497) ⟨by decide, by decide, by decide +kernel⟩ ⟨(Nat.le_of_ble_eq_true rfl), (Nat.le_of_ble_eq_true rfl)⟩, htb _ tw_499, htb _ tw_16⟩ ⟨fun a U g mk q => by obtain ⟨q0, q1, qP, qK, qD⟩ := q; exact ⟨q0, q1, qP, va_K.moved (u := U) (U := U.calling g mk a) (Vm.Alike.refl U.vm) qK, qD⟩, va_recv hK hPc (q0 := 0) (q := (R_Mo, F_Mo, 13)) rfl rfl, fun U hU hW => ⟨rfl, by rw [hU], by rw [hU]; exact hPc, va_K.moved hW.alike hK, hDc.weaken (fun _ _ _ _ => trivial)⟩⟩ rfl rfl hl.1 rfl (lv_room (Nat.le_of_ble_eq_true rfl)) d_Mo_matches_11 ⟨(Nat.le_of_ble_eq_true rfl), (Nat.le_of_ble_eq_true rfl)⟩) hS (fun q _ h => hFc q h) hFc (fun r11 u_ t H locs ht hvm hw11 hB hz1 hk1 hS => ?_)
      obtain ⟨kn, Wn⟩ := u_
      obtain ⟨hP1, hD1⟩ := hB
      rw [ht] at hP1
      obtain ⟨hP, hD⟩ := va_join (wr := [(mtx, .inl (ky, 97, .inl (nA Mx))), (mrw, .inl (ky, 9, .inl (nA Rr))), (mls, .inl (ky, 97, .inl (nA Ls)))]) (w1 := [(mo, .inr (5, [.int (nI sp), .int (nI d), .ref mdr, .int (nI mm - 1), .ref mtx, .ref mod, .ref mia, .ref mus, .ref mol, .ref mle, .int (nI kn), .ref mrw, .ref mls])), (mle, .inl (ky, 8, .inl (nA Wn)))]) hP hD [0, 2] [1, 3, 4] rfl rfl (by decide) (by decide) hk1 hFc hP1 hD1
      have hP : va_P (dC, dI) cls_ [(mtx, .inl (ky, 97, .inl (nA Mx))), (mrw, .inl (ky, 9, .inl (nA Rr))), (mls, .inl (ky, 97, .inl (nA Ls))), (mo, .inr (5, [.int (nI sp), .int (nI d), .ref mdr, .int (nI mm - 1), .ref mtx, .ref mod, .ref mia, .ref mus, .ref mol, .ref mle, .int (nI kn), .ref mrw, .ref mls])), (mle, .inl (ky, 8, .inl (nA Wn)))] H := hP
      have hD : va_D A [(mtx, .inl (ky, 97, .inl (nA Mx))), (mrw, .inl (ky, 9, .inl (nA Rr))), (mls, .inl (ky, 97, .inl (nA Ls))), (mo, .inr (5, [.int (nI sp), .int (nI d), .ref mdr, .int (nI mm - 1), .ref mtx, .ref mod, .ref mia, .ref mus, .ref mol, .ref mle, .int (nI kn), .ref mrw, .ref mls])), (mle, .inl (ky, 8, .inl (nA Wn)))] := hD
      have hq11 : ((r11 = nI 1 ∧ Pat w kn ∧ ∀ i, i < kn → Wn i = by8 w i) ∨ (r11 = nI 0 ∧ ∀ k, ¬ Pat w k)) ∧ kn ≤ 8 ∧ (∀ k_, Wn k_ < 125) := hw11
      obtain ⟨hrd, hk8, hWb⟩ := hq11
      rcases hrd with ⟨rfl, hPt, hLi⟩ | ⟨rfl, hnP⟩
      · skip
        refine lv_if_ne (tgt := 21) hx hb d_Mo_matches_14 (by decide) (fun hc14 => ?_) (fun hc14 => ?_)
        · skip
          rw [← nI_0, bw_eq_nn (by omega) (by omega)] at hc14
          refine lv_aload_n hx hb d_Mo_matches_21 rfl (lv_at hl 0 rfl) ?_
          refine lv_iload_n hx hb d_Mo_matches_22 rfl (lv_at hl 2 rfl) ?_
          refine lv_iconst (v := nI 0 - 1) hx hb d_Mo_matches_23 (by decide) ?_
          have hPc := hP.sub (ws' := [(mo, .inr (5, [.int (nI sp), .int (nI d), .ref mdr, .int (nI mm - 1), .ref mtx, .ref mod, .ref mia, .ref mus, .ref mol, .ref mle, .int (nI kn), .ref mrw, .ref mls])), (mtx, .inl (ky, 97, .inl (nA Mx))), (mle, .inl (ky, 8, .inl (nA Wn))), (mrw, .inl (ky, 9, .inl (nA Rr))), (mls, .inl (ky, 97, .inl (nA Ls)))]) [3, 0, 4, 1, 2] rfl
          have hDc := hD.sub (ws' := [(mo, .inr (5, [.int (nI sp), .int (nI d), .ref mdr, .int (nI mm - 1), .ref mtx, .ref mod, .ref mia, .ref mus, .ref mol, .ref mle, .int (nI kn), .ref mrw, .ref mls])), (mtx, .inl (ky, 97, .inl (nA Mx))), (mle, .inl (ky, 8, .inl (nA Wn))), (mrw, .inl (ky, 9, .inl (nA Rr))), (mls, .inl (ky, 97, .inl (nA Ls)))]) [3, 0, 4, 1, 2] (by decide) rfl
          have hFc := va_free (wc := [(mo, .inr (5, [.int (nI sp), .int (nI d), .ref mdr, .int (nI mm - 1), .ref mtx, .ref mod, .ref mia, .ref mus, .ref mol, .ref mle, .int (nI kn), .ref mrw, .ref mls])), (mtx, .inl (ky, 97, .inl (nA Mx))), (mle, .inl (ky, 8, .inl (nA Wn))), (mrw, .inl (ky, 9, .inl (nA Rr))), (mls, .inl (ky, 97, .inl (nA Ls)))]) hD hS hA [3, 0, 4, 1, 2] rfl
          refine va_calli (va_runV (C := "SelfIndexedSequencesModel") (As := [.int (nI kk), .int (nI 0 - 1)]) (rest := []) ⟨hx, hb, hml, hown, hts⟩ (c_Mo_look l dC dI ky H.size mo sp d mdr mm mtx mod mia mus mol mle kn mrw mls Mx T Wn (pw w) Rr Ls kk (nI 0 - 1) hMx (by first | assumption | omega | (simp; done) | (simp_all; done)) (by first | assumption | omega | (simp; done) | (simp_all; done)) (by first | assumption | omega | (simp; done) | (simp_all; done)) ⟨hPt.1, hPt.2.1⟩ hWb (pw_lt hPt hw) (fun i hi => by rw [hLi i hi, (pw_cod hPt hi).1]) (fun i hi => (pw_cod hPt hi).2.2) hRr hLs (by first | assumption | omega | (simp; done) | (simp_all; done))) ⟨callB_of 2 hts (W0_good tw_520) rfl rfl rfl (htb _ tw_28) (htb _ tw_517) ⟨by decide, by decide, by decide +kernel⟩ ⟨(Nat.le_of_ble_eq_true rfl), (Nat.le_of_ble_eq_true rfl)⟩, htb _ tw_519, htb _ tw_19⟩ ⟨fun a U g mk q => by obtain ⟨q0, q1, qP, qK, qD⟩ := q; exact ⟨q0, q1, qP, va_K.moved (u := U) (U := U.calling g mk a) (Vm.Alike.refl U.vm) qK, qD⟩, va_recv hK hPc (q0 := 0) (q := (R_Mo, F_Mo, 13)) rfl rfl, fun U hU hW => ⟨rfl, by rw [hU], by rw [hU]; exact hPc, va_K.moved hW.alike hK, hDc.weaken (fun _ _ _ _ => trivial)⟩⟩ rfl rfl hl.1 rfl (lv_room (Nat.le_of_ble_eq_true rfl)) d_Mo_matches_24 ⟨(Nat.le_of_ble_eq_true rfl), (Nat.le_of_ble_eq_true rfl)⟩) hS (fun q _ h => hFc q h) hFc (fun r24 u_ t H locs ht hvm hw24 hB hz1 hk1 hS => ?_)
          obtain ⟨Rk, Lk⟩ := u_
          obtain ⟨hP1, hD1⟩ := hB
          rw [ht] at hP1
          obtain ⟨hP, hD⟩ := va_join (wr := []) (w1 := [(mo, .inr (5, [.int (nI sp), .int (nI d), .ref mdr, .int (nI mm - 1), .ref mtx, .ref mod, .ref mia, .ref mus, .ref mol, .ref mle, .int (nI kn), .ref mrw, .ref mls])), (mtx, .inl (ky, 97, .inl (nA Mx))), (mle, .inl (ky, 8, .inl (nA Wn))), (mrw, .inl (ky, 9, .inl (nA Rk))), (mls, .inl (ky, 97, .inl (nA Lk)))]) hP hD [3, 0, 4, 1, 2] [] rfl rfl (by decide) (by decide) hk1 hFc hP1 hD1
          have hP : va_P (dC, dI) cls_ [(mo, .inr (5, [.int (nI sp), .int (nI d), .ref mdr, .int (nI mm - 1), .ref mtx, .ref mod, .ref mia, .ref mus, .ref mol, .ref mle, .int (nI kn), .ref mrw, .ref mls])), (mtx, .inl (ky, 97, .inl (nA Mx))), (mle, .inl (ky, 8, .inl (nA Wn))), (mrw, .inl (ky, 9, .inl (nA Rk))), (mls, .inl (ky, 97, .inl (nA Lk)))] H := hP
          have hD : va_D A [(mo, .inr (5, [.int (nI sp), .int (nI d), .ref mdr, .int (nI mm - 1), .ref mtx, .ref mod, .ref mia, .ref mus, .ref mol, .ref mle, .int (nI kn), .ref mrw, .ref mls])), (mtx, .inl (ky, 97, .inl (nA Mx))), (mle, .inl (ky, 8, .inl (nA Wn))), (mrw, .inl (ky, 9, .inl (nA Rk))), (mls, .inl (ky, 97, .inl (nA Lk)))] := hD
          have hq24 : ((∃ v, v < mm ∧ Er (pw w) T v kn ≤ kk ∧ (nI 0 - 1) = nI (num (fun v => Er (pw w) T v kn ≤ kk) v) ∧ r24 = nI (10000 * nb T v + 10 * (v - gs T (mm - 1) (nb T v)) + Er (pw w) T v kn)) ∨ ((∀ v, v < mm → Er (pw w) T v kn ≤ kk → (nI 0 - 1) ≠ nI (num (fun v => Er (pw w) T v kn ≤ kk) v)) ∧ (((nI 0 - 1) < 0 ∧ r24 = nI (num (fun v => Er (pw w) T v kn ≤ kk) mm)) ∨ (¬ (nI 0 - 1) < 0 ∧ r24 = nI 0 - 1)))) ∧ (∀ k_, Rk k_ < 110) ∧ (∀ k_, Lk k_ < 9) := hw24
          obtain ⟨hlk, hRk, hLk⟩ := hq24
          rcases hlk with ⟨v, h1, h2, h3, rfl⟩ | ⟨hno, ⟨hlt, rfl⟩ | ⟨hge, rfl⟩⟩
          · exact absurd h3 (bw_m1n (by have := num_le (fun v => Er (pw w) T v kn ≤ kk) v; omega))
          · skip
            have hP9 := hP.sub (ws' := [(mo, .inr (5, [.int (nI sp), .int (nI d), .ref mdr, .int (nI mm - 1), .ref mtx, .ref mod, .ref mia, .ref mus, .ref mol, .ref mle, .int (nI kn), .ref mrw, .ref mls])), (mtx, .inl (ky, 97, .inl (nA Mx))), (mle, .inl (ky, 8, .inl (nA Wn))), (mrw, .inl (ky, 9, .inl (nA Rk))), (mls, .inl (ky, 97, .inl (nA Lk)))]) [0, 1, 2, 3, 4] rfl
            have hD9 := hD.sub (ws' := [(mo, .inr (5, [.int (nI sp), .int (nI d), .ref mdr, .int (nI mm - 1), .ref mtx, .ref mod, .ref mia, .ref mus, .ref mol, .ref mle, .int (nI kn), .ref mrw, .ref mls])), (mtx, .inl (ky, 97, .inl (nA Mx))), (mle, .inl (ky, 8, .inl (nA Wn))), (mrw, .inl (ky, 9, .inl (nA Rk))), (mls, .inl (ky, 97, .inl (nA Lk)))]) [0, 1, 2, 3, 4] (by decide) rfl
            exact W.iret (v := nI (num (fun v => Er (pw w) T v kn ≤ kk) mm)) hx hb hr (fun t ht hW => ⟨⟨nI (num (fun v => Er (pw w) T v kn ≤ kk) mm), (kn, Wn, Rk, Lk), rfl, (by first | exact ⟨Or.inl ⟨kn, kk, hPt, hk4, hxk, rfl⟩, hk8, hWb, hRk, hLk⟩ | exact ⟨Or.inr ⟨fun k kk hp => absurd hp (hnP k), rfl⟩, hk8, hWb, hRr, hLs⟩ | exact ⟨Or.inr ⟨fun k kk _ hk => bw_no04 (by first | exact Or.inl hc1 | exact Or.inr hc6) kk hk, rfl⟩, hmy8, hLw, hRr, hLs⟩), by rw [ht]; exact hP9, hD9⟩, hS.F ht⟩) hS.2.2 d_Mo_matches_27
          · exact absurd (show nI 0 - 1 < 0 by decide) hge
        · exact absurd hc14 (by decide)
      · skip
        refine lv_if_ne (tgt := 21) hx hb d_Mo_matches_14 (by decide) (fun hc14 => ?_) (fun hc14 => ?_)
        · exact absurd hc14 (by decide)
        · skip
          rw [← nI_0, bw_eq_nn (by omega) (by omega)] at hc14
          refine lv_iconst (v := nI 0 - 1) hx hb d_Mo_matches_17 (by decide) ?_
          refine lv_goto (tgt := 27) hx hb d_Mo_matches_18 (by decide) ?_
          have hP9 := hP.sub (ws' := [(mo, .inr (5, [.int (nI sp), .int (nI d), .ref mdr, .int (nI mm - 1), .ref mtx, .ref mod, .ref mia, .ref mus, .ref mol, .ref mle, .int (nI kn), .ref mrw, .ref mls])), (mtx, .inl (ky, 97, .inl (nA Mx))), (mle, .inl (ky, 8, .inl (nA Wn))), (mrw, .inl (ky, 9, .inl (nA Rr))), (mls, .inl (ky, 97, .inl (nA Ls)))]) [3, 0, 4, 1, 2] rfl
          have hD9 := hD.sub (ws' := [(mo, .inr (5, [.int (nI sp), .int (nI d), .ref mdr, .int (nI mm - 1), .ref mtx, .ref mod, .ref mia, .ref mus, .ref mol, .ref mle, .int (nI kn), .ref mrw, .ref mls])), (mtx, .inl (ky, 97, .inl (nA Mx))), (mle, .inl (ky, 8, .inl (nA Wn))), (mrw, .inl (ky, 9, .inl (nA Rr))), (mls, .inl (ky, 97, .inl (nA Ls)))]) [3, 0, 4, 1, 2] (by decide) rfl
          exact W.iret (v := nI 0 - 1) hx hb hr (fun t ht hW => ⟨⟨nI 0 - 1, (kn, Wn, Rr, Ls), rfl, (by first | exact ⟨Or.inl ⟨kn, kk, hPt, hk4, hxk, rfl⟩, hk8, hWb, hRk, hLk⟩ | exact ⟨Or.inr ⟨fun k kk hp => absurd hp (hnP k), rfl⟩, hk8, hWb, hRr, hLs⟩ | exact ⟨Or.inr ⟨fun k kk _ hk => bw_no04 (by first | exact Or.inl hc1 | exact Or.inr hc6) kk hk, rfl⟩, hmy8, hLw, hRr, hLs⟩), by rw [ht]; exact hP9, hD9⟩, hS.F ht⟩) hS.2.2 d_Mo_matches_27

set_option maxHeartbeats 4000000 in
set_option maxRecDepth 100000 in
theorem c_Mo_match (l : Launch) (dC : Nat → ClassId) (dI : Nat → Nat → Nat) (ky : ClassId) (sz : Nat) (mo : Nat) (sp : Nat) (d : Nat) (mdr : Nat) (mm : Nat) (mtx : Nat) (mod : Nat) (mia : Nat) (mus : Nat) (mol : Nat) (mle : Nat) (my : Nat) (mrw : Nat) (mls : Nat) (Mx : Nat → Nat) (T : Nat → Nat) (Lw : Nat → Nat) (Rr : Nat → Nat) (Ls : Nat → Nat) (w : Nat) (xk : Int32) (xi : Int32) (hMx : ∀ k_, Mx k_ < 125) (hmm : mm ≤ 97) (hT28 : ∀ k_, T k_ < 28) (hTx : ∀ q, q + 1 < mm → Mx q = cod (T q)) (hLw : ∀ k_, Lw k_ < 125) (hw : w < 2 ^ 64) (hTm : ∀ nn, mm = nn + 1 → Txt T nn) (hmy8 : my ≤ 8) (hRr : ∀ k_, Rr k_ < 110) (hLs : ∀ k_, Ls k_ < 9) : Met l y_Mo_match (Cond.code y_Mo_match prog_7_method_34_code 5 (some .int) :: W0) ({ frames := 3, cells := 0, slots := 0, locals := 77 }) (va_Pc [.ref mo, .long (lN w), .int (xk), .int (xi)] (fun U => U.heap.size = sz ∧ va_P (dC, dI) cls_ [(mo, .inr (5, [.int (nI sp), .int (nI d), .ref mdr, .int (nI mm - 1), .ref mtx, .ref mod, .ref mia, .ref mus, .ref mol, .ref mle, .int (nI my), .ref mrw, .ref mls])), (mtx, .inl (ky, 97, .inl (nA Mx))), (mle, .inl (ky, 8, .inl (nA Lw))), (mrw, .inl (ky, 9, .inl (nA Rr))), (mls, .inl (ky, 97, .inl (nA Ls)))] U.heap ∧ va_K (dC, dI) cls_ [(ky, .int)] U ∧ va_D (fun _ => True) [(mo, .inr (5, [.int (nI sp), .int (nI d), .ref mdr, .int (nI mm - 1), .ref mtx, .ref mod, .ref mia, .ref mus, .ref mol, .ref mle, .int (nI my), .ref mrw, .ref mls])), (mtx, .inl (ky, 97, .inl (nA Mx))), (mle, .inl (ky, 8, .inl (nA Lw))), (mrw, .inl (ky, 9, .inl (nA Rr))), (mls, .inl (ky, 97, .inl (nA Ls)))])) (va_Qi (fun (r : Int32) (u : (Nat) × (Nat → Nat) × (Nat → Nat) × (Nat → Nat)) => match u with | (kn, Wn, Rn, Ln) => ((∃ k kk v, Pat w k ∧ kk ≤ 4 ∧ xk = nI kk ∧ v < mm ∧ Er (pw w) T v k ≤ kk ∧ xi = nI (num (fun v => Er (pw w) T v k ≤ kk) v) ∧ r = nI (10000 * nb T v + 10 * (v - gs T (mm - 1) (nb T v)) + Er (pw w) T v k)) ∨ ((∀ k kk v, Pat w k → kk ≤ 4 → xk = nI kk → v < mm → Er (pw w) T v k ≤ kk → xi ≠ nI (num (fun v => Er (pw w) T v k ≤ kk) v)) ∧ r = nI 0 - 1)) ∧ kn ≤ 8 ∧ (∀ k_, Wn k_ < 125) ∧ (∀ k_, Rn k_ < 110) ∧ (∀ k_, Ln k_ < 9)) (fun (u : (Nat) × (Nat → Nat) × (Nat → Nat) × (Nat → Nat)) (t : State) => match u with | (kn, Wn, Rn, Ln) => va_P (dC, dI) cls_ [(mo, .inr (5, [.int (nI sp), .int (nI d), .ref mdr, .int (nI mm - 1), .ref mtx, .ref mod, .ref mia, .ref mus, .ref mol, .ref mle, .int (nI kn), .ref mrw, .ref mls])), (mtx, .inl (ky, 97, .inl (nA Mx))), (mle, .inl (ky, 8, .inl (nA Wn))), (mrw, .inl (ky, 9, .inl (nA Rn))), (mls, .inl (ky, 97, .inl (nA Ln)))] t.heap ∧ va_D (va_A [(mo, .inr (5, [.int (nI sp), .int (nI d), .ref mdr, .int (nI mm - 1), .ref mtx, .ref mod, .ref mia, .ref mus, .ref mol, .ref mle, .int (nI my), .ref mrw, .ref mls])), (mtx, .inl (ky, 97, .inl (nA Mx))), (mle, .inl (ky, 8, .inl (nA Lw))), (mrw, .inl (ky, 9, .inl (nA Rr))), (mls, .inl (ky, 97, .inl (nA Ls)))] sz) [(mo, .inr (5, [.int (nI sp), .int (nI d), .ref mdr, .int (nI mm - 1), .ref mtx, .ref mod, .ref mia, .ref mus, .ref mol, .ref mle, .int (nI kn), .ref mrw, .ref mls])), (mtx, .inl (ky, 97, .inl (nA Mx))), (mle, .inl (ky, 8, .inl (nA Wn))), (mrw, .inl (ky, 9, .inl (nA Rn))), (mls, .inl (ky, 97, .inl (nA Ln)))]) (va_A [(mo, .inr (5, [.int (nI sp), .int (nI d), .ref mdr, .int (nI mm - 1), .ref mtx, .ref mod, .ref mia, .ref mus, .ref mol, .ref mle, .int (nI my), .ref mrw, .ref mls])), (mtx, .inl (ky, 97, .inl (nA Mx))), (mle, .inl (ky, 8, .inl (nA Lw))), (mrw, .inl (ky, 9, .inl (nA Rr))), (mls, .inl (ky, 97, .inl (nA Ls)))] sz)) 0 0 (va_A [(mo, .inr (5, [.int (nI sp), .int (nI d), .ref mdr, .int (nI mm - 1), .ref mtx, .ref mod, .ref mia, .ref mus, .ref mol, .ref mle, .int (nI my), .ref mrw, .ref mls])), (mtx, .inl (ky, 97, .inl (nA Mx))), (mle, .inl (ky, 8, .inl (nA Lw))), (mrw, .inl (ky, 9, .inl (nA Rr))), (mls, .inl (ky, 97, .inl (nA Ls)))] sz) := by
  refine Met.ofW (cc := prog_7_method_34_code) (maxL := 5) (ret := (some .int)) (by decide) rfl ?_
  intro p e s m args below meth c s₁ B hml hv
  obtain ⟨rfl, hsz, hP, hK, hD0⟩ := hv
  have hx := B.exec
  have hb := B.bytes
  have hr := B.returns
  have hlocks := B.notSynchronized
  have hts := atoms_spec (ws := (Cond.code y_Mo_match prog_7_method_34_code 5 (some .int) :: W0)) B.pre
  have htb : ∀ w ∈ W0, w.before _ s = true := fun w h => hts w (List.mem_cons_of_mem _ h)
  have hown : s.vm.findClass "SelfIndexedSequencesModel" = some m.cls := findClass_of_methodNamed B.named
  subst hsz
  have hD := hD0.self (sz := s.heap.size)
  generalize hAe : va_A [(mo, .inr (5, [.int (nI sp), .int (nI d), .ref mdr, .int (nI mm - 1), .ref mtx, .ref mod, .ref mia, .ref mus, .ref mol, .ref mle, .int (nI my), .ref mrw, .ref mls])), (mtx, .inl (ky, 97, .inl (nA Mx))), (mle, .inl (ky, 8, .inl (nA Lw))), (mrw, .inl (ky, 9, .inl (nA Rr))), (mls, .inl (ky, 97, .inl (nA Ls)))] s.heap.size = A at hD ⊢
  have hA : ∀ q : Nat, s.heap.size ≤ q → A q := fun q h => by rw [← hAe]; exact Or.inr h
  have hS : va_S A s.heap s.heap [] := va_S.rf
  have hl := lv_entry ([.ref mo, .long (lN w), .int (xk), .int (xi)]) (n := 5) (Nat.le_of_ble_eq_true rfl)
  rw [lg_entry_eq]
  generalize (lg_sl ([.ref mo, .long (lN w), .int (xk), .int (xi)]) ++ List.replicate (5 - (lg_sl ([.ref mo, .long (lN w), .int (xk), .int (xi)])).length) Slot.unset).toArray = ls at hl ⊢
  have hl : lv_has ls 5 [(0, .ref mo), (1, .long (lN w)), (3, .int (xk)), (4, .int (xi))] := hl
  refine lv_iload_n hx hb d_Mo_match_0 rfl (lv_at hl 2 rfl) ?_
  refine lv_if_lt (tgt := 22) hx hb d_Mo_match_1 (by decide) (fun hc1 => ?_) (fun hc1 => ?_)
  · skip
    refine lv_iconst (v := nI 0 - 1) hx hb d_Mo_match_22 (by decide) ?_
    refine lv_goto (tgt := 33) hx hb d_Mo_match_23 (by decide) ?_
    have hP9 := hP.sub (ws' := [(mo, .inr (5, [.int (nI sp), .int (nI d), .ref mdr, .int (nI mm - 1), .ref mtx, .ref mod, .ref mia, .ref mus, .ref mol, .ref mle, .int (nI my), .ref mrw, .ref mls])), (mtx, .inl (ky, 97, .inl (nA Mx))), (mle, .inl (ky, 8, .inl (nA Lw))), (mrw, .inl (ky, 9, .inl (nA Rr))), (mls, .inl (ky, 97, .inl (nA Ls)))]) [0, 1, 2, 3, 4] rfl
    have hD9 := hD.sub (ws' := [(mo, .inr (5, [.int (nI sp), .int (nI d), .ref mdr, .int (nI mm - 1), .ref mtx, .ref mod, .ref mia, .ref mus, .ref mol, .ref mle, .int (nI my), .ref mrw, .ref mls])), (mtx, .inl (ky, 97, .inl (nA Mx))), (mle, .inl (ky, 8, .inl (nA Lw))), (mrw, .inl (ky, 9, .inl (nA Rr))), (mls, .inl (ky, 97, .inl (nA Ls)))]) [0, 1, 2, 3, 4] (by decide) rfl
    exact W.iret (v := nI 0 - 1) hx hb hr (fun t ht hW => ⟨⟨nI 0 - 1, (my, Lw, Rr, Ls), rfl, (by first | exact ⟨Or.inl ⟨kn, kk, v, hPt, hk4, hxk, h1, h2, h3, rfl⟩, hk8, hWb, hRk, hLk⟩ | exact ⟨Or.inr ⟨fun k kk v hp => absurd hp (hnP k), rfl⟩, hk8, hWb, hRr, hLs⟩ | exact ⟨Or.inr ⟨fun k kk v _ hk e => absurd e (bw_no04 (by first | exact Or.inl hc1 | exact Or.inr hc6) kk hk), rfl⟩, hmy8, hLw, hRr, hLs⟩ | exact ⟨Or.inr ⟨fun k kk v _ _ _ h1 _ => bw_neg (n := 98) hc11 (by omega) _ (by have := num_le (fun v => Er (pw w) T v k ≤ kk) v; omega), rfl⟩, hmy8, hLw, hRr, hLs⟩ | exact ⟨Or.inr ⟨fun k k2 v hp hk e h1 h2 => by obtain rfl := Pat_uniq hPt hp; rw [hxk, nI_eq (by omega) (by omega)] at e; subst e; exact hno v h1 h2, rfl⟩, hk8, hWb, hRk, hLk⟩), by rw [ht]; exact hP9, hD9⟩, hS.F ht⟩) hS.2.2 d_Mo_match_33
  · skip
    refine lv_iload_n hx hb d_Mo_match_4 rfl (lv_at hl 2 rfl) ?_
    refine lv_iconst (v := nI 4) hx hb d_Mo_match_5 (by decide) ?_
    refine lv_icmp_gt (tgt := 22) hx hb d_Mo_match_6 (by decide) (fun hc6 => ?_) (fun hc6 => ?_)
    · skip
      refine lv_iconst (v := nI 0 - 1) hx hb d_Mo_match_22 (by decide) ?_
      refine lv_goto (tgt := 33) hx hb d_Mo_match_23 (by decide) ?_
      have hP9 := hP.sub (ws' := [(mo, .inr (5, [.int (nI sp), .int (nI d), .ref mdr, .int (nI mm - 1), .ref mtx, .ref mod, .ref mia, .ref mus, .ref mol, .ref mle, .int (nI my), .ref mrw, .ref mls])), (mtx, .inl (ky, 97, .inl (nA Mx))), (mle, .inl (ky, 8, .inl (nA Lw))), (mrw, .inl (ky, 9, .inl (nA Rr))), (mls, .inl (ky, 97, .inl (nA Ls)))]) [0, 1, 2, 3, 4] rfl
      have hD9 := hD.sub (ws' := [(mo, .inr (5, [.int (nI sp), .int (nI d), .ref mdr, .int (nI mm - 1), .ref mtx, .ref mod, .ref mia, .ref mus, .ref mol, .ref mle, .int (nI my), .ref mrw, .ref mls])), (mtx, .inl (ky, 97, .inl (nA Mx))), (mle, .inl (ky, 8, .inl (nA Lw))), (mrw, .inl (ky, 9, .inl (nA Rr))), (mls, .inl (ky, 97, .inl (nA Ls)))]) [0, 1, 2, 3, 4] (by decide) rfl
      exact W.iret (v := nI 0 - 1) hx hb hr (fun t ht hW => ⟨⟨nI 0 - 1, (my, Lw, Rr, Ls), rfl, (by first | exact ⟨Or.inl ⟨kn, kk, v, hPt, hk4, hxk, h1, h2, h3, rfl⟩, hk8, hWb, hRk, hLk⟩ | exact ⟨Or.inr ⟨fun k kk v hp => absurd hp (hnP k), rfl⟩, hk8, hWb, hRr, hLs⟩ | exact ⟨Or.inr ⟨fun k kk v _ hk e => absurd e (bw_no04 (by first | exact Or.inl hc1 | exact Or.inr hc6) kk hk), rfl⟩, hmy8, hLw, hRr, hLs⟩ | exact ⟨Or.inr ⟨fun k kk v _ _ _ h1 _ => bw_neg (n := 98) hc11 (by omega) _ (by have := num_le (fun v => Er (pw w) T v k ≤ kk) v; omega), rfl⟩, hmy8, hLw, hRr, hLs⟩ | exact ⟨Or.inr ⟨fun k k2 v hp hk e h1 h2 => by obtain rfl := Pat_uniq hPt hp; rw [hxk, nI_eq (by omega) (by omega)] at e; subst e; exact hno v h1 h2, rfl⟩, hk8, hWb, hRk, hLk⟩), by rw [ht]; exact hP9, hD9⟩, hS.F ht⟩) hS.2.2 d_Mo_match_33
    · skip
      obtain ⟨kk, _, hk4, hxk⟩ := bw_rng (a := 0) (b := 4) hc1 hc6
      have hv_ : xk = nI kk := hxk
      rw [hv_] at hl
      have hl : lv_has ls 5 [(0, .ref mo), (1, .long (lN w)), (3, .int (nI kk)), (4, .int (xi))] := hl
      refine lv_iload hx hb d_Mo_match_9 (lv_at hl 3 rfl) ?_
      refine lv_if_lt (tgt := 22) hx hb d_Mo_match_11 (by decide) (fun hc11 => ?_) (fun hc11 => ?_)
      · skip
        refine lv_iconst (v := nI 0 - 1) hx hb d_Mo_match_22 (by decide) ?_
        refine lv_goto (tgt := 33) hx hb d_Mo_match_23 (by decide) ?_
        have hP9 := hP.sub (ws' := [(mo, .inr (5, [.int (nI sp), .int (nI d), .ref mdr, .int (nI mm - 1), .ref mtx, .ref mod, .ref mia, .ref mus, .ref mol, .ref mle, .int (nI my), .ref mrw, .ref mls])), (mtx, .inl (ky, 97, .inl (nA Mx))), (mle, .inl (ky, 8, .inl (nA Lw))), (mrw, .inl (ky, 9, .inl (nA Rr))), (mls, .inl (ky, 97, .inl (nA Ls)))]) [0, 1, 2, 3, 4] rfl
        have hD9 := hD.sub (ws' := [(mo, .inr (5, [.int (nI sp), .int (nI d), .ref mdr, .int (nI mm - 1), .ref mtx, .ref mod, .ref mia, .ref mus, .ref mol, .ref mle, .int (nI my), .ref mrw, .ref mls])), (mtx, .inl (ky, 97, .inl (nA Mx))), (mle, .inl (ky, 8, .inl (nA Lw))), (mrw, .inl (ky, 9, .inl (nA Rr))), (mls, .inl (ky, 97, .inl (nA Ls)))]) [0, 1, 2, 3, 4] (by decide) rfl
        exact W.iret (v := nI 0 - 1) hx hb hr (fun t ht hW => ⟨⟨nI 0 - 1, (my, Lw, Rr, Ls), rfl, (by first | exact ⟨Or.inl ⟨kn, kk, v, hPt, hk4, hxk, h1, h2, h3, rfl⟩, hk8, hWb, hRk, hLk⟩ | exact ⟨Or.inr ⟨fun k kk v hp => absurd hp (hnP k), rfl⟩, hk8, hWb, hRr, hLs⟩ | exact ⟨Or.inr ⟨fun k kk v _ hk e => absurd e (bw_no04 (by first | exact Or.inl hc1 | exact Or.inr hc6) kk hk), rfl⟩, hmy8, hLw, hRr, hLs⟩ | exact ⟨Or.inr ⟨fun k kk v _ _ _ h1 _ => bw_neg (n := 98) hc11 (by omega) _ (by have := num_le (fun v => Er (pw w) T v k ≤ kk) v; omega), rfl⟩, hmy8, hLw, hRr, hLs⟩ | exact ⟨Or.inr ⟨fun k k2 v hp hk e h1 h2 => by obtain rfl := Pat_uniq hPt hp; rw [hxk, nI_eq (by omega) (by omega)] at e; subst e; exact hno v h1 h2, rfl⟩, hk8, hWb, hRk, hLk⟩), by rw [ht]; exact hP9, hD9⟩, hS.F ht⟩) hS.2.2 d_Mo_match_33
      · skip
        refine lv_aload_n hx hb d_Mo_match_14 rfl (lv_at hl 0 rfl) ?_
        refine lv_lload_n hx hb d_Mo_match_15 rfl (lv_at hl 1 rfl) ?_
        have hPc := hP.sub (ws' := [(mo, .inr (5, [.int (nI sp), .int (nI d), .ref mdr, .int (nI mm - 1), .ref mtx, .ref mod, .ref mia, .ref mus, .ref mol, .ref mle, .int (nI my), .ref mrw, .ref mls])), (mle, .inl (ky, 8, .inl (nA Lw)))]) [0, 2] rfl
        have hDc := hD.sub (ws' := [(mo, .inr (5, [.int (nI sp), .int (nI d), .ref mdr, .int (nI mm - 1), .ref mtx, .ref mod, .ref mia, .ref mus, .ref mol, .ref mle, .int (nI my), .ref mrw, .ref mls])), (mle, .inl (ky, 8, .inl (nA Lw)))]) [0, 2] (by decide) rfl
        have hFc := va_free (wc := [(mo, .inr (5, [.int (nI sp), .int (nI d), .ref mdr, .int (nI mm - 1), .ref mtx, .ref mod, .ref mia, .ref mus, .ref mol, .ref mle, .int (nI my), .ref mrw, .ref mls])), (mle, .inl (ky, 8, .inl (nA Lw)))]) hD hS hA [0, 2] rfl
        refine va_calli (va_runV (C := "SelfIndexedSequencesModel") (As := [.long (lN w)]) (rest := []) ⟨hx, hb, hml, hown, hts⟩ (c_Mo_read l dC dI ky s.heap.size mo sp d mdr mm mtx mod mia mus mol mle my mrw mls Lw w hLw (by first | assumption | omega | (simp; done) | (simp_all; done))) ⟨callB_of 1 hts (W0_good tw_500) rfl rfl rfl (htb _ tw_28) (htb _ tw_497) ⟨by decide, by decide, by decide +kernel⟩ ⟨(Nat.le_of_ble_eq_true rfl), (Nat.le_of_ble_eq_true rfl)⟩, htb _ tw_499, htb _ tw_16⟩ ⟨fun a U g mk q => by obtain ⟨q0, q1, qP, qK, qD⟩ := q; exact ⟨q0, q1, qP, va_K.moved (u := U) (U := U.calling g mk a) (Vm.Alike.refl U.vm) qK, qD⟩, va_recv hK hPc (q0 := 0) (q := (R_Mo, F_Mo, 13)) rfl rfl, fun U hU hW => ⟨rfl, by rw [hU], by rw [hU]; exact hPc, va_K.moved hW.alike hK, hDc.weaken (fun _ _ _ _ => trivial)⟩⟩ rfl rfl hl.1 rfl (lv_room (Nat.le_of_ble_eq_true rfl)) d_Mo_match_16 ⟨(Nat.le_of_ble_eq_true rfl), (Nat.le_of_ble_eq_true rfl)⟩) hS (fun q _ h => hFc q h) hFc (fun r16 u_ t H locs ht hvm hw16 hB hz1 hk1 hS => ?_)
        obtain ⟨kn, Wn⟩ := u_
        obtain ⟨hP1, hD1⟩ := hB
        rw [ht] at hP1
        obtain ⟨hP, hD⟩ := va_join (wr := [(mtx, .inl (ky, 97, .inl (nA Mx))), (mrw, .inl (ky, 9, .inl (nA Rr))), (mls, .inl (ky, 97, .inl (nA Ls)))]) (w1 := [(mo, .inr (5, [.int (nI sp), .int (nI d), .ref mdr, .int (nI mm - 1), .ref mtx, .ref mod, .ref mia, .ref mus, .ref mol, .ref mle, .int (nI kn), .ref mrw, .ref mls])), (mle, .inl (ky, 8, .inl (nA Wn)))]) hP hD [0, 2] [1, 3, 4] rfl rfl (by decide) (by decide) hk1 hFc hP1 hD1
        have hP : va_P (dC, dI) cls_ [(mtx, .inl (ky, 97, .inl (nA Mx))), (mrw, .inl (ky, 9, .inl (nA Rr))), (mls, .inl (ky, 97, .inl (nA Ls))), (mo, .inr (5, [.int (nI sp), .int (nI d), .ref mdr, .int (nI mm - 1), .ref mtx, .ref mod, .ref mia, .ref mus, .ref mol, .ref mle, .int (nI kn), .ref mrw, .ref mls])), (mle, .inl (ky, 8, .inl (nA Wn)))] H := hP
        have hD : va_D A [(mtx, .inl (ky, 97, .inl (nA Mx))), (mrw, .inl (ky, 9, .inl (nA Rr))), (mls, .inl (ky, 97, .inl (nA Ls))), (mo, .inr (5, [.int (nI sp), .int (nI d), .ref mdr, .int (nI mm - 1), .ref mtx, .ref mod, .ref mia, .ref mus, .ref mol, .ref mle, .int (nI kn), .ref mrw, .ref mls])), (mle, .inl (ky, 8, .inl (nA Wn)))] := hD
        have hq16 : ((r16 = nI 1 ∧ Pat w kn ∧ ∀ i, i < kn → Wn i = by8 w i) ∨ (r16 = nI 0 ∧ ∀ k, ¬ Pat w k)) ∧ kn ≤ 8 ∧ (∀ k_, Wn k_ < 125) := hw16
        obtain ⟨hrd, hk8, hWb⟩ := hq16
        rcases hrd with ⟨rfl, hPt, hLi⟩ | ⟨rfl, hnP⟩
        · skip
          refine lv_if_ne (tgt := 26) hx hb d_Mo_match_19 (by decide) (fun hc19 => ?_) (fun hc19 => ?_)
          · skip
            rw [← nI_0, bw_eq_nn (by omega) (by omega)] at hc19
            refine lv_aload_n hx hb d_Mo_match_26 rfl (lv_at hl 0 rfl) ?_
            refine lv_iload_n hx hb d_Mo_match_27 rfl (lv_at hl 2 rfl) ?_
            refine lv_iload hx hb d_Mo_match_28 (lv_at hl 3 rfl) ?_
            have hPc := hP.sub (ws' := [(mo, .inr (5, [.int (nI sp), .int (nI d), .ref mdr, .int (nI mm - 1), .ref mtx, .ref mod, .ref mia, .ref mus, .ref mol, .ref mle, .int (nI kn), .ref mrw, .ref mls])), (mtx, .inl (ky, 97, .inl (nA Mx))), (mle, .inl (ky, 8, .inl (nA Wn))), (mrw, .inl (ky, 9, .inl (nA Rr))), (mls, .inl (ky, 97, .inl (nA Ls)))]) [3, 0, 4, 1, 2] rfl
            have hDc := hD.sub (ws' := [(mo, .inr (5, [.int (nI sp), .int (nI d), .ref mdr, .int (nI mm - 1), .ref mtx, .ref mod, .ref mia, .ref mus, .ref mol, .ref mle, .int (nI kn), .ref mrw, .ref mls])), (mtx, .inl (ky, 97, .inl (nA Mx))), (mle, .inl (ky, 8, .inl (nA Wn))), (mrw, .inl (ky, 9, .inl (nA Rr))), (mls, .inl (ky, 97, .inl (nA Ls)))]) [3, 0, 4, 1, 2] (by decide) rfl
            have hFc := va_free (wc := [(mo, .inr (5, [.int (nI sp), .int (nI d), .ref mdr, .int (nI mm - 1), .ref mtx, .ref mod, .ref mia, .ref mus, .ref mol, .ref mle, .int (nI kn), .ref mrw, .ref mls])), (mtx, .inl (ky, 97, .inl (nA Mx))), (mle, .inl (ky, 8, .inl (nA Wn))), (mrw, .inl (ky, 9, .inl (nA Rr))), (mls, .inl (ky, 97, .inl (nA Ls)))]) hD hS hA [3, 0, 4, 1, 2] rfl
            refine va_calli (va_runV (C := "SelfIndexedSequencesModel") (As := [.int (nI kk), .int (xi)]) (rest := []) ⟨hx, hb, hml, hown, hts⟩ (c_Mo_look l dC dI ky H.size mo sp d mdr mm mtx mod mia mus mol mle kn mrw mls Mx T Wn (pw w) Rr Ls kk xi hMx (by first | assumption | omega | (simp; done) | (simp_all; done)) (by first | assumption | omega | (simp; done) | (simp_all; done)) (by first | assumption | omega | (simp; done) | (simp_all; done)) ⟨hPt.1, hPt.2.1⟩ hWb (pw_lt hPt hw) (fun i hi => by rw [hLi i hi, (pw_cod hPt hi).1]) (fun i hi => (pw_cod hPt hi).2.2) hRr hLs (by first | assumption | omega | (simp; done) | (simp_all; done))) ⟨callB_of 2 hts (W0_good tw_520) rfl rfl rfl (htb _ tw_28) (htb _ tw_517) ⟨by decide, by decide, by decide +kernel⟩ ⟨(Nat.le_of_ble_eq_true rfl), (Nat.le_of_ble_eq_true rfl)⟩, htb _ tw_519, htb _ tw_19⟩ ⟨fun a U g mk q => by obtain ⟨q0, q1, qP, qK, qD⟩ := q; exact ⟨q0, q1, qP, va_K.moved (u := U) (U := U.calling g mk a) (Vm.Alike.refl U.vm) qK, qD⟩, va_recv hK hPc (q0 := 0) (q := (R_Mo, F_Mo, 13)) rfl rfl, fun U hU hW => ⟨rfl, by rw [hU], by rw [hU]; exact hPc, va_K.moved hW.alike hK, hDc.weaken (fun _ _ _ _ => trivial)⟩⟩ rfl rfl hl.1 rfl (lv_room (Nat.le_of_ble_eq_true rfl)) d_Mo_match_30 ⟨(Nat.le_of_ble_eq_true rfl), (Nat.le_of_ble_eq_true rfl)⟩) hS (fun q _ h => hFc q h) hFc (fun r30 u_ t H locs ht hvm hw30 hB hz1 hk1 hS => ?_)
            obtain ⟨Rk, Lk⟩ := u_
            obtain ⟨hP1, hD1⟩ := hB
            rw [ht] at hP1
            obtain ⟨hP, hD⟩ := va_join (wr := []) (w1 := [(mo, .inr (5, [.int (nI sp), .int (nI d), .ref mdr, .int (nI mm - 1), .ref mtx, .ref mod, .ref mia, .ref mus, .ref mol, .ref mle, .int (nI kn), .ref mrw, .ref mls])), (mtx, .inl (ky, 97, .inl (nA Mx))), (mle, .inl (ky, 8, .inl (nA Wn))), (mrw, .inl (ky, 9, .inl (nA Rk))), (mls, .inl (ky, 97, .inl (nA Lk)))]) hP hD [3, 0, 4, 1, 2] [] rfl rfl (by decide) (by decide) hk1 hFc hP1 hD1
            have hP : va_P (dC, dI) cls_ [(mo, .inr (5, [.int (nI sp), .int (nI d), .ref mdr, .int (nI mm - 1), .ref mtx, .ref mod, .ref mia, .ref mus, .ref mol, .ref mle, .int (nI kn), .ref mrw, .ref mls])), (mtx, .inl (ky, 97, .inl (nA Mx))), (mle, .inl (ky, 8, .inl (nA Wn))), (mrw, .inl (ky, 9, .inl (nA Rk))), (mls, .inl (ky, 97, .inl (nA Lk)))] H := hP
            have hD : va_D A [(mo, .inr (5, [.int (nI sp), .int (nI d), .ref mdr, .int (nI mm - 1), .ref mtx, .ref mod, .ref mia, .ref mus, .ref mol, .ref mle, .int (nI kn), .ref mrw, .ref mls])), (mtx, .inl (ky, 97, .inl (nA Mx))), (mle, .inl (ky, 8, .inl (nA Wn))), (mrw, .inl (ky, 9, .inl (nA Rk))), (mls, .inl (ky, 97, .inl (nA Lk)))] := hD
            have hq30 : ((∃ v, v < mm ∧ Er (pw w) T v kn ≤ kk ∧ xi = nI (num (fun v => Er (pw w) T v kn ≤ kk) v) ∧ r30 = nI (10000 * nb T v + 10 * (v - gs T (mm - 1) (nb T v)) + Er (pw w) T v kn)) ∨ ((∀ v, v < mm → Er (pw w) T v kn ≤ kk → xi ≠ nI (num (fun v => Er (pw w) T v kn ≤ kk) v)) ∧ ((xi < 0 ∧ r30 = nI (num (fun v => Er (pw w) T v kn ≤ kk) mm)) ∨ (¬ xi < 0 ∧ r30 = nI 0 - 1)))) ∧ (∀ k_, Rk k_ < 110) ∧ (∀ k_, Lk k_ < 9) := hw30
            obtain ⟨hlk, hRk, hLk⟩ := hq30
            rcases hlk with ⟨v, h1, h2, h3, rfl⟩ | ⟨hno, ⟨hlt, rfl⟩ | ⟨hge, rfl⟩⟩
            · skip
              have hP9 := hP.sub (ws' := [(mo, .inr (5, [.int (nI sp), .int (nI d), .ref mdr, .int (nI mm - 1), .ref mtx, .ref mod, .ref mia, .ref mus, .ref mol, .ref mle, .int (nI kn), .ref mrw, .ref mls])), (mtx, .inl (ky, 97, .inl (nA Mx))), (mle, .inl (ky, 8, .inl (nA Wn))), (mrw, .inl (ky, 9, .inl (nA Rk))), (mls, .inl (ky, 97, .inl (nA Lk)))]) [0, 1, 2, 3, 4] rfl
              have hD9 := hD.sub (ws' := [(mo, .inr (5, [.int (nI sp), .int (nI d), .ref mdr, .int (nI mm - 1), .ref mtx, .ref mod, .ref mia, .ref mus, .ref mol, .ref mle, .int (nI kn), .ref mrw, .ref mls])), (mtx, .inl (ky, 97, .inl (nA Mx))), (mle, .inl (ky, 8, .inl (nA Wn))), (mrw, .inl (ky, 9, .inl (nA Rk))), (mls, .inl (ky, 97, .inl (nA Lk)))]) [0, 1, 2, 3, 4] (by decide) rfl
              exact W.iret (v := nI (10000 * nb T v + 10 * (v - gs T (mm - 1) (nb T v)) + Er (pw w) T v kn)) hx hb hr (fun t ht hW => ⟨⟨nI (10000 * nb T v + 10 * (v - gs T (mm - 1) (nb T v)) + Er (pw w) T v kn), (kn, Wn, Rk, Lk), rfl, (by first | exact ⟨Or.inl ⟨kn, kk, v, hPt, hk4, hxk, h1, h2, h3, rfl⟩, hk8, hWb, hRk, hLk⟩ | exact ⟨Or.inr ⟨fun k kk v hp => absurd hp (hnP k), rfl⟩, hk8, hWb, hRr, hLs⟩ | exact ⟨Or.inr ⟨fun k kk v _ hk e => absurd e (bw_no04 (by first | exact Or.inl hc1 | exact Or.inr hc6) kk hk), rfl⟩, hmy8, hLw, hRr, hLs⟩ | exact ⟨Or.inr ⟨fun k kk v _ _ _ h1 _ => bw_neg (n := 98) hc11 (by omega) _ (by have := num_le (fun v => Er (pw w) T v k ≤ kk) v; omega), rfl⟩, hmy8, hLw, hRr, hLs⟩ | exact ⟨Or.inr ⟨fun k k2 v hp hk e h1 h2 => by obtain rfl := Pat_uniq hPt hp; rw [hxk, nI_eq (by omega) (by omega)] at e; subst e; exact hno v h1 h2, rfl⟩, hk8, hWb, hRk, hLk⟩), by rw [ht]; exact hP9, hD9⟩, hS.F ht⟩) hS.2.2 d_Mo_match_33
            · exact absurd hlt hc11
            · skip
              have hP9 := hP.sub (ws' := [(mo, .inr (5, [.int (nI sp), .int (nI d), .ref mdr, .int (nI mm - 1), .ref mtx, .ref mod, .ref mia, .ref mus, .ref mol, .ref mle, .int (nI kn), .ref mrw, .ref mls])), (mtx, .inl (ky, 97, .inl (nA Mx))), (mle, .inl (ky, 8, .inl (nA Wn))), (mrw, .inl (ky, 9, .inl (nA Rk))), (mls, .inl (ky, 97, .inl (nA Lk)))]) [0, 1, 2, 3, 4] rfl
              have hD9 := hD.sub (ws' := [(mo, .inr (5, [.int (nI sp), .int (nI d), .ref mdr, .int (nI mm - 1), .ref mtx, .ref mod, .ref mia, .ref mus, .ref mol, .ref mle, .int (nI kn), .ref mrw, .ref mls])), (mtx, .inl (ky, 97, .inl (nA Mx))), (mle, .inl (ky, 8, .inl (nA Wn))), (mrw, .inl (ky, 9, .inl (nA Rk))), (mls, .inl (ky, 97, .inl (nA Lk)))]) [0, 1, 2, 3, 4] (by decide) rfl
              exact W.iret (v := nI 0 - 1) hx hb hr (fun t ht hW => ⟨⟨nI 0 - 1, (kn, Wn, Rk, Lk), rfl, (by first | exact ⟨Or.inl ⟨kn, kk, v, hPt, hk4, hxk, h1, h2, h3, rfl⟩, hk8, hWb, hRk, hLk⟩ | exact ⟨Or.inr ⟨fun k kk v hp => absurd hp (hnP k), rfl⟩, hk8, hWb, hRr, hLs⟩ | exact ⟨Or.inr ⟨fun k kk v _ hk e => absurd e (bw_no04 (by first | exact Or.inl hc1 | exact Or.inr hc6) kk hk), rfl⟩, hmy8, hLw, hRr, hLs⟩ | exact ⟨Or.inr ⟨fun k kk v _ _ _ h1 _ => bw_neg (n := 98) hc11 (by omega) _ (by have := num_le (fun v => Er (pw w) T v k ≤ kk) v; omega), rfl⟩, hmy8, hLw, hRr, hLs⟩ | exact ⟨Or.inr ⟨fun k k2 v hp hk e h1 h2 => by obtain rfl := Pat_uniq hPt hp; rw [hxk, nI_eq (by omega) (by omega)] at e; subst e; exact hno v h1 h2, rfl⟩, hk8, hWb, hRk, hLk⟩), by rw [ht]; exact hP9, hD9⟩, hS.F ht⟩) hS.2.2 d_Mo_match_33
          · exact absurd hc19 (by decide)
        · skip
          refine lv_if_ne (tgt := 26) hx hb d_Mo_match_19 (by decide) (fun hc19 => ?_) (fun hc19 => ?_)
          · exact absurd hc19 (by decide)
          · skip
            rw [← nI_0, bw_eq_nn (by omega) (by omega)] at hc19
            refine lv_iconst (v := nI 0 - 1) hx hb d_Mo_match_22 (by decide) ?_
            refine lv_goto (tgt := 33) hx hb d_Mo_match_23 (by decide) ?_
            have hP9 := hP.sub (ws' := [(mo, .inr (5, [.int (nI sp), .int (nI d), .ref mdr, .int (nI mm - 1), .ref mtx, .ref mod, .ref mia, .ref mus, .ref mol, .ref mle, .int (nI kn), .ref mrw, .ref mls])), (mtx, .inl (ky, 97, .inl (nA Mx))), (mle, .inl (ky, 8, .inl (nA Wn))), (mrw, .inl (ky, 9, .inl (nA Rr))), (mls, .inl (ky, 97, .inl (nA Ls)))]) [3, 0, 4, 1, 2] rfl
            have hD9 := hD.sub (ws' := [(mo, .inr (5, [.int (nI sp), .int (nI d), .ref mdr, .int (nI mm - 1), .ref mtx, .ref mod, .ref mia, .ref mus, .ref mol, .ref mle, .int (nI kn), .ref mrw, .ref mls])), (mtx, .inl (ky, 97, .inl (nA Mx))), (mle, .inl (ky, 8, .inl (nA Wn))), (mrw, .inl (ky, 9, .inl (nA Rr))), (mls, .inl (ky, 97, .inl (nA Ls)))]) [3, 0, 4, 1, 2] (by decide) rfl
            exact W.iret (v := nI 0 - 1) hx hb hr (fun t ht hW => ⟨⟨nI 0 - 1, (kn, Wn, Rr, Ls), rfl, (by first | exact ⟨Or.inl ⟨kn, kk, v, hPt, hk4, hxk, h1, h2, h3, rfl⟩, hk8, hWb, hRk, hLk⟩ | exact ⟨Or.inr ⟨fun k kk v hp => absurd hp (hnP k), rfl⟩, hk8, hWb, hRr, hLs⟩ | exact ⟨Or.inr ⟨fun k kk v _ hk e => absurd e (bw_no04 (by first | exact Or.inl hc1 | exact Or.inr hc6) kk hk), rfl⟩, hmy8, hLw, hRr, hLs⟩ | exact ⟨Or.inr ⟨fun k kk v _ _ _ h1 _ => bw_neg (n := 98) hc11 (by omega) _ (by have := num_le (fun v => Er (pw w) T v k ≤ kk) v; omega), rfl⟩, hmy8, hLw, hRr, hLs⟩ | exact ⟨Or.inr ⟨fun k k2 v hp hk e h1 h2 => by obtain rfl := Pat_uniq hPt hp; rw [hxk, nI_eq (by omega) (by omega)] at e; subst e; exact hno v h1 h2, rfl⟩, hk8, hWb, hRk, hLk⟩), by rw [ht]; exact hP9, hD9⟩, hS.F ht⟩) hS.2.2 d_Mo_match_33

set_option maxHeartbeats 4000000 in
set_option maxRecDepth 100000 in
theorem c_Mo_build (l : Launch) (dC : Nat → ClassId) (dI : Nat → Nat → Nat) (ky : ClassId) (sz : Nat) (mo : Nat) (sp : Nat) (d : Nat) (mdr : Nat) (mm : Nat) (mtx : Nat) (mod : Nat) (mia : Nat) (mus : Nat) (mol : Nat) (mle : Nat) (my : Nat) (mrw : Nat) (mls : Nat) (Md : Nat → Nat) (Dd : Nat → Nat) (Mx : Nat → Nat) (Od : Nat → Nat) (Ia : Nat → Nat) (T : Nat → Nat) (hMd : ∀ k_, Md k_ < 125) (hD28 : ∀ k_, Dd k_ < 28) (hMD : ∀ k, k < d → Md k = cod (Dd k)) (hd97 : d ≤ 97) (hMx : ∀ k_, Mx k_ < 125) (hOd : ∀ k_, Od k_ < 97) (hIa : ∀ k_, Ia k_ < 125) (hmm : mm ≤ 97) (hMS : MSt T mm Mx Od Ia) : Met l y_Mo_build (Cond.code y_Mo_build prog_7_method_11_code 3 (some .int) :: W0) ({ frames := 3, cells := 0, slots := 0, locals := 67 }) (va_Pc [.ref mo] (fun U => U.heap.size = sz ∧ va_P (dC, dI) cls_ [(mo, .inr (5, [.int (nI sp), .int (nI d), .ref mdr, .int (nI mm - 1), .ref mtx, .ref mod, .ref mia, .ref mus, .ref mol, .ref mle, .int (nI my), .ref mrw, .ref mls])), (mdr, .inl (ky, 97, .inl (nA Md))), (mtx, .inl (ky, 97, .inl (nA Mx))), (mod, .inl (ky, 97, .inl (nA Od))), (mia, .inl (ky, 97, .inl (nA Ia)))] U.heap ∧ va_K (dC, dI) cls_ [(ky, .int)] U ∧ va_D (fun _ => True) [(mo, .inr (5, [.int (nI sp), .int (nI d), .ref mdr, .int (nI mm - 1), .ref mtx, .ref mod, .ref mia, .ref mus, .ref mol, .ref mle, .int (nI my), .ref mrw, .ref mls])), (mdr, .inl (ky, 97, .inl (nA Md))), (mtx, .inl (ky, 97, .inl (nA Mx))), (mod, .inl (ky, 97, .inl (nA Od))), (mia, .inl (ky, 97, .inl (nA Ia)))])) (va_Qi (fun (r : Int32) (u : (Nat) × (Nat) × (Nat → Nat) × (Nat → Nat) × (Nat → Nat)) => match u with | (dn, mn, Xn, On, In) => ((r = nI (sqs (txd Dd d) (d + 1)) ∧ BOk Dd d ∧ dn = 0 ∧ mn = d + 1 ∧ MSt (txd Dd d) (d + 1) Xn On In) ∨ (r = nI 0 - 1 ∧ ¬ BOk Dd d ∧ dn = d ∧ mn = mm ∧ MSt T mm Xn On In)) ∧ (∀ k_, Xn k_ < 125) ∧ (∀ k_, On k_ < 97) ∧ (∀ k_, In k_ < 125)) (fun (u : (Nat) × (Nat) × (Nat → Nat) × (Nat → Nat) × (Nat → Nat)) (t : State) => match u with | (dn, mn, Xn, On, In) => va_P (dC, dI) cls_ [(mo, .inr (5, [.int (nI sp), .int (nI dn), .ref mdr, .int (nI mn - 1), .ref mtx, .ref mod, .ref mia, .ref mus, .ref mol, .ref mle, .int (nI my), .ref mrw, .ref mls])), (mdr, .inl (ky, 97, .inl (nA Md))), (mtx, .inl (ky, 97, .inl (nA Xn))), (mod, .inl (ky, 97, .inl (nA On))), (mia, .inl (ky, 97, .inl (nA In)))] t.heap ∧ va_D (va_A [(mo, .inr (5, [.int (nI sp), .int (nI d), .ref mdr, .int (nI mm - 1), .ref mtx, .ref mod, .ref mia, .ref mus, .ref mol, .ref mle, .int (nI my), .ref mrw, .ref mls])), (mdr, .inl (ky, 97, .inl (nA Md))), (mtx, .inl (ky, 97, .inl (nA Mx))), (mod, .inl (ky, 97, .inl (nA Od))), (mia, .inl (ky, 97, .inl (nA Ia)))] sz) [(mo, .inr (5, [.int (nI sp), .int (nI dn), .ref mdr, .int (nI mn - 1), .ref mtx, .ref mod, .ref mia, .ref mus, .ref mol, .ref mle, .int (nI my), .ref mrw, .ref mls])), (mdr, .inl (ky, 97, .inl (nA Md))), (mtx, .inl (ky, 97, .inl (nA Xn))), (mod, .inl (ky, 97, .inl (nA On))), (mia, .inl (ky, 97, .inl (nA In)))]) (va_A [(mo, .inr (5, [.int (nI sp), .int (nI d), .ref mdr, .int (nI mm - 1), .ref mtx, .ref mod, .ref mia, .ref mus, .ref mol, .ref mle, .int (nI my), .ref mrw, .ref mls])), (mdr, .inl (ky, 97, .inl (nA Md))), (mtx, .inl (ky, 97, .inl (nA Mx))), (mod, .inl (ky, 97, .inl (nA Od))), (mia, .inl (ky, 97, .inl (nA Ia)))] sz)) 0 0 (va_A [(mo, .inr (5, [.int (nI sp), .int (nI d), .ref mdr, .int (nI mm - 1), .ref mtx, .ref mod, .ref mia, .ref mus, .ref mol, .ref mle, .int (nI my), .ref mrw, .ref mls])), (mdr, .inl (ky, 97, .inl (nA Md))), (mtx, .inl (ky, 97, .inl (nA Mx))), (mod, .inl (ky, 97, .inl (nA Od))), (mia, .inl (ky, 97, .inl (nA Ia)))] sz) := by
  refine Met.ofW (cc := prog_7_method_11_code) (maxL := 3) (ret := (some .int)) (by decide) rfl ?_
  intro p e s m args below meth c s₁ B hml hv
  obtain ⟨rfl, hsz, hP, hK, hD0⟩ := hv
  have hx := B.exec
  have hb := B.bytes
  have hr := B.returns
  have hlocks := B.notSynchronized
  have hts := atoms_spec (ws := (Cond.code y_Mo_build prog_7_method_11_code 3 (some .int) :: W0)) B.pre
  have htb : ∀ w ∈ W0, w.before _ s = true := fun w h => hts w (List.mem_cons_of_mem _ h)
  have hown : s.vm.findClass "SelfIndexedSequencesModel" = some m.cls := findClass_of_methodNamed B.named
  subst hsz
  have hD := hD0.self (sz := s.heap.size)
  generalize hAe : va_A [(mo, .inr (5, [.int (nI sp), .int (nI d), .ref mdr, .int (nI mm - 1), .ref mtx, .ref mod, .ref mia, .ref mus, .ref mol, .ref mle, .int (nI my), .ref mrw, .ref mls])), (mdr, .inl (ky, 97, .inl (nA Md))), (mtx, .inl (ky, 97, .inl (nA Mx))), (mod, .inl (ky, 97, .inl (nA Od))), (mia, .inl (ky, 97, .inl (nA Ia)))] s.heap.size = A at hD ⊢
  have hA : ∀ q : Nat, s.heap.size ≤ q → A q := fun q h => by rw [← hAe]; exact Or.inr h
  have hS : va_S A s.heap s.heap [] := va_S.rf
  have hl := lv_entry ([.ref mo]) (n := 3) (Nat.le_of_ble_eq_true rfl)
  rw [lg_entry_eq]
  generalize (lg_sl ([.ref mo]) ++ List.replicate (3 - (lg_sl ([.ref mo])).length) Slot.unset).toArray = ls at hl ⊢
  have hl : lv_has ls 3 [(0, .ref mo)] := hl
  refine lv_aload_n hx hb d_Mo_build_0 rfl (lv_at hl 0 rfl) ?_
  refine va_get (D := (dC, dI)) (ci := 5) (v := .int (nI d)) (C := R_Mo) (T := F_Mo) (N := 13) hx hb htb in_Mo hown hK hP 0 rfl rfl 1 (by decide) (htb _ tw_362) (fun _ h9 => h9) rfl d_Mo_build_1 ?_
  refine lv_bipush (v := nI 96) hx hb d_Mo_build_4 (by decide) ?_
  refine lv_icmp_gt (tgt := 13) hx hb d_Mo_build_6 (by decide) (fun hc6 => ?_) (fun hc6 => ?_)
  · skip
    rw [bw_lt_nn (by omega) (by omega)] at hc6
    refine lv_iconst (v := nI 0) hx hb d_Mo_build_13 (by decide) ?_
    refine lv_istore_n hx hb d_Mo_build_14 rfl hl (by decide) rfl (fun ls hl => ?_)
    have hl : lv_has ls 3 [(1, .int (nI 0)), (0, .ref mo)] := hl
    refine lv_iconst (v := nI 0) hx hb d_Mo_build_15 (by decide) ?_
    refine lv_istore_n hx hb d_Mo_build_16 rfl hl (by decide) rfl (fun ls hl => ?_)
    have hl : lv_has ls 3 [(2, .int (nI 0)), (1, .int (nI 0)), (0, .ref mo)] := hl
    refine wl_loop (σ := Nat × Nat) 17 [] (fun (a_ : Nat × Nat) => match a_ with | (k, pl1) => d - k) (fun (a_ : Nat × Nat) (H : Heap) (locs : List Loc) (ls : Array Slot) => match a_ with | (k, pl1) => (k ≤ d) ∧ (BoI Dd d k pl1) ∧ (pl1 ≤ 1) ∧ va_P (dC, dI) cls_ [(mo, .inr (5, [.int (nI sp), .int (nI d), .ref mdr, .int (nI mm - 1), .ref mtx, .ref mod, .ref mia, .ref mus, .ref mol, .ref mle, .int (nI my), .ref mrw, .ref mls])), (mdr, .inl (ky, 97, .inl (nA Md))), (mtx, .inl (ky, 97, .inl (nA Mx))), (mod, .inl (ky, 97, .inl (nA Od))), (mia, .inl (ky, 97, .inl (nA Ia)))] H ∧ va_D A [(mo, .inr (5, [.int (nI sp), .int (nI d), .ref mdr, .int (nI mm - 1), .ref mtx, .ref mod, .ref mia, .ref mus, .ref mol, .ref mle, .int (nI my), .ref mrw, .ref mls])), (mdr, .inl (ky, 97, .inl (nA Md))), (mtx, .inl (ky, 97, .inl (nA Mx))), (mod, .inl (ky, 97, .inl (nA Od))), (mia, .inl (ky, 97, .inl (nA Ia)))] ∧ va_S A s.heap H locs ∧ lv_has ls 3 [(2, .int (nI k)), (1, .int (nI pl1)), (0, .ref mo)]) ?_ (0, 0) ⟨(by first | assumption | omega | (simp; done) | (simp_all; done)), (by first | exact BoI_0 Dd (by omega) | exact BoI_x Dd (by omega)), (by first | assumption | omega | (simp; done) | (simp_all; done)), hP, hD, hS, lv_sub hl [0, 1, 2] rfl⟩
    clear hP hD hS hl
    intro a_ H locs ls hI ih17
    obtain ⟨k, pl1⟩ := a_
    obtain ⟨hk, hbo, hp1, hP, hD, hS, hl⟩ := hI
    have hl : lv_has ls 3 [(2, .int (nI k)), (1, .int (nI pl1)), (0, .ref mo)] := hl
    have hP : va_P (dC, dI) cls_ [(mo, .inr (5, [.int (nI sp), .int (nI d), .ref mdr, .int (nI mm - 1), .ref mtx, .ref mod, .ref mia, .ref mus, .ref mol, .ref mle, .int (nI my), .ref mrw, .ref mls])), (mdr, .inl (ky, 97, .inl (nA Md))), (mtx, .inl (ky, 97, .inl (nA Mx))), (mod, .inl (ky, 97, .inl (nA Od))), (mia, .inl (ky, 97, .inl (nA Ia)))] H := hP
    have hD : va_D A [(mo, .inr (5, [.int (nI sp), .int (nI d), .ref mdr, .int (nI mm - 1), .ref mtx, .ref mod, .ref mia, .ref mus, .ref mol, .ref mle, .int (nI my), .ref mrw, .ref mls])), (mdr, .inl (ky, 97, .inl (nA Md))), (mtx, .inl (ky, 97, .inl (nA Mx))), (mod, .inl (ky, 97, .inl (nA Od))), (mia, .inl (ky, 97, .inl (nA Ia)))] := hD
    have hk : k ≤ d := hk
    have hbo : BoI Dd d k pl1 := hbo
    have hp1 : pl1 ≤ 1 := hp1
    refine lv_iload_n hx hb d_Mo_build_17 rfl (lv_at hl 0 rfl) ?_
    refine lv_aload_n hx hb d_Mo_build_18 rfl (lv_at hl 2 rfl) ?_
    refine va_get (D := (dC, dI)) (ci := 5) (v := .int (nI d)) (C := R_Mo) (T := F_Mo) (N := 13) hx hb htb in_Mo hown hK hP 0 rfl rfl 1 (by decide) (htb _ tw_362) (fun _ h9 => h9) rfl d_Mo_build_19 ?_
    refine lv_icmp_ge (tgt := 52) hx hb d_Mo_build_22 (by decide) (fun hc22 => ?_) (fun hc22 => ?_)
    · skip
      rw [bw_le_nn (by omega) (by omega)] at hc22
      refine lv_iload_n hx hb d_Mo_build_52 rfl (lv_at hl 1 rfl) ?_
      refine lv_if_ne (tgt := 58) hx hb d_Mo_build_53 (by decide) (fun hc53 => ?_) (fun hc53 => ?_)
      · skip
        rw [← nI_0, bw_eq_nn (by omega) (by omega)] at hc53
        have hbk := BoI_yes hbo hc53 (by omega)
        refine lv_aload_n hx hb d_Mo_build_58 rfl (lv_at hl 2 rfl) ?_
        refine lv_aload_n hx hb d_Mo_build_59 rfl (lv_at hl 2 rfl) ?_
        refine va_get (D := (dC, dI)) (ci := 5) (v := .int (nI d)) (C := R_Mo) (T := F_Mo) (N := 13) hx hb htb in_Mo hown hK hP 0 rfl rfl 1 (by decide) (htb _ tw_362) (fun _ h9 => h9) rfl d_Mo_build_60 ?_
        refine W.eq (g2 := F0 m 63 ls [.int (nI (d + 1) - 1), .ref mo]) (by rw [show nI d = nI (d + 1) - 1 from (nI_pred d).symm]) ?_
        refine va_put (D := (dC, dI)) (ci := 5) (v := .int (nI (d + 1) - 1)) (ty := .int) (C := R_Mo) (T := F_Mo) (N := 13) hx hb htb in_Mo t_Mo tk_Mo nm_Mo hown hK hP hD hS 0 rfl rfl 3 (by decide) (htb _ tw_364) (fun _ h9 => h9) rfl (by decide +kernel) rfl rfl (Nat.le_of_ble_eq_true rfl) d_Mo_build_63 (fun H locs hP hD hS => ?_)
        have hP : va_P (dC, dI) cls_ [(mo, .inr (5, [.int (nI sp), .int (nI d), .ref mdr, .int (nI (d + 1) - 1), .ref mtx, .ref mod, .ref mia, .ref mus, .ref mol, .ref mle, .int (nI my), .ref mrw, .ref mls])), (mdr, .inl (ky, 97, .inl (nA Md))), (mtx, .inl (ky, 97, .inl (nA Mx))), (mod, .inl (ky, 97, .inl (nA Od))), (mia, .inl (ky, 97, .inl (nA Ia)))] H := hP
        have hD : va_D A [(mo, .inr (5, [.int (nI sp), .int (nI d), .ref mdr, .int (nI (d + 1) - 1), .ref mtx, .ref mod, .ref mia, .ref mus, .ref mol, .ref mle, .int (nI my), .ref mrw, .ref mls])), (mdr, .inl (ky, 97, .inl (nA Md))), (mtx, .inl (ky, 97, .inl (nA Mx))), (mod, .inl (ky, 97, .inl (nA Od))), (mia, .inl (ky, 97, .inl (nA Ia)))] := hD
        refine lv_iconst (v := nI 0) hx hb d_Mo_build_66 (by decide) ?_
        refine lv_istore_n hx hb d_Mo_build_67 rfl hl (by decide) rfl (fun ls hl => ?_)
        have hl : lv_has ls 3 [(2, .int (nI 0)), (1, .int (nI pl1)), (0, .ref mo)] := hl
        refine wl_loop (σ := Nat × (Nat → Nat)) 68 [] (fun (a_ : Nat × (Nat → Nat)) => match a_ with | (k, Xq) => d - k) (fun (a_ : Nat × (Nat → Nat)) (H : Heap) (locs : List Loc) (ls : Array Slot) => match a_ with | (k, Xq) => (k ≤ d) ∧ (∀ i, i < k → Xq i = cod (txd Dd d i)) ∧ (∀ k_, Xq k_ < 125) ∧ va_P (dC, dI) cls_ [(mo, .inr (5, [.int (nI sp), .int (nI d), .ref mdr, .int (nI (d + 1) - 1), .ref mtx, .ref mod, .ref mia, .ref mus, .ref mol, .ref mle, .int (nI my), .ref mrw, .ref mls])), (mdr, .inl (ky, 97, .inl (nA Md))), (mtx, .inl (ky, 97, .inl (nA Xq))), (mod, .inl (ky, 97, .inl (nA Od))), (mia, .inl (ky, 97, .inl (nA Ia)))] H ∧ va_D A [(mo, .inr (5, [.int (nI sp), .int (nI d), .ref mdr, .int (nI (d + 1) - 1), .ref mtx, .ref mod, .ref mia, .ref mus, .ref mol, .ref mle, .int (nI my), .ref mrw, .ref mls])), (mdr, .inl (ky, 97, .inl (nA Md))), (mtx, .inl (ky, 97, .inl (nA Xq))), (mod, .inl (ky, 97, .inl (nA Od))), (mia, .inl (ky, 97, .inl (nA Ia)))] ∧ va_S A s.heap H locs ∧ lv_has ls 3 [(2, .int (nI k)), (0, .ref mo)]) ?_ (0, Mx) ⟨(by first | assumption | omega | (simp; done) | (simp_all; done)), (fun i hi => by omega), hMx, hP, hD, hS, lv_sub hl [0, 2] rfl⟩
        clear hP hD hS hl
        intro a_ H locs ls hI ih68
        obtain ⟨k, Xq⟩ := a_
        obtain ⟨hk, hXk, hXq, hP, hD, hS, hl⟩ := hI
        have hl : lv_has ls 3 [(2, .int (nI k)), (0, .ref mo)] := hl
        have hP : va_P (dC, dI) cls_ [(mo, .inr (5, [.int (nI sp), .int (nI d), .ref mdr, .int (nI (d + 1) - 1), .ref mtx, .ref mod, .ref mia, .ref mus, .ref mol, .ref mle, .int (nI my), .ref mrw, .ref mls])), (mdr, .inl (ky, 97, .inl (nA Md))), (mtx, .inl (ky, 97, .inl (nA Xq))), (mod, .inl (ky, 97, .inl (nA Od))), (mia, .inl (ky, 97, .inl (nA Ia)))] H := hP
        have hD : va_D A [(mo, .inr (5, [.int (nI sp), .int (nI d), .ref mdr, .int (nI (d + 1) - 1), .ref mtx, .ref mod, .ref mia, .ref mus, .ref mol, .ref mle, .int (nI my), .ref mrw, .ref mls])), (mdr, .inl (ky, 97, .inl (nA Md))), (mtx, .inl (ky, 97, .inl (nA Xq))), (mod, .inl (ky, 97, .inl (nA Od))), (mia, .inl (ky, 97, .inl (nA Ia)))] := hD
        have hk : k ≤ d := hk
        have hXk : ∀ i, i < k → Xq i = cod (txd Dd d i) := hXk
        have hXq : ∀ k_, Xq k_ < 125 := hXq
        refine lv_iload_n hx hb d_Mo_build_68 rfl (lv_at hl 0 rfl) ?_
        refine lv_aload_n hx hb d_Mo_build_69 rfl (lv_at hl 1 rfl) ?_
        refine va_get (D := (dC, dI)) (ci := 5) (v := .int (nI (d + 1) - 1)) (C := R_Mo) (T := F_Mo) (N := 13) hx hb htb in_Mo hown hK hP 0 rfl rfl 3 (by decide) (htb _ tw_364) (fun _ h9 => h9) rfl d_Mo_build_70 ?_
        refine lv_icmp_ge (tgt := 94) hx hb d_Mo_build_73 (by decide) (fun hc73 => ?_) (fun hc73 => ?_)
        · skip
          rw [bw_le_pn (by omega) (by omega)] at hc73
          refine lv_aload_n hx hb d_Mo_build_94 rfl (lv_at hl 1 rfl) ?_
          have hPc := hP.sub (ws' := [(mo, .inr (5, [.int (nI sp), .int (nI d), .ref mdr, .int (nI (d + 1) - 1), .ref mtx, .ref mod, .ref mia, .ref mus, .ref mol, .ref mle, .int (nI my), .ref mrw, .ref mls])), (mtx, .inl (ky, 97, .inl (nA Xq))), (mod, .inl (ky, 97, .inl (nA Od))), (mia, .inl (ky, 97, .inl (nA Ia)))]) [0, 2, 3, 4] rfl
          have hDc := hD.sub (ws' := [(mo, .inr (5, [.int (nI sp), .int (nI d), .ref mdr, .int (nI (d + 1) - 1), .ref mtx, .ref mod, .ref mia, .ref mus, .ref mol, .ref mle, .int (nI my), .ref mrw, .ref mls])), (mtx, .inl (ky, 97, .inl (nA Xq))), (mod, .inl (ky, 97, .inl (nA Od))), (mia, .inl (ky, 97, .inl (nA Ia)))]) [0, 2, 3, 4] (by decide) rfl
          have hFc := va_free (wc := [(mo, .inr (5, [.int (nI sp), .int (nI d), .ref mdr, .int (nI (d + 1) - 1), .ref mtx, .ref mod, .ref mia, .ref mus, .ref mol, .ref mle, .int (nI my), .ref mrw, .ref mls])), (mtx, .inl (ky, 97, .inl (nA Xq))), (mod, .inl (ky, 97, .inl (nA Od))), (mia, .inl (ky, 97, .inl (nA Ia)))]) hD hS hA [0, 2, 3, 4] rfl
          refine va_callv (va_runV (C := "SelfIndexedSequencesModel") (As := []) (rest := []) ⟨hx, hb, hml, hown, hts⟩ (c_Mo_sort l dC dI ky H.size mo sp d mdr (d + 1) mtx mod mia mus mol mle my mrw mls Xq Od Ia (txd Dd d) d hXq hOd hIa rfl hbk.1 (txd_txt hbk.2) (txd_lt hD28 d) (fun q hq => hXk q (by omega))) ⟨callB_of 0 hts (W0_good tw_427) rfl rfl rfl (htb _ tw_28) (htb _ tw_424) ⟨by decide, by decide, by decide +kernel⟩ ⟨(Nat.le_of_ble_eq_true rfl), (Nat.le_of_ble_eq_true rfl)⟩, htb _ tw_426, htb _ tw_9⟩ ⟨fun a U g mk q => by obtain ⟨q0, q1, qP, qK, qD⟩ := q; exact ⟨q0, q1, qP, va_K.moved (u := U) (U := U.calling g mk a) (Vm.Alike.refl U.vm) qK, qD⟩, va_recv hK hPc (q0 := 0) (q := (R_Mo, F_Mo, 13)) rfl rfl, fun U hU hW => ⟨rfl, by rw [hU], by rw [hU]; exact hPc, va_K.moved hW.alike hK, hDc.weaken (fun _ _ _ _ => trivial)⟩⟩ rfl rfl hl.1 rfl (lv_room (Nat.le_of_ble_eq_true rfl)) d_Mo_build_95 ⟨(Nat.le_of_ble_eq_true rfl), (Nat.le_of_ble_eq_true rfl)⟩) hS (fun q _ h => hFc q h) hFc (fun u_ t H locs ht hvm hw95 hB hz1 hk1 hS => ?_)
          obtain ⟨Os, Is⟩ := u_
          obtain ⟨hP1, hD1⟩ := hB
          rw [ht] at hP1
          obtain ⟨hP, hD⟩ := va_join (wr := [(mdr, .inl (ky, 97, .inl (nA Md)))]) (w1 := [(mo, .inr (5, [.int (nI sp), .int (nI d), .ref mdr, .int (nI (d + 1) - 1), .ref mtx, .ref mod, .ref mia, .ref mus, .ref mol, .ref mle, .int (nI my), .ref mrw, .ref mls])), (mtx, .inl (ky, 97, .inl (nA Xq))), (mod, .inl (ky, 97, .inl (nA Os))), (mia, .inl (ky, 97, .inl (nA Is)))]) hP hD [0, 2, 3, 4] [1] rfl rfl (by decide) (by decide) hk1 hFc hP1 hD1
          have hP : va_P (dC, dI) cls_ [(mdr, .inl (ky, 97, .inl (nA Md))), (mo, .inr (5, [.int (nI sp), .int (nI d), .ref mdr, .int (nI (d + 1) - 1), .ref mtx, .ref mod, .ref mia, .ref mus, .ref mol, .ref mle, .int (nI my), .ref mrw, .ref mls])), (mtx, .inl (ky, 97, .inl (nA Xq))), (mod, .inl (ky, 97, .inl (nA Os))), (mia, .inl (ky, 97, .inl (nA Is)))] H := hP
          have hD : va_D A [(mdr, .inl (ky, 97, .inl (nA Md))), (mo, .inr (5, [.int (nI sp), .int (nI d), .ref mdr, .int (nI (d + 1) - 1), .ref mtx, .ref mod, .ref mia, .ref mus, .ref mol, .ref mle, .int (nI my), .ref mrw, .ref mls])), (mtx, .inl (ky, 97, .inl (nA Xq))), (mod, .inl (ky, 97, .inl (nA Os))), (mia, .inl (ky, 97, .inl (nA Is)))] := hD
          have hq95 : (∃ R, Srt (txd Dd d) d Os R) ∧ (∀ j, j < d + 1 → Is j = cod ((txd Dd d) (prv d (Os j)))) ∧ (∀ k_, Os k_ < 97) ∧ (∀ k_, Is k_ < 125) := hw95
          obtain ⟨hSr, hIs, hOb, hIb⟩ := hq95
          refine lv_aload_n hx hb d_Mo_build_98 rfl (lv_at hl 1 rfl) ?_
          refine lv_iconst (v := nI 0) hx hb d_Mo_build_99 (by decide) ?_
          refine va_put (D := (dC, dI)) (ci := 5) (v := .int (nI 0)) (ty := .int) (C := R_Mo) (T := F_Mo) (N := 13) hx hb htb in_Mo t_Mo tk_Mo nm_Mo hown hK hP hD hS 1 rfl rfl 1 (by decide) (htb _ tw_362) (fun _ h9 => h9) rfl (by decide +kernel) rfl rfl (Nat.le_of_ble_eq_true rfl) d_Mo_build_100 (fun H locs hP hD hS => ?_)
          have hP : va_P (dC, dI) cls_ [(mdr, .inl (ky, 97, .inl (nA Md))), (mo, .inr (5, [.int (nI sp), .int (nI 0), .ref mdr, .int (nI (d + 1) - 1), .ref mtx, .ref mod, .ref mia, .ref mus, .ref mol, .ref mle, .int (nI my), .ref mrw, .ref mls])), (mtx, .inl (ky, 97, .inl (nA Xq))), (mod, .inl (ky, 97, .inl (nA Os))), (mia, .inl (ky, 97, .inl (nA Is)))] H := hP
          have hD : va_D A [(mdr, .inl (ky, 97, .inl (nA Md))), (mo, .inr (5, [.int (nI sp), .int (nI 0), .ref mdr, .int (nI (d + 1) - 1), .ref mtx, .ref mod, .ref mia, .ref mus, .ref mol, .ref mle, .int (nI my), .ref mrw, .ref mls])), (mtx, .inl (ky, 97, .inl (nA Xq))), (mod, .inl (ky, 97, .inl (nA Os))), (mia, .inl (ky, 97, .inl (nA Is)))] := hD
          refine lv_aload_n hx hb d_Mo_build_103 rfl (lv_at hl 1 rfl) ?_
          have hPc := hP.sub (ws' := [(mo, .inr (5, [.int (nI sp), .int (nI 0), .ref mdr, .int (nI (d + 1) - 1), .ref mtx, .ref mod, .ref mia, .ref mus, .ref mol, .ref mle, .int (nI my), .ref mrw, .ref mls])), (mtx, .inl (ky, 97, .inl (nA Xq)))]) [1, 2] rfl
          have hDc := hD.sub (ws' := [(mo, .inr (5, [.int (nI sp), .int (nI 0), .ref mdr, .int (nI (d + 1) - 1), .ref mtx, .ref mod, .ref mia, .ref mus, .ref mol, .ref mle, .int (nI my), .ref mrw, .ref mls])), (mtx, .inl (ky, 97, .inl (nA Xq)))]) [1, 2] (by decide) rfl
          have hFc := va_free (wc := [(mo, .inr (5, [.int (nI sp), .int (nI 0), .ref mdr, .int (nI (d + 1) - 1), .ref mtx, .ref mod, .ref mia, .ref mus, .ref mol, .ref mle, .int (nI my), .ref mrw, .ref mls])), (mtx, .inl (ky, 97, .inl (nA Xq)))]) hD hS hA [1, 2] rfl
          refine va_calli (va_runV (C := "SelfIndexedSequencesModel") (As := []) (rest := []) ⟨hx, hb, hml, hown, hts⟩ (c_Mo_sequences l dC dI ky H.size mo sp 0 mdr (d + 1) mtx mod mia mus mol mle my mrw mls Xq (txd Dd d) hXq (by have := hbk.1; omega) (txd_lt hD28 d) (fun q hq => hXk q (by omega))) ⟨callB_of 0 hts (W0_good tw_442) rfl rfl rfl (htb _ tw_28) (htb _ tw_439) ⟨by decide, by decide, by decide +kernel⟩ ⟨(Nat.le_of_ble_eq_true rfl), (Nat.le_of_ble_eq_true rfl)⟩, htb _ tw_440, htb _ tw_441⟩ ⟨fun a U g mk q => by obtain ⟨q0, q1, qP, qK, qD⟩ := q; exact ⟨q0, q1, qP, va_K.moved (u := U) (U := U.calling g mk a) (Vm.Alike.refl U.vm) qK, qD⟩, va_recv hK hPc (q0 := 0) (q := (R_Mo, F_Mo, 13)) rfl rfl, fun U hU hW => ⟨rfl, by rw [hU], by rw [hU]; exact hPc, va_K.moved hW.alike hK, hDc.weaken (fun _ _ _ _ => trivial)⟩⟩ rfl rfl hl.1 rfl (lv_room (Nat.le_of_ble_eq_true rfl)) d_Mo_build_104 ⟨(Nat.le_of_ble_eq_true rfl), (Nat.le_of_ble_eq_true rfl)⟩) hS (fun q _ h => hFc q h) hFc (fun r104 u_ t H locs ht hvm hw104 hB hz1 hk1 hS => ?_)
          obtain ⟨hP1, hD1⟩ := hB
          rw [ht] at hP1
          obtain ⟨hP, hD⟩ := va_join (wr := [(mdr, .inl (ky, 97, .inl (nA Md))), (mod, .inl (ky, 97, .inl (nA Os))), (mia, .inl (ky, 97, .inl (nA Is)))]) (w1 := [(mo, .inr (5, [.int (nI sp), .int (nI 0), .ref mdr, .int (nI (d + 1) - 1), .ref mtx, .ref mod, .ref mia, .ref mus, .ref mol, .ref mle, .int (nI my), .ref mrw, .ref mls])), (mtx, .inl (ky, 97, .inl (nA Xq)))]) hP hD [1, 2] [0, 3, 4] rfl rfl (by decide) (by decide) hk1 hFc hP1 hD1
          have hP : va_P (dC, dI) cls_ [(mdr, .inl (ky, 97, .inl (nA Md))), (mod, .inl (ky, 97, .inl (nA Os))), (mia, .inl (ky, 97, .inl (nA Is))), (mo, .inr (5, [.int (nI sp), .int (nI 0), .ref mdr, .int (nI (d + 1) - 1), .ref mtx, .ref mod, .ref mia, .ref mus, .ref mol, .ref mle, .int (nI my), .ref mrw, .ref mls])), (mtx, .inl (ky, 97, .inl (nA Xq)))] H := hP
          have hD : va_D A [(mdr, .inl (ky, 97, .inl (nA Md))), (mod, .inl (ky, 97, .inl (nA Os))), (mia, .inl (ky, 97, .inl (nA Is))), (mo, .inr (5, [.int (nI sp), .int (nI 0), .ref mdr, .int (nI (d + 1) - 1), .ref mtx, .ref mod, .ref mia, .ref mus, .ref mol, .ref mle, .int (nI my), .ref mrw, .ref mls])), (mtx, .inl (ky, 97, .inl (nA Xq)))] := hD
          have hw104 : r104 = nI (sqs (txd Dd d) (d + 1)) ∧ (True) := hw104
          obtain ⟨hre, hq104⟩ := hw104
          subst hre
          have hP9 := hP.sub (ws' := [(mo, .inr (5, [.int (nI sp), .int (nI 0), .ref mdr, .int (nI (d + 1) - 1), .ref mtx, .ref mod, .ref mia, .ref mus, .ref mol, .ref mle, .int (nI my), .ref mrw, .ref mls])), (mdr, .inl (ky, 97, .inl (nA Md))), (mtx, .inl (ky, 97, .inl (nA Xq))), (mod, .inl (ky, 97, .inl (nA Os))), (mia, .inl (ky, 97, .inl (nA Is)))]) [3, 0, 4, 1, 2] rfl
          have hD9 := hD.sub (ws' := [(mo, .inr (5, [.int (nI sp), .int (nI 0), .ref mdr, .int (nI (d + 1) - 1), .ref mtx, .ref mod, .ref mia, .ref mus, .ref mol, .ref mle, .int (nI my), .ref mrw, .ref mls])), (mdr, .inl (ky, 97, .inl (nA Md))), (mtx, .inl (ky, 97, .inl (nA Xq))), (mod, .inl (ky, 97, .inl (nA Os))), (mia, .inl (ky, 97, .inl (nA Is)))]) [3, 0, 4, 1, 2] (by decide) rfl
          exact W.iret (v := nI (sqs (txd Dd d) (d + 1))) hx hb hr (fun t ht hW => ⟨⟨nI (sqs (txd Dd d) (d + 1)), (0, (d + 1), Xq, Os, Is), rfl, ⟨Or.inl ⟨rfl, hbk, rfl, rfl, MSt_mk (txd_lt hD28 d) (txd_txt hbk.2) (fun q hq => hXk q (by omega)) hSr hIs⟩, hXq, hOb, hIb⟩, by rw [ht]; exact hP9, hD9⟩, hS.F ht⟩) hS.2.2 d_Mo_build_107
        · skip
          rw [bw_le_pn (by omega) (by omega)] at hc73
          refine lv_aload_n hx hb d_Mo_build_76 rfl (lv_at hl 1 rfl) ?_
          refine va_get (D := (dC, dI)) (ci := 5) (v := .ref mtx) (C := R_Mo) (T := F_Mo) (N := 13) hx hb htb in_Mo hown hK hP 0 rfl rfl 4 (by decide) (htb _ tw_365) (fun _ h9 => h9) rfl d_Mo_build_77 ?_
          refine lv_iload_n hx hb d_Mo_build_80 rfl (lv_at hl 0 rfl) ?_
          refine lv_aload_n hx hb d_Mo_build_81 rfl (lv_at hl 1 rfl) ?_
          refine va_get (D := (dC, dI)) (ci := 5) (v := .ref mdr) (C := R_Mo) (T := F_Mo) (N := 13) hx hb htb in_Mo hown hK hP 0 rfl rfl 2 (by decide) (htb _ tw_363) (fun _ h9 => h9) rfl d_Mo_build_82 ?_
          refine lv_iload_n hx hb d_Mo_build_85 rfl (lv_at hl 0 rfl) ?_
          have hcl := cod_lt (hD28 k)
          refine va_iald hx hb hK hP 1 0 rfl rfl (vp_in_nI (by omega) (by decide)) d_Mo_build_86 ?_
          rw [nI_clamp (by omega)]
          have hb86 := hMd k
          rw [nA_at]
          rw [show nI (Md k) = nI (cod (Dd k)) from (by rw [hMD k (by omega)])]
          refine va_iast hx hb hK hP hD hS 2 0 rfl rfl (vp_in_nI (by omega) (by decide)) d_Mo_build_87 (fun H locs hP hD hS => ?_)
          rw [nI_clamp (by omega)] at hP hD
          rw [nA_upd] at hP hD
          have hu1 : ∀ k_, (upN Xq k (cod (Dd k))) k_ < 125 := upN_lt hXq (by omega)
          have hP : va_P (dC, dI) cls_ [(mo, .inr (5, [.int (nI sp), .int (nI d), .ref mdr, .int (nI (d + 1) - 1), .ref mtx, .ref mod, .ref mia, .ref mus, .ref mol, .ref mle, .int (nI my), .ref mrw, .ref mls])), (mdr, .inl (ky, 97, .inl (nA Md))), (mtx, .inl (ky, 97, .inl (nA (upN Xq k (cod (Dd k)))))), (mod, .inl (ky, 97, .inl (nA Od))), (mia, .inl (ky, 97, .inl (nA Ia)))] H := hP
          have hD : va_D A [(mo, .inr (5, [.int (nI sp), .int (nI d), .ref mdr, .int (nI (d + 1) - 1), .ref mtx, .ref mod, .ref mia, .ref mus, .ref mol, .ref mle, .int (nI my), .ref mrw, .ref mls])), (mdr, .inl (ky, 97, .inl (nA Md))), (mtx, .inl (ky, 97, .inl (nA (upN Xq k (cod (Dd k)))))), (mod, .inl (ky, 97, .inl (nA Od))), (mia, .inl (ky, 97, .inl (nA Ia)))] := hD
          refine lv_iinc (v := nI (k + 1)) (k := 0) hx hb d_Mo_build_88 hl rfl (bw_inc k 1) (by decide) rfl (fun ls hl => ?_)
          have hl : lv_has ls 3 [(2, .int (nI (k + 1))), (0, .ref mo)] := hl
          refine lv_goto (tgt := 68) hx hb d_Mo_build_91 (by decide) ?_
          exact ih68 ((k + 1), (upN Xq k (cod (Dd k)))) _ _ _ ⟨(by first | assumption | omega | (simp; done) | (simp_all; done)), (fun i hi => if e : i = k then (by rw [e, upN_s, txd_at (by omega)]) else (by rw [upN_o e]; exact hXk i (by omega))), (by assumption), hP, hD, hS, lv_sub hl [0, 1] rfl⟩ (by first | omega | (simp only; omega) | (dsimp only; omega))
      · skip
        rw [← nI_0, bw_eq_nn (by omega) (by omega)] at hc53
        refine lv_iconst (v := nI 0 - 1) hx hb d_Mo_build_56 (by decide) ?_
        have hP9 := hP.sub (ws' := [(mo, .inr (5, [.int (nI sp), .int (nI d), .ref mdr, .int (nI mm - 1), .ref mtx, .ref mod, .ref mia, .ref mus, .ref mol, .ref mle, .int (nI my), .ref mrw, .ref mls])), (mdr, .inl (ky, 97, .inl (nA Md))), (mtx, .inl (ky, 97, .inl (nA Mx))), (mod, .inl (ky, 97, .inl (nA Od))), (mia, .inl (ky, 97, .inl (nA Ia)))]) [0, 1, 2, 3, 4] rfl
        have hD9 := hD.sub (ws' := [(mo, .inr (5, [.int (nI sp), .int (nI d), .ref mdr, .int (nI mm - 1), .ref mtx, .ref mod, .ref mia, .ref mus, .ref mol, .ref mle, .int (nI my), .ref mrw, .ref mls])), (mdr, .inl (ky, 97, .inl (nA Md))), (mtx, .inl (ky, 97, .inl (nA Mx))), (mod, .inl (ky, 97, .inl (nA Od))), (mia, .inl (ky, 97, .inl (nA Ia)))]) [0, 1, 2, 3, 4] (by decide) rfl
        exact W.iret (v := nI 0 - 1) hx hb hr (fun t ht hW => ⟨⟨nI 0 - 1, (d, mm, Mx, Od, Ia), rfl, ⟨Or.inr ⟨rfl, BoI_no hbo (by omega), rfl, rfl, hMS⟩, hMx, hOd, hIa⟩, by rw [ht]; exact hP9, hD9⟩, hS.F ht⟩) hS.2.2 d_Mo_build_57
    · skip
      rw [bw_le_nn (by omega) (by omega)] at hc22
      refine lv_iload_n hx hb d_Mo_build_25 rfl (lv_at hl 1 rfl) ?_
      refine lv_if_eq (tgt := 44) hx hb d_Mo_build_26 (by decide) (fun hc26 => ?_) (fun hc26 => ?_)
      · skip
        rw [← nI_0, bw_eq_nn (by omega) (by omega)] at hc26
        refine lv_iconst (v := nI 0) hx hb d_Mo_build_44 (by decide) ?_
        refine lv_istore_n hx hb d_Mo_build_45 rfl hl (by decide) rfl (fun ls hl => ?_)
        have hl : lv_has ls 3 [(1, .int (nI 0)), (2, .int (nI k)), (0, .ref mo)] := hl
        refine lv_iinc (v := nI (k + 1)) (k := 1) hx hb d_Mo_build_46 hl rfl (bw_inc k 1) (by decide) rfl (fun ls hl => ?_)
        have hl : lv_has ls 3 [(2, .int (nI (k + 1))), (1, .int (nI 0)), (0, .ref mo)] := hl
        refine lv_goto (tgt := 17) hx hb d_Mo_build_49 (by decide) ?_
        exact ih17 ((k + 1), 0) _ _ _ ⟨(by first | assumption | omega | (simp; done) | (simp_all; done)), (by first | exact BoI_z hbo (by assumption) | exact BoI_n (by omega) ((cod36 (hD28 k)).mp (by assumption)) | exact BoI_y hbo (by assumption) (fun z => absurd ((cod36 (hD28 k)).mpr z) (by assumption))), (by first | assumption | omega | (simp; done) | (simp_all; done)), hP, hD, hS, lv_sub hl [0, 1, 2] rfl⟩ (by first | omega | (simp only; omega) | (dsimp only; omega))
      · skip
        rw [← nI_0, bw_eq_nn (by omega) (by omega)] at hc26
        refine lv_aload_n hx hb d_Mo_build_29 rfl (lv_at hl 2 rfl) ?_
        refine va_get (D := (dC, dI)) (ci := 5) (v := .ref mdr) (C := R_Mo) (T := F_Mo) (N := 13) hx hb htb in_Mo hown hK hP 0 rfl rfl 2 (by decide) (htb _ tw_363) (fun _ h9 => h9) rfl d_Mo_build_30 ?_
        refine lv_iload_n hx hb d_Mo_build_33 rfl (lv_at hl 0 rfl) ?_
        have hcl := cod_lt (hD28 k)
        refine va_iald hx hb hK hP 1 0 rfl rfl (vp_in_nI (by omega) (by decide)) d_Mo_build_34 ?_
        rw [nI_clamp (by omega)]
        have hb34 := hMd k
        rw [nA_at]
        rw [show nI (Md k) = nI (cod (Dd k)) from (by rw [hMD k (by omega)])]
        refine lv_bipush (v := nI 36) hx hb d_Mo_build_35 (by decide) ?_
        refine lv_icmp_eq (tgt := 44) hx hb d_Mo_build_37 (by decide) (fun hc37 => ?_) (fun hc37 => ?_)
        · skip
          rw [bw_eq_nn (by omega) (by omega)] at hc37
          refine lv_iconst (v := nI 0) hx hb d_Mo_build_44 (by decide) ?_
          refine lv_istore_n hx hb d_Mo_build_45 rfl hl (by decide) rfl (fun ls hl => ?_)
          have hl : lv_has ls 3 [(1, .int (nI 0)), (2, .int (nI k)), (0, .ref mo)] := hl
          refine lv_iinc (v := nI (k + 1)) (k := 1) hx hb d_Mo_build_46 hl rfl (bw_inc k 1) (by decide) rfl (fun ls hl => ?_)
          have hl : lv_has ls 3 [(2, .int (nI (k + 1))), (1, .int (nI 0)), (0, .ref mo)] := hl
          refine lv_goto (tgt := 17) hx hb d_Mo_build_49 (by decide) ?_
          exact ih17 ((k + 1), 0) _ _ _ ⟨(by first | assumption | omega | (simp; done) | (simp_all; done)), (by first | exact BoI_z hbo (by assumption) | exact BoI_n (by omega) ((cod36 (hD28 k)).mp (by assumption)) | exact BoI_y hbo (by assumption) (fun z => absurd ((cod36 (hD28 k)).mpr z) (by assumption))), (by first | assumption | omega | (simp; done) | (simp_all; done)), hP, hD, hS, lv_sub hl [0, 1, 2] rfl⟩ (by first | omega | (simp only; omega) | (dsimp only; omega))
        · skip
          rw [bw_eq_nn (by omega) (by omega)] at hc37
          refine lv_iconst (v := nI 1) hx hb d_Mo_build_40 (by decide) ?_
          refine lv_goto (tgt := 45) hx hb d_Mo_build_41 (by decide) ?_
          refine lv_istore_n hx hb d_Mo_build_45 rfl hl (by decide) rfl (fun ls hl => ?_)
          have hl : lv_has ls 3 [(1, .int (nI 1)), (2, .int (nI k)), (0, .ref mo)] := hl
          refine lv_iinc (v := nI (k + 1)) (k := 1) hx hb d_Mo_build_46 hl rfl (bw_inc k 1) (by decide) rfl (fun ls hl => ?_)
          have hl : lv_has ls 3 [(2, .int (nI (k + 1))), (1, .int (nI 1)), (0, .ref mo)] := hl
          refine lv_goto (tgt := 17) hx hb d_Mo_build_49 (by decide) ?_
          exact ih17 ((k + 1), 1) _ _ _ ⟨(by first | assumption | omega | (simp; done) | (simp_all; done)), (by first | exact BoI_z hbo (by assumption) | exact BoI_n (by omega) ((cod36 (hD28 k)).mp (by assumption)) | exact BoI_y hbo (by assumption) (fun z => absurd ((cod36 (hD28 k)).mpr z) (by assumption))), (by first | assumption | omega | (simp; done) | (simp_all; done)), hP, hD, hS, lv_sub hl [0, 1, 2] rfl⟩ (by first | omega | (simp only; omega) | (dsimp only; omega))
  · skip
    rw [bw_lt_nn (by omega) (by omega)] at hc6
    refine lv_iconst (v := nI 1) hx hb d_Mo_build_9 (by decide) ?_
    refine lv_goto (tgt := 14) hx hb d_Mo_build_10 (by decide) ?_
    refine lv_istore_n hx hb d_Mo_build_14 rfl hl (by decide) rfl (fun ls hl => ?_)
    have hl : lv_has ls 3 [(1, .int (nI 1)), (0, .ref mo)] := hl
    refine lv_iconst (v := nI 0) hx hb d_Mo_build_15 (by decide) ?_
    refine lv_istore_n hx hb d_Mo_build_16 rfl hl (by decide) rfl (fun ls hl => ?_)
    have hl : lv_has ls 3 [(2, .int (nI 0)), (1, .int (nI 1)), (0, .ref mo)] := hl
    refine wl_loop (σ := Nat × Nat) 17 [] (fun (a_ : Nat × Nat) => match a_ with | (k, pl1) => d - k) (fun (a_ : Nat × Nat) (H : Heap) (locs : List Loc) (ls : Array Slot) => match a_ with | (k, pl1) => (k ≤ d) ∧ (BoI Dd d k pl1) ∧ (pl1 ≤ 1) ∧ va_P (dC, dI) cls_ [(mo, .inr (5, [.int (nI sp), .int (nI d), .ref mdr, .int (nI mm - 1), .ref mtx, .ref mod, .ref mia, .ref mus, .ref mol, .ref mle, .int (nI my), .ref mrw, .ref mls])), (mdr, .inl (ky, 97, .inl (nA Md))), (mtx, .inl (ky, 97, .inl (nA Mx))), (mod, .inl (ky, 97, .inl (nA Od))), (mia, .inl (ky, 97, .inl (nA Ia)))] H ∧ va_D A [(mo, .inr (5, [.int (nI sp), .int (nI d), .ref mdr, .int (nI mm - 1), .ref mtx, .ref mod, .ref mia, .ref mus, .ref mol, .ref mle, .int (nI my), .ref mrw, .ref mls])), (mdr, .inl (ky, 97, .inl (nA Md))), (mtx, .inl (ky, 97, .inl (nA Mx))), (mod, .inl (ky, 97, .inl (nA Od))), (mia, .inl (ky, 97, .inl (nA Ia)))] ∧ va_S A s.heap H locs ∧ lv_has ls 3 [(2, .int (nI k)), (1, .int (nI pl1)), (0, .ref mo)]) ?_ (0, 1) ⟨(by first | assumption | omega | (simp; done) | (simp_all; done)), (by first | exact BoI_0 Dd (by omega) | exact BoI_x Dd (by omega)), (by first | assumption | omega | (simp; done) | (simp_all; done)), hP, hD, hS, lv_sub hl [0, 1, 2] rfl⟩
    clear hP hD hS hl
    intro a_ H locs ls hI ih17
    obtain ⟨k, pl1⟩ := a_
    obtain ⟨hk, hbo, hp1, hP, hD, hS, hl⟩ := hI
    have hl : lv_has ls 3 [(2, .int (nI k)), (1, .int (nI pl1)), (0, .ref mo)] := hl
    have hP : va_P (dC, dI) cls_ [(mo, .inr (5, [.int (nI sp), .int (nI d), .ref mdr, .int (nI mm - 1), .ref mtx, .ref mod, .ref mia, .ref mus, .ref mol, .ref mle, .int (nI my), .ref mrw, .ref mls])), (mdr, .inl (ky, 97, .inl (nA Md))), (mtx, .inl (ky, 97, .inl (nA Mx))), (mod, .inl (ky, 97, .inl (nA Od))), (mia, .inl (ky, 97, .inl (nA Ia)))] H := hP
    have hD : va_D A [(mo, .inr (5, [.int (nI sp), .int (nI d), .ref mdr, .int (nI mm - 1), .ref mtx, .ref mod, .ref mia, .ref mus, .ref mol, .ref mle, .int (nI my), .ref mrw, .ref mls])), (mdr, .inl (ky, 97, .inl (nA Md))), (mtx, .inl (ky, 97, .inl (nA Mx))), (mod, .inl (ky, 97, .inl (nA Od))), (mia, .inl (ky, 97, .inl (nA Ia)))] := hD
    have hk : k ≤ d := hk
    have hbo : BoI Dd d k pl1 := hbo
    have hp1 : pl1 ≤ 1 := hp1
    refine lv_iload_n hx hb d_Mo_build_17 rfl (lv_at hl 0 rfl) ?_
    refine lv_aload_n hx hb d_Mo_build_18 rfl (lv_at hl 2 rfl) ?_
    refine va_get (D := (dC, dI)) (ci := 5) (v := .int (nI d)) (C := R_Mo) (T := F_Mo) (N := 13) hx hb htb in_Mo hown hK hP 0 rfl rfl 1 (by decide) (htb _ tw_362) (fun _ h9 => h9) rfl d_Mo_build_19 ?_
    refine lv_icmp_ge (tgt := 52) hx hb d_Mo_build_22 (by decide) (fun hc22 => ?_) (fun hc22 => ?_)
    · skip
      rw [bw_le_nn (by omega) (by omega)] at hc22
      refine lv_iload_n hx hb d_Mo_build_52 rfl (lv_at hl 1 rfl) ?_
      refine lv_if_ne (tgt := 58) hx hb d_Mo_build_53 (by decide) (fun hc53 => ?_) (fun hc53 => ?_)
      · skip
        rw [← nI_0, bw_eq_nn (by omega) (by omega)] at hc53
        have hbk := BoI_yes hbo hc53 (by omega)
        refine lv_aload_n hx hb d_Mo_build_58 rfl (lv_at hl 2 rfl) ?_
        refine lv_aload_n hx hb d_Mo_build_59 rfl (lv_at hl 2 rfl) ?_
        refine va_get (D := (dC, dI)) (ci := 5) (v := .int (nI d)) (C := R_Mo) (T := F_Mo) (N := 13) hx hb htb in_Mo hown hK hP 0 rfl rfl 1 (by decide) (htb _ tw_362) (fun _ h9 => h9) rfl d_Mo_build_60 ?_
        refine W.eq (g2 := F0 m 63 ls [.int (nI (d + 1) - 1), .ref mo]) (by rw [show nI d = nI (d + 1) - 1 from (nI_pred d).symm]) ?_
        refine va_put (D := (dC, dI)) (ci := 5) (v := .int (nI (d + 1) - 1)) (ty := .int) (C := R_Mo) (T := F_Mo) (N := 13) hx hb htb in_Mo t_Mo tk_Mo nm_Mo hown hK hP hD hS 0 rfl rfl 3 (by decide) (htb _ tw_364) (fun _ h9 => h9) rfl (by decide +kernel) rfl rfl (Nat.le_of_ble_eq_true rfl) d_Mo_build_63 (fun H locs hP hD hS => ?_)
        have hP : va_P (dC, dI) cls_ [(mo, .inr (5, [.int (nI sp), .int (nI d), .ref mdr, .int (nI (d + 1) - 1), .ref mtx, .ref mod, .ref mia, .ref mus, .ref mol, .ref mle, .int (nI my), .ref mrw, .ref mls])), (mdr, .inl (ky, 97, .inl (nA Md))), (mtx, .inl (ky, 97, .inl (nA Mx))), (mod, .inl (ky, 97, .inl (nA Od))), (mia, .inl (ky, 97, .inl (nA Ia)))] H := hP
        have hD : va_D A [(mo, .inr (5, [.int (nI sp), .int (nI d), .ref mdr, .int (nI (d + 1) - 1), .ref mtx, .ref mod, .ref mia, .ref mus, .ref mol, .ref mle, .int (nI my), .ref mrw, .ref mls])), (mdr, .inl (ky, 97, .inl (nA Md))), (mtx, .inl (ky, 97, .inl (nA Mx))), (mod, .inl (ky, 97, .inl (nA Od))), (mia, .inl (ky, 97, .inl (nA Ia)))] := hD
        refine lv_iconst (v := nI 0) hx hb d_Mo_build_66 (by decide) ?_
        refine lv_istore_n hx hb d_Mo_build_67 rfl hl (by decide) rfl (fun ls hl => ?_)
        have hl : lv_has ls 3 [(2, .int (nI 0)), (1, .int (nI pl1)), (0, .ref mo)] := hl
        refine wl_loop (σ := Nat × (Nat → Nat)) 68 [] (fun (a_ : Nat × (Nat → Nat)) => match a_ with | (k, Xq) => d - k) (fun (a_ : Nat × (Nat → Nat)) (H : Heap) (locs : List Loc) (ls : Array Slot) => match a_ with | (k, Xq) => (k ≤ d) ∧ (∀ i, i < k → Xq i = cod (txd Dd d i)) ∧ (∀ k_, Xq k_ < 125) ∧ va_P (dC, dI) cls_ [(mo, .inr (5, [.int (nI sp), .int (nI d), .ref mdr, .int (nI (d + 1) - 1), .ref mtx, .ref mod, .ref mia, .ref mus, .ref mol, .ref mle, .int (nI my), .ref mrw, .ref mls])), (mdr, .inl (ky, 97, .inl (nA Md))), (mtx, .inl (ky, 97, .inl (nA Xq))), (mod, .inl (ky, 97, .inl (nA Od))), (mia, .inl (ky, 97, .inl (nA Ia)))] H ∧ va_D A [(mo, .inr (5, [.int (nI sp), .int (nI d), .ref mdr, .int (nI (d + 1) - 1), .ref mtx, .ref mod, .ref mia, .ref mus, .ref mol, .ref mle, .int (nI my), .ref mrw, .ref mls])), (mdr, .inl (ky, 97, .inl (nA Md))), (mtx, .inl (ky, 97, .inl (nA Xq))), (mod, .inl (ky, 97, .inl (nA Od))), (mia, .inl (ky, 97, .inl (nA Ia)))] ∧ va_S A s.heap H locs ∧ lv_has ls 3 [(2, .int (nI k)), (0, .ref mo)]) ?_ (0, Mx) ⟨(by first | assumption | omega | (simp; done) | (simp_all; done)), (fun i hi => by omega), hMx, hP, hD, hS, lv_sub hl [0, 2] rfl⟩
        clear hP hD hS hl
        intro a_ H locs ls hI ih68
        obtain ⟨k, Xq⟩ := a_
        obtain ⟨hk, hXk, hXq, hP, hD, hS, hl⟩ := hI
        have hl : lv_has ls 3 [(2, .int (nI k)), (0, .ref mo)] := hl
        have hP : va_P (dC, dI) cls_ [(mo, .inr (5, [.int (nI sp), .int (nI d), .ref mdr, .int (nI (d + 1) - 1), .ref mtx, .ref mod, .ref mia, .ref mus, .ref mol, .ref mle, .int (nI my), .ref mrw, .ref mls])), (mdr, .inl (ky, 97, .inl (nA Md))), (mtx, .inl (ky, 97, .inl (nA Xq))), (mod, .inl (ky, 97, .inl (nA Od))), (mia, .inl (ky, 97, .inl (nA Ia)))] H := hP
        have hD : va_D A [(mo, .inr (5, [.int (nI sp), .int (nI d), .ref mdr, .int (nI (d + 1) - 1), .ref mtx, .ref mod, .ref mia, .ref mus, .ref mol, .ref mle, .int (nI my), .ref mrw, .ref mls])), (mdr, .inl (ky, 97, .inl (nA Md))), (mtx, .inl (ky, 97, .inl (nA Xq))), (mod, .inl (ky, 97, .inl (nA Od))), (mia, .inl (ky, 97, .inl (nA Ia)))] := hD
        have hk : k ≤ d := hk
        have hXk : ∀ i, i < k → Xq i = cod (txd Dd d i) := hXk
        have hXq : ∀ k_, Xq k_ < 125 := hXq
        refine lv_iload_n hx hb d_Mo_build_68 rfl (lv_at hl 0 rfl) ?_
        refine lv_aload_n hx hb d_Mo_build_69 rfl (lv_at hl 1 rfl) ?_
        refine va_get (D := (dC, dI)) (ci := 5) (v := .int (nI (d + 1) - 1)) (C := R_Mo) (T := F_Mo) (N := 13) hx hb htb in_Mo hown hK hP 0 rfl rfl 3 (by decide) (htb _ tw_364) (fun _ h9 => h9) rfl d_Mo_build_70 ?_
        refine lv_icmp_ge (tgt := 94) hx hb d_Mo_build_73 (by decide) (fun hc73 => ?_) (fun hc73 => ?_)
        · skip
          rw [bw_le_pn (by omega) (by omega)] at hc73
          refine lv_aload_n hx hb d_Mo_build_94 rfl (lv_at hl 1 rfl) ?_
          have hPc := hP.sub (ws' := [(mo, .inr (5, [.int (nI sp), .int (nI d), .ref mdr, .int (nI (d + 1) - 1), .ref mtx, .ref mod, .ref mia, .ref mus, .ref mol, .ref mle, .int (nI my), .ref mrw, .ref mls])), (mtx, .inl (ky, 97, .inl (nA Xq))), (mod, .inl (ky, 97, .inl (nA Od))), (mia, .inl (ky, 97, .inl (nA Ia)))]) [0, 2, 3, 4] rfl
          have hDc := hD.sub (ws' := [(mo, .inr (5, [.int (nI sp), .int (nI d), .ref mdr, .int (nI (d + 1) - 1), .ref mtx, .ref mod, .ref mia, .ref mus, .ref mol, .ref mle, .int (nI my), .ref mrw, .ref mls])), (mtx, .inl (ky, 97, .inl (nA Xq))), (mod, .inl (ky, 97, .inl (nA Od))), (mia, .inl (ky, 97, .inl (nA Ia)))]) [0, 2, 3, 4] (by decide) rfl
          have hFc := va_free (wc := [(mo, .inr (5, [.int (nI sp), .int (nI d), .ref mdr, .int (nI (d + 1) - 1), .ref mtx, .ref mod, .ref mia, .ref mus, .ref mol, .ref mle, .int (nI my), .ref mrw, .ref mls])), (mtx, .inl (ky, 97, .inl (nA Xq))), (mod, .inl (ky, 97, .inl (nA Od))), (mia, .inl (ky, 97, .inl (nA Ia)))]) hD hS hA [0, 2, 3, 4] rfl
          refine va_callv (va_runV (C := "SelfIndexedSequencesModel") (As := []) (rest := []) ⟨hx, hb, hml, hown, hts⟩ (c_Mo_sort l dC dI ky H.size mo sp d mdr (d + 1) mtx mod mia mus mol mle my mrw mls Xq Od Ia (txd Dd d) d hXq hOd hIa rfl hbk.1 (txd_txt hbk.2) (txd_lt hD28 d) (fun q hq => hXk q (by omega))) ⟨callB_of 0 hts (W0_good tw_427) rfl rfl rfl (htb _ tw_28) (htb _ tw_424) ⟨by decide, by decide, by decide +kernel⟩ ⟨(Nat.le_of_ble_eq_true rfl), (Nat.le_of_ble_eq_true rfl)⟩, htb _ tw_426, htb _ tw_9⟩ ⟨fun a U g mk q => by obtain ⟨q0, q1, qP, qK, qD⟩ := q; exact ⟨q0, q1, qP, va_K.moved (u := U) (U := U.calling g mk a) (Vm.Alike.refl U.vm) qK, qD⟩, va_recv hK hPc (q0 := 0) (q := (R_Mo, F_Mo, 13)) rfl rfl, fun U hU hW => ⟨rfl, by rw [hU], by rw [hU]; exact hPc, va_K.moved hW.alike hK, hDc.weaken (fun _ _ _ _ => trivial)⟩⟩ rfl rfl hl.1 rfl (lv_room (Nat.le_of_ble_eq_true rfl)) d_Mo_build_95 ⟨(Nat.le_of_ble_eq_true rfl), (Nat.le_of_ble_eq_true rfl)⟩) hS (fun q _ h => hFc q h) hFc (fun u_ t H locs ht hvm hw95 hB hz1 hk1 hS => ?_)
          obtain ⟨Os, Is⟩ := u_
          obtain ⟨hP1, hD1⟩ := hB
          rw [ht] at hP1
          obtain ⟨hP, hD⟩ := va_join (wr := [(mdr, .inl (ky, 97, .inl (nA Md)))]) (w1 := [(mo, .inr (5, [.int (nI sp), .int (nI d), .ref mdr, .int (nI (d + 1) - 1), .ref mtx, .ref mod, .ref mia, .ref mus, .ref mol, .ref mle, .int (nI my), .ref mrw, .ref mls])), (mtx, .inl (ky, 97, .inl (nA Xq))), (mod, .inl (ky, 97, .inl (nA Os))), (mia, .inl (ky, 97, .inl (nA Is)))]) hP hD [0, 2, 3, 4] [1] rfl rfl (by decide) (by decide) hk1 hFc hP1 hD1
          have hP : va_P (dC, dI) cls_ [(mdr, .inl (ky, 97, .inl (nA Md))), (mo, .inr (5, [.int (nI sp), .int (nI d), .ref mdr, .int (nI (d + 1) - 1), .ref mtx, .ref mod, .ref mia, .ref mus, .ref mol, .ref mle, .int (nI my), .ref mrw, .ref mls])), (mtx, .inl (ky, 97, .inl (nA Xq))), (mod, .inl (ky, 97, .inl (nA Os))), (mia, .inl (ky, 97, .inl (nA Is)))] H := hP
          have hD : va_D A [(mdr, .inl (ky, 97, .inl (nA Md))), (mo, .inr (5, [.int (nI sp), .int (nI d), .ref mdr, .int (nI (d + 1) - 1), .ref mtx, .ref mod, .ref mia, .ref mus, .ref mol, .ref mle, .int (nI my), .ref mrw, .ref mls])), (mtx, .inl (ky, 97, .inl (nA Xq))), (mod, .inl (ky, 97, .inl (nA Os))), (mia, .inl (ky, 97, .inl (nA Is)))] := hD
          have hq95 : (∃ R, Srt (txd Dd d) d Os R) ∧ (∀ j, j < d + 1 → Is j = cod ((txd Dd d) (prv d (Os j)))) ∧ (∀ k_, Os k_ < 97) ∧ (∀ k_, Is k_ < 125) := hw95
          obtain ⟨hSr, hIs, hOb, hIb⟩ := hq95
          refine lv_aload_n hx hb d_Mo_build_98 rfl (lv_at hl 1 rfl) ?_
          refine lv_iconst (v := nI 0) hx hb d_Mo_build_99 (by decide) ?_
          refine va_put (D := (dC, dI)) (ci := 5) (v := .int (nI 0)) (ty := .int) (C := R_Mo) (T := F_Mo) (N := 13) hx hb htb in_Mo t_Mo tk_Mo nm_Mo hown hK hP hD hS 1 rfl rfl 1 (by decide) (htb _ tw_362) (fun _ h9 => h9) rfl (by decide +kernel) rfl rfl (Nat.le_of_ble_eq_true rfl) d_Mo_build_100 (fun H locs hP hD hS => ?_)
          have hP : va_P (dC, dI) cls_ [(mdr, .inl (ky, 97, .inl (nA Md))), (mo, .inr (5, [.int (nI sp), .int (nI 0), .ref mdr, .int (nI (d + 1) - 1), .ref mtx, .ref mod, .ref mia, .ref mus, .ref mol, .ref mle, .int (nI my), .ref mrw, .ref mls])), (mtx, .inl (ky, 97, .inl (nA Xq))), (mod, .inl (ky, 97, .inl (nA Os))), (mia, .inl (ky, 97, .inl (nA Is)))] H := hP
          have hD : va_D A [(mdr, .inl (ky, 97, .inl (nA Md))), (mo, .inr (5, [.int (nI sp), .int (nI 0), .ref mdr, .int (nI (d + 1) - 1), .ref mtx, .ref mod, .ref mia, .ref mus, .ref mol, .ref mle, .int (nI my), .ref mrw, .ref mls])), (mtx, .inl (ky, 97, .inl (nA Xq))), (mod, .inl (ky, 97, .inl (nA Os))), (mia, .inl (ky, 97, .inl (nA Is)))] := hD
          refine lv_aload_n hx hb d_Mo_build_103 rfl (lv_at hl 1 rfl) ?_
          have hPc := hP.sub (ws' := [(mo, .inr (5, [.int (nI sp), .int (nI 0), .ref mdr, .int (nI (d + 1) - 1), .ref mtx, .ref mod, .ref mia, .ref mus, .ref mol, .ref mle, .int (nI my), .ref mrw, .ref mls])), (mtx, .inl (ky, 97, .inl (nA Xq)))]) [1, 2] rfl
          have hDc := hD.sub (ws' := [(mo, .inr (5, [.int (nI sp), .int (nI 0), .ref mdr, .int (nI (d + 1) - 1), .ref mtx, .ref mod, .ref mia, .ref mus, .ref mol, .ref mle, .int (nI my), .ref mrw, .ref mls])), (mtx, .inl (ky, 97, .inl (nA Xq)))]) [1, 2] (by decide) rfl
          have hFc := va_free (wc := [(mo, .inr (5, [.int (nI sp), .int (nI 0), .ref mdr, .int (nI (d + 1) - 1), .ref mtx, .ref mod, .ref mia, .ref mus, .ref mol, .ref mle, .int (nI my), .ref mrw, .ref mls])), (mtx, .inl (ky, 97, .inl (nA Xq)))]) hD hS hA [1, 2] rfl
          refine va_calli (va_runV (C := "SelfIndexedSequencesModel") (As := []) (rest := []) ⟨hx, hb, hml, hown, hts⟩ (c_Mo_sequences l dC dI ky H.size mo sp 0 mdr (d + 1) mtx mod mia mus mol mle my mrw mls Xq (txd Dd d) hXq (by have := hbk.1; omega) (txd_lt hD28 d) (fun q hq => hXk q (by omega))) ⟨callB_of 0 hts (W0_good tw_442) rfl rfl rfl (htb _ tw_28) (htb _ tw_439) ⟨by decide, by decide, by decide +kernel⟩ ⟨(Nat.le_of_ble_eq_true rfl), (Nat.le_of_ble_eq_true rfl)⟩, htb _ tw_440, htb _ tw_441⟩ ⟨fun a U g mk q => by obtain ⟨q0, q1, qP, qK, qD⟩ := q; exact ⟨q0, q1, qP, va_K.moved (u := U) (U := U.calling g mk a) (Vm.Alike.refl U.vm) qK, qD⟩, va_recv hK hPc (q0 := 0) (q := (R_Mo, F_Mo, 13)) rfl rfl, fun U hU hW => ⟨rfl, by rw [hU], by rw [hU]; exact hPc, va_K.moved hW.alike hK, hDc.weaken (fun _ _ _ _ => trivial)⟩⟩ rfl rfl hl.1 rfl (lv_room (Nat.le_of_ble_eq_true rfl)) d_Mo_build_104 ⟨(Nat.le_of_ble_eq_true rfl), (Nat.le_of_ble_eq_true rfl)⟩) hS (fun q _ h => hFc q h) hFc (fun r104 u_ t H locs ht hvm hw104 hB hz1 hk1 hS => ?_)
          obtain ⟨hP1, hD1⟩ := hB
          rw [ht] at hP1
          obtain ⟨hP, hD⟩ := va_join (wr := [(mdr, .inl (ky, 97, .inl (nA Md))), (mod, .inl (ky, 97, .inl (nA Os))), (mia, .inl (ky, 97, .inl (nA Is)))]) (w1 := [(mo, .inr (5, [.int (nI sp), .int (nI 0), .ref mdr, .int (nI (d + 1) - 1), .ref mtx, .ref mod, .ref mia, .ref mus, .ref mol, .ref mle, .int (nI my), .ref mrw, .ref mls])), (mtx, .inl (ky, 97, .inl (nA Xq)))]) hP hD [1, 2] [0, 3, 4] rfl rfl (by decide) (by decide) hk1 hFc hP1 hD1
          have hP : va_P (dC, dI) cls_ [(mdr, .inl (ky, 97, .inl (nA Md))), (mod, .inl (ky, 97, .inl (nA Os))), (mia, .inl (ky, 97, .inl (nA Is))), (mo, .inr (5, [.int (nI sp), .int (nI 0), .ref mdr, .int (nI (d + 1) - 1), .ref mtx, .ref mod, .ref mia, .ref mus, .ref mol, .ref mle, .int (nI my), .ref mrw, .ref mls])), (mtx, .inl (ky, 97, .inl (nA Xq)))] H := hP
          have hD : va_D A [(mdr, .inl (ky, 97, .inl (nA Md))), (mod, .inl (ky, 97, .inl (nA Os))), (mia, .inl (ky, 97, .inl (nA Is))), (mo, .inr (5, [.int (nI sp), .int (nI 0), .ref mdr, .int (nI (d + 1) - 1), .ref mtx, .ref mod, .ref mia, .ref mus, .ref mol, .ref mle, .int (nI my), .ref mrw, .ref mls])), (mtx, .inl (ky, 97, .inl (nA Xq)))] := hD
          have hw104 : r104 = nI (sqs (txd Dd d) (d + 1)) ∧ (True) := hw104
          obtain ⟨hre, hq104⟩ := hw104
          subst hre
          have hP9 := hP.sub (ws' := [(mo, .inr (5, [.int (nI sp), .int (nI 0), .ref mdr, .int (nI (d + 1) - 1), .ref mtx, .ref mod, .ref mia, .ref mus, .ref mol, .ref mle, .int (nI my), .ref mrw, .ref mls])), (mdr, .inl (ky, 97, .inl (nA Md))), (mtx, .inl (ky, 97, .inl (nA Xq))), (mod, .inl (ky, 97, .inl (nA Os))), (mia, .inl (ky, 97, .inl (nA Is)))]) [3, 0, 4, 1, 2] rfl
          have hD9 := hD.sub (ws' := [(mo, .inr (5, [.int (nI sp), .int (nI 0), .ref mdr, .int (nI (d + 1) - 1), .ref mtx, .ref mod, .ref mia, .ref mus, .ref mol, .ref mle, .int (nI my), .ref mrw, .ref mls])), (mdr, .inl (ky, 97, .inl (nA Md))), (mtx, .inl (ky, 97, .inl (nA Xq))), (mod, .inl (ky, 97, .inl (nA Os))), (mia, .inl (ky, 97, .inl (nA Is)))]) [3, 0, 4, 1, 2] (by decide) rfl
          exact W.iret (v := nI (sqs (txd Dd d) (d + 1))) hx hb hr (fun t ht hW => ⟨⟨nI (sqs (txd Dd d) (d + 1)), (0, (d + 1), Xq, Os, Is), rfl, ⟨Or.inl ⟨rfl, hbk, rfl, rfl, MSt_mk (txd_lt hD28 d) (txd_txt hbk.2) (fun q hq => hXk q (by omega)) hSr hIs⟩, hXq, hOb, hIb⟩, by rw [ht]; exact hP9, hD9⟩, hS.F ht⟩) hS.2.2 d_Mo_build_107
        · skip
          rw [bw_le_pn (by omega) (by omega)] at hc73
          refine lv_aload_n hx hb d_Mo_build_76 rfl (lv_at hl 1 rfl) ?_
          refine va_get (D := (dC, dI)) (ci := 5) (v := .ref mtx) (C := R_Mo) (T := F_Mo) (N := 13) hx hb htb in_Mo hown hK hP 0 rfl rfl 4 (by decide) (htb _ tw_365) (fun _ h9 => h9) rfl d_Mo_build_77 ?_
          refine lv_iload_n hx hb d_Mo_build_80 rfl (lv_at hl 0 rfl) ?_
          refine lv_aload_n hx hb d_Mo_build_81 rfl (lv_at hl 1 rfl) ?_
          refine va_get (D := (dC, dI)) (ci := 5) (v := .ref mdr) (C := R_Mo) (T := F_Mo) (N := 13) hx hb htb in_Mo hown hK hP 0 rfl rfl 2 (by decide) (htb _ tw_363) (fun _ h9 => h9) rfl d_Mo_build_82 ?_
          refine lv_iload_n hx hb d_Mo_build_85 rfl (lv_at hl 0 rfl) ?_
          have hcl := cod_lt (hD28 k)
          refine va_iald hx hb hK hP 1 0 rfl rfl (vp_in_nI (by omega) (by decide)) d_Mo_build_86 ?_
          rw [nI_clamp (by omega)]
          have hb86 := hMd k
          rw [nA_at]
          rw [show nI (Md k) = nI (cod (Dd k)) from (by rw [hMD k (by omega)])]
          refine va_iast hx hb hK hP hD hS 2 0 rfl rfl (vp_in_nI (by omega) (by decide)) d_Mo_build_87 (fun H locs hP hD hS => ?_)
          rw [nI_clamp (by omega)] at hP hD
          rw [nA_upd] at hP hD
          have hu2 : ∀ k_, (upN Xq k (cod (Dd k))) k_ < 125 := upN_lt hXq (by omega)
          have hP : va_P (dC, dI) cls_ [(mo, .inr (5, [.int (nI sp), .int (nI d), .ref mdr, .int (nI (d + 1) - 1), .ref mtx, .ref mod, .ref mia, .ref mus, .ref mol, .ref mle, .int (nI my), .ref mrw, .ref mls])), (mdr, .inl (ky, 97, .inl (nA Md))), (mtx, .inl (ky, 97, .inl (nA (upN Xq k (cod (Dd k)))))), (mod, .inl (ky, 97, .inl (nA Od))), (mia, .inl (ky, 97, .inl (nA Ia)))] H := hP
          have hD : va_D A [(mo, .inr (5, [.int (nI sp), .int (nI d), .ref mdr, .int (nI (d + 1) - 1), .ref mtx, .ref mod, .ref mia, .ref mus, .ref mol, .ref mle, .int (nI my), .ref mrw, .ref mls])), (mdr, .inl (ky, 97, .inl (nA Md))), (mtx, .inl (ky, 97, .inl (nA (upN Xq k (cod (Dd k)))))), (mod, .inl (ky, 97, .inl (nA Od))), (mia, .inl (ky, 97, .inl (nA Ia)))] := hD
          refine lv_iinc (v := nI (k + 1)) (k := 0) hx hb d_Mo_build_88 hl rfl (bw_inc k 1) (by decide) rfl (fun ls hl => ?_)
          have hl : lv_has ls 3 [(2, .int (nI (k + 1))), (0, .ref mo)] := hl
          refine lv_goto (tgt := 68) hx hb d_Mo_build_91 (by decide) ?_
          exact ih68 ((k + 1), (upN Xq k (cod (Dd k)))) _ _ _ ⟨(by first | assumption | omega | (simp; done) | (simp_all; done)), (fun i hi => if e : i = k then (by rw [e, upN_s, txd_at (by omega)]) else (by rw [upN_o e]; exact hXk i (by omega))), (by assumption), hP, hD, hS, lv_sub hl [0, 1] rfl⟩ (by first | omega | (simp only; omega) | (dsimp only; omega))
      · skip
        rw [← nI_0, bw_eq_nn (by omega) (by omega)] at hc53
        refine lv_iconst (v := nI 0 - 1) hx hb d_Mo_build_56 (by decide) ?_
        have hP9 := hP.sub (ws' := [(mo, .inr (5, [.int (nI sp), .int (nI d), .ref mdr, .int (nI mm - 1), .ref mtx, .ref mod, .ref mia, .ref mus, .ref mol, .ref mle, .int (nI my), .ref mrw, .ref mls])), (mdr, .inl (ky, 97, .inl (nA Md))), (mtx, .inl (ky, 97, .inl (nA Mx))), (mod, .inl (ky, 97, .inl (nA Od))), (mia, .inl (ky, 97, .inl (nA Ia)))]) [0, 1, 2, 3, 4] rfl
        have hD9 := hD.sub (ws' := [(mo, .inr (5, [.int (nI sp), .int (nI d), .ref mdr, .int (nI mm - 1), .ref mtx, .ref mod, .ref mia, .ref mus, .ref mol, .ref mle, .int (nI my), .ref mrw, .ref mls])), (mdr, .inl (ky, 97, .inl (nA Md))), (mtx, .inl (ky, 97, .inl (nA Mx))), (mod, .inl (ky, 97, .inl (nA Od))), (mia, .inl (ky, 97, .inl (nA Ia)))]) [0, 1, 2, 3, 4] (by decide) rfl
        exact W.iret (v := nI 0 - 1) hx hb hr (fun t ht hW => ⟨⟨nI 0 - 1, (d, mm, Mx, Od, Ia), rfl, ⟨Or.inr ⟨rfl, BoI_no hbo (by omega), rfl, rfl, hMS⟩, hMx, hOd, hIa⟩, by rw [ht]; exact hP9, hD9⟩, hS.F ht⟩) hS.2.2 d_Mo_build_57
    · skip
      rw [bw_le_nn (by omega) (by omega)] at hc22
      refine lv_iload_n hx hb d_Mo_build_25 rfl (lv_at hl 1 rfl) ?_
      refine lv_if_eq (tgt := 44) hx hb d_Mo_build_26 (by decide) (fun hc26 => ?_) (fun hc26 => ?_)
      · skip
        rw [← nI_0, bw_eq_nn (by omega) (by omega)] at hc26
        refine lv_iconst (v := nI 0) hx hb d_Mo_build_44 (by decide) ?_
        refine lv_istore_n hx hb d_Mo_build_45 rfl hl (by decide) rfl (fun ls hl => ?_)
        have hl : lv_has ls 3 [(1, .int (nI 0)), (2, .int (nI k)), (0, .ref mo)] := hl
        refine lv_iinc (v := nI (k + 1)) (k := 1) hx hb d_Mo_build_46 hl rfl (bw_inc k 1) (by decide) rfl (fun ls hl => ?_)
        have hl : lv_has ls 3 [(2, .int (nI (k + 1))), (1, .int (nI 0)), (0, .ref mo)] := hl
        refine lv_goto (tgt := 17) hx hb d_Mo_build_49 (by decide) ?_
        exact ih17 ((k + 1), 0) _ _ _ ⟨(by first | assumption | omega | (simp; done) | (simp_all; done)), (by first | exact BoI_z hbo (by assumption) | exact BoI_n (by omega) ((cod36 (hD28 k)).mp (by assumption)) | exact BoI_y hbo (by assumption) (fun z => absurd ((cod36 (hD28 k)).mpr z) (by assumption))), (by first | assumption | omega | (simp; done) | (simp_all; done)), hP, hD, hS, lv_sub hl [0, 1, 2] rfl⟩ (by first | omega | (simp only; omega) | (dsimp only; omega))
      · skip
        rw [← nI_0, bw_eq_nn (by omega) (by omega)] at hc26
        refine lv_aload_n hx hb d_Mo_build_29 rfl (lv_at hl 2 rfl) ?_
        refine va_get (D := (dC, dI)) (ci := 5) (v := .ref mdr) (C := R_Mo) (T := F_Mo) (N := 13) hx hb htb in_Mo hown hK hP 0 rfl rfl 2 (by decide) (htb _ tw_363) (fun _ h9 => h9) rfl d_Mo_build_30 ?_
        refine lv_iload_n hx hb d_Mo_build_33 rfl (lv_at hl 0 rfl) ?_
        have hcl := cod_lt (hD28 k)
        refine va_iald hx hb hK hP 1 0 rfl rfl (vp_in_nI (by omega) (by decide)) d_Mo_build_34 ?_
        rw [nI_clamp (by omega)]
        have hb34 := hMd k
        rw [nA_at]
        rw [show nI (Md k) = nI (cod (Dd k)) from (by rw [hMD k (by omega)])]
        refine lv_bipush (v := nI 36) hx hb d_Mo_build_35 (by decide) ?_
        refine lv_icmp_eq (tgt := 44) hx hb d_Mo_build_37 (by decide) (fun hc37 => ?_) (fun hc37 => ?_)
        · skip
          rw [bw_eq_nn (by omega) (by omega)] at hc37
          refine lv_iconst (v := nI 0) hx hb d_Mo_build_44 (by decide) ?_
          refine lv_istore_n hx hb d_Mo_build_45 rfl hl (by decide) rfl (fun ls hl => ?_)
          have hl : lv_has ls 3 [(1, .int (nI 0)), (2, .int (nI k)), (0, .ref mo)] := hl
          refine lv_iinc (v := nI (k + 1)) (k := 1) hx hb d_Mo_build_46 hl rfl (bw_inc k 1) (by decide) rfl (fun ls hl => ?_)
          have hl : lv_has ls 3 [(2, .int (nI (k + 1))), (1, .int (nI 0)), (0, .ref mo)] := hl
          refine lv_goto (tgt := 17) hx hb d_Mo_build_49 (by decide) ?_
          exact ih17 ((k + 1), 0) _ _ _ ⟨(by first | assumption | omega | (simp; done) | (simp_all; done)), (by first | exact BoI_z hbo (by assumption) | exact BoI_n (by omega) ((cod36 (hD28 k)).mp (by assumption)) | exact BoI_y hbo (by assumption) (fun z => absurd ((cod36 (hD28 k)).mpr z) (by assumption))), (by first | assumption | omega | (simp; done) | (simp_all; done)), hP, hD, hS, lv_sub hl [0, 1, 2] rfl⟩ (by first | omega | (simp only; omega) | (dsimp only; omega))
        · skip
          rw [bw_eq_nn (by omega) (by omega)] at hc37
          refine lv_iconst (v := nI 1) hx hb d_Mo_build_40 (by decide) ?_
          refine lv_goto (tgt := 45) hx hb d_Mo_build_41 (by decide) ?_
          refine lv_istore_n hx hb d_Mo_build_45 rfl hl (by decide) rfl (fun ls hl => ?_)
          have hl : lv_has ls 3 [(1, .int (nI 1)), (2, .int (nI k)), (0, .ref mo)] := hl
          refine lv_iinc (v := nI (k + 1)) (k := 1) hx hb d_Mo_build_46 hl rfl (bw_inc k 1) (by decide) rfl (fun ls hl => ?_)
          have hl : lv_has ls 3 [(2, .int (nI (k + 1))), (1, .int (nI 1)), (0, .ref mo)] := hl
          refine lv_goto (tgt := 17) hx hb d_Mo_build_49 (by decide) ?_
          exact ih17 ((k + 1), 1) _ _ _ ⟨(by first | assumption | omega | (simp; done) | (simp_all; done)), (by first | exact BoI_z hbo (by assumption) | exact BoI_n (by omega) ((cod36 (hD28 k)).mp (by assumption)) | exact BoI_y hbo (by assumption) (fun z => absurd ((cod36 (hD28 k)).mpr z) (by assumption))), (by first | assumption | omega | (simp; done) | (simp_all; done)), hP, hD, hS, lv_sub hl [0, 1, 2] rfl⟩ (by first | omega | (simp only; omega) | (dsimp only; omega))

set_option maxHeartbeats 4000000 in
set_option maxRecDepth 100000 in
theorem c_Mo_load (l : Launch) (dC : Nat → ClassId) (dI : Nat → Nat → Nat) (ky : ClassId) (sz : Nat) (mo : Nat) (sp : Nat) (d : Nat) (mdr : Nat) (mm : Nat) (mtx : Nat) (mod : Nat) (mia : Nat) (mus : Nat) (mol : Nat) (mle : Nat) (my : Nat) (mrw : Nat) (mls : Nat) (Md : Nat → Nat) (Dd : Nat → Nat) (Mx : Nat → Nat) (Od : Nat → Nat) (Ia : Nat → Nat) (Ol : Nat → Nat) (T : Nat → Nat) (hMd : ∀ k_, Md k_ < 125) (hD28 : ∀ k_, Dd k_ < 28) (hMD : ∀ k, k < d → Md k = cod (Dd k)) (hd97 : d ≤ 97) (hMx : ∀ k_, Mx k_ < 125) (hOd : ∀ k_, Od k_ < 97) (hIa : ∀ k_, Ia k_ < 125) (hmm : mm ≤ 97) (hMS : MSt T mm Mx Od Ia) (hOl : ∀ k_, Ol k_ < 125) : Met l y_Mo_load (Cond.code y_Mo_load prog_7_method_13_code 4 (some .boolean) :: W0) ({ frames := 3, cells := 0, slots := 0, locals := 68 }) (va_Pc [.ref mo] (fun U => U.heap.size = sz ∧ va_P (dC, dI) cls_ [(mo, .inr (5, [.int (nI sp), .int (nI d), .ref mdr, .int (nI mm - 1), .ref mtx, .ref mod, .ref mia, .ref mus, .ref mol, .ref mle, .int (nI my), .ref mrw, .ref mls])), (mdr, .inl (ky, 97, .inl (nA Md))), (mtx, .inl (ky, 97, .inl (nA Mx))), (mod, .inl (ky, 97, .inl (nA Od))), (mia, .inl (ky, 97, .inl (nA Ia))), (mol, .inl (ky, 97, .inl (nA Ol)))] U.heap ∧ va_K (dC, dI) cls_ [(ky, .int)] U ∧ va_D (fun _ => True) [(mo, .inr (5, [.int (nI sp), .int (nI d), .ref mdr, .int (nI mm - 1), .ref mtx, .ref mod, .ref mia, .ref mus, .ref mol, .ref mle, .int (nI my), .ref mrw, .ref mls])), (mdr, .inl (ky, 97, .inl (nA Md))), (mtx, .inl (ky, 97, .inl (nA Mx))), (mod, .inl (ky, 97, .inl (nA Od))), (mia, .inl (ky, 97, .inl (nA Ia))), (mol, .inl (ky, 97, .inl (nA Ol)))])) (va_Qi (fun (r : Int32) (u : (Nat) × (Nat) × (Nat → Nat) × (Nat → Nat) × (Nat → Nat) × (Nat → Nat)) => match u with | (dn, mn, Xn, On, In, Oln) => ((r = nI 1 ∧ Ac Dd d ∧ dn = 0 ∧ mn = d ∧ MSt (txb Dd d) d Xn On In) ∨ (r = nI 0 ∧ ¬ Ac Dd d ∧ dn = d ∧ mn = mm ∧ MSt T mm Xn On In)) ∧ (∀ k_, Xn k_ < 125) ∧ (∀ k_, On k_ < 97) ∧ (∀ k_, In k_ < 125) ∧ (∀ k_, Oln k_ < 125)) (fun (u : (Nat) × (Nat) × (Nat → Nat) × (Nat → Nat) × (Nat → Nat) × (Nat → Nat)) (t : State) => match u with | (dn, mn, Xn, On, In, Oln) => va_P (dC, dI) cls_ [(mo, .inr (5, [.int (nI sp), .int (nI dn), .ref mdr, .int (nI mn - 1), .ref mtx, .ref mod, .ref mia, .ref mus, .ref mol, .ref mle, .int (nI my), .ref mrw, .ref mls])), (mdr, .inl (ky, 97, .inl (nA Md))), (mtx, .inl (ky, 97, .inl (nA Xn))), (mod, .inl (ky, 97, .inl (nA On))), (mia, .inl (ky, 97, .inl (nA In))), (mol, .inl (ky, 97, .inl (nA Oln)))] t.heap ∧ va_D (va_A [(mo, .inr (5, [.int (nI sp), .int (nI d), .ref mdr, .int (nI mm - 1), .ref mtx, .ref mod, .ref mia, .ref mus, .ref mol, .ref mle, .int (nI my), .ref mrw, .ref mls])), (mdr, .inl (ky, 97, .inl (nA Md))), (mtx, .inl (ky, 97, .inl (nA Mx))), (mod, .inl (ky, 97, .inl (nA Od))), (mia, .inl (ky, 97, .inl (nA Ia))), (mol, .inl (ky, 97, .inl (nA Ol)))] sz) [(mo, .inr (5, [.int (nI sp), .int (nI dn), .ref mdr, .int (nI mn - 1), .ref mtx, .ref mod, .ref mia, .ref mus, .ref mol, .ref mle, .int (nI my), .ref mrw, .ref mls])), (mdr, .inl (ky, 97, .inl (nA Md))), (mtx, .inl (ky, 97, .inl (nA Xn))), (mod, .inl (ky, 97, .inl (nA On))), (mia, .inl (ky, 97, .inl (nA In))), (mol, .inl (ky, 97, .inl (nA Oln)))]) (va_A [(mo, .inr (5, [.int (nI sp), .int (nI d), .ref mdr, .int (nI mm - 1), .ref mtx, .ref mod, .ref mia, .ref mus, .ref mol, .ref mle, .int (nI my), .ref mrw, .ref mls])), (mdr, .inl (ky, 97, .inl (nA Md))), (mtx, .inl (ky, 97, .inl (nA Mx))), (mod, .inl (ky, 97, .inl (nA Od))), (mia, .inl (ky, 97, .inl (nA Ia))), (mol, .inl (ky, 97, .inl (nA Ol)))] sz)) 0 0 (va_A [(mo, .inr (5, [.int (nI sp), .int (nI d), .ref mdr, .int (nI mm - 1), .ref mtx, .ref mod, .ref mia, .ref mus, .ref mol, .ref mle, .int (nI my), .ref mrw, .ref mls])), (mdr, .inl (ky, 97, .inl (nA Md))), (mtx, .inl (ky, 97, .inl (nA Mx))), (mod, .inl (ky, 97, .inl (nA Od))), (mia, .inl (ky, 97, .inl (nA Ia))), (mol, .inl (ky, 97, .inl (nA Ol)))] sz) := by
  refine Met.ofW (cc := prog_7_method_13_code) (maxL := 4) (ret := (some .boolean)) (by decide) rfl ?_
  intro p e s m args below meth c s₁ B hml hv
  obtain ⟨rfl, hsz, hP, hK, hD0⟩ := hv
  have hx := B.exec
  have hb := B.bytes
  have hr := B.returns
  have hlocks := B.notSynchronized
  have hts := atoms_spec (ws := (Cond.code y_Mo_load prog_7_method_13_code 4 (some .boolean) :: W0)) B.pre
  have htb : ∀ w ∈ W0, w.before _ s = true := fun w h => hts w (List.mem_cons_of_mem _ h)
  have hown : s.vm.findClass "SelfIndexedSequencesModel" = some m.cls := findClass_of_methodNamed B.named
  subst hsz
  have hD := hD0.self (sz := s.heap.size)
  generalize hAe : va_A [(mo, .inr (5, [.int (nI sp), .int (nI d), .ref mdr, .int (nI mm - 1), .ref mtx, .ref mod, .ref mia, .ref mus, .ref mol, .ref mle, .int (nI my), .ref mrw, .ref mls])), (mdr, .inl (ky, 97, .inl (nA Md))), (mtx, .inl (ky, 97, .inl (nA Mx))), (mod, .inl (ky, 97, .inl (nA Od))), (mia, .inl (ky, 97, .inl (nA Ia))), (mol, .inl (ky, 97, .inl (nA Ol)))] s.heap.size = A at hD ⊢
  have hA : ∀ q : Nat, s.heap.size ≤ q → A q := fun q h => by rw [← hAe]; exact Or.inr h
  have hS : va_S A s.heap s.heap [] := va_S.rf
  have hl := lv_entry ([.ref mo]) (n := 4) (Nat.le_of_ble_eq_true rfl)
  rw [lg_entry_eq]
  generalize (lg_sl ([.ref mo]) ++ List.replicate (4 - (lg_sl ([.ref mo])).length) Slot.unset).toArray = ls at hl ⊢
  have hl : lv_has ls 4 [(0, .ref mo)] := hl
  refine lv_aload_n hx hb d_Mo_load_0 rfl (lv_at hl 0 rfl) ?_
  refine va_get (D := (dC, dI)) (ci := 5) (v := .int (nI d)) (C := R_Mo) (T := F_Mo) (N := 13) hx hb htb in_Mo hown hK hP 0 rfl rfl 1 (by decide) (htb _ tw_362) (fun _ h9 => h9) rfl d_Mo_load_1 ?_
  refine lv_if_ne (tgt := 9) hx hb d_Mo_load_4 (by decide) (fun hc4 => ?_) (fun hc4 => ?_)
  · skip
    rw [← nI_0, bw_eq_nn (by omega) (by omega)] at hc4
    have hd0 : 0 < d := by omega
    refine lv_aload_n hx hb d_Mo_load_9 rfl (lv_at hl 0 rfl) ?_
    refine va_get (D := (dC, dI)) (ci := 5) (v := .int (nI mm - 1)) (C := R_Mo) (T := F_Mo) (N := 13) hx hb htb in_Mo hown hK hP 0 rfl rfl 3 (by decide) (htb _ tw_364) (fun _ h9 => h9) rfl d_Mo_load_10 ?_
    refine lv_istore_n hx hb d_Mo_load_13 rfl hl (by decide) rfl (fun ls hl => ?_)
    have hl : lv_has ls 4 [(1, .int (nI mm - 1)), (0, .ref mo)] := hl
    refine lv_iconst (v := nI 0) hx hb d_Mo_load_14 (by decide) ?_
    refine lv_istore_n hx hb d_Mo_load_15 rfl hl (by decide) rfl (fun ls hl => ?_)
    have hl : lv_has ls 4 [(2, .int (nI 0)), (1, .int (nI mm - 1)), (0, .ref mo)] := hl
    refine wl_loop (σ := Nat × (Nat → Nat)) 16 [] (fun (a_ : Nat × (Nat → Nat)) => match a_ with | (k, Oq) => mm - k) (fun (a_ : Nat × (Nat → Nat)) (H : Heap) (locs : List Loc) (ls : Array Slot) => match a_ with | (k, Oq) => (k = 0 ∨ k + 1 ≤ mm) ∧ (∀ i, i < k → Oq i = Mx i) ∧ (∀ k_, Oq k_ < 125) ∧ va_P (dC, dI) cls_ [(mo, .inr (5, [.int (nI sp), .int (nI d), .ref mdr, .int (nI mm - 1), .ref mtx, .ref mod, .ref mia, .ref mus, .ref mol, .ref mle, .int (nI my), .ref mrw, .ref mls])), (mdr, .inl (ky, 97, .inl (nA Md))), (mtx, .inl (ky, 97, .inl (nA Mx))), (mod, .inl (ky, 97, .inl (nA Od))), (mia, .inl (ky, 97, .inl (nA Ia))), (mol, .inl (ky, 97, .inl (nA Oq)))] H ∧ va_D A [(mo, .inr (5, [.int (nI sp), .int (nI d), .ref mdr, .int (nI mm - 1), .ref mtx, .ref mod, .ref mia, .ref mus, .ref mol, .ref mle, .int (nI my), .ref mrw, .ref mls])), (mdr, .inl (ky, 97, .inl (nA Md))), (mtx, .inl (ky, 97, .inl (nA Mx))), (mod, .inl (ky, 97, .inl (nA Od))), (mia, .inl (ky, 97, .inl (nA Ia))), (mol, .inl (ky, 97, .inl (nA Oq)))] ∧ va_S A s.heap H locs ∧ lv_has ls 4 [(2, .int (nI k)), (1, .int (nI mm - 1)), (0, .ref mo)]) ?_ (0, Ol) ⟨(by first | assumption | omega | (simp; done) | (simp_all; done)), (fun i hi => by omega), hOl, hP, hD, hS, lv_sub hl [0, 1, 2] rfl⟩
    clear hP hD hS hl
    intro a_ H locs ls hI ih16
    obtain ⟨k, Oq⟩ := a_
    obtain ⟨hk, hOk, hOq, hP, hD, hS, hl⟩ := hI
    have hl : lv_has ls 4 [(2, .int (nI k)), (1, .int (nI mm - 1)), (0, .ref mo)] := hl
    have hP : va_P (dC, dI) cls_ [(mo, .inr (5, [.int (nI sp), .int (nI d), .ref mdr, .int (nI mm - 1), .ref mtx, .ref mod, .ref mia, .ref mus, .ref mol, .ref mle, .int (nI my), .ref mrw, .ref mls])), (mdr, .inl (ky, 97, .inl (nA Md))), (mtx, .inl (ky, 97, .inl (nA Mx))), (mod, .inl (ky, 97, .inl (nA Od))), (mia, .inl (ky, 97, .inl (nA Ia))), (mol, .inl (ky, 97, .inl (nA Oq)))] H := hP
    have hD : va_D A [(mo, .inr (5, [.int (nI sp), .int (nI d), .ref mdr, .int (nI mm - 1), .ref mtx, .ref mod, .ref mia, .ref mus, .ref mol, .ref mle, .int (nI my), .ref mrw, .ref mls])), (mdr, .inl (ky, 97, .inl (nA Md))), (mtx, .inl (ky, 97, .inl (nA Mx))), (mod, .inl (ky, 97, .inl (nA Od))), (mia, .inl (ky, 97, .inl (nA Ia))), (mol, .inl (ky, 97, .inl (nA Oq)))] := hD
    have hk : k = 0 ∨ k + 1 ≤ mm := hk
    have hOk : ∀ i, i < k → Oq i = Mx i := hOk
    have hOq : ∀ k_, Oq k_ < 125 := hOq
    refine lv_iload_n hx hb d_Mo_load_16 rfl (lv_at hl 0 rfl) ?_
    refine lv_iload_n hx hb d_Mo_load_17 rfl (lv_at hl 1 rfl) ?_
    refine lv_icmp_ge (tgt := 39) hx hb d_Mo_load_18 (by decide) (fun hc18 => ?_) (fun hc18 => ?_)
    · skip
      rw [bw_le_pn (by omega) (by omega)] at hc18
      refine lv_aload_n hx hb d_Mo_load_39 rfl (lv_at hl 2 rfl) ?_
      have hPc := hP.sub (ws' := [(mo, .inr (5, [.int (nI sp), .int (nI d), .ref mdr, .int (nI mm - 1), .ref mtx, .ref mod, .ref mia, .ref mus, .ref mol, .ref mle, .int (nI my), .ref mrw, .ref mls])), (mdr, .inl (ky, 97, .inl (nA Md))), (mtx, .inl (ky, 97, .inl (nA Mx)))]) [0, 1, 2] rfl
      have hDc := hD.sub (ws' := [(mo, .inr (5, [.int (nI sp), .int (nI d), .ref mdr, .int (nI mm - 1), .ref mtx, .ref mod, .ref mia, .ref mus, .ref mol, .ref mle, .int (nI my), .ref mrw, .ref mls])), (mdr, .inl (ky, 97, .inl (nA Md))), (mtx, .inl (ky, 97, .inl (nA Mx)))]) [0, 1, 2] (by decide) rfl
      have hFc := va_free (wc := [(mo, .inr (5, [.int (nI sp), .int (nI d), .ref mdr, .int (nI mm - 1), .ref mtx, .ref mod, .ref mia, .ref mus, .ref mol, .ref mle, .int (nI my), .ref mrw, .ref mls])), (mdr, .inl (ky, 97, .inl (nA Md))), (mtx, .inl (ky, 97, .inl (nA Mx)))]) hD hS hA [0, 1, 2] rfl
      refine va_calli (va_runV (C := "SelfIndexedSequencesModel") (As := []) (rest := []) ⟨hx, hb, hml, hown, hts⟩ (c_Mo_guess l dC dI ky H.size mo sp d mdr mm mtx mod mia mus mol mle my mrw mls Md Mx Dd hMd (by first | assumption | omega | (simp; done) | (simp_all; done)) (by first | assumption | omega | (simp; done) | (simp_all; done)) (by first | assumption | omega | (simp; done) | (simp_all; done)) hMx (by first | assumption | omega | (simp; done) | (simp_all; done))) ⟨callB_of 0 hts (W0_good tw_450) rfl rfl rfl (htb _ tw_28) (htb _ tw_447) ⟨by decide, by decide, by decide +kernel⟩ ⟨(Nat.le_of_ble_eq_true rfl), (Nat.le_of_ble_eq_true rfl)⟩, htb _ tw_449, htb _ tw_12⟩ ⟨fun a U g mk q => by obtain ⟨q0, q1, qP, qK, qD⟩ := q; exact ⟨q0, q1, qP, va_K.moved (u := U) (U := U.calling g mk a) (Vm.Alike.refl U.vm) qK, qD⟩, va_recv hK hPc (q0 := 0) (q := (R_Mo, F_Mo, 13)) rfl rfl, fun U hU hW => ⟨rfl, by rw [hU], by rw [hU]; exact hPc, va_K.moved hW.alike hK, hDc.weaken (fun _ _ _ _ => trivial)⟩⟩ rfl rfl hl.1 rfl (lv_room (Nat.le_of_ble_eq_true rfl)) d_Mo_load_40 ⟨(Nat.le_of_ble_eq_true rfl), (Nat.le_of_ble_eq_true rfl)⟩) hS (fun q _ h => hFc q h) hFc (fun r40 Xg t H locs ht hvm hw40 hB hz1 hk1 hS => ?_)
      obtain ⟨hP1, hD1⟩ := hB
      rw [ht] at hP1
      obtain ⟨hP, hD⟩ := va_join (wr := [(mod, .inl (ky, 97, .inl (nA Od))), (mia, .inl (ky, 97, .inl (nA Ia))), (mol, .inl (ky, 97, .inl (nA Oq)))]) (w1 := [(mo, .inr (5, [.int (nI sp), .int (nI d), .ref mdr, .int (nI d - 1), .ref mtx, .ref mod, .ref mia, .ref mus, .ref mol, .ref mle, .int (nI my), .ref mrw, .ref mls])), (mdr, .inl (ky, 97, .inl (nA Md))), (mtx, .inl (ky, 97, .inl (nA Xg)))]) hP hD [0, 1, 2] [3, 4, 5] rfl rfl (by decide) (by decide) hk1 hFc hP1 hD1
      have hP : va_P (dC, dI) cls_ [(mod, .inl (ky, 97, .inl (nA Od))), (mia, .inl (ky, 97, .inl (nA Ia))), (mol, .inl (ky, 97, .inl (nA Oq))), (mo, .inr (5, [.int (nI sp), .int (nI d), .ref mdr, .int (nI d - 1), .ref mtx, .ref mod, .ref mia, .ref mus, .ref mol, .ref mle, .int (nI my), .ref mrw, .ref mls])), (mdr, .inl (ky, 97, .inl (nA Md))), (mtx, .inl (ky, 97, .inl (nA Xg)))] H := hP
      have hD : va_D A [(mod, .inl (ky, 97, .inl (nA Od))), (mia, .inl (ky, 97, .inl (nA Ia))), (mol, .inl (ky, 97, .inl (nA Oq))), (mo, .inr (5, [.int (nI sp), .int (nI d), .ref mdr, .int (nI d - 1), .ref mtx, .ref mod, .ref mia, .ref mus, .ref mol, .ref mle, .int (nI my), .ref mrw, .ref mls])), (mdr, .inl (ky, 97, .inl (nA Md))), (mtx, .inl (ky, 97, .inl (nA Xg)))] := hD
      have hq40 : ((Gg Dd d ∧ r40 = nI 1) ∨ (¬ Gg Dd d ∧ r40 = nI 0)) ∧ (∀ q, q < d - 1 → Xg q = cod (txb Dd d q)) ∧ (∀ k_, Xg k_ < 125) := hw40
      obtain ⟨hgs, hXg, hXb⟩ := hq40
      rcases hgs with ⟨hgg, rfl⟩ | ⟨hgg, rfl⟩
      · skip
        refine lv_istore_n hx hb d_Mo_load_43 rfl hl (by decide) rfl (fun ls hl => ?_)
        have hl : lv_has ls 4 [(2, .int (nI 1)), (1, .int (nI mm - 1)), (0, .ref mo)] := hl
        refine lv_iload_n hx hb d_Mo_load_44 rfl (lv_at hl 0 rfl) ?_
        refine lv_if_eq (tgt := 93) hx hb d_Mo_load_45 (by decide) (fun hc45 => ?_) (fun hc45 => ?_)
        · exact absurd hc45 (by decide)
        · skip
          rw [← nI_0, bw_eq_nn (by omega) (by omega)] at hc45
          refine lv_aload_n hx hb d_Mo_load_48 rfl (lv_at hl 2 rfl) ?_
          have hPc := hP.sub (ws' := [(mo, .inr (5, [.int (nI sp), .int (nI d), .ref mdr, .int (nI d - 1), .ref mtx, .ref mod, .ref mia, .ref mus, .ref mol, .ref mle, .int (nI my), .ref mrw, .ref mls])), (mtx, .inl (ky, 97, .inl (nA Xg))), (mod, .inl (ky, 97, .inl (nA Od))), (mia, .inl (ky, 97, .inl (nA Ia)))]) [3, 5, 0, 1] rfl
          have hDc := hD.sub (ws' := [(mo, .inr (5, [.int (nI sp), .int (nI d), .ref mdr, .int (nI d - 1), .ref mtx, .ref mod, .ref mia, .ref mus, .ref mol, .ref mle, .int (nI my), .ref mrw, .ref mls])), (mtx, .inl (ky, 97, .inl (nA Xg))), (mod, .inl (ky, 97, .inl (nA Od))), (mia, .inl (ky, 97, .inl (nA Ia)))]) [3, 5, 0, 1] (by decide) rfl
          have hFc := va_free (wc := [(mo, .inr (5, [.int (nI sp), .int (nI d), .ref mdr, .int (nI d - 1), .ref mtx, .ref mod, .ref mia, .ref mus, .ref mol, .ref mle, .int (nI my), .ref mrw, .ref mls])), (mtx, .inl (ky, 97, .inl (nA Xg))), (mod, .inl (ky, 97, .inl (nA Od))), (mia, .inl (ky, 97, .inl (nA Ia)))]) hD hS hA [3, 5, 0, 1] rfl
          refine va_callv (va_runV (C := "SelfIndexedSequencesModel") (As := []) (rest := []) ⟨hx, hb, hml, hown, hts⟩ (c_Mo_sort l dC dI ky H.size mo sp d mdr d mtx mod mia mus mol mle my mrw mls Xg Od Ia (txb Dd d) (d - 1) hXb hOd hIa (by omega) (by first | assumption | omega | (simp; done) | (simp_all; done)) (txb_txt' hd0 hgg) (txb_lt hD28 d) hXg) ⟨callB_of 0 hts (W0_good tw_427) rfl rfl rfl (htb _ tw_28) (htb _ tw_424) ⟨by decide, by decide, by decide +kernel⟩ ⟨(Nat.le_of_ble_eq_true rfl), (Nat.le_of_ble_eq_true rfl)⟩, htb _ tw_426, htb _ tw_9⟩ ⟨fun a U g mk q => by obtain ⟨q0, q1, qP, qK, qD⟩ := q; exact ⟨q0, q1, qP, va_K.moved (u := U) (U := U.calling g mk a) (Vm.Alike.refl U.vm) qK, qD⟩, va_recv hK hPc (q0 := 0) (q := (R_Mo, F_Mo, 13)) rfl rfl, fun U hU hW => ⟨rfl, by rw [hU], by rw [hU]; exact hPc, va_K.moved hW.alike hK, hDc.weaken (fun _ _ _ _ => trivial)⟩⟩ rfl rfl hl.1 rfl (lv_room (Nat.le_of_ble_eq_true rfl)) d_Mo_load_49 ⟨(Nat.le_of_ble_eq_true rfl), (Nat.le_of_ble_eq_true rfl)⟩) hS (fun q _ h => hFc q h) hFc (fun u_ t H locs ht hvm hw49 hB hz1 hk1 hS => ?_)
          obtain ⟨Os, Is⟩ := u_
          obtain ⟨hP1, hD1⟩ := hB
          rw [ht] at hP1
          obtain ⟨hP, hD⟩ := va_join (wr := [(mol, .inl (ky, 97, .inl (nA Oq))), (mdr, .inl (ky, 97, .inl (nA Md)))]) (w1 := [(mo, .inr (5, [.int (nI sp), .int (nI d), .ref mdr, .int (nI d - 1), .ref mtx, .ref mod, .ref mia, .ref mus, .ref mol, .ref mle, .int (nI my), .ref mrw, .ref mls])), (mtx, .inl (ky, 97, .inl (nA Xg))), (mod, .inl (ky, 97, .inl (nA Os))), (mia, .inl (ky, 97, .inl (nA Is)))]) hP hD [3, 5, 0, 1] [2, 4] rfl rfl (by decide) (by decide) hk1 hFc hP1 hD1
          have hP : va_P (dC, dI) cls_ [(mol, .inl (ky, 97, .inl (nA Oq))), (mdr, .inl (ky, 97, .inl (nA Md))), (mo, .inr (5, [.int (nI sp), .int (nI d), .ref mdr, .int (nI d - 1), .ref mtx, .ref mod, .ref mia, .ref mus, .ref mol, .ref mle, .int (nI my), .ref mrw, .ref mls])), (mtx, .inl (ky, 97, .inl (nA Xg))), (mod, .inl (ky, 97, .inl (nA Os))), (mia, .inl (ky, 97, .inl (nA Is)))] H := hP
          have hD : va_D A [(mol, .inl (ky, 97, .inl (nA Oq))), (mdr, .inl (ky, 97, .inl (nA Md))), (mo, .inr (5, [.int (nI sp), .int (nI d), .ref mdr, .int (nI d - 1), .ref mtx, .ref mod, .ref mia, .ref mus, .ref mol, .ref mle, .int (nI my), .ref mrw, .ref mls])), (mtx, .inl (ky, 97, .inl (nA Xg))), (mod, .inl (ky, 97, .inl (nA Os))), (mia, .inl (ky, 97, .inl (nA Is)))] := hD
          have hq49 : (∃ R, Srt (txb Dd d) (d - 1) Os R) ∧ (∀ j, j < (d - 1) + 1 → Is j = cod ((txb Dd d) (prv (d - 1) (Os j)))) ∧ (∀ k_, Os k_ < 97) ∧ (∀ k_, Is k_ < 125) := hw49
          obtain ⟨hSr, hIs, hOb, hIb⟩ := hq49
          refine lv_iconst (v := nI 0) hx hb d_Mo_load_52 (by decide) ?_
          refine lv_istore_n hx hb d_Mo_load_53 rfl hl (by decide) rfl (fun ls hl => ?_)
          have hl : lv_has ls 4 [(3, .int (nI 0)), (2, .int (nI 1)), (1, .int (nI mm - 1)), (0, .ref mo)] := hl
          refine wl_loop (σ := Nat × Nat) 54 [] (fun (a_ : Nat × Nat) => match a_ with | (k2, gd) => d - k2) (fun (a_ : Nat × Nat) (H : Heap) (locs : List Loc) (ls : Array Slot) => match a_ with | (k2, gd) => (k2 ≤ d) ∧ (LdI Is Dd d k2 gd) ∧ (gd ≤ 1) ∧ va_P (dC, dI) cls_ [(mo, .inr (5, [.int (nI sp), .int (nI d), .ref mdr, .int (nI d - 1), .ref mtx, .ref mod, .ref mia, .ref mus, .ref mol, .ref mle, .int (nI my), .ref mrw, .ref mls])), (mdr, .inl (ky, 97, .inl (nA Md))), (mtx, .inl (ky, 97, .inl (nA Xg))), (mod, .inl (ky, 97, .inl (nA Os))), (mia, .inl (ky, 97, .inl (nA Is))), (mol, .inl (ky, 97, .inl (nA Oq)))] H ∧ va_D A [(mo, .inr (5, [.int (nI sp), .int (nI d), .ref mdr, .int (nI d - 1), .ref mtx, .ref mod, .ref mia, .ref mus, .ref mol, .ref mle, .int (nI my), .ref mrw, .ref mls])), (mdr, .inl (ky, 97, .inl (nA Md))), (mtx, .inl (ky, 97, .inl (nA Xg))), (mod, .inl (ky, 97, .inl (nA Os))), (mia, .inl (ky, 97, .inl (nA Is))), (mol, .inl (ky, 97, .inl (nA Oq)))] ∧ va_S A s.heap H locs ∧ lv_has ls 4 [(3, .int (nI k2)), (2, .int (nI gd)), (1, .int (nI mm - 1)), (0, .ref mo)]) ?_ (0, 1) ⟨(by first | assumption | omega | (simp; done) | (simp_all; done)), (LdI_0 Is Dd d), (by first | assumption | omega | (simp; done) | (simp_all; done)), (hP.sub [2, 1, 3, 4, 5, 0] rfl), (hD.sub [2, 1, 3, 4, 5, 0] (by decide) rfl), hS, lv_sub hl [0, 1, 2, 3] rfl⟩
          clear hP hD hS hl
          intro a_ H locs ls hI ih54
          obtain ⟨k2, gd⟩ := a_
          obtain ⟨hk2, hld, hgd1, hP, hD, hS, hl⟩ := hI
          have hl : lv_has ls 4 [(3, .int (nI k2)), (2, .int (nI gd)), (1, .int (nI mm - 1)), (0, .ref mo)] := hl
          have hP : va_P (dC, dI) cls_ [(mo, .inr (5, [.int (nI sp), .int (nI d), .ref mdr, .int (nI d - 1), .ref mtx, .ref mod, .ref mia, .ref mus, .ref mol, .ref mle, .int (nI my), .ref mrw, .ref mls])), (mdr, .inl (ky, 97, .inl (nA Md))), (mtx, .inl (ky, 97, .inl (nA Xg))), (mod, .inl (ky, 97, .inl (nA Os))), (mia, .inl (ky, 97, .inl (nA Is))), (mol, .inl (ky, 97, .inl (nA Oq)))] H := hP
          have hD : va_D A [(mo, .inr (5, [.int (nI sp), .int (nI d), .ref mdr, .int (nI d - 1), .ref mtx, .ref mod, .ref mia, .ref mus, .ref mol, .ref mle, .int (nI my), .ref mrw, .ref mls])), (mdr, .inl (ky, 97, .inl (nA Md))), (mtx, .inl (ky, 97, .inl (nA Xg))), (mod, .inl (ky, 97, .inl (nA Os))), (mia, .inl (ky, 97, .inl (nA Is))), (mol, .inl (ky, 97, .inl (nA Oq)))] := hD
          have hk2 : k2 ≤ d := hk2
          have hld : LdI Is Dd d k2 gd := hld
          have hgd1 : gd ≤ 1 := hgd1
          refine lv_iload_n hx hb d_Mo_load_54 rfl (lv_at hl 0 rfl) ?_
          refine lv_aload_n hx hb d_Mo_load_55 rfl (lv_at hl 3 rfl) ?_
          refine va_get (D := (dC, dI)) (ci := 5) (v := .int (nI d)) (C := R_Mo) (T := F_Mo) (N := 13) hx hb htb in_Mo hown hK hP 0 rfl rfl 1 (by decide) (htb _ tw_362) (fun _ h9 => h9) rfl d_Mo_load_56 ?_
          refine lv_icmp_ge (tgt := 93) hx hb d_Mo_load_59 (by decide) (fun hc59 => ?_) (fun hc59 => ?_)
          · skip
            rw [bw_le_nn (by omega) (by omega)] at hc59
            refine lv_iload_n hx hb d_Mo_load_93 rfl (lv_at hl 1 rfl) ?_
            refine lv_if_eq (tgt := 104) hx hb d_Mo_load_94 (by decide) (fun hc94 => ?_) (fun hc94 => ?_)
            · skip
              rw [← nI_0, bw_eq_nn (by omega) (by omega)] at hc94
              have hnA : ¬ Ac Dd d := (by first | exact fun a => hgg (Ac_Gg a) | exact (LdI_Ac hd0 hgg hSr hIs hD28 hld (by omega)).2 (by assumption))
              refine lv_aload_n hx hb d_Mo_load_104 rfl (lv_at hl 3 rfl) ?_
              refine lv_iload_n hx hb d_Mo_load_105 rfl (lv_at hl 2 rfl) ?_
              refine va_put (D := (dC, dI)) (ci := 5) (v := .int (nI mm - 1)) (ty := .int) (C := R_Mo) (T := F_Mo) (N := 13) hx hb htb in_Mo t_Mo tk_Mo nm_Mo hown hK hP hD hS 0 rfl rfl 3 (by decide) (htb _ tw_364) (fun _ h9 => h9) rfl (by decide +kernel) rfl rfl (Nat.le_of_ble_eq_true rfl) d_Mo_load_106 (fun H locs hP hD hS => ?_)
              have hP : va_P (dC, dI) cls_ [(mo, .inr (5, [.int (nI sp), .int (nI d), .ref mdr, .int (nI mm - 1), .ref mtx, .ref mod, .ref mia, .ref mus, .ref mol, .ref mle, .int (nI my), .ref mrw, .ref mls])), (mdr, .inl (ky, 97, .inl (nA Md))), (mtx, .inl (ky, 97, .inl (nA Xg))), (mod, .inl (ky, 97, .inl (nA Os))), (mia, .inl (ky, 97, .inl (nA Is))), (mol, .inl (ky, 97, .inl (nA Oq)))] H := hP
              have hD : va_D A [(mo, .inr (5, [.int (nI sp), .int (nI d), .ref mdr, .int (nI mm - 1), .ref mtx, .ref mod, .ref mia, .ref mus, .ref mol, .ref mle, .int (nI my), .ref mrw, .ref mls])), (mdr, .inl (ky, 97, .inl (nA Md))), (mtx, .inl (ky, 97, .inl (nA Xg))), (mod, .inl (ky, 97, .inl (nA Os))), (mia, .inl (ky, 97, .inl (nA Is))), (mol, .inl (ky, 97, .inl (nA Oq)))] := hD
              refine lv_iconst (v := nI 0) hx hb d_Mo_load_109 (by decide) ?_
              refine lv_istore_n hx hb d_Mo_load_110 rfl hl (by decide) rfl (fun ls hl => ?_)
              have hl : lv_has ls 4 [(3, .int (nI 0)), (2, .int (nI gd)), (1, .int (nI mm - 1)), (0, .ref mo)] := hl
              refine wl_loop (σ := Nat × (Nat → Nat) × (Nat → Nat) × (Nat → Nat)) 111 [] (fun (a_ : Nat × (Nat → Nat) × (Nat → Nat) × (Nat → Nat)) => match a_ with | (k3, Xc, Oc, Ic) => mm - k3) (fun (a_ : Nat × (Nat → Nat) × (Nat → Nat) × (Nat → Nat)) (H : Heap) (locs : List Loc) (ls : Array Slot) => match a_ with | (k3, Xc, Oc, Ic) => (k3 = 0 ∨ k3 + 1 ≤ mm) ∧ (∀ i, i < k3 → Xc i = Mx i) ∧ (∀ k_, Xc k_ < 125) ∧ (∀ k_, Oc k_ < 97) ∧ (∀ k_, Ic k_ < 125) ∧ va_P (dC, dI) cls_ [(mo, .inr (5, [.int (nI sp), .int (nI d), .ref mdr, .int (nI mm - 1), .ref mtx, .ref mod, .ref mia, .ref mus, .ref mol, .ref mle, .int (nI my), .ref mrw, .ref mls])), (mdr, .inl (ky, 97, .inl (nA Md))), (mtx, .inl (ky, 97, .inl (nA Xc))), (mod, .inl (ky, 97, .inl (nA Oc))), (mia, .inl (ky, 97, .inl (nA Ic))), (mol, .inl (ky, 97, .inl (nA Oq)))] H ∧ va_D A [(mo, .inr (5, [.int (nI sp), .int (nI d), .ref mdr, .int (nI mm - 1), .ref mtx, .ref mod, .ref mia, .ref mus, .ref mol, .ref mle, .int (nI my), .ref mrw, .ref mls])), (mdr, .inl (ky, 97, .inl (nA Md))), (mtx, .inl (ky, 97, .inl (nA Xc))), (mod, .inl (ky, 97, .inl (nA Oc))), (mia, .inl (ky, 97, .inl (nA Ic))), (mol, .inl (ky, 97, .inl (nA Oq)))] ∧ va_S A s.heap H locs ∧ lv_has ls 4 [(3, .int (nI k3)), (1, .int (nI mm - 1)), (0, .ref mo)]) ?_ (0, Xg, Os, Is) ⟨(by first | assumption | omega | (simp; done) | (simp_all; done)), (fun i hi => by omega), (by assumption), (by assumption), (by assumption), hP, hD, hS, lv_sub hl [0, 2, 3] rfl⟩
              clear hP hD hS hl
              intro a_ H locs ls hI ih111
              obtain ⟨k3, Xc, Oc, Ic⟩ := a_
              obtain ⟨hk3, hXk, hXc, hOc, hIc, hP, hD, hS, hl⟩ := hI
              have hl : lv_has ls 4 [(3, .int (nI k3)), (1, .int (nI mm - 1)), (0, .ref mo)] := hl
              have hP : va_P (dC, dI) cls_ [(mo, .inr (5, [.int (nI sp), .int (nI d), .ref mdr, .int (nI mm - 1), .ref mtx, .ref mod, .ref mia, .ref mus, .ref mol, .ref mle, .int (nI my), .ref mrw, .ref mls])), (mdr, .inl (ky, 97, .inl (nA Md))), (mtx, .inl (ky, 97, .inl (nA Xc))), (mod, .inl (ky, 97, .inl (nA Oc))), (mia, .inl (ky, 97, .inl (nA Ic))), (mol, .inl (ky, 97, .inl (nA Oq)))] H := hP
              have hD : va_D A [(mo, .inr (5, [.int (nI sp), .int (nI d), .ref mdr, .int (nI mm - 1), .ref mtx, .ref mod, .ref mia, .ref mus, .ref mol, .ref mle, .int (nI my), .ref mrw, .ref mls])), (mdr, .inl (ky, 97, .inl (nA Md))), (mtx, .inl (ky, 97, .inl (nA Xc))), (mod, .inl (ky, 97, .inl (nA Oc))), (mia, .inl (ky, 97, .inl (nA Ic))), (mol, .inl (ky, 97, .inl (nA Oq)))] := hD
              have hk3 : k3 = 0 ∨ k3 + 1 ≤ mm := hk3
              have hXk : ∀ i, i < k3 → Xc i = Mx i := hXk
              have hXc : ∀ k_, Xc k_ < 125 := hXc
              have hOc : ∀ k_, Oc k_ < 97 := hOc
              have hIc : ∀ k_, Ic k_ < 125 := hIc
              refine lv_iload_n hx hb d_Mo_load_111 rfl (lv_at hl 0 rfl) ?_
              refine lv_iload_n hx hb d_Mo_load_112 rfl (lv_at hl 1 rfl) ?_
              refine lv_icmp_ge (tgt := 134) hx hb d_Mo_load_113 (by decide) (fun hc113 => ?_) (fun hc113 => ?_)
              · skip
                rw [bw_le_pn (by omega) (by omega)] at hc113
                refine lv_aload_n hx hb d_Mo_load_134 rfl (lv_at hl 2 rfl) ?_
                refine va_get (D := (dC, dI)) (ci := 5) (v := .int (nI mm - 1)) (C := R_Mo) (T := F_Mo) (N := 13) hx hb htb in_Mo hown hK hP 0 rfl rfl 3 (by decide) (htb _ tw_364) (fun _ h9 => h9) rfl d_Mo_load_135 ?_
                refine lv_if_lt (tgt := 145) hx hb d_Mo_load_138 (by decide) (fun hc138 => ?_) (fun hc138 => ?_)
                · skip
                  rw [← nI_0, bw_lt_pn (by omega) (by omega)] at hc138
                  refine lv_iconst (v := nI 0) hx hb d_Mo_load_145 (by decide) ?_
                  have hP9 := hP.sub (ws' := [(mo, .inr (5, [.int (nI sp), .int (nI d), .ref mdr, .int (nI mm - 1), .ref mtx, .ref mod, .ref mia, .ref mus, .ref mol, .ref mle, .int (nI my), .ref mrw, .ref mls])), (mdr, .inl (ky, 97, .inl (nA Md))), (mtx, .inl (ky, 97, .inl (nA Xc))), (mod, .inl (ky, 97, .inl (nA Oc))), (mia, .inl (ky, 97, .inl (nA Ic))), (mol, .inl (ky, 97, .inl (nA Oq)))]) [0, 1, 2, 3, 4, 5] rfl
                  have hD9 := hD.sub (ws' := [(mo, .inr (5, [.int (nI sp), .int (nI d), .ref mdr, .int (nI mm - 1), .ref mtx, .ref mod, .ref mia, .ref mus, .ref mol, .ref mle, .int (nI my), .ref mrw, .ref mls])), (mdr, .inl (ky, 97, .inl (nA Md))), (mtx, .inl (ky, 97, .inl (nA Xc))), (mod, .inl (ky, 97, .inl (nA Oc))), (mia, .inl (ky, 97, .inl (nA Ic))), (mol, .inl (ky, 97, .inl (nA Oq)))]) [0, 1, 2, 3, 4, 5] (by decide) rfl
                  exact W.zret (v := nI 0) hx hb hr (by first | rfl | decide) (fun t ht hW => ⟨⟨nI 0, (d, mm, Xc, Oc, Ic, Oq), rfl, (by first | exact ⟨Or.inr ⟨rfl, hnA, rfl, rfl, MSt_mk' (by omega) hMS.1 (MSt_t hMS _ (by omega)) (fun q hq => by rw [hXk q (by omega)]; exact MSt_x hMS q (by omega)) hSt hIt⟩, hXc, hOtb, hItb, hOq⟩ | exact ⟨Or.inr ⟨rfl, hnA, rfl, rfl, by rw [show mm = 0 by omega]; exact MSt_0 hMS.1⟩, hXc, hOc, hIc, hOq⟩), by rw [ht]; exact hP9, hD9⟩, hS.F ht⟩) hS.2.2 d_Mo_load_146
                · skip
                  rw [← nI_0, bw_lt_pn (by omega) (by omega)] at hc138
                  rw [bw_pn (show 0 < mm by omega)] at hl
                  have hl : lv_has ls 4 [(3, .int (nI k3)), (1, .int (nI (mm - 1))), (0, .ref mo)] := hl
                  refine lv_aload_n hx hb d_Mo_load_141 rfl (lv_at hl 2 rfl) ?_
                  have hPc := hP.sub (ws' := [(mo, .inr (5, [.int (nI sp), .int (nI d), .ref mdr, .int (nI mm - 1), .ref mtx, .ref mod, .ref mia, .ref mus, .ref mol, .ref mle, .int (nI my), .ref mrw, .ref mls])), (mtx, .inl (ky, 97, .inl (nA Xc))), (mod, .inl (ky, 97, .inl (nA Oc))), (mia, .inl (ky, 97, .inl (nA Ic)))]) [0, 2, 3, 4] rfl
                  have hDc := hD.sub (ws' := [(mo, .inr (5, [.int (nI sp), .int (nI d), .ref mdr, .int (nI mm - 1), .ref mtx, .ref mod, .ref mia, .ref mus, .ref mol, .ref mle, .int (nI my), .ref mrw, .ref mls])), (mtx, .inl (ky, 97, .inl (nA Xc))), (mod, .inl (ky, 97, .inl (nA Oc))), (mia, .inl (ky, 97, .inl (nA Ic)))]) [0, 2, 3, 4] (by decide) rfl
                  have hFc := va_free (wc := [(mo, .inr (5, [.int (nI sp), .int (nI d), .ref mdr, .int (nI mm - 1), .ref mtx, .ref mod, .ref mia, .ref mus, .ref mol, .ref mle, .int (nI my), .ref mrw, .ref mls])), (mtx, .inl (ky, 97, .inl (nA Xc))), (mod, .inl (ky, 97, .inl (nA Oc))), (mia, .inl (ky, 97, .inl (nA Ic)))]) hD hS hA [0, 2, 3, 4] rfl
                  refine va_callv (va_runV (C := "SelfIndexedSequencesModel") (As := []) (rest := []) ⟨hx, hb, hml, hown, hts⟩ (c_Mo_sort l dC dI ky H.size mo sp d mdr mm mtx mod mia mus mol mle my mrw mls Xc Oc Ic T (mm - 1) hXc hOc hIc (by omega) (by first | assumption | omega | (simp; done) | (simp_all; done)) (MSt_t hMS _ (by omega)) hMS.1 (fun q hq => by rw [hXk q (by omega)]; exact MSt_x hMS q (by omega))) ⟨callB_of 0 hts (W0_good tw_427) rfl rfl rfl (htb _ tw_28) (htb _ tw_424) ⟨by decide, by decide, by decide +kernel⟩ ⟨(Nat.le_of_ble_eq_true rfl), (Nat.le_of_ble_eq_true rfl)⟩, htb _ tw_426, htb _ tw_9⟩ ⟨fun a U g mk q => by obtain ⟨q0, q1, qP, qK, qD⟩ := q; exact ⟨q0, q1, qP, va_K.moved (u := U) (U := U.calling g mk a) (Vm.Alike.refl U.vm) qK, qD⟩, va_recv hK hPc (q0 := 0) (q := (R_Mo, F_Mo, 13)) rfl rfl, fun U hU hW => ⟨rfl, by rw [hU], by rw [hU]; exact hPc, va_K.moved hW.alike hK, hDc.weaken (fun _ _ _ _ => trivial)⟩⟩ rfl rfl hl.1 rfl (lv_room (Nat.le_of_ble_eq_true rfl)) d_Mo_load_142 ⟨(Nat.le_of_ble_eq_true rfl), (Nat.le_of_ble_eq_true rfl)⟩) hS (fun q _ h => hFc q h) hFc (fun u_ t H locs ht hvm hw142 hB hz1 hk1 hS => ?_)
                  obtain ⟨Ot, It⟩ := u_
                  obtain ⟨hP1, hD1⟩ := hB
                  rw [ht] at hP1
                  obtain ⟨hP, hD⟩ := va_join (wr := [(mdr, .inl (ky, 97, .inl (nA Md))), (mol, .inl (ky, 97, .inl (nA Oq)))]) (w1 := [(mo, .inr (5, [.int (nI sp), .int (nI d), .ref mdr, .int (nI mm - 1), .ref mtx, .ref mod, .ref mia, .ref mus, .ref mol, .ref mle, .int (nI my), .ref mrw, .ref mls])), (mtx, .inl (ky, 97, .inl (nA Xc))), (mod, .inl (ky, 97, .inl (nA Ot))), (mia, .inl (ky, 97, .inl (nA It)))]) hP hD [0, 2, 3, 4] [1, 5] rfl rfl (by decide) (by decide) hk1 hFc hP1 hD1
                  have hP : va_P (dC, dI) cls_ [(mdr, .inl (ky, 97, .inl (nA Md))), (mol, .inl (ky, 97, .inl (nA Oq))), (mo, .inr (5, [.int (nI sp), .int (nI d), .ref mdr, .int (nI mm - 1), .ref mtx, .ref mod, .ref mia, .ref mus, .ref mol, .ref mle, .int (nI my), .ref mrw, .ref mls])), (mtx, .inl (ky, 97, .inl (nA Xc))), (mod, .inl (ky, 97, .inl (nA Ot))), (mia, .inl (ky, 97, .inl (nA It)))] H := hP
                  have hD : va_D A [(mdr, .inl (ky, 97, .inl (nA Md))), (mol, .inl (ky, 97, .inl (nA Oq))), (mo, .inr (5, [.int (nI sp), .int (nI d), .ref mdr, .int (nI mm - 1), .ref mtx, .ref mod, .ref mia, .ref mus, .ref mol, .ref mle, .int (nI my), .ref mrw, .ref mls])), (mtx, .inl (ky, 97, .inl (nA Xc))), (mod, .inl (ky, 97, .inl (nA Ot))), (mia, .inl (ky, 97, .inl (nA It)))] := hD
                  have hq142 : (∃ R, Srt T (mm - 1) Ot R) ∧ (∀ j, j < (mm - 1) + 1 → It j = cod (T (prv (mm - 1) (Ot j)))) ∧ (∀ k_, Ot k_ < 97) ∧ (∀ k_, It k_ < 125) := hw142
                  obtain ⟨hSt, hIt, hOtb, hItb⟩ := hq142
                  refine lv_iconst (v := nI 0) hx hb d_Mo_load_145 (by decide) ?_
                  have hP9 := hP.sub (ws' := [(mo, .inr (5, [.int (nI sp), .int (nI d), .ref mdr, .int (nI mm - 1), .ref mtx, .ref mod, .ref mia, .ref mus, .ref mol, .ref mle, .int (nI my), .ref mrw, .ref mls])), (mdr, .inl (ky, 97, .inl (nA Md))), (mtx, .inl (ky, 97, .inl (nA Xc))), (mod, .inl (ky, 97, .inl (nA Ot))), (mia, .inl (ky, 97, .inl (nA It))), (mol, .inl (ky, 97, .inl (nA Oq)))]) [2, 0, 3, 4, 5, 1] rfl
                  have hD9 := hD.sub (ws' := [(mo, .inr (5, [.int (nI sp), .int (nI d), .ref mdr, .int (nI mm - 1), .ref mtx, .ref mod, .ref mia, .ref mus, .ref mol, .ref mle, .int (nI my), .ref mrw, .ref mls])), (mdr, .inl (ky, 97, .inl (nA Md))), (mtx, .inl (ky, 97, .inl (nA Xc))), (mod, .inl (ky, 97, .inl (nA Ot))), (mia, .inl (ky, 97, .inl (nA It))), (mol, .inl (ky, 97, .inl (nA Oq)))]) [2, 0, 3, 4, 5, 1] (by decide) rfl
                  exact W.zret (v := nI 0) hx hb hr (by first | rfl | decide) (fun t ht hW => ⟨⟨nI 0, (d, mm, Xc, Ot, It, Oq), rfl, (by first | exact ⟨Or.inr ⟨rfl, hnA, rfl, rfl, MSt_mk' (by omega) hMS.1 (MSt_t hMS _ (by omega)) (fun q hq => by rw [hXk q (by omega)]; exact MSt_x hMS q (by omega)) hSt hIt⟩, hXc, hOtb, hItb, hOq⟩ | exact ⟨Or.inr ⟨rfl, hnA, rfl, rfl, by rw [show mm = 0 by omega]; exact MSt_0 hMS.1⟩, hXc, hOc, hIc, hOq⟩), by rw [ht]; exact hP9, hD9⟩, hS.F ht⟩) hS.2.2 d_Mo_load_146
              · skip
                rw [bw_le_pn (by omega) (by omega)] at hc113
                refine lv_aload_n hx hb d_Mo_load_116 rfl (lv_at hl 2 rfl) ?_
                refine va_get (D := (dC, dI)) (ci := 5) (v := .ref mtx) (C := R_Mo) (T := F_Mo) (N := 13) hx hb htb in_Mo hown hK hP 0 rfl rfl 4 (by decide) (htb _ tw_365) (fun _ h9 => h9) rfl d_Mo_load_117 ?_
                refine lv_iload_n hx hb d_Mo_load_120 rfl (lv_at hl 0 rfl) ?_
                refine lv_aload_n hx hb d_Mo_load_121 rfl (lv_at hl 2 rfl) ?_
                refine va_get (D := (dC, dI)) (ci := 5) (v := .ref mol) (C := R_Mo) (T := F_Mo) (N := 13) hx hb htb in_Mo hown hK hP 0 rfl rfl 8 (by decide) (htb _ tw_369) (fun _ h9 => h9) rfl d_Mo_load_122 ?_
                refine lv_iload_n hx hb d_Mo_load_125 rfl (lv_at hl 0 rfl) ?_
                refine va_iald hx hb hK hP 5 0 rfl rfl (vp_in_nI (by omega) (by decide)) d_Mo_load_126 ?_
                rw [nI_clamp (by omega)]
                have hb126 := hOq k3
                rw [nA_at]
                refine va_iast hx hb hK hP hD hS 2 0 rfl rfl (vp_in_nI (by omega) (by decide)) d_Mo_load_127 (fun H locs hP hD hS => ?_)
                rw [nI_clamp (by omega)] at hP hD
                rw [nA_upd] at hP hD
                have hu1 : ∀ k_, (upN Xc k3 (Oq k3)) k_ < 125 := upN_lt hXc (by omega)
                have hP : va_P (dC, dI) cls_ [(mo, .inr (5, [.int (nI sp), .int (nI d), .ref mdr, .int (nI mm - 1), .ref mtx, .ref mod, .ref mia, .ref mus, .ref mol, .ref mle, .int (nI my), .ref mrw, .ref mls])), (mdr, .inl (ky, 97, .inl (nA Md))), (mtx, .inl (ky, 97, .inl (nA (upN Xc k3 (Oq k3))))), (mod, .inl (ky, 97, .inl (nA Oc))), (mia, .inl (ky, 97, .inl (nA Ic))), (mol, .inl (ky, 97, .inl (nA Oq)))] H := hP
                have hD : va_D A [(mo, .inr (5, [.int (nI sp), .int (nI d), .ref mdr, .int (nI mm - 1), .ref mtx, .ref mod, .ref mia, .ref mus, .ref mol, .ref mle, .int (nI my), .ref mrw, .ref mls])), (mdr, .inl (ky, 97, .inl (nA Md))), (mtx, .inl (ky, 97, .inl (nA (upN Xc k3 (Oq k3))))), (mod, .inl (ky, 97, .inl (nA Oc))), (mia, .inl (ky, 97, .inl (nA Ic))), (mol, .inl (ky, 97, .inl (nA Oq)))] := hD
                refine lv_iinc (v := nI (k3 + 1)) (k := 0) hx hb d_Mo_load_128 hl rfl (bw_inc k3 1) (by decide) rfl (fun ls hl => ?_)
                have hl : lv_has ls 4 [(3, .int (nI (k3 + 1))), (1, .int (nI mm - 1)), (0, .ref mo)] := hl
                refine lv_goto (tgt := 111) hx hb d_Mo_load_131 (by decide) ?_
                exact ih111 ((k3 + 1), (upN Xc k3 (Oq k3)), Oc, Ic) _ _ _ ⟨(by first | assumption | omega | (simp; done) | (simp_all; done)), (fun i hi => if e : i = k3 then (by rw [e, upN_s]; exact hOk k3 (by omega)) else (by rw [upN_o e]; exact hXk i (by omega))), (by assumption), (by first | assumption | omega | (simp; done) | (simp_all; done)), (by first | assumption | omega | (simp; done) | (simp_all; done)), hP, hD, hS, lv_sub hl [0, 1, 2] rfl⟩ (by first | omega | (simp only; omega) | (dsimp only; omega))
            · skip
              rw [← nI_0, bw_eq_nn (by omega) (by omega)] at hc94
              have hyA : Ac Dd d := (LdI_Ac hd0 hgg hSr hIs hD28 hld (by omega)).1 (by assumption)
              refine lv_aload_n hx hb d_Mo_load_97 rfl (lv_at hl 3 rfl) ?_
              refine lv_iconst (v := nI 0) hx hb d_Mo_load_98 (by decide) ?_
              refine va_put (D := (dC, dI)) (ci := 5) (v := .int (nI 0)) (ty := .int) (C := R_Mo) (T := F_Mo) (N := 13) hx hb htb in_Mo t_Mo tk_Mo nm_Mo hown hK hP hD hS 0 rfl rfl 1 (by decide) (htb _ tw_362) (fun _ h9 => h9) rfl (by decide +kernel) rfl rfl (Nat.le_of_ble_eq_true rfl) d_Mo_load_99 (fun H locs hP hD hS => ?_)
              have hP : va_P (dC, dI) cls_ [(mo, .inr (5, [.int (nI sp), .int (nI 0), .ref mdr, .int (nI d - 1), .ref mtx, .ref mod, .ref mia, .ref mus, .ref mol, .ref mle, .int (nI my), .ref mrw, .ref mls])), (mdr, .inl (ky, 97, .inl (nA Md))), (mtx, .inl (ky, 97, .inl (nA Xg))), (mod, .inl (ky, 97, .inl (nA Os))), (mia, .inl (ky, 97, .inl (nA Is))), (mol, .inl (ky, 97, .inl (nA Oq)))] H := hP
              have hD : va_D A [(mo, .inr (5, [.int (nI sp), .int (nI 0), .ref mdr, .int (nI d - 1), .ref mtx, .ref mod, .ref mia, .ref mus, .ref mol, .ref mle, .int (nI my), .ref mrw, .ref mls])), (mdr, .inl (ky, 97, .inl (nA Md))), (mtx, .inl (ky, 97, .inl (nA Xg))), (mod, .inl (ky, 97, .inl (nA Os))), (mia, .inl (ky, 97, .inl (nA Is))), (mol, .inl (ky, 97, .inl (nA Oq)))] := hD
              refine lv_iconst (v := nI 1) hx hb d_Mo_load_102 (by decide) ?_
              have hP9 := hP.sub (ws' := [(mo, .inr (5, [.int (nI sp), .int (nI 0), .ref mdr, .int (nI d - 1), .ref mtx, .ref mod, .ref mia, .ref mus, .ref mol, .ref mle, .int (nI my), .ref mrw, .ref mls])), (mdr, .inl (ky, 97, .inl (nA Md))), (mtx, .inl (ky, 97, .inl (nA Xg))), (mod, .inl (ky, 97, .inl (nA Os))), (mia, .inl (ky, 97, .inl (nA Is))), (mol, .inl (ky, 97, .inl (nA Oq)))]) [0, 1, 2, 3, 4, 5] rfl
              have hD9 := hD.sub (ws' := [(mo, .inr (5, [.int (nI sp), .int (nI 0), .ref mdr, .int (nI d - 1), .ref mtx, .ref mod, .ref mia, .ref mus, .ref mol, .ref mle, .int (nI my), .ref mrw, .ref mls])), (mdr, .inl (ky, 97, .inl (nA Md))), (mtx, .inl (ky, 97, .inl (nA Xg))), (mod, .inl (ky, 97, .inl (nA Os))), (mia, .inl (ky, 97, .inl (nA Is))), (mol, .inl (ky, 97, .inl (nA Oq)))]) [0, 1, 2, 3, 4, 5] (by decide) rfl
              exact W.zret (v := nI 1) hx hb hr (by first | rfl | decide) (fun t ht hW => ⟨⟨nI 1, (0, d, Xg, Os, Is, Oq), rfl, ⟨Or.inl ⟨rfl, hyA, rfl, rfl, MSt_mk' hd0 (txb_lt hD28 d) (txb_txt' hd0 hgg) hXg hSr hIs⟩, hXb, hOb, hIb, hOq⟩, by rw [ht]; exact hP9, hD9⟩, hS.F ht⟩) hS.2.2 d_Mo_load_103
          · skip
            rw [bw_le_nn (by omega) (by omega)] at hc59
            refine lv_iload_n hx hb d_Mo_load_62 rfl (lv_at hl 1 rfl) ?_
            refine lv_if_eq (tgt := 85) hx hb d_Mo_load_63 (by decide) (fun hc63 => ?_) (fun hc63 => ?_)
            · skip
              rw [← nI_0, bw_eq_nn (by omega) (by omega)] at hc63
              refine lv_iconst (v := nI 0) hx hb d_Mo_load_85 (by decide) ?_
              refine lv_istore_n hx hb d_Mo_load_86 rfl hl (by decide) rfl (fun ls hl => ?_)
              have hl : lv_has ls 4 [(2, .int (nI 0)), (3, .int (nI k2)), (1, .int (nI mm - 1)), (0, .ref mo)] := hl
              refine lv_iinc (v := nI (k2 + 1)) (k := 1) hx hb d_Mo_load_87 hl rfl (bw_inc k2 1) (by decide) rfl (fun ls hl => ?_)
              have hl : lv_has ls 4 [(3, .int (nI (k2 + 1))), (2, .int (nI 0)), (1, .int (nI mm - 1)), (0, .ref mo)] := hl
              refine lv_goto (tgt := 54) hx hb d_Mo_load_90 (by decide) ?_
              exact ih54 ((k2 + 1), 0) _ _ _ ⟨(by first | assumption | omega | (simp; done) | (simp_all; done)), (by first | exact LdI_z hld (by assumption) | exact LdI_n (by omega) (by assumption) | exact LdI_y hld (by assumption) (by assumption)), (by first | assumption | omega | (simp; done) | (simp_all; done)), hP, hD, hS, lv_sub hl [0, 1, 2, 3] rfl⟩ (by first | omega | (simp only; omega) | (dsimp only; omega))
            · skip
              rw [← nI_0, bw_eq_nn (by omega) (by omega)] at hc63
              refine lv_aload_n hx hb d_Mo_load_66 rfl (lv_at hl 3 rfl) ?_
              refine va_get (D := (dC, dI)) (ci := 5) (v := .ref mia) (C := R_Mo) (T := F_Mo) (N := 13) hx hb htb in_Mo hown hK hP 0 rfl rfl 6 (by decide) (htb _ tw_367) (fun _ h9 => h9) rfl d_Mo_load_67 ?_
              refine lv_iload_n hx hb d_Mo_load_70 rfl (lv_at hl 0 rfl) ?_
              refine va_iald hx hb hK hP 4 0 rfl rfl (vp_in_nI (by omega) (by decide)) d_Mo_load_71 ?_
              rw [nI_clamp (by omega)]
              have hb71 := hIb k2
              rw [nA_at]
              refine lv_aload_n hx hb d_Mo_load_72 rfl (lv_at hl 3 rfl) ?_
              refine va_get (D := (dC, dI)) (ci := 5) (v := .ref mdr) (C := R_Mo) (T := F_Mo) (N := 13) hx hb htb in_Mo hown hK hP 0 rfl rfl 2 (by decide) (htb _ tw_363) (fun _ h9 => h9) rfl d_Mo_load_73 ?_
              refine lv_iload_n hx hb d_Mo_load_76 rfl (lv_at hl 0 rfl) ?_
              have hcl := cod_lt (hD28 k2)
              refine va_iald hx hb hK hP 1 0 rfl rfl (vp_in_nI (by omega) (by decide)) d_Mo_load_77 ?_
              rw [nI_clamp (by omega)]
              have hb77 := hMd k2
              rw [nA_at]
              rw [show nI (Md k2) = nI (cod (Dd k2)) from (by rw [hMD k2 (by omega)])]
              refine lv_icmp_ne (tgt := 85) hx hb d_Mo_load_78 (by decide) (fun hc78 => ?_) (fun hc78 => ?_)
              · skip
                rw [bw_eq_nn (by omega) (by omega)] at hc78
                refine lv_iconst (v := nI 0) hx hb d_Mo_load_85 (by decide) ?_
                refine lv_istore_n hx hb d_Mo_load_86 rfl hl (by decide) rfl (fun ls hl => ?_)
                have hl : lv_has ls 4 [(2, .int (nI 0)), (3, .int (nI k2)), (1, .int (nI mm - 1)), (0, .ref mo)] := hl
                refine lv_iinc (v := nI (k2 + 1)) (k := 1) hx hb d_Mo_load_87 hl rfl (bw_inc k2 1) (by decide) rfl (fun ls hl => ?_)
                have hl : lv_has ls 4 [(3, .int (nI (k2 + 1))), (2, .int (nI 0)), (1, .int (nI mm - 1)), (0, .ref mo)] := hl
                refine lv_goto (tgt := 54) hx hb d_Mo_load_90 (by decide) ?_
                exact ih54 ((k2 + 1), 0) _ _ _ ⟨(by first | assumption | omega | (simp; done) | (simp_all; done)), (by first | exact LdI_z hld (by assumption) | exact LdI_n (by omega) (by assumption) | exact LdI_y hld (by assumption) (by assumption)), (by first | assumption | omega | (simp; done) | (simp_all; done)), hP, hD, hS, lv_sub hl [0, 1, 2, 3] rfl⟩ (by first | omega | (simp only; omega) | (dsimp only; omega))
              · skip
                rw [bw_eq_nn (by omega) (by omega)] at hc78
                refine lv_iconst (v := nI 1) hx hb d_Mo_load_81 (by decide) ?_
                refine lv_goto (tgt := 86) hx hb d_Mo_load_82 (by decide) ?_
                refine lv_istore_n hx hb d_Mo_load_86 rfl hl (by decide) rfl (fun ls hl => ?_)
                have hl : lv_has ls 4 [(2, .int (nI 1)), (3, .int (nI k2)), (1, .int (nI mm - 1)), (0, .ref mo)] := hl
                refine lv_iinc (v := nI (k2 + 1)) (k := 1) hx hb d_Mo_load_87 hl rfl (bw_inc k2 1) (by decide) rfl (fun ls hl => ?_)
                have hl : lv_has ls 4 [(3, .int (nI (k2 + 1))), (2, .int (nI 1)), (1, .int (nI mm - 1)), (0, .ref mo)] := hl
                refine lv_goto (tgt := 54) hx hb d_Mo_load_90 (by decide) ?_
                exact ih54 ((k2 + 1), 1) _ _ _ ⟨(by first | assumption | omega | (simp; done) | (simp_all; done)), (by first | exact LdI_z hld (by assumption) | exact LdI_n (by omega) (by assumption) | exact LdI_y hld (by assumption) (by assumption)), (by first | assumption | omega | (simp; done) | (simp_all; done)), hP, hD, hS, lv_sub hl [0, 1, 2, 3] rfl⟩ (by first | omega | (simp only; omega) | (dsimp only; omega))
      · skip
        refine lv_istore_n hx hb d_Mo_load_43 rfl hl (by decide) rfl (fun ls hl => ?_)
        have hl : lv_has ls 4 [(2, .int (nI 0)), (1, .int (nI mm - 1)), (0, .ref mo)] := hl
        refine lv_iload_n hx hb d_Mo_load_44 rfl (lv_at hl 0 rfl) ?_
        refine lv_if_eq (tgt := 93) hx hb d_Mo_load_45 (by decide) (fun hc45 => ?_) (fun hc45 => ?_)
        · skip
          rw [← nI_0, bw_eq_nn (by omega) (by omega)] at hc45
          refine lv_iload_n hx hb d_Mo_load_93 rfl (lv_at hl 0 rfl) ?_
          refine lv_if_eq (tgt := 104) hx hb d_Mo_load_94 (by decide) (fun hc94 => ?_) (fun hc94 => ?_)
          · skip
            rw [← nI_0, bw_eq_nn (by omega) (by omega)] at hc94
            have hnA : ¬ Ac Dd d := (by first | exact fun a => hgg (Ac_Gg a) | exact (LdI_Ac hd0 hgg hSr hIs hD28 hld (by omega)).2 (by assumption))
            refine lv_aload_n hx hb d_Mo_load_104 rfl (lv_at hl 2 rfl) ?_
            refine lv_iload_n hx hb d_Mo_load_105 rfl (lv_at hl 1 rfl) ?_
            refine va_put (D := (dC, dI)) (ci := 5) (v := .int (nI mm - 1)) (ty := .int) (C := R_Mo) (T := F_Mo) (N := 13) hx hb htb in_Mo t_Mo tk_Mo nm_Mo hown hK hP hD hS 3 rfl rfl 3 (by decide) (htb _ tw_364) (fun _ h9 => h9) rfl (by decide +kernel) rfl rfl (Nat.le_of_ble_eq_true rfl) d_Mo_load_106 (fun H locs hP hD hS => ?_)
            have hP : va_P (dC, dI) cls_ [(mod, .inl (ky, 97, .inl (nA Od))), (mia, .inl (ky, 97, .inl (nA Ia))), (mol, .inl (ky, 97, .inl (nA Oq))), (mo, .inr (5, [.int (nI sp), .int (nI d), .ref mdr, .int (nI mm - 1), .ref mtx, .ref mod, .ref mia, .ref mus, .ref mol, .ref mle, .int (nI my), .ref mrw, .ref mls])), (mdr, .inl (ky, 97, .inl (nA Md))), (mtx, .inl (ky, 97, .inl (nA Xg)))] H := hP
            have hD : va_D A [(mod, .inl (ky, 97, .inl (nA Od))), (mia, .inl (ky, 97, .inl (nA Ia))), (mol, .inl (ky, 97, .inl (nA Oq))), (mo, .inr (5, [.int (nI sp), .int (nI d), .ref mdr, .int (nI mm - 1), .ref mtx, .ref mod, .ref mia, .ref mus, .ref mol, .ref mle, .int (nI my), .ref mrw, .ref mls])), (mdr, .inl (ky, 97, .inl (nA Md))), (mtx, .inl (ky, 97, .inl (nA Xg)))] := hD
            refine lv_iconst (v := nI 0) hx hb d_Mo_load_109 (by decide) ?_
            refine lv_istore_n hx hb d_Mo_load_110 rfl hl (by decide) rfl (fun ls hl => ?_)
            have hl : lv_has ls 4 [(3, .int (nI 0)), (2, .int (nI 0)), (1, .int (nI mm - 1)), (0, .ref mo)] := hl
            refine wl_loop (σ := Nat × (Nat → Nat) × (Nat → Nat) × (Nat → Nat)) 111 [] (fun (a_ : Nat × (Nat → Nat) × (Nat → Nat) × (Nat → Nat)) => match a_ with | (k3, Xc, Oc, Ic) => mm - k3) (fun (a_ : Nat × (Nat → Nat) × (Nat → Nat) × (Nat → Nat)) (H : Heap) (locs : List Loc) (ls : Array Slot) => match a_ with | (k3, Xc, Oc, Ic) => (k3 = 0 ∨ k3 + 1 ≤ mm) ∧ (∀ i, i < k3 → Xc i = Mx i) ∧ (∀ k_, Xc k_ < 125) ∧ (∀ k_, Oc k_ < 97) ∧ (∀ k_, Ic k_ < 125) ∧ va_P (dC, dI) cls_ [(mo, .inr (5, [.int (nI sp), .int (nI d), .ref mdr, .int (nI mm - 1), .ref mtx, .ref mod, .ref mia, .ref mus, .ref mol, .ref mle, .int (nI my), .ref mrw, .ref mls])), (mdr, .inl (ky, 97, .inl (nA Md))), (mtx, .inl (ky, 97, .inl (nA Xc))), (mod, .inl (ky, 97, .inl (nA Oc))), (mia, .inl (ky, 97, .inl (nA Ic))), (mol, .inl (ky, 97, .inl (nA Oq)))] H ∧ va_D A [(mo, .inr (5, [.int (nI sp), .int (nI d), .ref mdr, .int (nI mm - 1), .ref mtx, .ref mod, .ref mia, .ref mus, .ref mol, .ref mle, .int (nI my), .ref mrw, .ref mls])), (mdr, .inl (ky, 97, .inl (nA Md))), (mtx, .inl (ky, 97, .inl (nA Xc))), (mod, .inl (ky, 97, .inl (nA Oc))), (mia, .inl (ky, 97, .inl (nA Ic))), (mol, .inl (ky, 97, .inl (nA Oq)))] ∧ va_S A s.heap H locs ∧ lv_has ls 4 [(3, .int (nI k3)), (1, .int (nI mm - 1)), (0, .ref mo)]) ?_ (0, Xg, Od, Ia) ⟨(by first | assumption | omega | (simp; done) | (simp_all; done)), (fun i hi => by omega), (by assumption), (by assumption), (by assumption), (hP.sub [3, 4, 5, 0, 1, 2] rfl), (hD.sub [3, 4, 5, 0, 1, 2] (by decide) rfl), hS, lv_sub hl [0, 2, 3] rfl⟩
            clear hP hD hS hl
            intro a_ H locs ls hI ih111
            obtain ⟨k3, Xc, Oc, Ic⟩ := a_
            obtain ⟨hk3, hXk, hXc, hOc, hIc, hP, hD, hS, hl⟩ := hI
            have hl : lv_has ls 4 [(3, .int (nI k3)), (1, .int (nI mm - 1)), (0, .ref mo)] := hl
            have hP : va_P (dC, dI) cls_ [(mo, .inr (5, [.int (nI sp), .int (nI d), .ref mdr, .int (nI mm - 1), .ref mtx, .ref mod, .ref mia, .ref mus, .ref mol, .ref mle, .int (nI my), .ref mrw, .ref mls])), (mdr, .inl (ky, 97, .inl (nA Md))), (mtx, .inl (ky, 97, .inl (nA Xc))), (mod, .inl (ky, 97, .inl (nA Oc))), (mia, .inl (ky, 97, .inl (nA Ic))), (mol, .inl (ky, 97, .inl (nA Oq)))] H := hP
            have hD : va_D A [(mo, .inr (5, [.int (nI sp), .int (nI d), .ref mdr, .int (nI mm - 1), .ref mtx, .ref mod, .ref mia, .ref mus, .ref mol, .ref mle, .int (nI my), .ref mrw, .ref mls])), (mdr, .inl (ky, 97, .inl (nA Md))), (mtx, .inl (ky, 97, .inl (nA Xc))), (mod, .inl (ky, 97, .inl (nA Oc))), (mia, .inl (ky, 97, .inl (nA Ic))), (mol, .inl (ky, 97, .inl (nA Oq)))] := hD
            have hk3 : k3 = 0 ∨ k3 + 1 ≤ mm := hk3
            have hXk : ∀ i, i < k3 → Xc i = Mx i := hXk
            have hXc : ∀ k_, Xc k_ < 125 := hXc
            have hOc : ∀ k_, Oc k_ < 97 := hOc
            have hIc : ∀ k_, Ic k_ < 125 := hIc
            refine lv_iload_n hx hb d_Mo_load_111 rfl (lv_at hl 0 rfl) ?_
            refine lv_iload_n hx hb d_Mo_load_112 rfl (lv_at hl 1 rfl) ?_
            refine lv_icmp_ge (tgt := 134) hx hb d_Mo_load_113 (by decide) (fun hc113 => ?_) (fun hc113 => ?_)
            · skip
              rw [bw_le_pn (by omega) (by omega)] at hc113
              refine lv_aload_n hx hb d_Mo_load_134 rfl (lv_at hl 2 rfl) ?_
              refine va_get (D := (dC, dI)) (ci := 5) (v := .int (nI mm - 1)) (C := R_Mo) (T := F_Mo) (N := 13) hx hb htb in_Mo hown hK hP 0 rfl rfl 3 (by decide) (htb _ tw_364) (fun _ h9 => h9) rfl d_Mo_load_135 ?_
              refine lv_if_lt (tgt := 145) hx hb d_Mo_load_138 (by decide) (fun hc138 => ?_) (fun hc138 => ?_)
              · skip
                rw [← nI_0, bw_lt_pn (by omega) (by omega)] at hc138
                refine lv_iconst (v := nI 0) hx hb d_Mo_load_145 (by decide) ?_
                have hP9 := hP.sub (ws' := [(mo, .inr (5, [.int (nI sp), .int (nI d), .ref mdr, .int (nI mm - 1), .ref mtx, .ref mod, .ref mia, .ref mus, .ref mol, .ref mle, .int (nI my), .ref mrw, .ref mls])), (mdr, .inl (ky, 97, .inl (nA Md))), (mtx, .inl (ky, 97, .inl (nA Xc))), (mod, .inl (ky, 97, .inl (nA Oc))), (mia, .inl (ky, 97, .inl (nA Ic))), (mol, .inl (ky, 97, .inl (nA Oq)))]) [0, 1, 2, 3, 4, 5] rfl
                have hD9 := hD.sub (ws' := [(mo, .inr (5, [.int (nI sp), .int (nI d), .ref mdr, .int (nI mm - 1), .ref mtx, .ref mod, .ref mia, .ref mus, .ref mol, .ref mle, .int (nI my), .ref mrw, .ref mls])), (mdr, .inl (ky, 97, .inl (nA Md))), (mtx, .inl (ky, 97, .inl (nA Xc))), (mod, .inl (ky, 97, .inl (nA Oc))), (mia, .inl (ky, 97, .inl (nA Ic))), (mol, .inl (ky, 97, .inl (nA Oq)))]) [0, 1, 2, 3, 4, 5] (by decide) rfl
                exact W.zret (v := nI 0) hx hb hr (by first | rfl | decide) (fun t ht hW => ⟨⟨nI 0, (d, mm, Xc, Oc, Ic, Oq), rfl, (by first | exact ⟨Or.inr ⟨rfl, hnA, rfl, rfl, MSt_mk' (by omega) hMS.1 (MSt_t hMS _ (by omega)) (fun q hq => by rw [hXk q (by omega)]; exact MSt_x hMS q (by omega)) hSt hIt⟩, hXc, hOtb, hItb, hOq⟩ | exact ⟨Or.inr ⟨rfl, hnA, rfl, rfl, by rw [show mm = 0 by omega]; exact MSt_0 hMS.1⟩, hXc, hOc, hIc, hOq⟩), by rw [ht]; exact hP9, hD9⟩, hS.F ht⟩) hS.2.2 d_Mo_load_146
              · skip
                rw [← nI_0, bw_lt_pn (by omega) (by omega)] at hc138
                rw [bw_pn (show 0 < mm by omega)] at hl
                have hl : lv_has ls 4 [(3, .int (nI k3)), (1, .int (nI (mm - 1))), (0, .ref mo)] := hl
                refine lv_aload_n hx hb d_Mo_load_141 rfl (lv_at hl 2 rfl) ?_
                have hPc := hP.sub (ws' := [(mo, .inr (5, [.int (nI sp), .int (nI d), .ref mdr, .int (nI mm - 1), .ref mtx, .ref mod, .ref mia, .ref mus, .ref mol, .ref mle, .int (nI my), .ref mrw, .ref mls])), (mtx, .inl (ky, 97, .inl (nA Xc))), (mod, .inl (ky, 97, .inl (nA Oc))), (mia, .inl (ky, 97, .inl (nA Ic)))]) [0, 2, 3, 4] rfl
                have hDc := hD.sub (ws' := [(mo, .inr (5, [.int (nI sp), .int (nI d), .ref mdr, .int (nI mm - 1), .ref mtx, .ref mod, .ref mia, .ref mus, .ref mol, .ref mle, .int (nI my), .ref mrw, .ref mls])), (mtx, .inl (ky, 97, .inl (nA Xc))), (mod, .inl (ky, 97, .inl (nA Oc))), (mia, .inl (ky, 97, .inl (nA Ic)))]) [0, 2, 3, 4] (by decide) rfl
                have hFc := va_free (wc := [(mo, .inr (5, [.int (nI sp), .int (nI d), .ref mdr, .int (nI mm - 1), .ref mtx, .ref mod, .ref mia, .ref mus, .ref mol, .ref mle, .int (nI my), .ref mrw, .ref mls])), (mtx, .inl (ky, 97, .inl (nA Xc))), (mod, .inl (ky, 97, .inl (nA Oc))), (mia, .inl (ky, 97, .inl (nA Ic)))]) hD hS hA [0, 2, 3, 4] rfl
                refine va_callv (va_runV (C := "SelfIndexedSequencesModel") (As := []) (rest := []) ⟨hx, hb, hml, hown, hts⟩ (c_Mo_sort l dC dI ky H.size mo sp d mdr mm mtx mod mia mus mol mle my mrw mls Xc Oc Ic T (mm - 1) hXc hOc hIc (by omega) (by first | assumption | omega | (simp; done) | (simp_all; done)) (MSt_t hMS _ (by omega)) hMS.1 (fun q hq => by rw [hXk q (by omega)]; exact MSt_x hMS q (by omega))) ⟨callB_of 0 hts (W0_good tw_427) rfl rfl rfl (htb _ tw_28) (htb _ tw_424) ⟨by decide, by decide, by decide +kernel⟩ ⟨(Nat.le_of_ble_eq_true rfl), (Nat.le_of_ble_eq_true rfl)⟩, htb _ tw_426, htb _ tw_9⟩ ⟨fun a U g mk q => by obtain ⟨q0, q1, qP, qK, qD⟩ := q; exact ⟨q0, q1, qP, va_K.moved (u := U) (U := U.calling g mk a) (Vm.Alike.refl U.vm) qK, qD⟩, va_recv hK hPc (q0 := 0) (q := (R_Mo, F_Mo, 13)) rfl rfl, fun U hU hW => ⟨rfl, by rw [hU], by rw [hU]; exact hPc, va_K.moved hW.alike hK, hDc.weaken (fun _ _ _ _ => trivial)⟩⟩ rfl rfl hl.1 rfl (lv_room (Nat.le_of_ble_eq_true rfl)) d_Mo_load_142 ⟨(Nat.le_of_ble_eq_true rfl), (Nat.le_of_ble_eq_true rfl)⟩) hS (fun q _ h => hFc q h) hFc (fun u_ t H locs ht hvm hw142 hB hz1 hk1 hS => ?_)
                obtain ⟨Ot, It⟩ := u_
                obtain ⟨hP1, hD1⟩ := hB
                rw [ht] at hP1
                obtain ⟨hP, hD⟩ := va_join (wr := [(mdr, .inl (ky, 97, .inl (nA Md))), (mol, .inl (ky, 97, .inl (nA Oq)))]) (w1 := [(mo, .inr (5, [.int (nI sp), .int (nI d), .ref mdr, .int (nI mm - 1), .ref mtx, .ref mod, .ref mia, .ref mus, .ref mol, .ref mle, .int (nI my), .ref mrw, .ref mls])), (mtx, .inl (ky, 97, .inl (nA Xc))), (mod, .inl (ky, 97, .inl (nA Ot))), (mia, .inl (ky, 97, .inl (nA It)))]) hP hD [0, 2, 3, 4] [1, 5] rfl rfl (by decide) (by decide) hk1 hFc hP1 hD1
                have hP : va_P (dC, dI) cls_ [(mdr, .inl (ky, 97, .inl (nA Md))), (mol, .inl (ky, 97, .inl (nA Oq))), (mo, .inr (5, [.int (nI sp), .int (nI d), .ref mdr, .int (nI mm - 1), .ref mtx, .ref mod, .ref mia, .ref mus, .ref mol, .ref mle, .int (nI my), .ref mrw, .ref mls])), (mtx, .inl (ky, 97, .inl (nA Xc))), (mod, .inl (ky, 97, .inl (nA Ot))), (mia, .inl (ky, 97, .inl (nA It)))] H := hP
                have hD : va_D A [(mdr, .inl (ky, 97, .inl (nA Md))), (mol, .inl (ky, 97, .inl (nA Oq))), (mo, .inr (5, [.int (nI sp), .int (nI d), .ref mdr, .int (nI mm - 1), .ref mtx, .ref mod, .ref mia, .ref mus, .ref mol, .ref mle, .int (nI my), .ref mrw, .ref mls])), (mtx, .inl (ky, 97, .inl (nA Xc))), (mod, .inl (ky, 97, .inl (nA Ot))), (mia, .inl (ky, 97, .inl (nA It)))] := hD
                have hq142 : (∃ R, Srt T (mm - 1) Ot R) ∧ (∀ j, j < (mm - 1) + 1 → It j = cod (T (prv (mm - 1) (Ot j)))) ∧ (∀ k_, Ot k_ < 97) ∧ (∀ k_, It k_ < 125) := hw142
                obtain ⟨hSt, hIt, hOtb, hItb⟩ := hq142
                refine lv_iconst (v := nI 0) hx hb d_Mo_load_145 (by decide) ?_
                have hP9 := hP.sub (ws' := [(mo, .inr (5, [.int (nI sp), .int (nI d), .ref mdr, .int (nI mm - 1), .ref mtx, .ref mod, .ref mia, .ref mus, .ref mol, .ref mle, .int (nI my), .ref mrw, .ref mls])), (mdr, .inl (ky, 97, .inl (nA Md))), (mtx, .inl (ky, 97, .inl (nA Xc))), (mod, .inl (ky, 97, .inl (nA Ot))), (mia, .inl (ky, 97, .inl (nA It))), (mol, .inl (ky, 97, .inl (nA Oq)))]) [2, 0, 3, 4, 5, 1] rfl
                have hD9 := hD.sub (ws' := [(mo, .inr (5, [.int (nI sp), .int (nI d), .ref mdr, .int (nI mm - 1), .ref mtx, .ref mod, .ref mia, .ref mus, .ref mol, .ref mle, .int (nI my), .ref mrw, .ref mls])), (mdr, .inl (ky, 97, .inl (nA Md))), (mtx, .inl (ky, 97, .inl (nA Xc))), (mod, .inl (ky, 97, .inl (nA Ot))), (mia, .inl (ky, 97, .inl (nA It))), (mol, .inl (ky, 97, .inl (nA Oq)))]) [2, 0, 3, 4, 5, 1] (by decide) rfl
                exact W.zret (v := nI 0) hx hb hr (by first | rfl | decide) (fun t ht hW => ⟨⟨nI 0, (d, mm, Xc, Ot, It, Oq), rfl, (by first | exact ⟨Or.inr ⟨rfl, hnA, rfl, rfl, MSt_mk' (by omega) hMS.1 (MSt_t hMS _ (by omega)) (fun q hq => by rw [hXk q (by omega)]; exact MSt_x hMS q (by omega)) hSt hIt⟩, hXc, hOtb, hItb, hOq⟩ | exact ⟨Or.inr ⟨rfl, hnA, rfl, rfl, by rw [show mm = 0 by omega]; exact MSt_0 hMS.1⟩, hXc, hOc, hIc, hOq⟩), by rw [ht]; exact hP9, hD9⟩, hS.F ht⟩) hS.2.2 d_Mo_load_146
            · skip
              rw [bw_le_pn (by omega) (by omega)] at hc113
              refine lv_aload_n hx hb d_Mo_load_116 rfl (lv_at hl 2 rfl) ?_
              refine va_get (D := (dC, dI)) (ci := 5) (v := .ref mtx) (C := R_Mo) (T := F_Mo) (N := 13) hx hb htb in_Mo hown hK hP 0 rfl rfl 4 (by decide) (htb _ tw_365) (fun _ h9 => h9) rfl d_Mo_load_117 ?_
              refine lv_iload_n hx hb d_Mo_load_120 rfl (lv_at hl 0 rfl) ?_
              refine lv_aload_n hx hb d_Mo_load_121 rfl (lv_at hl 2 rfl) ?_
              refine va_get (D := (dC, dI)) (ci := 5) (v := .ref mol) (C := R_Mo) (T := F_Mo) (N := 13) hx hb htb in_Mo hown hK hP 0 rfl rfl 8 (by decide) (htb _ tw_369) (fun _ h9 => h9) rfl d_Mo_load_122 ?_
              refine lv_iload_n hx hb d_Mo_load_125 rfl (lv_at hl 0 rfl) ?_
              refine va_iald hx hb hK hP 5 0 rfl rfl (vp_in_nI (by omega) (by decide)) d_Mo_load_126 ?_
              rw [nI_clamp (by omega)]
              have hb126 := hOq k3
              rw [nA_at]
              refine va_iast hx hb hK hP hD hS 2 0 rfl rfl (vp_in_nI (by omega) (by decide)) d_Mo_load_127 (fun H locs hP hD hS => ?_)
              rw [nI_clamp (by omega)] at hP hD
              rw [nA_upd] at hP hD
              have hu2 : ∀ k_, (upN Xc k3 (Oq k3)) k_ < 125 := upN_lt hXc (by omega)
              have hP : va_P (dC, dI) cls_ [(mo, .inr (5, [.int (nI sp), .int (nI d), .ref mdr, .int (nI mm - 1), .ref mtx, .ref mod, .ref mia, .ref mus, .ref mol, .ref mle, .int (nI my), .ref mrw, .ref mls])), (mdr, .inl (ky, 97, .inl (nA Md))), (mtx, .inl (ky, 97, .inl (nA (upN Xc k3 (Oq k3))))), (mod, .inl (ky, 97, .inl (nA Oc))), (mia, .inl (ky, 97, .inl (nA Ic))), (mol, .inl (ky, 97, .inl (nA Oq)))] H := hP
              have hD : va_D A [(mo, .inr (5, [.int (nI sp), .int (nI d), .ref mdr, .int (nI mm - 1), .ref mtx, .ref mod, .ref mia, .ref mus, .ref mol, .ref mle, .int (nI my), .ref mrw, .ref mls])), (mdr, .inl (ky, 97, .inl (nA Md))), (mtx, .inl (ky, 97, .inl (nA (upN Xc k3 (Oq k3))))), (mod, .inl (ky, 97, .inl (nA Oc))), (mia, .inl (ky, 97, .inl (nA Ic))), (mol, .inl (ky, 97, .inl (nA Oq)))] := hD
              refine lv_iinc (v := nI (k3 + 1)) (k := 0) hx hb d_Mo_load_128 hl rfl (bw_inc k3 1) (by decide) rfl (fun ls hl => ?_)
              have hl : lv_has ls 4 [(3, .int (nI (k3 + 1))), (1, .int (nI mm - 1)), (0, .ref mo)] := hl
              refine lv_goto (tgt := 111) hx hb d_Mo_load_131 (by decide) ?_
              exact ih111 ((k3 + 1), (upN Xc k3 (Oq k3)), Oc, Ic) _ _ _ ⟨(by first | assumption | omega | (simp; done) | (simp_all; done)), (fun i hi => if e : i = k3 then (by rw [e, upN_s]; exact hOk k3 (by omega)) else (by rw [upN_o e]; exact hXk i (by omega))), (by assumption), (by first | assumption | omega | (simp; done) | (simp_all; done)), (by first | assumption | omega | (simp; done) | (simp_all; done)), hP, hD, hS, lv_sub hl [0, 1, 2] rfl⟩ (by first | omega | (simp only; omega) | (dsimp only; omega))
          · exact absurd hc94 (by decide)
        · exact absurd hc45 (by decide)
    · skip
      rw [bw_le_pn (by omega) (by omega)] at hc18
      refine lv_aload_n hx hb d_Mo_load_21 rfl (lv_at hl 2 rfl) ?_
      refine va_get (D := (dC, dI)) (ci := 5) (v := .ref mol) (C := R_Mo) (T := F_Mo) (N := 13) hx hb htb in_Mo hown hK hP 0 rfl rfl 8 (by decide) (htb _ tw_369) (fun _ h9 => h9) rfl d_Mo_load_22 ?_
      refine lv_iload_n hx hb d_Mo_load_25 rfl (lv_at hl 0 rfl) ?_
      refine lv_aload_n hx hb d_Mo_load_26 rfl (lv_at hl 2 rfl) ?_
      refine va_get (D := (dC, dI)) (ci := 5) (v := .ref mtx) (C := R_Mo) (T := F_Mo) (N := 13) hx hb htb in_Mo hown hK hP 0 rfl rfl 4 (by decide) (htb _ tw_365) (fun _ h9 => h9) rfl d_Mo_load_27 ?_
      refine lv_iload_n hx hb d_Mo_load_30 rfl (lv_at hl 0 rfl) ?_
      refine va_iald hx hb hK hP 2 0 rfl rfl (vp_in_nI (by omega) (by decide)) d_Mo_load_31 ?_
      rw [nI_clamp (by omega)]
      have hb31 := hMx k
      rw [nA_at]
      refine va_iast hx hb hK hP hD hS 5 0 rfl rfl (vp_in_nI (by omega) (by decide)) d_Mo_load_32 (fun H locs hP hD hS => ?_)
      rw [nI_clamp (by omega)] at hP hD
      rw [nA_upd] at hP hD
      have hu3 : ∀ k_, (upN Oq k (Mx k)) k_ < 125 := upN_lt hOq (by omega)
      have hP : va_P (dC, dI) cls_ [(mo, .inr (5, [.int (nI sp), .int (nI d), .ref mdr, .int (nI mm - 1), .ref mtx, .ref mod, .ref mia, .ref mus, .ref mol, .ref mle, .int (nI my), .ref mrw, .ref mls])), (mdr, .inl (ky, 97, .inl (nA Md))), (mtx, .inl (ky, 97, .inl (nA Mx))), (mod, .inl (ky, 97, .inl (nA Od))), (mia, .inl (ky, 97, .inl (nA Ia))), (mol, .inl (ky, 97, .inl (nA (upN Oq k (Mx k)))))] H := hP
      have hD : va_D A [(mo, .inr (5, [.int (nI sp), .int (nI d), .ref mdr, .int (nI mm - 1), .ref mtx, .ref mod, .ref mia, .ref mus, .ref mol, .ref mle, .int (nI my), .ref mrw, .ref mls])), (mdr, .inl (ky, 97, .inl (nA Md))), (mtx, .inl (ky, 97, .inl (nA Mx))), (mod, .inl (ky, 97, .inl (nA Od))), (mia, .inl (ky, 97, .inl (nA Ia))), (mol, .inl (ky, 97, .inl (nA (upN Oq k (Mx k)))))] := hD
      refine lv_iinc (v := nI (k + 1)) (k := 0) hx hb d_Mo_load_33 hl rfl (bw_inc k 1) (by decide) rfl (fun ls hl => ?_)
      have hl : lv_has ls 4 [(2, .int (nI (k + 1))), (1, .int (nI mm - 1)), (0, .ref mo)] := hl
      refine lv_goto (tgt := 16) hx hb d_Mo_load_36 (by decide) ?_
      exact ih16 ((k + 1), (upN Oq k (Mx k))) _ _ _ ⟨(by first | assumption | omega | (simp; done) | (simp_all; done)), (fun i hi => if e : i = k then (by rw [e, upN_s]) else (by rw [upN_o e]; exact hOk i (by omega))), (by assumption), hP, hD, hS, lv_sub hl [0, 1, 2] rfl⟩ (by first | omega | (simp only; omega) | (dsimp only; omega))
  · skip
    rw [← nI_0, bw_eq_nn (by omega) (by omega)] at hc4
    refine lv_iconst (v := nI 0) hx hb d_Mo_load_7 (by decide) ?_
    have hP9 := hP.sub (ws' := [(mo, .inr (5, [.int (nI sp), .int (nI d), .ref mdr, .int (nI mm - 1), .ref mtx, .ref mod, .ref mia, .ref mus, .ref mol, .ref mle, .int (nI my), .ref mrw, .ref mls])), (mdr, .inl (ky, 97, .inl (nA Md))), (mtx, .inl (ky, 97, .inl (nA Mx))), (mod, .inl (ky, 97, .inl (nA Od))), (mia, .inl (ky, 97, .inl (nA Ia))), (mol, .inl (ky, 97, .inl (nA Ol)))]) [0, 1, 2, 3, 4, 5] rfl
    have hD9 := hD.sub (ws' := [(mo, .inr (5, [.int (nI sp), .int (nI d), .ref mdr, .int (nI mm - 1), .ref mtx, .ref mod, .ref mia, .ref mus, .ref mol, .ref mle, .int (nI my), .ref mrw, .ref mls])), (mdr, .inl (ky, 97, .inl (nA Md))), (mtx, .inl (ky, 97, .inl (nA Mx))), (mod, .inl (ky, 97, .inl (nA Od))), (mia, .inl (ky, 97, .inl (nA Ia))), (mol, .inl (ky, 97, .inl (nA Ol)))]) [0, 1, 2, 3, 4, 5] (by decide) rfl
    exact W.zret (v := nI 0) hx hb hr (by first | rfl | decide) (fun t ht hW => ⟨⟨nI 0, (d, mm, Mx, Od, Ia, Ol), rfl, ⟨Or.inr ⟨rfl, by rw [show d = 0 by omega]; exact Ac_0 Dd, rfl, rfl, hMS⟩, hMx, hOd, hIa, hOl⟩, by rw [ht]; exact hP9, hD9⟩, hS.F ht⟩) hS.2.2 d_Mo_load_8

set_option maxHeartbeats 4000000 in
set_option maxRecDepth 100000 in
theorem c_Mo_init (l : Launch) (dC : Nat → ClassId) (dI : Nat → Nat → Nat) (ky : ClassId) (sz : Nat) (mo : Nat) (xs : Int32) : Met l y_Mo_init (Cond.code y_Mo_init prog_7_method_1_code 2 none :: W0) ({ frames := 1, cells := 9, slots := 696, locals := 20 }) (va_Pc [.ref mo, .int (xs)] (fun U => U.heap.size = sz ∧ va_P (dC, dI) cls_ [(mo, .inr (5, [.int (nI 0), .int (nI 0), .null, .int (nI 0), .null, .null, .null, .null, .null, .null, .int (nI 0), .null, .null]))] U.heap ∧ va_K (dC, dI) cls_ [(ky, .int)] U ∧ va_D (fun _ => True) [(mo, .inr (5, [.int (nI 0), .int (nI 0), .null, .int (nI 0), .null, .null, .null, .null, .null, .null, .int (nI 0), .null, .null]))])) (va_Qv (fun (u : (Nat) × (Nat) × (Nat) × (Nat) × (Nat) × (Nat) × (Nat) × (Nat) × (Nat) × (Nat)) => match u with | (sp, mdr, mtx, mod, mia, mus, mol, mle, mrw, mls) => SpR xs sp) (fun (u : (Nat) × (Nat) × (Nat) × (Nat) × (Nat) × (Nat) × (Nat) × (Nat) × (Nat) × (Nat)) (t : State) => match u with | (sp, mdr, mtx, mod, mia, mus, mol, mle, mrw, mls) => va_P (dC, dI) cls_ [(mo, .inr (5, [.int (nI sp), .int (nI 0), .ref mdr, .int (nI 0 - 1), .ref mtx, .ref mod, .ref mia, .ref mus, .ref mol, .ref mle, .int (nI 0), .ref mrw, .ref mls])), (mdr, .inl (ky, 97, .inl (nA (fun _ => 0)))), (mtx, .inl (ky, 97, .inl (nA (fun _ => 0)))), (mod, .inl (ky, 97, .inl (nA (fun _ => 0)))), (mia, .inl (ky, 97, .inl (nA (fun _ => 0)))), (mol, .inl (ky, 97, .inl (nA (fun _ => 0)))), (mle, .inl (ky, 8, .inl (nA (fun _ => 0)))), (mrw, .inl (ky, 9, .inl (nA (fun _ => 0)))), (mls, .inl (ky, 97, .inl (nA (fun _ => 0))))] t.heap ∧ va_D (va_A [(mo, .inr (5, [.int (nI 0), .int (nI 0), .null, .int (nI 0), .null, .null, .null, .null, .null, .null, .int (nI 0), .null, .null]))] sz) [(mo, .inr (5, [.int (nI sp), .int (nI 0), .ref mdr, .int (nI 0 - 1), .ref mtx, .ref mod, .ref mia, .ref mus, .ref mol, .ref mle, .int (nI 0), .ref mrw, .ref mls])), (mdr, .inl (ky, 97, .inl (nA (fun _ => 0)))), (mtx, .inl (ky, 97, .inl (nA (fun _ => 0)))), (mod, .inl (ky, 97, .inl (nA (fun _ => 0)))), (mia, .inl (ky, 97, .inl (nA (fun _ => 0)))), (mol, .inl (ky, 97, .inl (nA (fun _ => 0)))), (mle, .inl (ky, 8, .inl (nA (fun _ => 0)))), (mrw, .inl (ky, 9, .inl (nA (fun _ => 0)))), (mls, .inl (ky, 97, .inl (nA (fun _ => 0))))]) (va_A [(mo, .inr (5, [.int (nI 0), .int (nI 0), .null, .int (nI 0), .null, .null, .null, .null, .null, .null, .int (nI 0), .null, .null]))] sz)) 9 696 (va_A [(mo, .inr (5, [.int (nI 0), .int (nI 0), .null, .int (nI 0), .null, .null, .null, .null, .null, .null, .int (nI 0), .null, .null]))] sz) := by
  refine Met.ofW (cc := prog_7_method_1_code) (maxL := 2) (ret := none) (by decide) rfl ?_
  intro p e s m args below meth c s₁ B hml hv
  obtain ⟨rfl, hsz, hP, hK, hD0⟩ := hv
  have hx := B.exec
  have hb := B.bytes
  have hr := B.returns
  have hlocks := B.notSynchronized
  have hts := atoms_spec (ws := (Cond.code y_Mo_init prog_7_method_1_code 2 none :: W0)) B.pre
  have htb : ∀ w ∈ W0, w.before _ s = true := fun w h => hts w (List.mem_cons_of_mem _ h)
  have hown : s.vm.findClass "SelfIndexedSequencesModel" = some m.cls := findClass_of_methodNamed B.named
  have hin : meth.name = "<init>" := (name_of_methodNamed B.named B.method).1
  subst hsz
  have hD := hD0.self (sz := s.heap.size)
  generalize hAe : va_A [(mo, .inr (5, [.int (nI 0), .int (nI 0), .null, .int (nI 0), .null, .null, .null, .null, .null, .null, .int (nI 0), .null, .null]))] s.heap.size = A at hD ⊢
  have hA : ∀ q : Nat, s.heap.size ≤ q → A q := fun q h => by rw [← hAe]; exact Or.inr h
  have hS : va_S A s.heap s.heap [] := va_S.rf
  have hl := lv_entry ([.ref mo, .int (xs)]) (n := 2) (Nat.le_of_ble_eq_true rfl)
  rw [lg_entry_eq]
  generalize (lg_sl ([.ref mo, .int (xs)]) ++ List.replicate (2 - (lg_sl ([.ref mo, .int (xs)])).length) Slot.unset).toArray = ls at hl ⊢
  have hl : lv_has ls 2 [(0, .ref mo), (1, .int (xs))] := hl
  refine lv_aload_n hx hb d_Mo_init_0 rfl (lv_at hl 0 rfl) ?_
  refine W.objInit hx hb hown (htb _ tw_360) (htb _ tw_38) (htb _ tw_39) rfl (by rw [hml]; exact hl.1) rfl d_Mo_init_1 (Nat.le_of_ble_eq_true rfl) (Nat.le_of_ble_eq_true rfl) ?_
  refine W.eq (g2 := F0 m 4 ls []) rfl ?_
  refine lv_aload_n hx hb d_Mo_init_4 rfl (lv_at hl 0 rfl) ?_
  refine lv_bipush (v := nI 97) hx hb d_Mo_init_5 (by decide) ?_
  refine va_newa (atype := .int) (ty := .int) (N' := 97) (a0 := (97, .inl (nA (fun _ => 0)))) hx hb (htb _ tw_72) rfl hK hP hD hS hA (fun _ => rfl) (nI_pos (by decide)) (nI_clamp (by decide)) (by decide) (Nat.le_of_ble_eq_true rfl) (Nat.le_of_ble_eq_true rfl) d_Mo_init_7 (fun q7 k7 H hK1 hP hD hS => ?_)
  have hky : k7 = ky := Option.some.inj ((hK1.2 1 _ rfl).2.symm.trans (hK1.2 0 _ rfl).2)
  rw [hky] at hP hD
  have hP : va_P (dC, dI) cls_ [(mo, .inr (5, [.int (nI 0), .int (nI 0), .null, .int (nI 0), .null, .null, .null, .null, .null, .null, .int (nI 0), .null, .null])), (q7, .inl (ky, 97, .inl (nA (fun _ => 0))))] H := hP
  have hD : va_D A [(mo, .inr (5, [.int (nI 0), .int (nI 0), .null, .int (nI 0), .null, .null, .null, .null, .null, .null, .int (nI 0), .null, .null])), (q7, .inl (ky, 97, .inl (nA (fun _ => 0))))] := hD
  refine W.widen (k := 1) (n := 97) (by decide) (by decide) ?_
  refine va_putF (D := (dC, dI)) (ci := 5) (v := .ref q7) (ty := (.array .int)) (C := R_Mo) (T := F_Mo) (N := 13) hx hb htb in_Mo t_Mo tk_Mo nm_Mo hown hK hP hD hS 0 rfl rfl 2 (by decide) (htb _ tw_363) (fun _ h9 => h9) rfl hin rfl (by decide +kernel) rfl rfl (Nat.le_of_ble_eq_true rfl) d_Mo_init_9 (fun H locs hP hD hS => ?_)
  have hP : va_P (dC, dI) cls_ [(mo, .inr (5, [.int (nI 0), .int (nI 0), .ref q7, .int (nI 0), .null, .null, .null, .null, .null, .null, .int (nI 0), .null, .null])), (q7, .inl (ky, 97, .inl (nA (fun _ => 0))))] H := hP
  have hD : va_D A [(mo, .inr (5, [.int (nI 0), .int (nI 0), .ref q7, .int (nI 0), .null, .null, .null, .null, .null, .null, .int (nI 0), .null, .null])), (q7, .inl (ky, 97, .inl (nA (fun _ => 0))))] := hD
  refine lv_aload_n hx hb d_Mo_init_12 rfl (lv_at hl 0 rfl) ?_
  refine lv_iconst (v := nI 0 - 1) hx hb d_Mo_init_13 (by decide) ?_
  refine va_put (D := (dC, dI)) (ci := 5) (v := .int (nI 0 - 1)) (ty := .int) (C := R_Mo) (T := F_Mo) (N := 13) hx hb htb in_Mo t_Mo tk_Mo nm_Mo hown hK hP hD hS 0 rfl rfl 3 (by decide) (htb _ tw_364) (fun _ h9 => h9) rfl (by decide +kernel) rfl rfl (Nat.le_of_ble_eq_true rfl) d_Mo_init_14 (fun H locs hP hD hS => ?_)
  have hP : va_P (dC, dI) cls_ [(mo, .inr (5, [.int (nI 0), .int (nI 0), .ref q7, .int (nI 0 - 1), .null, .null, .null, .null, .null, .null, .int (nI 0), .null, .null])), (q7, .inl (ky, 97, .inl (nA (fun _ => 0))))] H := hP
  have hD : va_D A [(mo, .inr (5, [.int (nI 0), .int (nI 0), .ref q7, .int (nI 0 - 1), .null, .null, .null, .null, .null, .null, .int (nI 0), .null, .null])), (q7, .inl (ky, 97, .inl (nA (fun _ => 0))))] := hD
  refine lv_aload_n hx hb d_Mo_init_17 rfl (lv_at hl 0 rfl) ?_
  refine lv_bipush (v := nI 97) hx hb d_Mo_init_18 (by decide) ?_
  refine va_newa (atype := .int) (ty := .int) (N' := 97) (a0 := (97, .inl (nA (fun _ => 0)))) hx hb (htb _ tw_72) rfl hK hP hD hS hA (fun _ => rfl) (nI_pos (by decide)) (nI_clamp (by decide)) (by decide) (Nat.le_of_ble_eq_true rfl) (Nat.le_of_ble_eq_true rfl) d_Mo_init_20 (fun q20 k20 H hK1 hP hD hS => ?_)
  have hky : k20 = ky := Option.some.inj ((hK1.2 1 _ rfl).2.symm.trans (hK1.2 0 _ rfl).2)
  rw [hky] at hP hD
  have hP : va_P (dC, dI) cls_ [(mo, .inr (5, [.int (nI 0), .int (nI 0), .ref q7, .int (nI 0 - 1), .null, .null, .null, .null, .null, .null, .int (nI 0), .null, .null])), (q7, .inl (ky, 97, .inl (nA (fun _ => 0)))), (q20, .inl (ky, 97, .inl (nA (fun _ => 0))))] H := hP
  have hD : va_D A [(mo, .inr (5, [.int (nI 0), .int (nI 0), .ref q7, .int (nI 0 - 1), .null, .null, .null, .null, .null, .null, .int (nI 0), .null, .null])), (q7, .inl (ky, 97, .inl (nA (fun _ => 0)))), (q20, .inl (ky, 97, .inl (nA (fun _ => 0))))] := hD
  refine W.widen (k := 2) (n := 194) (by decide) (by decide) ?_
  refine va_putF (D := (dC, dI)) (ci := 5) (v := .ref q20) (ty := (.array .int)) (C := R_Mo) (T := F_Mo) (N := 13) hx hb htb in_Mo t_Mo tk_Mo nm_Mo hown hK hP hD hS 0 rfl rfl 4 (by decide) (htb _ tw_365) (fun _ h9 => h9) rfl hin rfl (by decide +kernel) rfl rfl (Nat.le_of_ble_eq_true rfl) d_Mo_init_22 (fun H locs hP hD hS => ?_)
  have hP : va_P (dC, dI) cls_ [(mo, .inr (5, [.int (nI 0), .int (nI 0), .ref q7, .int (nI 0 - 1), .ref q20, .null, .null, .null, .null, .null, .int (nI 0), .null, .null])), (q7, .inl (ky, 97, .inl (nA (fun _ => 0)))), (q20, .inl (ky, 97, .inl (nA (fun _ => 0))))] H := hP
  have hD : va_D A [(mo, .inr (5, [.int (nI 0), .int (nI 0), .ref q7, .int (nI 0 - 1), .ref q20, .null, .null, .null, .null, .null, .int (nI 0), .null, .null])), (q7, .inl (ky, 97, .inl (nA (fun _ => 0)))), (q20, .inl (ky, 97, .inl (nA (fun _ => 0))))] := hD
  refine lv_aload_n hx hb d_Mo_init_25 rfl (lv_at hl 0 rfl) ?_
  refine lv_bipush (v := nI 97) hx hb d_Mo_init_26 (by decide) ?_
  refine va_newa (atype := .int) (ty := .int) (N' := 97) (a0 := (97, .inl (nA (fun _ => 0)))) hx hb (htb _ tw_72) rfl hK hP hD hS hA (fun _ => rfl) (nI_pos (by decide)) (nI_clamp (by decide)) (by decide) (Nat.le_of_ble_eq_true rfl) (Nat.le_of_ble_eq_true rfl) d_Mo_init_28 (fun q28 k28 H hK1 hP hD hS => ?_)
  have hky : k28 = ky := Option.some.inj ((hK1.2 1 _ rfl).2.symm.trans (hK1.2 0 _ rfl).2)
  rw [hky] at hP hD
  have hP : va_P (dC, dI) cls_ [(mo, .inr (5, [.int (nI 0), .int (nI 0), .ref q7, .int (nI 0 - 1), .ref q20, .null, .null, .null, .null, .null, .int (nI 0), .null, .null])), (q7, .inl (ky, 97, .inl (nA (fun _ => 0)))), (q20, .inl (ky, 97, .inl (nA (fun _ => 0)))), (q28, .inl (ky, 97, .inl (nA (fun _ => 0))))] H := hP
  have hD : va_D A [(mo, .inr (5, [.int (nI 0), .int (nI 0), .ref q7, .int (nI 0 - 1), .ref q20, .null, .null, .null, .null, .null, .int (nI 0), .null, .null])), (q7, .inl (ky, 97, .inl (nA (fun _ => 0)))), (q20, .inl (ky, 97, .inl (nA (fun _ => 0)))), (q28, .inl (ky, 97, .inl (nA (fun _ => 0))))] := hD
  refine W.widen (k := 3) (n := 291) (by decide) (by decide) ?_
  refine va_putF (D := (dC, dI)) (ci := 5) (v := .ref q28) (ty := (.array .int)) (C := R_Mo) (T := F_Mo) (N := 13) hx hb htb in_Mo t_Mo tk_Mo nm_Mo hown hK hP hD hS 0 rfl rfl 5 (by decide) (htb _ tw_366) (fun _ h9 => h9) rfl hin rfl (by decide +kernel) rfl rfl (Nat.le_of_ble_eq_true rfl) d_Mo_init_30 (fun H locs hP hD hS => ?_)
  have hP : va_P (dC, dI) cls_ [(mo, .inr (5, [.int (nI 0), .int (nI 0), .ref q7, .int (nI 0 - 1), .ref q20, .ref q28, .null, .null, .null, .null, .int (nI 0), .null, .null])), (q7, .inl (ky, 97, .inl (nA (fun _ => 0)))), (q20, .inl (ky, 97, .inl (nA (fun _ => 0)))), (q28, .inl (ky, 97, .inl (nA (fun _ => 0))))] H := hP
  have hD : va_D A [(mo, .inr (5, [.int (nI 0), .int (nI 0), .ref q7, .int (nI 0 - 1), .ref q20, .ref q28, .null, .null, .null, .null, .int (nI 0), .null, .null])), (q7, .inl (ky, 97, .inl (nA (fun _ => 0)))), (q20, .inl (ky, 97, .inl (nA (fun _ => 0)))), (q28, .inl (ky, 97, .inl (nA (fun _ => 0))))] := hD
  refine lv_aload_n hx hb d_Mo_init_33 rfl (lv_at hl 0 rfl) ?_
  refine lv_bipush (v := nI 97) hx hb d_Mo_init_34 (by decide) ?_
  refine va_newa (atype := .int) (ty := .int) (N' := 97) (a0 := (97, .inl (nA (fun _ => 0)))) hx hb (htb _ tw_72) rfl hK hP hD hS hA (fun _ => rfl) (nI_pos (by decide)) (nI_clamp (by decide)) (by decide) (Nat.le_of_ble_eq_true rfl) (Nat.le_of_ble_eq_true rfl) d_Mo_init_36 (fun q36 k36 H hK1 hP hD hS => ?_)
  have hky : k36 = ky := Option.some.inj ((hK1.2 1 _ rfl).2.symm.trans (hK1.2 0 _ rfl).2)
  rw [hky] at hP hD
  have hP : va_P (dC, dI) cls_ [(mo, .inr (5, [.int (nI 0), .int (nI 0), .ref q7, .int (nI 0 - 1), .ref q20, .ref q28, .null, .null, .null, .null, .int (nI 0), .null, .null])), (q7, .inl (ky, 97, .inl (nA (fun _ => 0)))), (q20, .inl (ky, 97, .inl (nA (fun _ => 0)))), (q28, .inl (ky, 97, .inl (nA (fun _ => 0)))), (q36, .inl (ky, 97, .inl (nA (fun _ => 0))))] H := hP
  have hD : va_D A [(mo, .inr (5, [.int (nI 0), .int (nI 0), .ref q7, .int (nI 0 - 1), .ref q20, .ref q28, .null, .null, .null, .null, .int (nI 0), .null, .null])), (q7, .inl (ky, 97, .inl (nA (fun _ => 0)))), (q20, .inl (ky, 97, .inl (nA (fun _ => 0)))), (q28, .inl (ky, 97, .inl (nA (fun _ => 0)))), (q36, .inl (ky, 97, .inl (nA (fun _ => 0))))] := hD
  refine W.widen (k := 4) (n := 388) (by decide) (by decide) ?_
  refine va_putF (D := (dC, dI)) (ci := 5) (v := .ref q36) (ty := (.array .int)) (C := R_Mo) (T := F_Mo) (N := 13) hx hb htb in_Mo t_Mo tk_Mo nm_Mo hown hK hP hD hS 0 rfl rfl 6 (by decide) (htb _ tw_367) (fun _ h9 => h9) rfl hin rfl (by decide +kernel) rfl rfl (Nat.le_of_ble_eq_true rfl) d_Mo_init_38 (fun H locs hP hD hS => ?_)
  have hP : va_P (dC, dI) cls_ [(mo, .inr (5, [.int (nI 0), .int (nI 0), .ref q7, .int (nI 0 - 1), .ref q20, .ref q28, .ref q36, .null, .null, .null, .int (nI 0), .null, .null])), (q7, .inl (ky, 97, .inl (nA (fun _ => 0)))), (q20, .inl (ky, 97, .inl (nA (fun _ => 0)))), (q28, .inl (ky, 97, .inl (nA (fun _ => 0)))), (q36, .inl (ky, 97, .inl (nA (fun _ => 0))))] H := hP
  have hD : va_D A [(mo, .inr (5, [.int (nI 0), .int (nI 0), .ref q7, .int (nI 0 - 1), .ref q20, .ref q28, .ref q36, .null, .null, .null, .int (nI 0), .null, .null])), (q7, .inl (ky, 97, .inl (nA (fun _ => 0)))), (q20, .inl (ky, 97, .inl (nA (fun _ => 0)))), (q28, .inl (ky, 97, .inl (nA (fun _ => 0)))), (q36, .inl (ky, 97, .inl (nA (fun _ => 0))))] := hD
  refine lv_aload_n hx hb d_Mo_init_41 rfl (lv_at hl 0 rfl) ?_
  refine lv_bipush (v := nI 97) hx hb d_Mo_init_42 (by decide) ?_
  refine va_newa (atype := .boolean) (ty := .boolean) (N' := 97) (a0 := (97, .inl (nA (fun _ => 0)))) hx hb (htb _ tw_401) rfl hK hP hD hS hA (fun _ => rfl) (nI_pos (by decide)) (nI_clamp (by decide)) (by decide) (Nat.le_of_ble_eq_true rfl) (Nat.le_of_ble_eq_true rfl) d_Mo_init_44 (fun q44 k44 H hK1 hP hD hS => ?_)
  have hP := hP.sub (ws' := [(mo, .inr (5, [.int (nI 0), .int (nI 0), .ref q7, .int (nI 0 - 1), .ref q20, .ref q28, .ref q36, .null, .null, .null, .int (nI 0), .null, .null])), (q7, .inl (ky, 97, .inl (nA (fun _ => 0)))), (q20, .inl (ky, 97, .inl (nA (fun _ => 0)))), (q28, .inl (ky, 97, .inl (nA (fun _ => 0)))), (q36, .inl (ky, 97, .inl (nA (fun _ => 0))))]) [0, 1, 2, 3, 4] rfl
  have hD := hD.sub (ws' := [(mo, .inr (5, [.int (nI 0), .int (nI 0), .ref q7, .int (nI 0 - 1), .ref q20, .ref q28, .ref q36, .null, .null, .null, .int (nI 0), .null, .null])), (q7, .inl (ky, 97, .inl (nA (fun _ => 0)))), (q20, .inl (ky, 97, .inl (nA (fun _ => 0)))), (q28, .inl (ky, 97, .inl (nA (fun _ => 0)))), (q36, .inl (ky, 97, .inl (nA (fun _ => 0))))]) [0, 1, 2, 3, 4] (by decide) rfl
  have hP : va_P (dC, dI) cls_ [(mo, .inr (5, [.int (nI 0), .int (nI 0), .ref q7, .int (nI 0 - 1), .ref q20, .ref q28, .ref q36, .null, .null, .null, .int (nI 0), .null, .null])), (q7, .inl (ky, 97, .inl (nA (fun _ => 0)))), (q20, .inl (ky, 97, .inl (nA (fun _ => 0)))), (q28, .inl (ky, 97, .inl (nA (fun _ => 0)))), (q36, .inl (ky, 97, .inl (nA (fun _ => 0))))] H := hP
  have hD : va_D A [(mo, .inr (5, [.int (nI 0), .int (nI 0), .ref q7, .int (nI 0 - 1), .ref q20, .ref q28, .ref q36, .null, .null, .null, .int (nI 0), .null, .null])), (q7, .inl (ky, 97, .inl (nA (fun _ => 0)))), (q20, .inl (ky, 97, .inl (nA (fun _ => 0)))), (q28, .inl (ky, 97, .inl (nA (fun _ => 0)))), (q36, .inl (ky, 97, .inl (nA (fun _ => 0))))] := hD
  refine W.widen (k := 5) (n := 485) (by decide) (by decide) ?_
  refine va_putF (D := (dC, dI)) (ci := 5) (v := .ref q44) (ty := (.array .boolean)) (C := R_Mo) (T := F_Mo) (N := 13) hx hb htb in_Mo t_Mo tk_Mo nm_Mo hown hK hP hD hS 0 rfl rfl 7 (by decide) (htb _ tw_368) (fun _ h9 => h9) rfl hin rfl (by decide +kernel) rfl rfl (Nat.le_of_ble_eq_true rfl) d_Mo_init_46 (fun H locs hP hD hS => ?_)
  have hP : va_P (dC, dI) cls_ [(mo, .inr (5, [.int (nI 0), .int (nI 0), .ref q7, .int (nI 0 - 1), .ref q20, .ref q28, .ref q36, .ref q44, .null, .null, .int (nI 0), .null, .null])), (q7, .inl (ky, 97, .inl (nA (fun _ => 0)))), (q20, .inl (ky, 97, .inl (nA (fun _ => 0)))), (q28, .inl (ky, 97, .inl (nA (fun _ => 0)))), (q36, .inl (ky, 97, .inl (nA (fun _ => 0))))] H := hP
  have hD : va_D A [(mo, .inr (5, [.int (nI 0), .int (nI 0), .ref q7, .int (nI 0 - 1), .ref q20, .ref q28, .ref q36, .ref q44, .null, .null, .int (nI 0), .null, .null])), (q7, .inl (ky, 97, .inl (nA (fun _ => 0)))), (q20, .inl (ky, 97, .inl (nA (fun _ => 0)))), (q28, .inl (ky, 97, .inl (nA (fun _ => 0)))), (q36, .inl (ky, 97, .inl (nA (fun _ => 0))))] := hD
  refine lv_aload_n hx hb d_Mo_init_49 rfl (lv_at hl 0 rfl) ?_
  refine lv_bipush (v := nI 97) hx hb d_Mo_init_50 (by decide) ?_
  refine va_newa (atype := .int) (ty := .int) (N' := 97) (a0 := (97, .inl (nA (fun _ => 0)))) hx hb (htb _ tw_72) rfl hK hP hD hS hA (fun _ => rfl) (nI_pos (by decide)) (nI_clamp (by decide)) (by decide) (Nat.le_of_ble_eq_true rfl) (Nat.le_of_ble_eq_true rfl) d_Mo_init_52 (fun q52 k52 H hK1 hP hD hS => ?_)
  have hky : k52 = ky := Option.some.inj ((hK1.2 1 _ rfl).2.symm.trans (hK1.2 0 _ rfl).2)
  rw [hky] at hP hD
  have hP : va_P (dC, dI) cls_ [(mo, .inr (5, [.int (nI 0), .int (nI 0), .ref q7, .int (nI 0 - 1), .ref q20, .ref q28, .ref q36, .ref q44, .null, .null, .int (nI 0), .null, .null])), (q7, .inl (ky, 97, .inl (nA (fun _ => 0)))), (q20, .inl (ky, 97, .inl (nA (fun _ => 0)))), (q28, .inl (ky, 97, .inl (nA (fun _ => 0)))), (q36, .inl (ky, 97, .inl (nA (fun _ => 0)))), (q52, .inl (ky, 97, .inl (nA (fun _ => 0))))] H := hP
  have hD : va_D A [(mo, .inr (5, [.int (nI 0), .int (nI 0), .ref q7, .int (nI 0 - 1), .ref q20, .ref q28, .ref q36, .ref q44, .null, .null, .int (nI 0), .null, .null])), (q7, .inl (ky, 97, .inl (nA (fun _ => 0)))), (q20, .inl (ky, 97, .inl (nA (fun _ => 0)))), (q28, .inl (ky, 97, .inl (nA (fun _ => 0)))), (q36, .inl (ky, 97, .inl (nA (fun _ => 0)))), (q52, .inl (ky, 97, .inl (nA (fun _ => 0))))] := hD
  refine W.widen (k := 6) (n := 582) (by decide) (by decide) ?_
  refine va_putF (D := (dC, dI)) (ci := 5) (v := .ref q52) (ty := (.array .int)) (C := R_Mo) (T := F_Mo) (N := 13) hx hb htb in_Mo t_Mo tk_Mo nm_Mo hown hK hP hD hS 0 rfl rfl 8 (by decide) (htb _ tw_369) (fun _ h9 => h9) rfl hin rfl (by decide +kernel) rfl rfl (Nat.le_of_ble_eq_true rfl) d_Mo_init_54 (fun H locs hP hD hS => ?_)
  have hP : va_P (dC, dI) cls_ [(mo, .inr (5, [.int (nI 0), .int (nI 0), .ref q7, .int (nI 0 - 1), .ref q20, .ref q28, .ref q36, .ref q44, .ref q52, .null, .int (nI 0), .null, .null])), (q7, .inl (ky, 97, .inl (nA (fun _ => 0)))), (q20, .inl (ky, 97, .inl (nA (fun _ => 0)))), (q28, .inl (ky, 97, .inl (nA (fun _ => 0)))), (q36, .inl (ky, 97, .inl (nA (fun _ => 0)))), (q52, .inl (ky, 97, .inl (nA (fun _ => 0))))] H := hP
  have hD : va_D A [(mo, .inr (5, [.int (nI 0), .int (nI 0), .ref q7, .int (nI 0 - 1), .ref q20, .ref q28, .ref q36, .ref q44, .ref q52, .null, .int (nI 0), .null, .null])), (q7, .inl (ky, 97, .inl (nA (fun _ => 0)))), (q20, .inl (ky, 97, .inl (nA (fun _ => 0)))), (q28, .inl (ky, 97, .inl (nA (fun _ => 0)))), (q36, .inl (ky, 97, .inl (nA (fun _ => 0)))), (q52, .inl (ky, 97, .inl (nA (fun _ => 0))))] := hD
  refine lv_aload_n hx hb d_Mo_init_57 rfl (lv_at hl 0 rfl) ?_
  refine lv_bipush (v := nI 8) hx hb d_Mo_init_58 (by decide) ?_
  refine va_newa (atype := .int) (ty := .int) (N' := 8) (a0 := (8, .inl (nA (fun _ => 0)))) hx hb (htb _ tw_72) rfl hK hP hD hS hA (fun _ => rfl) (nI_pos (by decide)) (nI_clamp (by decide)) (by decide) (Nat.le_of_ble_eq_true rfl) (Nat.le_of_ble_eq_true rfl) d_Mo_init_60 (fun q60 k60 H hK1 hP hD hS => ?_)
  have hky : k60 = ky := Option.some.inj ((hK1.2 1 _ rfl).2.symm.trans (hK1.2 0 _ rfl).2)
  rw [hky] at hP hD
  have hP : va_P (dC, dI) cls_ [(mo, .inr (5, [.int (nI 0), .int (nI 0), .ref q7, .int (nI 0 - 1), .ref q20, .ref q28, .ref q36, .ref q44, .ref q52, .null, .int (nI 0), .null, .null])), (q7, .inl (ky, 97, .inl (nA (fun _ => 0)))), (q20, .inl (ky, 97, .inl (nA (fun _ => 0)))), (q28, .inl (ky, 97, .inl (nA (fun _ => 0)))), (q36, .inl (ky, 97, .inl (nA (fun _ => 0)))), (q52, .inl (ky, 97, .inl (nA (fun _ => 0)))), (q60, .inl (ky, 8, .inl (nA (fun _ => 0))))] H := hP
  have hD : va_D A [(mo, .inr (5, [.int (nI 0), .int (nI 0), .ref q7, .int (nI 0 - 1), .ref q20, .ref q28, .ref q36, .ref q44, .ref q52, .null, .int (nI 0), .null, .null])), (q7, .inl (ky, 97, .inl (nA (fun _ => 0)))), (q20, .inl (ky, 97, .inl (nA (fun _ => 0)))), (q28, .inl (ky, 97, .inl (nA (fun _ => 0)))), (q36, .inl (ky, 97, .inl (nA (fun _ => 0)))), (q52, .inl (ky, 97, .inl (nA (fun _ => 0)))), (q60, .inl (ky, 8, .inl (nA (fun _ => 0))))] := hD
  refine W.widen (k := 7) (n := 590) (by decide) (by decide) ?_
  refine va_putF (D := (dC, dI)) (ci := 5) (v := .ref q60) (ty := (.array .int)) (C := R_Mo) (T := F_Mo) (N := 13) hx hb htb in_Mo t_Mo tk_Mo nm_Mo hown hK hP hD hS 0 rfl rfl 9 (by decide) (htb _ tw_370) (fun _ h9 => h9) rfl hin rfl (by decide +kernel) rfl rfl (Nat.le_of_ble_eq_true rfl) d_Mo_init_62 (fun H locs hP hD hS => ?_)
  have hP : va_P (dC, dI) cls_ [(mo, .inr (5, [.int (nI 0), .int (nI 0), .ref q7, .int (nI 0 - 1), .ref q20, .ref q28, .ref q36, .ref q44, .ref q52, .ref q60, .int (nI 0), .null, .null])), (q7, .inl (ky, 97, .inl (nA (fun _ => 0)))), (q20, .inl (ky, 97, .inl (nA (fun _ => 0)))), (q28, .inl (ky, 97, .inl (nA (fun _ => 0)))), (q36, .inl (ky, 97, .inl (nA (fun _ => 0)))), (q52, .inl (ky, 97, .inl (nA (fun _ => 0)))), (q60, .inl (ky, 8, .inl (nA (fun _ => 0))))] H := hP
  have hD : va_D A [(mo, .inr (5, [.int (nI 0), .int (nI 0), .ref q7, .int (nI 0 - 1), .ref q20, .ref q28, .ref q36, .ref q44, .ref q52, .ref q60, .int (nI 0), .null, .null])), (q7, .inl (ky, 97, .inl (nA (fun _ => 0)))), (q20, .inl (ky, 97, .inl (nA (fun _ => 0)))), (q28, .inl (ky, 97, .inl (nA (fun _ => 0)))), (q36, .inl (ky, 97, .inl (nA (fun _ => 0)))), (q52, .inl (ky, 97, .inl (nA (fun _ => 0)))), (q60, .inl (ky, 8, .inl (nA (fun _ => 0))))] := hD
  refine lv_aload_n hx hb d_Mo_init_65 rfl (lv_at hl 0 rfl) ?_
  refine lv_bipush (v := nI 9) hx hb d_Mo_init_66 (by decide) ?_
  refine va_newa (atype := .int) (ty := .int) (N' := 9) (a0 := (9, .inl (nA (fun _ => 0)))) hx hb (htb _ tw_72) rfl hK hP hD hS hA (fun _ => rfl) (nI_pos (by decide)) (nI_clamp (by decide)) (by decide) (Nat.le_of_ble_eq_true rfl) (Nat.le_of_ble_eq_true rfl) d_Mo_init_68 (fun q68 k68 H hK1 hP hD hS => ?_)
  have hky : k68 = ky := Option.some.inj ((hK1.2 1 _ rfl).2.symm.trans (hK1.2 0 _ rfl).2)
  rw [hky] at hP hD
  have hP : va_P (dC, dI) cls_ [(mo, .inr (5, [.int (nI 0), .int (nI 0), .ref q7, .int (nI 0 - 1), .ref q20, .ref q28, .ref q36, .ref q44, .ref q52, .ref q60, .int (nI 0), .null, .null])), (q7, .inl (ky, 97, .inl (nA (fun _ => 0)))), (q20, .inl (ky, 97, .inl (nA (fun _ => 0)))), (q28, .inl (ky, 97, .inl (nA (fun _ => 0)))), (q36, .inl (ky, 97, .inl (nA (fun _ => 0)))), (q52, .inl (ky, 97, .inl (nA (fun _ => 0)))), (q60, .inl (ky, 8, .inl (nA (fun _ => 0)))), (q68, .inl (ky, 9, .inl (nA (fun _ => 0))))] H := hP
  have hD : va_D A [(mo, .inr (5, [.int (nI 0), .int (nI 0), .ref q7, .int (nI 0 - 1), .ref q20, .ref q28, .ref q36, .ref q44, .ref q52, .ref q60, .int (nI 0), .null, .null])), (q7, .inl (ky, 97, .inl (nA (fun _ => 0)))), (q20, .inl (ky, 97, .inl (nA (fun _ => 0)))), (q28, .inl (ky, 97, .inl (nA (fun _ => 0)))), (q36, .inl (ky, 97, .inl (nA (fun _ => 0)))), (q52, .inl (ky, 97, .inl (nA (fun _ => 0)))), (q60, .inl (ky, 8, .inl (nA (fun _ => 0)))), (q68, .inl (ky, 9, .inl (nA (fun _ => 0))))] := hD
  refine W.widen (k := 8) (n := 599) (by decide) (by decide) ?_
  refine va_putF (D := (dC, dI)) (ci := 5) (v := .ref q68) (ty := (.array .int)) (C := R_Mo) (T := F_Mo) (N := 13) hx hb htb in_Mo t_Mo tk_Mo nm_Mo hown hK hP hD hS 0 rfl rfl 11 (by decide) (htb _ tw_372) (fun _ h9 => h9) rfl hin rfl (by decide +kernel) rfl rfl (Nat.le_of_ble_eq_true rfl) d_Mo_init_70 (fun H locs hP hD hS => ?_)
  have hP : va_P (dC, dI) cls_ [(mo, .inr (5, [.int (nI 0), .int (nI 0), .ref q7, .int (nI 0 - 1), .ref q20, .ref q28, .ref q36, .ref q44, .ref q52, .ref q60, .int (nI 0), .ref q68, .null])), (q7, .inl (ky, 97, .inl (nA (fun _ => 0)))), (q20, .inl (ky, 97, .inl (nA (fun _ => 0)))), (q28, .inl (ky, 97, .inl (nA (fun _ => 0)))), (q36, .inl (ky, 97, .inl (nA (fun _ => 0)))), (q52, .inl (ky, 97, .inl (nA (fun _ => 0)))), (q60, .inl (ky, 8, .inl (nA (fun _ => 0)))), (q68, .inl (ky, 9, .inl (nA (fun _ => 0))))] H := hP
  have hD : va_D A [(mo, .inr (5, [.int (nI 0), .int (nI 0), .ref q7, .int (nI 0 - 1), .ref q20, .ref q28, .ref q36, .ref q44, .ref q52, .ref q60, .int (nI 0), .ref q68, .null])), (q7, .inl (ky, 97, .inl (nA (fun _ => 0)))), (q20, .inl (ky, 97, .inl (nA (fun _ => 0)))), (q28, .inl (ky, 97, .inl (nA (fun _ => 0)))), (q36, .inl (ky, 97, .inl (nA (fun _ => 0)))), (q52, .inl (ky, 97, .inl (nA (fun _ => 0)))), (q60, .inl (ky, 8, .inl (nA (fun _ => 0)))), (q68, .inl (ky, 9, .inl (nA (fun _ => 0))))] := hD
  refine lv_aload_n hx hb d_Mo_init_73 rfl (lv_at hl 0 rfl) ?_
  refine lv_bipush (v := nI 97) hx hb d_Mo_init_74 (by decide) ?_
  refine va_newa (atype := .int) (ty := .int) (N' := 97) (a0 := (97, .inl (nA (fun _ => 0)))) hx hb (htb _ tw_72) rfl hK hP hD hS hA (fun _ => rfl) (nI_pos (by decide)) (nI_clamp (by decide)) (by decide) (Nat.le_of_ble_eq_true rfl) (Nat.le_of_ble_eq_true rfl) d_Mo_init_76 (fun q76 k76 H hK1 hP hD hS => ?_)
  have hky : k76 = ky := Option.some.inj ((hK1.2 1 _ rfl).2.symm.trans (hK1.2 0 _ rfl).2)
  rw [hky] at hP hD
  have hP : va_P (dC, dI) cls_ [(mo, .inr (5, [.int (nI 0), .int (nI 0), .ref q7, .int (nI 0 - 1), .ref q20, .ref q28, .ref q36, .ref q44, .ref q52, .ref q60, .int (nI 0), .ref q68, .null])), (q7, .inl (ky, 97, .inl (nA (fun _ => 0)))), (q20, .inl (ky, 97, .inl (nA (fun _ => 0)))), (q28, .inl (ky, 97, .inl (nA (fun _ => 0)))), (q36, .inl (ky, 97, .inl (nA (fun _ => 0)))), (q52, .inl (ky, 97, .inl (nA (fun _ => 0)))), (q60, .inl (ky, 8, .inl (nA (fun _ => 0)))), (q68, .inl (ky, 9, .inl (nA (fun _ => 0)))), (q76, .inl (ky, 97, .inl (nA (fun _ => 0))))] H := hP
  have hD : va_D A [(mo, .inr (5, [.int (nI 0), .int (nI 0), .ref q7, .int (nI 0 - 1), .ref q20, .ref q28, .ref q36, .ref q44, .ref q52, .ref q60, .int (nI 0), .ref q68, .null])), (q7, .inl (ky, 97, .inl (nA (fun _ => 0)))), (q20, .inl (ky, 97, .inl (nA (fun _ => 0)))), (q28, .inl (ky, 97, .inl (nA (fun _ => 0)))), (q36, .inl (ky, 97, .inl (nA (fun _ => 0)))), (q52, .inl (ky, 97, .inl (nA (fun _ => 0)))), (q60, .inl (ky, 8, .inl (nA (fun _ => 0)))), (q68, .inl (ky, 9, .inl (nA (fun _ => 0)))), (q76, .inl (ky, 97, .inl (nA (fun _ => 0))))] := hD
  refine W.widen (k := 9) (n := 696) (by decide) (by decide) ?_
  refine va_putF (D := (dC, dI)) (ci := 5) (v := .ref q76) (ty := (.array .int)) (C := R_Mo) (T := F_Mo) (N := 13) hx hb htb in_Mo t_Mo tk_Mo nm_Mo hown hK hP hD hS 0 rfl rfl 12 (by decide) (htb _ tw_373) (fun _ h9 => h9) rfl hin rfl (by decide +kernel) rfl rfl (Nat.le_of_ble_eq_true rfl) d_Mo_init_78 (fun H locs hP hD hS => ?_)
  have hP : va_P (dC, dI) cls_ [(mo, .inr (5, [.int (nI 0), .int (nI 0), .ref q7, .int (nI 0 - 1), .ref q20, .ref q28, .ref q36, .ref q44, .ref q52, .ref q60, .int (nI 0), .ref q68, .ref q76])), (q7, .inl (ky, 97, .inl (nA (fun _ => 0)))), (q20, .inl (ky, 97, .inl (nA (fun _ => 0)))), (q28, .inl (ky, 97, .inl (nA (fun _ => 0)))), (q36, .inl (ky, 97, .inl (nA (fun _ => 0)))), (q52, .inl (ky, 97, .inl (nA (fun _ => 0)))), (q60, .inl (ky, 8, .inl (nA (fun _ => 0)))), (q68, .inl (ky, 9, .inl (nA (fun _ => 0)))), (q76, .inl (ky, 97, .inl (nA (fun _ => 0))))] H := hP
  have hD : va_D A [(mo, .inr (5, [.int (nI 0), .int (nI 0), .ref q7, .int (nI 0 - 1), .ref q20, .ref q28, .ref q36, .ref q44, .ref q52, .ref q60, .int (nI 0), .ref q68, .ref q76])), (q7, .inl (ky, 97, .inl (nA (fun _ => 0)))), (q20, .inl (ky, 97, .inl (nA (fun _ => 0)))), (q28, .inl (ky, 97, .inl (nA (fun _ => 0)))), (q36, .inl (ky, 97, .inl (nA (fun _ => 0)))), (q52, .inl (ky, 97, .inl (nA (fun _ => 0)))), (q60, .inl (ky, 8, .inl (nA (fun _ => 0)))), (q68, .inl (ky, 9, .inl (nA (fun _ => 0)))), (q76, .inl (ky, 97, .inl (nA (fun _ => 0))))] := hD
  refine lv_aload_n hx hb d_Mo_init_81 rfl (lv_at hl 0 rfl) ?_
  refine lv_iload_n hx hb d_Mo_init_82 rfl (lv_at hl 1 rfl) ?_
  refine lv_iconst (v := nI 2) hx hb d_Mo_init_83 (by decide) ?_
  refine lv_icmp_lt (tgt := 93) hx hb d_Mo_init_84 (by decide) (fun hc84 => ?_) (fun hc84 => ?_)
  · skip
    refine lv_iconst (v := nI 4) hx hb d_Mo_init_93 (by decide) ?_
    refine lv_goto (tgt := 98) hx hb d_Mo_init_94 (by decide) ?_
    refine va_putF (D := (dC, dI)) (ci := 5) (v := .int (nI 4)) (ty := .int) (C := R_Mo) (T := F_Mo) (N := 13) hx hb htb in_Mo t_Mo tk_Mo nm_Mo hown hK hP hD hS 0 rfl rfl 0 (by decide) (htb _ tw_361) (fun _ h9 => h9) rfl hin rfl (by decide +kernel) rfl rfl (Nat.le_of_ble_eq_true rfl) d_Mo_init_98 (fun H locs hP hD hS => ?_)
    have hP : va_P (dC, dI) cls_ [(mo, .inr (5, [.int (nI 4), .int (nI 0), .ref q7, .int (nI 0 - 1), .ref q20, .ref q28, .ref q36, .ref q44, .ref q52, .ref q60, .int (nI 0), .ref q68, .ref q76])), (q7, .inl (ky, 97, .inl (nA (fun _ => 0)))), (q20, .inl (ky, 97, .inl (nA (fun _ => 0)))), (q28, .inl (ky, 97, .inl (nA (fun _ => 0)))), (q36, .inl (ky, 97, .inl (nA (fun _ => 0)))), (q52, .inl (ky, 97, .inl (nA (fun _ => 0)))), (q60, .inl (ky, 8, .inl (nA (fun _ => 0)))), (q68, .inl (ky, 9, .inl (nA (fun _ => 0)))), (q76, .inl (ky, 97, .inl (nA (fun _ => 0))))] H := hP
    have hD : va_D A [(mo, .inr (5, [.int (nI 4), .int (nI 0), .ref q7, .int (nI 0 - 1), .ref q20, .ref q28, .ref q36, .ref q44, .ref q52, .ref q60, .int (nI 0), .ref q68, .ref q76])), (q7, .inl (ky, 97, .inl (nA (fun _ => 0)))), (q20, .inl (ky, 97, .inl (nA (fun _ => 0)))), (q28, .inl (ky, 97, .inl (nA (fun _ => 0)))), (q36, .inl (ky, 97, .inl (nA (fun _ => 0)))), (q52, .inl (ky, 97, .inl (nA (fun _ => 0)))), (q60, .inl (ky, 8, .inl (nA (fun _ => 0)))), (q68, .inl (ky, 9, .inl (nA (fun _ => 0)))), (q76, .inl (ky, 97, .inl (nA (fun _ => 0))))] := hD
    have hP9 := hP.sub (ws' := [(mo, .inr (5, [.int (nI 4), .int (nI 0), .ref q7, .int (nI 0 - 1), .ref q20, .ref q28, .ref q36, .ref q44, .ref q52, .ref q60, .int (nI 0), .ref q68, .ref q76])), (q7, .inl (ky, 97, .inl (nA (fun _ => 0)))), (q20, .inl (ky, 97, .inl (nA (fun _ => 0)))), (q28, .inl (ky, 97, .inl (nA (fun _ => 0)))), (q36, .inl (ky, 97, .inl (nA (fun _ => 0)))), (q52, .inl (ky, 97, .inl (nA (fun _ => 0)))), (q60, .inl (ky, 8, .inl (nA (fun _ => 0)))), (q68, .inl (ky, 9, .inl (nA (fun _ => 0)))), (q76, .inl (ky, 97, .inl (nA (fun _ => 0))))]) [0, 1, 2, 3, 4, 5, 6, 7, 8] rfl
    have hD9 := hD.sub (ws' := [(mo, .inr (5, [.int (nI 4), .int (nI 0), .ref q7, .int (nI 0 - 1), .ref q20, .ref q28, .ref q36, .ref q44, .ref q52, .ref q60, .int (nI 0), .ref q68, .ref q76])), (q7, .inl (ky, 97, .inl (nA (fun _ => 0)))), (q20, .inl (ky, 97, .inl (nA (fun _ => 0)))), (q28, .inl (ky, 97, .inl (nA (fun _ => 0)))), (q36, .inl (ky, 97, .inl (nA (fun _ => 0)))), (q52, .inl (ky, 97, .inl (nA (fun _ => 0)))), (q60, .inl (ky, 8, .inl (nA (fun _ => 0)))), (q68, .inl (ky, 9, .inl (nA (fun _ => 0)))), (q76, .inl (ky, 97, .inl (nA (fun _ => 0))))]) [0, 1, 2, 3, 4, 5, 6, 7, 8] (by decide) rfl
    exact W.vret hx hb hr (fun t ht hW => ⟨⟨(4, q7, q20, q28, q36, q44, q52, q60, q68, q76), rfl, (by first | exact Or.inl ⟨hxs, hs2, hs16⟩ | exact Or.inr ⟨rfl, bw_nrg (by first | exact Or.inl hc84 | exact Or.inr (bw_lt' hc90))⟩), by rw [ht]; exact hP9, hD9⟩, hS.F ht⟩) hS.2.2 d_Mo_init_101
  · skip
    refine lv_iload_n hx hb d_Mo_init_87 rfl (lv_at hl 1 rfl) ?_
    refine lv_bipush (v := nI 16) hx hb d_Mo_init_88 (by decide) ?_
    refine lv_icmp_le (tgt := 97) hx hb d_Mo_init_90 (by decide) (fun hc90 => ?_) (fun hc90 => ?_)
    · skip
      obtain ⟨sp, hs2, hs16, hxs⟩ := bw_rng (a := 2) (b := 16) hc84 (bw_nlt hc90)
      have hv_ : xs = nI sp := hxs
      rw [hv_] at hl
      have hl : lv_has ls 2 [(0, .ref mo), (1, .int (nI sp))] := hl
      refine lv_iload_n hx hb d_Mo_init_97 rfl (lv_at hl 1 rfl) ?_
      refine va_putF (D := (dC, dI)) (ci := 5) (v := .int (nI sp)) (ty := .int) (C := R_Mo) (T := F_Mo) (N := 13) hx hb htb in_Mo t_Mo tk_Mo nm_Mo hown hK hP hD hS 0 rfl rfl 0 (by decide) (htb _ tw_361) (fun _ h9 => h9) rfl hin rfl (by decide +kernel) rfl rfl (Nat.le_of_ble_eq_true rfl) d_Mo_init_98 (fun H locs hP hD hS => ?_)
      have hP : va_P (dC, dI) cls_ [(mo, .inr (5, [.int (nI sp), .int (nI 0), .ref q7, .int (nI 0 - 1), .ref q20, .ref q28, .ref q36, .ref q44, .ref q52, .ref q60, .int (nI 0), .ref q68, .ref q76])), (q7, .inl (ky, 97, .inl (nA (fun _ => 0)))), (q20, .inl (ky, 97, .inl (nA (fun _ => 0)))), (q28, .inl (ky, 97, .inl (nA (fun _ => 0)))), (q36, .inl (ky, 97, .inl (nA (fun _ => 0)))), (q52, .inl (ky, 97, .inl (nA (fun _ => 0)))), (q60, .inl (ky, 8, .inl (nA (fun _ => 0)))), (q68, .inl (ky, 9, .inl (nA (fun _ => 0)))), (q76, .inl (ky, 97, .inl (nA (fun _ => 0))))] H := hP
      have hD : va_D A [(mo, .inr (5, [.int (nI sp), .int (nI 0), .ref q7, .int (nI 0 - 1), .ref q20, .ref q28, .ref q36, .ref q44, .ref q52, .ref q60, .int (nI 0), .ref q68, .ref q76])), (q7, .inl (ky, 97, .inl (nA (fun _ => 0)))), (q20, .inl (ky, 97, .inl (nA (fun _ => 0)))), (q28, .inl (ky, 97, .inl (nA (fun _ => 0)))), (q36, .inl (ky, 97, .inl (nA (fun _ => 0)))), (q52, .inl (ky, 97, .inl (nA (fun _ => 0)))), (q60, .inl (ky, 8, .inl (nA (fun _ => 0)))), (q68, .inl (ky, 9, .inl (nA (fun _ => 0)))), (q76, .inl (ky, 97, .inl (nA (fun _ => 0))))] := hD
      have hP9 := hP.sub (ws' := [(mo, .inr (5, [.int (nI sp), .int (nI 0), .ref q7, .int (nI 0 - 1), .ref q20, .ref q28, .ref q36, .ref q44, .ref q52, .ref q60, .int (nI 0), .ref q68, .ref q76])), (q7, .inl (ky, 97, .inl (nA (fun _ => 0)))), (q20, .inl (ky, 97, .inl (nA (fun _ => 0)))), (q28, .inl (ky, 97, .inl (nA (fun _ => 0)))), (q36, .inl (ky, 97, .inl (nA (fun _ => 0)))), (q52, .inl (ky, 97, .inl (nA (fun _ => 0)))), (q60, .inl (ky, 8, .inl (nA (fun _ => 0)))), (q68, .inl (ky, 9, .inl (nA (fun _ => 0)))), (q76, .inl (ky, 97, .inl (nA (fun _ => 0))))]) [0, 1, 2, 3, 4, 5, 6, 7, 8] rfl
      have hD9 := hD.sub (ws' := [(mo, .inr (5, [.int (nI sp), .int (nI 0), .ref q7, .int (nI 0 - 1), .ref q20, .ref q28, .ref q36, .ref q44, .ref q52, .ref q60, .int (nI 0), .ref q68, .ref q76])), (q7, .inl (ky, 97, .inl (nA (fun _ => 0)))), (q20, .inl (ky, 97, .inl (nA (fun _ => 0)))), (q28, .inl (ky, 97, .inl (nA (fun _ => 0)))), (q36, .inl (ky, 97, .inl (nA (fun _ => 0)))), (q52, .inl (ky, 97, .inl (nA (fun _ => 0)))), (q60, .inl (ky, 8, .inl (nA (fun _ => 0)))), (q68, .inl (ky, 9, .inl (nA (fun _ => 0)))), (q76, .inl (ky, 97, .inl (nA (fun _ => 0))))]) [0, 1, 2, 3, 4, 5, 6, 7, 8] (by decide) rfl
      exact W.vret hx hb hr (fun t ht hW => ⟨⟨(sp, q7, q20, q28, q36, q44, q52, q60, q68, q76), rfl, (by first | exact Or.inl ⟨hxs, hs2, hs16⟩ | exact Or.inr ⟨rfl, bw_nrg (by first | exact Or.inl hc84 | exact Or.inr (bw_lt' hc90))⟩), by rw [ht]; exact hP9, hD9⟩, hS.F ht⟩) hS.2.2 d_Mo_init_101
    · skip
      refine lv_iconst (v := nI 4) hx hb d_Mo_init_93 (by decide) ?_
      refine lv_goto (tgt := 98) hx hb d_Mo_init_94 (by decide) ?_
      refine va_putF (D := (dC, dI)) (ci := 5) (v := .int (nI 4)) (ty := .int) (C := R_Mo) (T := F_Mo) (N := 13) hx hb htb in_Mo t_Mo tk_Mo nm_Mo hown hK hP hD hS 0 rfl rfl 0 (by decide) (htb _ tw_361) (fun _ h9 => h9) rfl hin rfl (by decide +kernel) rfl rfl (Nat.le_of_ble_eq_true rfl) d_Mo_init_98 (fun H locs hP hD hS => ?_)
      have hP : va_P (dC, dI) cls_ [(mo, .inr (5, [.int (nI 4), .int (nI 0), .ref q7, .int (nI 0 - 1), .ref q20, .ref q28, .ref q36, .ref q44, .ref q52, .ref q60, .int (nI 0), .ref q68, .ref q76])), (q7, .inl (ky, 97, .inl (nA (fun _ => 0)))), (q20, .inl (ky, 97, .inl (nA (fun _ => 0)))), (q28, .inl (ky, 97, .inl (nA (fun _ => 0)))), (q36, .inl (ky, 97, .inl (nA (fun _ => 0)))), (q52, .inl (ky, 97, .inl (nA (fun _ => 0)))), (q60, .inl (ky, 8, .inl (nA (fun _ => 0)))), (q68, .inl (ky, 9, .inl (nA (fun _ => 0)))), (q76, .inl (ky, 97, .inl (nA (fun _ => 0))))] H := hP
      have hD : va_D A [(mo, .inr (5, [.int (nI 4), .int (nI 0), .ref q7, .int (nI 0 - 1), .ref q20, .ref q28, .ref q36, .ref q44, .ref q52, .ref q60, .int (nI 0), .ref q68, .ref q76])), (q7, .inl (ky, 97, .inl (nA (fun _ => 0)))), (q20, .inl (ky, 97, .inl (nA (fun _ => 0)))), (q28, .inl (ky, 97, .inl (nA (fun _ => 0)))), (q36, .inl (ky, 97, .inl (nA (fun _ => 0)))), (q52, .inl (ky, 97, .inl (nA (fun _ => 0)))), (q60, .inl (ky, 8, .inl (nA (fun _ => 0)))), (q68, .inl (ky, 9, .inl (nA (fun _ => 0)))), (q76, .inl (ky, 97, .inl (nA (fun _ => 0))))] := hD
      have hP9 := hP.sub (ws' := [(mo, .inr (5, [.int (nI 4), .int (nI 0), .ref q7, .int (nI 0 - 1), .ref q20, .ref q28, .ref q36, .ref q44, .ref q52, .ref q60, .int (nI 0), .ref q68, .ref q76])), (q7, .inl (ky, 97, .inl (nA (fun _ => 0)))), (q20, .inl (ky, 97, .inl (nA (fun _ => 0)))), (q28, .inl (ky, 97, .inl (nA (fun _ => 0)))), (q36, .inl (ky, 97, .inl (nA (fun _ => 0)))), (q52, .inl (ky, 97, .inl (nA (fun _ => 0)))), (q60, .inl (ky, 8, .inl (nA (fun _ => 0)))), (q68, .inl (ky, 9, .inl (nA (fun _ => 0)))), (q76, .inl (ky, 97, .inl (nA (fun _ => 0))))]) [0, 1, 2, 3, 4, 5, 6, 7, 8] rfl
      have hD9 := hD.sub (ws' := [(mo, .inr (5, [.int (nI 4), .int (nI 0), .ref q7, .int (nI 0 - 1), .ref q20, .ref q28, .ref q36, .ref q44, .ref q52, .ref q60, .int (nI 0), .ref q68, .ref q76])), (q7, .inl (ky, 97, .inl (nA (fun _ => 0)))), (q20, .inl (ky, 97, .inl (nA (fun _ => 0)))), (q28, .inl (ky, 97, .inl (nA (fun _ => 0)))), (q36, .inl (ky, 97, .inl (nA (fun _ => 0)))), (q52, .inl (ky, 97, .inl (nA (fun _ => 0)))), (q60, .inl (ky, 8, .inl (nA (fun _ => 0)))), (q68, .inl (ky, 9, .inl (nA (fun _ => 0)))), (q76, .inl (ky, 97, .inl (nA (fun _ => 0))))]) [0, 1, 2, 3, 4, 5, 6, 7, 8] (by decide) rfl
      exact W.vret hx hb hr (fun t ht hW => ⟨⟨(4, q7, q20, q28, q36, q44, q52, q60, q68, q76), rfl, (by first | exact Or.inl ⟨hxs, hs2, hs16⟩ | exact Or.inr ⟨rfl, bw_nrg (by first | exact Or.inl hc84 | exact Or.inr (bw_lt' hc90))⟩), by rw [ht]; exact hP9, hD9⟩, hS.F ht⟩) hS.2.2 d_Mo_init_101
