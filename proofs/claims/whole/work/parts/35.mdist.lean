set_option maxHeartbeats 4000000 in
set_option maxRecDepth 100000 in
theorem c_Mo_count (l : Launch) (dC : Nat → ClassId) (dI : Nat → Nat → Nat) (ky : ClassId) (sz : Nat) (mo : Nat) (sp : Nat) (d : Nat) (mdr : Nat) (mm : Nat) (mtx : Nat) (mod : Nat) (mia : Nat) (mus : Nat) (mol : Nat) (mle : Nat) (my : Nat) (mrw : Nat) (mls : Nat) (Mx : Nat → Nat) (T : Nat → Nat) (Lw : Nat → Nat) (w : Nat) (hMx : ∀ k_, Mx k_ < 125) (hmm : mm ≤ 97) (hT28 : ∀ k_, T k_ < 28) (hTx : ∀ q, q + 1 < mm → Mx q = cod (T q)) (hLw : ∀ k_, Lw k_ < 125) (hw : w < 2 ^ 64) (hTm : ∀ nn, mm = nn + 1 → Txt T nn) (hmy8 : my ≤ 8) : Met l y_Mo_count (Cond.code y_Mo_count prog_7_method_28_code 3 (some .int) :: W0) ({ frames := 2, cells := 0, slots := 0, locals := 46 }) (va_Pc [.ref mo, .long (lN w)] (fun U => U.heap.size = sz ∧ va_P (dC, dI) cls_ [(mo, .inr (5, [.int (nI sp), .int (nI d), .ref mdr, .int (nI mm - 1), .ref mtx, .ref mod, .ref mia, .ref mus, .ref mol, .ref mle, .int (nI my), .ref mrw, .ref mls])), (mtx, .inl (ky, 97, .inl (nA Mx))), (mle, .inl (ky, 8, .inl (nA Lw)))] U.heap ∧ va_K (dC, dI) cls_ [(ky, .int)] U ∧ va_D (fun _ => True) [(mo, .inr (5, [.int (nI sp), .int (nI d), .ref mdr, .int (nI mm - 1), .ref mtx, .ref mod, .ref mia, .ref mus, .ref mol, .ref mle, .int (nI my), .ref mrw, .ref mls])), (mtx, .inl (ky, 97, .inl (nA Mx))), (mle, .inl (ky, 8, .inl (nA Lw)))])) (va_Qi (fun (r : Int32) (u : (Nat) × (Nat → Nat)) => match u with | (kn, Wn) => ((∃ k, Pat w k ∧ r = nI (num (occ T (pw w) k 0) (mm - 1))) ∨ ((∀ k, ¬ Pat w k) ∧ r = nI 0 - 1)) ∧ kn ≤ 8 ∧ (∀ k_, Wn k_ < 125)) (fun (u : (Nat) × (Nat → Nat)) (t : State) => match u with | (kn, Wn) => va_P (dC, dI) cls_ [(mo, .inr (5, [.int (nI sp), .int (nI d), .ref mdr, .int (nI mm - 1), .ref mtx, .ref mod, .ref mia, .ref mus, .ref mol, .ref mle, .int (nI kn), .ref mrw, .ref mls])), (mtx, .inl (ky, 97, .inl (nA Mx))), (mle, .inl (ky, 8, .inl (nA Wn)))] t.heap ∧ va_D (va_A [(mo, .inr (5, [.int (nI sp), .int (nI d), .ref mdr, .int (nI mm - 1), .ref mtx, .ref mod, .ref mia, .ref mus, .ref mol, .ref mle, .int (nI my), .ref mrw, .ref mls])), (mtx, .inl (ky, 97, .inl (nA Mx))), (mle, .inl (ky, 8, .inl (nA Lw)))] sz) [(mo, .inr (5, [.int (nI sp), .int (nI d), .ref mdr, .int (nI mm - 1), .ref mtx, .ref mod, .ref mia, .ref mus, .ref mol, .ref mle, .int (nI kn), .ref mrw, .ref mls])), (mtx, .inl (ky, 97, .inl (nA Mx))), (mle, .inl (ky, 8, .inl (nA Wn)))]) (va_A [(mo, .inr (5, [.int (nI sp), .int (nI d), .ref mdr, .int (nI mm - 1), .ref mtx, .ref mod, .ref mia, .ref mus, .ref mol, .ref mle, .int (nI my), .ref mrw, .ref mls])), (mtx, .inl (ky, 97, .inl (nA Mx))), (mle, .inl (ky, 8, .inl (nA Lw)))] sz)) 0 0 (va_A [(mo, .inr (5, [.int (nI sp), .int (nI d), .ref mdr, .int (nI mm - 1), .ref mtx, .ref mod, .ref mia, .ref mus, .ref mol, .ref mle, .int (nI my), .ref mrw, .ref mls])), (mtx, .inl (ky, 97, .inl (nA Mx))), (mle, .inl (ky, 8, .inl (nA Lw)))] sz) := by
  refine Met.ofW (cc := prog_7_method_28_code) (maxL := 3) (ret := (some .int)) (by decide) rfl ?_
  intro p e s m args below meth c s₁ B hml hv
  obtain ⟨rfl, hsz, hP, hK, hD0⟩ := hv
  have hx := B.exec
  have hb := B.bytes
  have hr := B.returns
  have hlocks := B.notSynchronized
  have hts := atoms_spec (ws := (Cond.code y_Mo_count prog_7_method_28_code 3 (some .int) :: W0)) B.pre
  have htb : ∀ w ∈ W0, w.before _ s = true := fun w h => hts w (List.mem_cons_of_mem _ h)
  have hown : s.vm.findClass "SelfIndexedSequencesModel" = some m.cls := findClass_of_methodNamed B.named
  subst hsz
  have hD := hD0.self (sz := s.heap.size)
  generalize hAe : va_A [(mo, .inr (5, [.int (nI sp), .int (nI d), .ref mdr, .int (nI mm - 1), .ref mtx, .ref mod, .ref mia, .ref mus, .ref mol, .ref mle, .int (nI my), .ref mrw, .ref mls])), (mtx, .inl (ky, 97, .inl (nA Mx))), (mle, .inl (ky, 8, .inl (nA Lw)))] s.heap.size = A at hD ⊢
  have hA : ∀ q : Nat, s.heap.size ≤ q → A q := fun q h => by rw [← hAe]; exact Or.inr h
  have hS : va_S A s.heap s.heap [] := va_S.rf
  have hl := lv_entry ([.ref mo, .long (lN w)]) (n := 3) (Nat.le_of_ble_eq_true rfl)
  rw [lg_entry_eq]
  generalize (lg_sl ([.ref mo, .long (lN w)]) ++ List.replicate (3 - (lg_sl ([.ref mo, .long (lN w)])).length) Slot.unset).toArray = ls at hl ⊢
  have hl : lv_has ls 3 [(0, .ref mo), (1, .long (lN w))] := hl
  refine lv_aload_n hx hb d_Mo_count_0 rfl (lv_at hl 0 rfl) ?_
  refine lv_lload_n hx hb d_Mo_count_1 rfl (lv_at hl 1 rfl) ?_
  have hPc := hP.sub (ws' := [(mo, .inr (5, [.int (nI sp), .int (nI d), .ref mdr, .int (nI mm - 1), .ref mtx, .ref mod, .ref mia, .ref mus, .ref mol, .ref mle, .int (nI my), .ref mrw, .ref mls])), (mle, .inl (ky, 8, .inl (nA Lw)))]) [0, 2] rfl
  have hDc := hD.sub (ws' := [(mo, .inr (5, [.int (nI sp), .int (nI d), .ref mdr, .int (nI mm - 1), .ref mtx, .ref mod, .ref mia, .ref mus, .ref mol, .ref mle, .int (nI my), .ref mrw, .ref mls])), (mle, .inl (ky, 8, .inl (nA Lw)))]) [0, 2] (by decide) rfl
  have hFc := va_free (wc := [(mo, .inr (5, [.int (nI sp), .int (nI d), .ref mdr, .int (nI mm - 1), .ref mtx, .ref mod, .ref mia, .ref mus, .ref mol, .ref mle, .int (nI my), .ref mrw, .ref mls])), (mle, .inl (ky, 8, .inl (nA Lw)))]) hD hS hA [0, 2] rfl
  refine va_calli (va_runV (C := "SelfIndexedSequencesModel") (As := [.long (lN w)]) (rest := []) ⟨hx, hb, hml, hown, hts⟩ (c_Mo_read l dC dI ky s.heap.size mo sp d mdr mm mtx mod mia mus mol mle my mrw mls Lw w hLw (by first | assumption | omega | (simp; done) | (simp_all; done))) ⟨callB_of 1 hts (W0_good tw_500) rfl rfl rfl (htb _ tw_28) (htb _ tw_497) ⟨by decide, by decide, by decide +kernel⟩ ⟨(Nat.le_of_ble_eq_true rfl), (Nat.le_of_ble_eq_true rfl)⟩, htb _ tw_499, htb _ tw_16⟩ ⟨fun a U g mk q => by obtain ⟨q0, q1, qP, qK, qD⟩ := q; exact ⟨q0, q1, qP, va_K.moved (u := U) (U := U.calling g mk a) (Vm.Alike.refl U.vm) qK, qD⟩, va_recv hK hPc (q0 := 0) (q := (R_Mo, F_Mo, 13)) rfl rfl, fun U hU hW => ⟨rfl, by rw [hU], by rw [hU]; exact hPc, va_K.moved hW.alike hK, hDc.weaken (fun _ _ _ _ => trivial)⟩⟩ rfl rfl hl.1 rfl (lv_room (Nat.le_of_ble_eq_true rfl)) d_Mo_count_2 ⟨(Nat.le_of_ble_eq_true rfl), (Nat.le_of_ble_eq_true rfl)⟩) hS (fun q _ h => hFc q h) hFc (fun r2 u_ t H locs ht hvm hw2 hB hz1 hk1 hS => ?_)
  obtain ⟨kn, Wn⟩ := u_
  obtain ⟨hP1, hD1⟩ := hB
  rw [ht] at hP1
  obtain ⟨hP, hD⟩ := va_join (wr := [(mtx, .inl (ky, 97, .inl (nA Mx)))]) (w1 := [(mo, .inr (5, [.int (nI sp), .int (nI d), .ref mdr, .int (nI mm - 1), .ref mtx, .ref mod, .ref mia, .ref mus, .ref mol, .ref mle, .int (nI kn), .ref mrw, .ref mls])), (mle, .inl (ky, 8, .inl (nA Wn)))]) hP hD [0, 2] [1] rfl rfl (by decide) (by decide) hk1 hFc hP1 hD1
  have hP : va_P (dC, dI) cls_ [(mtx, .inl (ky, 97, .inl (nA Mx))), (mo, .inr (5, [.int (nI sp), .int (nI d), .ref mdr, .int (nI mm - 1), .ref mtx, .ref mod, .ref mia, .ref mus, .ref mol, .ref mle, .int (nI kn), .ref mrw, .ref mls])), (mle, .inl (ky, 8, .inl (nA Wn)))] H := hP
  have hD : va_D A [(mtx, .inl (ky, 97, .inl (nA Mx))), (mo, .inr (5, [.int (nI sp), .int (nI d), .ref mdr, .int (nI mm - 1), .ref mtx, .ref mod, .ref mia, .ref mus, .ref mol, .ref mle, .int (nI kn), .ref mrw, .ref mls])), (mle, .inl (ky, 8, .inl (nA Wn)))] := hD
  have hq2 : ((r2 = nI 1 ∧ Pat w kn ∧ ∀ i, i < kn → Wn i = by8 w i) ∨ (r2 = nI 0 ∧ ∀ k, ¬ Pat w k)) ∧ kn ≤ 8 ∧ (∀ k_, Wn k_ < 125) := hw2
  obtain ⟨hrd, hk8, hWb⟩ := hq2
  rcases hrd with ⟨rfl, hPt, hLi⟩ | ⟨rfl, hnP⟩
  · skip
    refine lv_if_eq (tgt := 16) hx hb d_Mo_count_5 (by decide) (fun hc5 => ?_) (fun hc5 => ?_)
    · exact absurd hc5 (by decide)
    · skip
      rw [← nI_0, bw_eq_nn (by omega) (by omega)] at hc5
      refine lv_aload_n hx hb d_Mo_count_8 rfl (lv_at hl 0 rfl) ?_
      refine lv_iconst (v := nI 0 - 1) hx hb d_Mo_count_9 (by decide) ?_
      have hPc := hP.sub (ws' := [(mo, .inr (5, [.int (nI sp), .int (nI d), .ref mdr, .int (nI mm - 1), .ref mtx, .ref mod, .ref mia, .ref mus, .ref mol, .ref mle, .int (nI kn), .ref mrw, .ref mls])), (mtx, .inl (ky, 97, .inl (nA Mx))), (mle, .inl (ky, 8, .inl (nA Wn)))]) [1, 0, 2] rfl
      have hDc := hD.sub (ws' := [(mo, .inr (5, [.int (nI sp), .int (nI d), .ref mdr, .int (nI mm - 1), .ref mtx, .ref mod, .ref mia, .ref mus, .ref mol, .ref mle, .int (nI kn), .ref mrw, .ref mls])), (mtx, .inl (ky, 97, .inl (nA Mx))), (mle, .inl (ky, 8, .inl (nA Wn)))]) [1, 0, 2] (by decide) rfl
      have hFc := va_free (wc := [(mo, .inr (5, [.int (nI sp), .int (nI d), .ref mdr, .int (nI mm - 1), .ref mtx, .ref mod, .ref mia, .ref mus, .ref mol, .ref mle, .int (nI kn), .ref mrw, .ref mls])), (mtx, .inl (ky, 97, .inl (nA Mx))), (mle, .inl (ky, 8, .inl (nA Wn)))]) hD hS hA [1, 0, 2] rfl
      refine va_calli (va_runV (C := "SelfIndexedSequencesModel") (As := [.int (nI 0 - 1)]) (rest := []) ⟨hx, hb, hml, hown, hts⟩ (c_Mo_search l dC dI ky H.size mo sp d mdr mm mtx mod mia mus mol mle kn mrw mls Mx T Wn (pw w) (nI 0 - 1) hMx (by first | assumption | omega | (simp; done) | (simp_all; done)) (by first | assumption | omega | (simp; done) | (simp_all; done)) (by first | assumption | omega | (simp; done) | (simp_all; done)) ⟨hPt.1, hPt.2.1⟩ hWb (pw_lt hPt hw) (fun i hi => by rw [hLi i hi, (pw_cod hPt hi).1]) (fun i hi => (pw_cod hPt hi).2.2) (by first | assumption | omega | (simp; done) | (simp_all; done))) ⟨callB_of 1 hts (W0_good tw_504) rfl rfl rfl (htb _ tw_28) (htb _ tw_501) ⟨by decide, by decide, by decide +kernel⟩ ⟨(Nat.le_of_ble_eq_true rfl), (Nat.le_of_ble_eq_true rfl)⟩, htb _ tw_503, htb _ tw_17⟩ ⟨fun a U g mk q => by obtain ⟨q0, q1, qP, qK, qD⟩ := q; exact ⟨q0, q1, qP, va_K.moved (u := U) (U := U.calling g mk a) (Vm.Alike.refl U.vm) qK, qD⟩, va_recv hK hPc (q0 := 0) (q := (R_Mo, F_Mo, 13)) rfl rfl, fun U hU hW => ⟨rfl, by rw [hU], by rw [hU]; exact hPc, va_K.moved hW.alike hK, hDc.weaken (fun _ _ _ _ => trivial)⟩⟩ rfl rfl hl.1 rfl (lv_room (Nat.le_of_ble_eq_true rfl)) d_Mo_count_10 ⟨(Nat.le_of_ble_eq_true rfl), (Nat.le_of_ble_eq_true rfl)⟩) hS (fun q _ h => hFc q h) hFc (fun r10 u_ t H locs ht hvm hw10 hB hz1 hk1 hS => ?_)
      obtain ⟨hP1, hD1⟩ := hB
      rw [ht] at hP1
      obtain ⟨hP, hD⟩ := va_join (wr := []) (w1 := [(mo, .inr (5, [.int (nI sp), .int (nI d), .ref mdr, .int (nI mm - 1), .ref mtx, .ref mod, .ref mia, .ref mus, .ref mol, .ref mle, .int (nI kn), .ref mrw, .ref mls])), (mtx, .inl (ky, 97, .inl (nA Mx))), (mle, .inl (ky, 8, .inl (nA Wn)))]) hP hD [1, 0, 2] [] rfl rfl (by decide) (by decide) hk1 hFc hP1 hD1
      have hP : va_P (dC, dI) cls_ [(mo, .inr (5, [.int (nI sp), .int (nI d), .ref mdr, .int (nI mm - 1), .ref mtx, .ref mod, .ref mia, .ref mus, .ref mol, .ref mle, .int (nI kn), .ref mrw, .ref mls])), (mtx, .inl (ky, 97, .inl (nA Mx))), (mle, .inl (ky, 8, .inl (nA Wn)))] H := hP
      have hD : va_D A [(mo, .inr (5, [.int (nI sp), .int (nI d), .ref mdr, .int (nI mm - 1), .ref mtx, .ref mod, .ref mia, .ref mus, .ref mol, .ref mle, .int (nI kn), .ref mrw, .ref mls])), (mtx, .inl (ky, 97, .inl (nA Mx))), (mle, .inl (ky, 8, .inl (nA Wn)))] := hD
      have hq10 : (∃ v, v + 1 < mm ∧ occ T (pw w) kn 0 v ∧ (nI 0 - 1) = nI (num (occ T (pw w) kn 0) v) ∧ r10 = nI v) ∨ ((∀ v, v + 1 < mm → occ T (pw w) kn 0 v → (nI 0 - 1) ≠ nI (num (occ T (pw w) kn 0) v)) ∧ (((nI 0 - 1) < 0 ∧ r10 = nI (num (occ T (pw w) kn 0) (mm - 1))) ∨ (¬ (nI 0 - 1) < 0 ∧ r10 = nI 0 - 1))) := hw10
      rcases hq10 with ⟨v, h1, h2, h3, rfl⟩ | ⟨hno, ⟨hlt, rfl⟩ | ⟨hge, rfl⟩⟩
      · exact absurd h3 (bw_m1n (by have := num_le (occ T (pw w) kn 0) v; omega))
      · skip
        refine lv_goto (tgt := 17) hx hb d_Mo_count_13 (by decide) ?_
        have hP9 := hP.sub (ws' := [(mo, .inr (5, [.int (nI sp), .int (nI d), .ref mdr, .int (nI mm - 1), .ref mtx, .ref mod, .ref mia, .ref mus, .ref mol, .ref mle, .int (nI kn), .ref mrw, .ref mls])), (mtx, .inl (ky, 97, .inl (nA Mx))), (mle, .inl (ky, 8, .inl (nA Wn)))]) [0, 1, 2] rfl
        have hD9 := hD.sub (ws' := [(mo, .inr (5, [.int (nI sp), .int (nI d), .ref mdr, .int (nI mm - 1), .ref mtx, .ref mod, .ref mia, .ref mus, .ref mol, .ref mle, .int (nI kn), .ref mrw, .ref mls])), (mtx, .inl (ky, 97, .inl (nA Mx))), (mle, .inl (ky, 8, .inl (nA Wn)))]) [0, 1, 2] (by decide) rfl
        exact W.iret (v := nI (num (occ T (pw w) kn 0) (mm - 1))) hx hb hr (fun t ht hW => ⟨⟨nI (num (occ T (pw w) kn 0) (mm - 1)), (kn, Wn), rfl, (by first | exact ⟨Or.inl ⟨kn, hPt, rfl⟩, hk8, hWb⟩ | exact ⟨Or.inr ⟨hnP, rfl⟩, hk8, hWb⟩), by rw [ht]; exact hP9, hD9⟩, hS.F ht⟩) hS.2.2 d_Mo_count_17
      · exact absurd (show nI 0 - 1 < 0 by decide) hge
  · skip
    refine lv_if_eq (tgt := 16) hx hb d_Mo_count_5 (by decide) (fun hc5 => ?_) (fun hc5 => ?_)
    · skip
      rw [← nI_0, bw_eq_nn (by omega) (by omega)] at hc5
      refine lv_iconst (v := nI 0 - 1) hx hb d_Mo_count_16 (by decide) ?_
      have hP9 := hP.sub (ws' := [(mo, .inr (5, [.int (nI sp), .int (nI d), .ref mdr, .int (nI mm - 1), .ref mtx, .ref mod, .ref mia, .ref mus, .ref mol, .ref mle, .int (nI kn), .ref mrw, .ref mls])), (mtx, .inl (ky, 97, .inl (nA Mx))), (mle, .inl (ky, 8, .inl (nA Wn)))]) [1, 0, 2] rfl
      have hD9 := hD.sub (ws' := [(mo, .inr (5, [.int (nI sp), .int (nI d), .ref mdr, .int (nI mm - 1), .ref mtx, .ref mod, .ref mia, .ref mus, .ref mol, .ref mle, .int (nI kn), .ref mrw, .ref mls])), (mtx, .inl (ky, 97, .inl (nA Mx))), (mle, .inl (ky, 8, .inl (nA Wn)))]) [1, 0, 2] (by decide) rfl
      exact W.iret (v := nI 0 - 1) hx hb hr (fun t ht hW => ⟨⟨nI 0 - 1, (kn, Wn), rfl, (by first | exact ⟨Or.inl ⟨kn, hPt, rfl⟩, hk8, hWb⟩ | exact ⟨Or.inr ⟨hnP, rfl⟩, hk8, hWb⟩), by rw [ht]; exact hP9, hD9⟩, hS.F ht⟩) hS.2.2 d_Mo_count_17
    · exact absurd hc5 (by decide)

set_option maxHeartbeats 4000000 in
set_option maxRecDepth 100000 in
theorem c_Mo_place (l : Launch) (dC : Nat → ClassId) (dI : Nat → Nat → Nat) (ky : ClassId) (sz : Nat) (mo : Nat) (sp : Nat) (d : Nat) (mdr : Nat) (mm : Nat) (mtx : Nat) (mod : Nat) (mia : Nat) (mus : Nat) (mol : Nat) (mle : Nat) (my : Nat) (mrw : Nat) (mls : Nat) (Mx : Nat → Nat) (T : Nat → Nat) (Lw : Nat → Nat) (w : Nat) (xi : Int32) (hMx : ∀ k_, Mx k_ < 125) (hmm : mm ≤ 97) (hT28 : ∀ k_, T k_ < 28) (hTx : ∀ q, q + 1 < mm → Mx q = cod (T q)) (hLw : ∀ k_, Lw k_ < 125) (hw : w < 2 ^ 64) (hTm : ∀ nn, mm = nn + 1 → Txt T nn) (hmy8 : my ≤ 8) : Met l y_Mo_place (Cond.code y_Mo_place prog_7_method_29_code 8 (some .int) :: W0) ({ frames := 2, cells := 0, slots := 0, locals := 46 }) (va_Pc [.ref mo, .long (lN w), .int (xi)] (fun U => U.heap.size = sz ∧ va_P (dC, dI) cls_ [(mo, .inr (5, [.int (nI sp), .int (nI d), .ref mdr, .int (nI mm - 1), .ref mtx, .ref mod, .ref mia, .ref mus, .ref mol, .ref mle, .int (nI my), .ref mrw, .ref mls])), (mtx, .inl (ky, 97, .inl (nA Mx))), (mle, .inl (ky, 8, .inl (nA Lw)))] U.heap ∧ va_K (dC, dI) cls_ [(ky, .int)] U ∧ va_D (fun _ => True) [(mo, .inr (5, [.int (nI sp), .int (nI d), .ref mdr, .int (nI mm - 1), .ref mtx, .ref mod, .ref mia, .ref mus, .ref mol, .ref mle, .int (nI my), .ref mrw, .ref mls])), (mtx, .inl (ky, 97, .inl (nA Mx))), (mle, .inl (ky, 8, .inl (nA Lw)))])) (va_Qi (fun (r : Int32) (u : (Nat) × (Nat → Nat)) => match u with | (kn, Wn) => ((∃ k v, Pat w k ∧ v + 1 < mm ∧ occ T (pw w) k 0 v ∧ xi = nI (num (occ T (pw w) k 0) v) ∧ r = nI (100 * nb T v + (v - gs T (mm - 1) (nb T v)))) ∨ ((∀ k v, Pat w k → v + 1 < mm → occ T (pw w) k 0 v → xi ≠ nI (num (occ T (pw w) k 0) v)) ∧ r = nI 0 - 1)) ∧ kn ≤ 8 ∧ (∀ k_, Wn k_ < 125)) (fun (u : (Nat) × (Nat → Nat)) (t : State) => match u with | (kn, Wn) => va_P (dC, dI) cls_ [(mo, .inr (5, [.int (nI sp), .int (nI d), .ref mdr, .int (nI mm - 1), .ref mtx, .ref mod, .ref mia, .ref mus, .ref mol, .ref mle, .int (nI kn), .ref mrw, .ref mls])), (mtx, .inl (ky, 97, .inl (nA Mx))), (mle, .inl (ky, 8, .inl (nA Wn)))] t.heap ∧ va_D (va_A [(mo, .inr (5, [.int (nI sp), .int (nI d), .ref mdr, .int (nI mm - 1), .ref mtx, .ref mod, .ref mia, .ref mus, .ref mol, .ref mle, .int (nI my), .ref mrw, .ref mls])), (mtx, .inl (ky, 97, .inl (nA Mx))), (mle, .inl (ky, 8, .inl (nA Lw)))] sz) [(mo, .inr (5, [.int (nI sp), .int (nI d), .ref mdr, .int (nI mm - 1), .ref mtx, .ref mod, .ref mia, .ref mus, .ref mol, .ref mle, .int (nI kn), .ref mrw, .ref mls])), (mtx, .inl (ky, 97, .inl (nA Mx))), (mle, .inl (ky, 8, .inl (nA Wn)))]) (va_A [(mo, .inr (5, [.int (nI sp), .int (nI d), .ref mdr, .int (nI mm - 1), .ref mtx, .ref mod, .ref mia, .ref mus, .ref mol, .ref mle, .int (nI my), .ref mrw, .ref mls])), (mtx, .inl (ky, 97, .inl (nA Mx))), (mle, .inl (ky, 8, .inl (nA Lw)))] sz)) 0 0 (va_A [(mo, .inr (5, [.int (nI sp), .int (nI d), .ref mdr, .int (nI mm - 1), .ref mtx, .ref mod, .ref mia, .ref mus, .ref mol, .ref mle, .int (nI my), .ref mrw, .ref mls])), (mtx, .inl (ky, 97, .inl (nA Mx))), (mle, .inl (ky, 8, .inl (nA Lw)))] sz) := by
  refine Met.ofW (cc := prog_7_method_29_code) (maxL := 8) (ret := (some .int)) (by decide) rfl ?_
  intro p e s m args below meth c s₁ B hml hv
  obtain ⟨rfl, hsz, hP, hK, hD0⟩ := hv
  have hx := B.exec
  have hb := B.bytes
  have hr := B.returns
  have hlocks := B.notSynchronized
  have hts := atoms_spec (ws := (Cond.code y_Mo_place prog_7_method_29_code 8 (some .int) :: W0)) B.pre
  have htb : ∀ w ∈ W0, w.before _ s = true := fun w h => hts w (List.mem_cons_of_mem _ h)
  have hown : s.vm.findClass "SelfIndexedSequencesModel" = some m.cls := findClass_of_methodNamed B.named
  subst hsz
  have hD := hD0.self (sz := s.heap.size)
  generalize hAe : va_A [(mo, .inr (5, [.int (nI sp), .int (nI d), .ref mdr, .int (nI mm - 1), .ref mtx, .ref mod, .ref mia, .ref mus, .ref mol, .ref mle, .int (nI my), .ref mrw, .ref mls])), (mtx, .inl (ky, 97, .inl (nA Mx))), (mle, .inl (ky, 8, .inl (nA Lw)))] s.heap.size = A at hD ⊢
  have hA : ∀ q : Nat, s.heap.size ≤ q → A q := fun q h => by rw [← hAe]; exact Or.inr h
  have hS : va_S A s.heap s.heap [] := va_S.rf
  have hl := lv_entry ([.ref mo, .long (lN w), .int (xi)]) (n := 8) (Nat.le_of_ble_eq_true rfl)
  rw [lg_entry_eq]
  generalize (lg_sl ([.ref mo, .long (lN w), .int (xi)]) ++ List.replicate (8 - (lg_sl ([.ref mo, .long (lN w), .int (xi)])).length) Slot.unset).toArray = ls at hl ⊢
  have hl : lv_has ls 8 [(0, .ref mo), (1, .long (lN w)), (3, .int (xi))] := hl
  refine lv_iload_n hx hb d_Mo_place_0 rfl (lv_at hl 2 rfl) ?_
  refine lv_if_lt (tgt := 20) hx hb d_Mo_place_1 (by decide) (fun hc1 => ?_) (fun hc1 => ?_)
  · skip
    refine lv_iconst (v := nI 0 - 1) hx hb d_Mo_place_20 (by decide) ?_
    refine lv_istore hx hb d_Mo_place_21 hl (by decide) rfl (fun ls hl => ?_)
    have hl : lv_has ls 8 [(4, .int (nI 0 - 1)), (0, .ref mo), (1, .long (lN w)), (3, .int (xi))] := hl
    refine lv_iload hx hb d_Mo_place_23 (lv_at hl 0 rfl) ?_
    refine lv_if_ge (tgt := 30) hx hb d_Mo_place_25 (by decide) (fun hc25 => ?_) (fun hc25 => ?_)
    · exact absurd hc25 (by decide)
    · skip
      rw [← nI_0, bw_le_np (by omega) (by omega)] at hc25
      refine lv_iconst (v := nI 0 - 1) hx hb d_Mo_place_28 (by decide) ?_
      have hP9 := hP.sub (ws' := [(mo, .inr (5, [.int (nI sp), .int (nI d), .ref mdr, .int (nI mm - 1), .ref mtx, .ref mod, .ref mia, .ref mus, .ref mol, .ref mle, .int (nI my), .ref mrw, .ref mls])), (mtx, .inl (ky, 97, .inl (nA Mx))), (mle, .inl (ky, 8, .inl (nA Lw)))]) [0, 1, 2] rfl
      have hD9 := hD.sub (ws' := [(mo, .inr (5, [.int (nI sp), .int (nI d), .ref mdr, .int (nI mm - 1), .ref mtx, .ref mod, .ref mia, .ref mus, .ref mol, .ref mle, .int (nI my), .ref mrw, .ref mls])), (mtx, .inl (ky, 97, .inl (nA Mx))), (mle, .inl (ky, 8, .inl (nA Lw)))]) [0, 1, 2] (by decide) rfl
      exact W.iret (v := nI 0 - 1) hx hb hr (fun t ht hW => ⟨⟨nI 0 - 1, (my, Lw), rfl, (by first | exact ⟨Or.inr ⟨fun k v hp _ _ => absurd hp (hnP k), rfl⟩, hk8, hWb⟩ | exact ⟨Or.inr ⟨fun k v hp h1 h2 => by rw [Pat_uniq hp hPt]; rw [Pat_uniq hp hPt] at h2; exact hno v h1 h2, rfl⟩, hk8, hWb⟩ | exact ⟨Or.inr ⟨fun k v _ h1 _ => bw_neg (n := 98) hc1 (by omega) _ (by have := num_le (occ T (pw w) k 0) v; omega), rfl⟩, hmy8, hLw⟩ | (exfalso; omega)), by rw [ht]; exact hP9, hD9⟩, hS.F ht⟩) hS.2.2 d_Mo_place_29
  · skip
    refine lv_aload_n hx hb d_Mo_place_4 rfl (lv_at hl 0 rfl) ?_
    refine lv_lload_n hx hb d_Mo_place_5 rfl (lv_at hl 1 rfl) ?_
    have hPc := hP.sub (ws' := [(mo, .inr (5, [.int (nI sp), .int (nI d), .ref mdr, .int (nI mm - 1), .ref mtx, .ref mod, .ref mia, .ref mus, .ref mol, .ref mle, .int (nI my), .ref mrw, .ref mls])), (mle, .inl (ky, 8, .inl (nA Lw)))]) [0, 2] rfl
    have hDc := hD.sub (ws' := [(mo, .inr (5, [.int (nI sp), .int (nI d), .ref mdr, .int (nI mm - 1), .ref mtx, .ref mod, .ref mia, .ref mus, .ref mol, .ref mle, .int (nI my), .ref mrw, .ref mls])), (mle, .inl (ky, 8, .inl (nA Lw)))]) [0, 2] (by decide) rfl
    have hFc := va_free (wc := [(mo, .inr (5, [.int (nI sp), .int (nI d), .ref mdr, .int (nI mm - 1), .ref mtx, .ref mod, .ref mia, .ref mus, .ref mol, .ref mle, .int (nI my), .ref mrw, .ref mls])), (mle, .inl (ky, 8, .inl (nA Lw)))]) hD hS hA [0, 2] rfl
    refine va_calli (va_runV (C := "SelfIndexedSequencesModel") (As := [.long (lN w)]) (rest := []) ⟨hx, hb, hml, hown, hts⟩ (c_Mo_read l dC dI ky s.heap.size mo sp d mdr mm mtx mod mia mus mol mle my mrw mls Lw w hLw (by first | assumption | omega | (simp; done) | (simp_all; done))) ⟨callB_of 1 hts (W0_good tw_500) rfl rfl rfl (htb _ tw_28) (htb _ tw_497) ⟨by decide, by decide, by decide +kernel⟩ ⟨(Nat.le_of_ble_eq_true rfl), (Nat.le_of_ble_eq_true rfl)⟩, htb _ tw_499, htb _ tw_16⟩ ⟨fun a U g mk q => by obtain ⟨q0, q1, qP, qK, qD⟩ := q; exact ⟨q0, q1, qP, va_K.moved (u := U) (U := U.calling g mk a) (Vm.Alike.refl U.vm) qK, qD⟩, va_recv hK hPc (q0 := 0) (q := (R_Mo, F_Mo, 13)) rfl rfl, fun U hU hW => ⟨rfl, by rw [hU], by rw [hU]; exact hPc, va_K.moved hW.alike hK, hDc.weaken (fun _ _ _ _ => trivial)⟩⟩ rfl rfl hl.1 rfl (lv_room (Nat.le_of_ble_eq_true rfl)) d_Mo_place_6 ⟨(Nat.le_of_ble_eq_true rfl), (Nat.le_of_ble_eq_true rfl)⟩) hS (fun q _ h => hFc q h) hFc (fun r6 u_ t H locs ht hvm hw6 hB hz1 hk1 hS => ?_)
    obtain ⟨kn, Wn⟩ := u_
    obtain ⟨hP1, hD1⟩ := hB
    rw [ht] at hP1
    obtain ⟨hP, hD⟩ := va_join (wr := [(mtx, .inl (ky, 97, .inl (nA Mx)))]) (w1 := [(mo, .inr (5, [.int (nI sp), .int (nI d), .ref mdr, .int (nI mm - 1), .ref mtx, .ref mod, .ref mia, .ref mus, .ref mol, .ref mle, .int (nI kn), .ref mrw, .ref mls])), (mle, .inl (ky, 8, .inl (nA Wn)))]) hP hD [0, 2] [1] rfl rfl (by decide) (by decide) hk1 hFc hP1 hD1
    have hP : va_P (dC, dI) cls_ [(mtx, .inl (ky, 97, .inl (nA Mx))), (mo, .inr (5, [.int (nI sp), .int (nI d), .ref mdr, .int (nI mm - 1), .ref mtx, .ref mod, .ref mia, .ref mus, .ref mol, .ref mle, .int (nI kn), .ref mrw, .ref mls])), (mle, .inl (ky, 8, .inl (nA Wn)))] H := hP
    have hD : va_D A [(mtx, .inl (ky, 97, .inl (nA Mx))), (mo, .inr (5, [.int (nI sp), .int (nI d), .ref mdr, .int (nI mm - 1), .ref mtx, .ref mod, .ref mia, .ref mus, .ref mol, .ref mle, .int (nI kn), .ref mrw, .ref mls])), (mle, .inl (ky, 8, .inl (nA Wn)))] := hD
    have hq6 : ((r6 = nI 1 ∧ Pat w kn ∧ ∀ i, i < kn → Wn i = by8 w i) ∨ (r6 = nI 0 ∧ ∀ k, ¬ Pat w k)) ∧ kn ≤ 8 ∧ (∀ k_, Wn k_ < 125) := hw6
    obtain ⟨hrd, hk8, hWb⟩ := hq6
    rcases hrd with ⟨rfl, hPt, hLi⟩ | ⟨rfl, hnP⟩
    · skip
      refine lv_if_eq (tgt := 20) hx hb d_Mo_place_9 (by decide) (fun hc9 => ?_) (fun hc9 => ?_)
      · exact absurd hc9 (by decide)
      · skip
        rw [← nI_0, bw_eq_nn (by omega) (by omega)] at hc9
        refine lv_aload_n hx hb d_Mo_place_12 rfl (lv_at hl 0 rfl) ?_
        refine lv_iload_n hx hb d_Mo_place_13 rfl (lv_at hl 2 rfl) ?_
        have hPc := hP.sub (ws' := [(mo, .inr (5, [.int (nI sp), .int (nI d), .ref mdr, .int (nI mm - 1), .ref mtx, .ref mod, .ref mia, .ref mus, .ref mol, .ref mle, .int (nI kn), .ref mrw, .ref mls])), (mtx, .inl (ky, 97, .inl (nA Mx))), (mle, .inl (ky, 8, .inl (nA Wn)))]) [1, 0, 2] rfl
        have hDc := hD.sub (ws' := [(mo, .inr (5, [.int (nI sp), .int (nI d), .ref mdr, .int (nI mm - 1), .ref mtx, .ref mod, .ref mia, .ref mus, .ref mol, .ref mle, .int (nI kn), .ref mrw, .ref mls])), (mtx, .inl (ky, 97, .inl (nA Mx))), (mle, .inl (ky, 8, .inl (nA Wn)))]) [1, 0, 2] (by decide) rfl
        have hFc := va_free (wc := [(mo, .inr (5, [.int (nI sp), .int (nI d), .ref mdr, .int (nI mm - 1), .ref mtx, .ref mod, .ref mia, .ref mus, .ref mol, .ref mle, .int (nI kn), .ref mrw, .ref mls])), (mtx, .inl (ky, 97, .inl (nA Mx))), (mle, .inl (ky, 8, .inl (nA Wn)))]) hD hS hA [1, 0, 2] rfl
        refine va_calli (va_runV (C := "SelfIndexedSequencesModel") (As := [.int (xi)]) (rest := []) ⟨hx, hb, hml, hown, hts⟩ (c_Mo_search l dC dI ky H.size mo sp d mdr mm mtx mod mia mus mol mle kn mrw mls Mx T Wn (pw w) xi hMx (by first | assumption | omega | (simp; done) | (simp_all; done)) (by first | assumption | omega | (simp; done) | (simp_all; done)) (by first | assumption | omega | (simp; done) | (simp_all; done)) ⟨hPt.1, hPt.2.1⟩ hWb (pw_lt hPt hw) (fun i hi => by rw [hLi i hi, (pw_cod hPt hi).1]) (fun i hi => (pw_cod hPt hi).2.2) (by first | assumption | omega | (simp; done) | (simp_all; done))) ⟨callB_of 1 hts (W0_good tw_504) rfl rfl rfl (htb _ tw_28) (htb _ tw_501) ⟨by decide, by decide, by decide +kernel⟩ ⟨(Nat.le_of_ble_eq_true rfl), (Nat.le_of_ble_eq_true rfl)⟩, htb _ tw_503, htb _ tw_17⟩ ⟨fun a U g mk q => by obtain ⟨q0, q1, qP, qK, qD⟩ := q; exact ⟨q0, q1, qP, va_K.moved (u := U) (U := U.calling g mk a) (Vm.Alike.refl U.vm) qK, qD⟩, va_recv hK hPc (q0 := 0) (q := (R_Mo, F_Mo, 13)) rfl rfl, fun U hU hW => ⟨rfl, by rw [hU], by rw [hU]; exact hPc, va_K.moved hW.alike hK, hDc.weaken (fun _ _ _ _ => trivial)⟩⟩ rfl rfl hl.1 rfl (lv_room (Nat.le_of_ble_eq_true rfl)) d_Mo_place_14 ⟨(Nat.le_of_ble_eq_true rfl), (Nat.le_of_ble_eq_true rfl)⟩) hS (fun q _ h => hFc q h) hFc (fun r14 u_ t H locs ht hvm hw14 hB hz1 hk1 hS => ?_)
        obtain ⟨hP1, hD1⟩ := hB
        rw [ht] at hP1
        obtain ⟨hP, hD⟩ := va_join (wr := []) (w1 := [(mo, .inr (5, [.int (nI sp), .int (nI d), .ref mdr, .int (nI mm - 1), .ref mtx, .ref mod, .ref mia, .ref mus, .ref mol, .ref mle, .int (nI kn), .ref mrw, .ref mls])), (mtx, .inl (ky, 97, .inl (nA Mx))), (mle, .inl (ky, 8, .inl (nA Wn)))]) hP hD [1, 0, 2] [] rfl rfl (by decide) (by decide) hk1 hFc hP1 hD1
        have hP : va_P (dC, dI) cls_ [(mo, .inr (5, [.int (nI sp), .int (nI d), .ref mdr, .int (nI mm - 1), .ref mtx, .ref mod, .ref mia, .ref mus, .ref mol, .ref mle, .int (nI kn), .ref mrw, .ref mls])), (mtx, .inl (ky, 97, .inl (nA Mx))), (mle, .inl (ky, 8, .inl (nA Wn)))] H := hP
        have hD : va_D A [(mo, .inr (5, [.int (nI sp), .int (nI d), .ref mdr, .int (nI mm - 1), .ref mtx, .ref mod, .ref mia, .ref mus, .ref mol, .ref mle, .int (nI kn), .ref mrw, .ref mls])), (mtx, .inl (ky, 97, .inl (nA Mx))), (mle, .inl (ky, 8, .inl (nA Wn)))] := hD
        have hq14 : (∃ v, v + 1 < mm ∧ occ T (pw w) kn 0 v ∧ xi = nI (num (occ T (pw w) kn 0) v) ∧ r14 = nI v) ∨ ((∀ v, v + 1 < mm → occ T (pw w) kn 0 v → xi ≠ nI (num (occ T (pw w) kn 0) v)) ∧ ((xi < 0 ∧ r14 = nI (num (occ T (pw w) kn 0) (mm - 1))) ∨ (¬ xi < 0 ∧ r14 = nI 0 - 1))) := hw14
        rcases hq14 with ⟨v, h1, h2, h3, rfl⟩ | ⟨hno, ⟨hlt, rfl⟩ | ⟨hge, rfl⟩⟩
        · skip
          refine lv_goto (tgt := 21) hx hb d_Mo_place_17 (by decide) ?_
          refine lv_istore hx hb d_Mo_place_21 hl (by decide) rfl (fun ls hl => ?_)
          have hl : lv_has ls 8 [(4, .int (nI v)), (0, .ref mo), (1, .long (lN w)), (3, .int (xi))] := hl
          refine lv_iload hx hb d_Mo_place_23 (lv_at hl 0 rfl) ?_
          refine lv_if_ge (tgt := 30) hx hb d_Mo_place_25 (by decide) (fun hc25 => ?_) (fun hc25 => ?_)
          · skip
            rw [← nI_0, bw_le_nn (by omega) (by omega)] at hc25
            refine lv_iconst (v := nI 0) hx hb d_Mo_place_30 (by decide) ?_
            refine lv_istore hx hb d_Mo_place_31 hl (by decide) rfl (fun ls hl => ?_)
            have hl : lv_has ls 8 [(5, .int (nI 0)), (4, .int (nI v)), (0, .ref mo), (1, .long (lN w)), (3, .int (xi))] := hl
            refine lv_iconst (v := nI 0) hx hb d_Mo_place_33 (by decide) ?_
            refine lv_istore hx hb d_Mo_place_34 hl (by decide) rfl (fun ls hl => ?_)
            have hl : lv_has ls 8 [(6, .int (nI 0)), (5, .int (nI 0)), (4, .int (nI v)), (0, .ref mo), (1, .long (lN w)), (3, .int (xi))] := hl
            refine lv_iconst (v := nI 0) hx hb d_Mo_place_36 (by decide) ?_
            refine lv_istore hx hb d_Mo_place_37 hl (by decide) rfl (fun ls hl => ?_)
            have hl : lv_has ls 8 [(7, .int (nI 0)), (6, .int (nI 0)), (5, .int (nI 0)), (4, .int (nI v)), (0, .ref mo), (1, .long (lN w)), (3, .int (xi))] := hl
            refine wl_loop (σ := Nat × Nat × Nat) 39 [] (fun (a_ : Nat × Nat × Nat) => match a_ with | (q2, s2, o2) => v - q2) (fun (a_ : Nat × Nat × Nat) (H : Heap) (locs : List Loc) (ls : Array Slot) => match a_ with | (q2, s2, o2) => (q2 ≤ v) ∧ (s2 = nb T q2) ∧ (o2 = q2 - gs T (mm - 1) (nb T q2)) ∧ (s2 ≤ q2) ∧ (o2 ≤ q2) ∧ va_P (dC, dI) cls_ [(mo, .inr (5, [.int (nI sp), .int (nI d), .ref mdr, .int (nI mm - 1), .ref mtx, .ref mod, .ref mia, .ref mus, .ref mol, .ref mle, .int (nI kn), .ref mrw, .ref mls])), (mtx, .inl (ky, 97, .inl (nA Mx))), (mle, .inl (ky, 8, .inl (nA Wn)))] H ∧ va_D A [(mo, .inr (5, [.int (nI sp), .int (nI d), .ref mdr, .int (nI mm - 1), .ref mtx, .ref mod, .ref mia, .ref mus, .ref mol, .ref mle, .int (nI kn), .ref mrw, .ref mls])), (mtx, .inl (ky, 97, .inl (nA Mx))), (mle, .inl (ky, 8, .inl (nA Wn)))] ∧ va_S A s.heap H locs ∧ lv_has ls 8 [(7, .int (nI q2)), (5, .int (nI s2)), (6, .int (nI o2)), (4, .int (nI v)), (0, .ref mo)]) ?_ (0, 0, 0) ⟨(by first | assumption | omega | (simp; done) | (simp_all; done)), (nb_0 T).symm, (by rw [nb_0, gs_0]), (by first | assumption | omega | (simp; done) | (simp_all; done)), (by first | assumption | omega | (simp; done) | (simp_all; done)), hP, hD, hS, lv_sub hl [0, 2, 1, 3, 4] rfl⟩
            clear hP hD hS hl
            intro a_ H locs ls hI ih39
            obtain ⟨q2, s2, o2⟩ := a_
            obtain ⟨hq2, hs2, ho2, hsq, hoq, hP, hD, hS, hl⟩ := hI
            have hl : lv_has ls 8 [(7, .int (nI q2)), (5, .int (nI s2)), (6, .int (nI o2)), (4, .int (nI v)), (0, .ref mo)] := hl
            have hP : va_P (dC, dI) cls_ [(mo, .inr (5, [.int (nI sp), .int (nI d), .ref mdr, .int (nI mm - 1), .ref mtx, .ref mod, .ref mia, .ref mus, .ref mol, .ref mle, .int (nI kn), .ref mrw, .ref mls])), (mtx, .inl (ky, 97, .inl (nA Mx))), (mle, .inl (ky, 8, .inl (nA Wn)))] H := hP
            have hD : va_D A [(mo, .inr (5, [.int (nI sp), .int (nI d), .ref mdr, .int (nI mm - 1), .ref mtx, .ref mod, .ref mia, .ref mus, .ref mol, .ref mle, .int (nI kn), .ref mrw, .ref mls])), (mtx, .inl (ky, 97, .inl (nA Mx))), (mle, .inl (ky, 8, .inl (nA Wn)))] := hD
            have hq2 : q2 ≤ v := hq2
            have hs2 : s2 = nb T q2 := hs2
            have ho2 : o2 = q2 - gs T (mm - 1) (nb T q2) := ho2
            have hsq : s2 ≤ q2 := hsq
            have hoq : o2 ≤ q2 := hoq
            refine lv_iload hx hb d_Mo_place_39 (lv_at hl 0 rfl) ?_
            refine lv_iload hx hb d_Mo_place_41 (lv_at hl 3 rfl) ?_
            refine lv_icmp_ge (tgt := 96) hx hb d_Mo_place_43 (by decide) (fun hc43 => ?_) (fun hc43 => ?_)
            · skip
              rw [bw_le_nn (by omega) (by omega)] at hc43
              refine lv_bipush (v := nI 100) hx hb d_Mo_place_96 (by decide) ?_
              refine lv_iload hx hb d_Mo_place_98 (lv_at hl 1 rfl) ?_
              refine lv_imul hx hb d_Mo_place_100 ?_
              rw [pk_mul]
              refine lv_iload hx hb d_Mo_place_101 (lv_at hl 2 rfl) ?_
              refine lv_iadd hx hb d_Mo_place_103 ?_
              rw [nI_add]
              have hP9 := hP.sub (ws' := [(mo, .inr (5, [.int (nI sp), .int (nI d), .ref mdr, .int (nI mm - 1), .ref mtx, .ref mod, .ref mia, .ref mus, .ref mol, .ref mle, .int (nI kn), .ref mrw, .ref mls])), (mtx, .inl (ky, 97, .inl (nA Mx))), (mle, .inl (ky, 8, .inl (nA Wn)))]) [0, 1, 2] rfl
              have hD9 := hD.sub (ws' := [(mo, .inr (5, [.int (nI sp), .int (nI d), .ref mdr, .int (nI mm - 1), .ref mtx, .ref mod, .ref mia, .ref mus, .ref mol, .ref mle, .int (nI kn), .ref mrw, .ref mls])), (mtx, .inl (ky, 97, .inl (nA Mx))), (mle, .inl (ky, 8, .inl (nA Wn)))]) [0, 1, 2] (by decide) rfl
              exact W.iret (v := nI ((100 * s2) + o2)) hx hb hr (fun t ht hW => ⟨⟨nI ((100 * s2) + o2), (kn, Wn), rfl, ⟨Or.inl ⟨kn, v, hPt, h1, h2, h3, by rw [hs2, ho2, show q2 = v by omega]⟩, hk8, hWb⟩, by rw [ht]; exact hP9, hD9⟩, hS.F ht⟩) hS.2.2 d_Mo_place_104
            · skip
              rw [bw_le_nn (by omega) (by omega)] at hc43
              refine lv_aload_n hx hb d_Mo_place_46 rfl (lv_at hl 4 rfl) ?_
              refine va_get (D := (dC, dI)) (ci := 5) (v := .ref mtx) (C := R_Mo) (T := F_Mo) (N := 13) hx hb htb in_Mo hown hK hP 0 rfl rfl 4 (by decide) (htb _ tw_365) (fun _ h9 => h9) rfl d_Mo_place_47 ?_
              refine lv_iload hx hb d_Mo_place_50 (lv_at hl 0 rfl) ?_
              have hcl := cod_lt (hT28 q2)
              refine va_iald hx hb hK hP 1 0 rfl rfl (vp_in_nI (by omega) (by decide)) d_Mo_place_52 ?_
              rw [nI_clamp (by omega)]
              have hb52 := hMx q2
              rw [nA_at]
              rw [show nI (Mx q2) = nI (cod (T q2)) from (by rw [hTx _ (by omega)])]
              refine lv_bipush (v := nI 124) hx hb d_Mo_place_53 (by decide) ?_
              refine lv_icmp_ne (tgt := 62) hx hb d_Mo_place_55 (by decide) (fun hc55 => ?_) (fun hc55 => ?_)
              · skip
                rw [bw_eq_nn (by omega) (by omega)] at hc55
                refine lv_iload hx hb d_Mo_place_62 (lv_at hl 2 rfl) ?_
                refine lv_iconst (v := nI 1) hx hb d_Mo_place_64 (by decide) ?_
                refine lv_iadd hx hb d_Mo_place_65 ?_
                rw [nI_add]
                refine lv_istore hx hb d_Mo_place_66 hl (by decide) rfl (fun ls hl => ?_)
                have hl : lv_has ls 8 [(6, .int (nI (o2 + 1))), (7, .int (nI q2)), (5, .int (nI s2)), (4, .int (nI v)), (0, .ref mo)] := hl
                refine lv_iload hx hb d_Mo_place_68 (lv_at hl 2 rfl) ?_
                refine lv_aload_n hx hb d_Mo_place_70 rfl (lv_at hl 4 rfl) ?_
                refine va_get (D := (dC, dI)) (ci := 5) (v := .ref mtx) (C := R_Mo) (T := F_Mo) (N := 13) hx hb htb in_Mo hown hK hP 0 rfl rfl 4 (by decide) (htb _ tw_365) (fun _ h9 => h9) rfl d_Mo_place_71 ?_
                refine lv_iload hx hb d_Mo_place_74 (lv_at hl 1 rfl) ?_
                refine va_iald hx hb hK hP 1 0 rfl rfl (vp_in_nI (by omega) (by decide)) d_Mo_place_76 ?_
                rw [nI_clamp (by omega)]
                have hb76 := hMx q2
                rw [nA_at]
                rw [show nI (Mx q2) = nI (cod (T q2)) from (by rw [hTx _ (by omega)])]
                refine lv_bipush (v := nI 124) hx hb d_Mo_place_77 (by decide) ?_
                refine lv_icmp_ne (tgt := 86) hx hb d_Mo_place_79 (by decide) (fun hc79 => ?_) (fun hc79 => ?_)
                · skip
                  rw [bw_eq_nn (by omega) (by omega)] at hc79
                  refine lv_iconst (v := nI 0) hx hb d_Mo_place_86 (by decide) ?_
                  refine lv_iadd hx hb d_Mo_place_87 ?_
                  rw [nI_add]
                  refine lv_istore hx hb d_Mo_place_88 hl (by decide) rfl (fun ls hl => ?_)
                  have hl : lv_has ls 8 [(5, .int (nI (s2 + 0))), (6, .int (nI (o2 + 1))), (7, .int (nI q2)), (4, .int (nI v)), (0, .ref mo)] := hl
                  refine lv_iinc (v := nI (q2 + 1)) (k := 2) hx hb d_Mo_place_90 hl rfl (bw_inc q2 1) (by decide) rfl (fun ls hl => ?_)
                  have hl : lv_has ls 8 [(7, .int (nI (q2 + 1))), (5, .int (nI (s2 + 0))), (6, .int (nI (o2 + 1))), (4, .int (nI v)), (0, .ref mo)] := hl
                  refine lv_goto (tgt := 39) hx hb d_Mo_place_93 (by decide) ?_
                  exact ih39 ((q2 + 1), (s2 + 0), (o2 + 1)) _ _ _ ⟨(by first | assumption | omega | (simp; done) | (simp_all; done)), (by first | (rw [nb_y ((cod124 (hT28 q2)).mp (by assumption))]; omega) | (rw [nb_n (fun z => absurd ((cod124 (hT28 q2)).mpr z) (by assumption))]; omega) | (exfalso; omega)), (by first | exact off_y (by omega) ho2 ((cod124 (hT28 q2)).mp (by assumption)) | exact off_n (by omega) ho2 (fun z => absurd ((cod124 (hT28 q2)).mpr z) (by assumption)) | (exfalso; omega)), (by first | assumption | omega | (simp; done) | (simp_all; done)), (by first | assumption | omega | (simp; done) | (simp_all; done)), hP, hD, hS, lv_sub hl [0, 1, 2, 3, 4] rfl⟩ (by first | omega | (simp only; omega) | (dsimp only; omega))
                · skip
                  rw [bw_eq_nn (by omega) (by omega)] at hc79
                  refine lv_iconst (v := nI 1) hx hb d_Mo_place_82 (by decide) ?_
                  refine lv_goto (tgt := 87) hx hb d_Mo_place_83 (by decide) ?_
                  refine lv_iadd hx hb d_Mo_place_87 ?_
                  rw [nI_add]
                  refine lv_istore hx hb d_Mo_place_88 hl (by decide) rfl (fun ls hl => ?_)
                  have hl : lv_has ls 8 [(5, .int (nI (s2 + 1))), (6, .int (nI (o2 + 1))), (7, .int (nI q2)), (4, .int (nI v)), (0, .ref mo)] := hl
                  refine lv_iinc (v := nI (q2 + 1)) (k := 2) hx hb d_Mo_place_90 hl rfl (bw_inc q2 1) (by decide) rfl (fun ls hl => ?_)
                  have hl : lv_has ls 8 [(7, .int (nI (q2 + 1))), (5, .int (nI (s2 + 1))), (6, .int (nI (o2 + 1))), (4, .int (nI v)), (0, .ref mo)] := hl
                  refine lv_goto (tgt := 39) hx hb d_Mo_place_93 (by decide) ?_
                  exact ih39 ((q2 + 1), (s2 + 1), (o2 + 1)) _ _ _ ⟨(by first | assumption | omega | (simp; done) | (simp_all; done)), (by first | (rw [nb_y ((cod124 (hT28 q2)).mp (by assumption))]; omega) | (rw [nb_n (fun z => absurd ((cod124 (hT28 q2)).mpr z) (by assumption))]; omega) | (exfalso; omega)), (by first | exact off_y (by omega) ho2 ((cod124 (hT28 q2)).mp (by assumption)) | exact off_n (by omega) ho2 (fun z => absurd ((cod124 (hT28 q2)).mpr z) (by assumption)) | (exfalso; omega)), (by first | assumption | omega | (simp; done) | (simp_all; done)), (by first | assumption | omega | (simp; done) | (simp_all; done)), hP, hD, hS, lv_sub hl [0, 1, 2, 3, 4] rfl⟩ (by first | omega | (simp only; omega) | (dsimp only; omega))
              · skip
                rw [bw_eq_nn (by omega) (by omega)] at hc55
                refine lv_iconst (v := nI 0) hx hb d_Mo_place_58 (by decide) ?_
                refine lv_goto (tgt := 66) hx hb d_Mo_place_59 (by decide) ?_
                refine lv_istore hx hb d_Mo_place_66 hl (by decide) rfl (fun ls hl => ?_)
                have hl : lv_has ls 8 [(6, .int (nI 0)), (7, .int (nI q2)), (5, .int (nI s2)), (4, .int (nI v)), (0, .ref mo)] := hl
                refine lv_iload hx hb d_Mo_place_68 (lv_at hl 2 rfl) ?_
                refine lv_aload_n hx hb d_Mo_place_70 rfl (lv_at hl 4 rfl) ?_
                refine va_get (D := (dC, dI)) (ci := 5) (v := .ref mtx) (C := R_Mo) (T := F_Mo) (N := 13) hx hb htb in_Mo hown hK hP 0 rfl rfl 4 (by decide) (htb _ tw_365) (fun _ h9 => h9) rfl d_Mo_place_71 ?_
                refine lv_iload hx hb d_Mo_place_74 (lv_at hl 1 rfl) ?_
                refine va_iald hx hb hK hP 1 0 rfl rfl (vp_in_nI (by omega) (by decide)) d_Mo_place_76 ?_
                rw [nI_clamp (by omega)]
                have hb76 := hMx q2
                rw [nA_at]
                rw [show nI (Mx q2) = nI (cod (T q2)) from (by rw [hTx _ (by omega)])]
                refine lv_bipush (v := nI 124) hx hb d_Mo_place_77 (by decide) ?_
                refine lv_icmp_ne (tgt := 86) hx hb d_Mo_place_79 (by decide) (fun hc79 => ?_) (fun hc79 => ?_)
                · skip
                  rw [bw_eq_nn (by omega) (by omega)] at hc79
                  refine lv_iconst (v := nI 0) hx hb d_Mo_place_86 (by decide) ?_
                  refine lv_iadd hx hb d_Mo_place_87 ?_
                  rw [nI_add]
                  refine lv_istore hx hb d_Mo_place_88 hl (by decide) rfl (fun ls hl => ?_)
                  have hl : lv_has ls 8 [(5, .int (nI (s2 + 0))), (6, .int (nI 0)), (7, .int (nI q2)), (4, .int (nI v)), (0, .ref mo)] := hl
                  refine lv_iinc (v := nI (q2 + 1)) (k := 2) hx hb d_Mo_place_90 hl rfl (bw_inc q2 1) (by decide) rfl (fun ls hl => ?_)
                  have hl : lv_has ls 8 [(7, .int (nI (q2 + 1))), (5, .int (nI (s2 + 0))), (6, .int (nI 0)), (4, .int (nI v)), (0, .ref mo)] := hl
                  refine lv_goto (tgt := 39) hx hb d_Mo_place_93 (by decide) ?_
                  exact ih39 ((q2 + 1), (s2 + 0), 0) _ _ _ ⟨(by first | assumption | omega | (simp; done) | (simp_all; done)), (by first | (rw [nb_y ((cod124 (hT28 q2)).mp (by assumption))]; omega) | (rw [nb_n (fun z => absurd ((cod124 (hT28 q2)).mpr z) (by assumption))]; omega) | (exfalso; omega)), (by first | exact off_y (by omega) ho2 ((cod124 (hT28 q2)).mp (by assumption)) | exact off_n (by omega) ho2 (fun z => absurd ((cod124 (hT28 q2)).mpr z) (by assumption)) | (exfalso; omega)), (by first | assumption | omega | (simp; done) | (simp_all; done)), (by first | assumption | omega | (simp; done) | (simp_all; done)), hP, hD, hS, lv_sub hl [0, 1, 2, 3, 4] rfl⟩ (by first | omega | (simp only; omega) | (dsimp only; omega))
                · skip
                  rw [bw_eq_nn (by omega) (by omega)] at hc79
                  refine lv_iconst (v := nI 1) hx hb d_Mo_place_82 (by decide) ?_
                  refine lv_goto (tgt := 87) hx hb d_Mo_place_83 (by decide) ?_
                  refine lv_iadd hx hb d_Mo_place_87 ?_
                  rw [nI_add]
                  refine lv_istore hx hb d_Mo_place_88 hl (by decide) rfl (fun ls hl => ?_)
                  have hl : lv_has ls 8 [(5, .int (nI (s2 + 1))), (6, .int (nI 0)), (7, .int (nI q2)), (4, .int (nI v)), (0, .ref mo)] := hl
                  refine lv_iinc (v := nI (q2 + 1)) (k := 2) hx hb d_Mo_place_90 hl rfl (bw_inc q2 1) (by decide) rfl (fun ls hl => ?_)
                  have hl : lv_has ls 8 [(7, .int (nI (q2 + 1))), (5, .int (nI (s2 + 1))), (6, .int (nI 0)), (4, .int (nI v)), (0, .ref mo)] := hl
                  refine lv_goto (tgt := 39) hx hb d_Mo_place_93 (by decide) ?_
                  exact ih39 ((q2 + 1), (s2 + 1), 0) _ _ _ ⟨(by first | assumption | omega | (simp; done) | (simp_all; done)), (by first | (rw [nb_y ((cod124 (hT28 q2)).mp (by assumption))]; omega) | (rw [nb_n (fun z => absurd ((cod124 (hT28 q2)).mpr z) (by assumption))]; omega) | (exfalso; omega)), (by first | exact off_y (by omega) ho2 ((cod124 (hT28 q2)).mp (by assumption)) | exact off_n (by omega) ho2 (fun z => absurd ((cod124 (hT28 q2)).mpr z) (by assumption)) | (exfalso; omega)), (by first | assumption | omega | (simp; done) | (simp_all; done)), (by first | assumption | omega | (simp; done) | (simp_all; done)), hP, hD, hS, lv_sub hl [0, 1, 2, 3, 4] rfl⟩ (by first | omega | (simp only; omega) | (dsimp only; omega))
          · skip
            rw [← nI_0, bw_le_nn (by omega) (by omega)] at hc25
            refine lv_iconst (v := nI 0 - 1) hx hb d_Mo_place_28 (by decide) ?_
            have hP9 := hP.sub (ws' := [(mo, .inr (5, [.int (nI sp), .int (nI d), .ref mdr, .int (nI mm - 1), .ref mtx, .ref mod, .ref mia, .ref mus, .ref mol, .ref mle, .int (nI kn), .ref mrw, .ref mls])), (mtx, .inl (ky, 97, .inl (nA Mx))), (mle, .inl (ky, 8, .inl (nA Wn)))]) [0, 1, 2] rfl
            have hD9 := hD.sub (ws' := [(mo, .inr (5, [.int (nI sp), .int (nI d), .ref mdr, .int (nI mm - 1), .ref mtx, .ref mod, .ref mia, .ref mus, .ref mol, .ref mle, .int (nI kn), .ref mrw, .ref mls])), (mtx, .inl (ky, 97, .inl (nA Mx))), (mle, .inl (ky, 8, .inl (nA Wn)))]) [0, 1, 2] (by decide) rfl
            exact W.iret (v := nI 0 - 1) hx hb hr (fun t ht hW => ⟨⟨nI 0 - 1, (kn, Wn), rfl, (by first | exact ⟨Or.inr ⟨fun k v hp _ _ => absurd hp (hnP k), rfl⟩, hk8, hWb⟩ | exact ⟨Or.inr ⟨fun k v hp h1 h2 => by rw [Pat_uniq hp hPt]; rw [Pat_uniq hp hPt] at h2; exact hno v h1 h2, rfl⟩, hk8, hWb⟩ | exact ⟨Or.inr ⟨fun k v _ h1 _ => bw_neg (n := 98) hc1 (by omega) _ (by have := num_le (occ T (pw w) k 0) v; omega), rfl⟩, hmy8, hLw⟩ | (exfalso; omega)), by rw [ht]; exact hP9, hD9⟩, hS.F ht⟩) hS.2.2 d_Mo_place_29
        · exact absurd hlt hc1
        · skip
          refine lv_goto (tgt := 21) hx hb d_Mo_place_17 (by decide) ?_
          refine lv_istore hx hb d_Mo_place_21 hl (by decide) rfl (fun ls hl => ?_)
          have hl : lv_has ls 8 [(4, .int (nI 0 - 1)), (0, .ref mo), (1, .long (lN w)), (3, .int (xi))] := hl
          refine lv_iload hx hb d_Mo_place_23 (lv_at hl 0 rfl) ?_
          refine lv_if_ge (tgt := 30) hx hb d_Mo_place_25 (by decide) (fun hc25 => ?_) (fun hc25 => ?_)
          · exact absurd hc25 (by decide)
          · skip
            rw [← nI_0, bw_le_np (by omega) (by omega)] at hc25
            refine lv_iconst (v := nI 0 - 1) hx hb d_Mo_place_28 (by decide) ?_
            have hP9 := hP.sub (ws' := [(mo, .inr (5, [.int (nI sp), .int (nI d), .ref mdr, .int (nI mm - 1), .ref mtx, .ref mod, .ref mia, .ref mus, .ref mol, .ref mle, .int (nI kn), .ref mrw, .ref mls])), (mtx, .inl (ky, 97, .inl (nA Mx))), (mle, .inl (ky, 8, .inl (nA Wn)))]) [0, 1, 2] rfl
            have hD9 := hD.sub (ws' := [(mo, .inr (5, [.int (nI sp), .int (nI d), .ref mdr, .int (nI mm - 1), .ref mtx, .ref mod, .ref mia, .ref mus, .ref mol, .ref mle, .int (nI kn), .ref mrw, .ref mls])), (mtx, .inl (ky, 97, .inl (nA Mx))), (mle, .inl (ky, 8, .inl (nA Wn)))]) [0, 1, 2] (by decide) rfl
            exact W.iret (v := nI 0 - 1) hx hb hr (fun t ht hW => ⟨⟨nI 0 - 1, (kn, Wn), rfl, (by first | exact ⟨Or.inr ⟨fun k v hp _ _ => absurd hp (hnP k), rfl⟩, hk8, hWb⟩ | exact ⟨Or.inr ⟨fun k v hp h1 h2 => by rw [Pat_uniq hp hPt]; rw [Pat_uniq hp hPt] at h2; exact hno v h1 h2, rfl⟩, hk8, hWb⟩ | exact ⟨Or.inr ⟨fun k v _ h1 _ => bw_neg (n := 98) hc1 (by omega) _ (by have := num_le (occ T (pw w) k 0) v; omega), rfl⟩, hmy8, hLw⟩ | (exfalso; omega)), by rw [ht]; exact hP9, hD9⟩, hS.F ht⟩) hS.2.2 d_Mo_place_29
    · skip
      refine lv_if_eq (tgt := 20) hx hb d_Mo_place_9 (by decide) (fun hc9 => ?_) (fun hc9 => ?_)
      · skip
        rw [← nI_0, bw_eq_nn (by omega) (by omega)] at hc9
        refine lv_iconst (v := nI 0 - 1) hx hb d_Mo_place_20 (by decide) ?_
        refine lv_istore hx hb d_Mo_place_21 hl (by decide) rfl (fun ls hl => ?_)
        have hl : lv_has ls 8 [(4, .int (nI 0 - 1)), (0, .ref mo), (1, .long (lN w)), (3, .int (xi))] := hl
        refine lv_iload hx hb d_Mo_place_23 (lv_at hl 0 rfl) ?_
        refine lv_if_ge (tgt := 30) hx hb d_Mo_place_25 (by decide) (fun hc25 => ?_) (fun hc25 => ?_)
        · exact absurd hc25 (by decide)
        · skip
          rw [← nI_0, bw_le_np (by omega) (by omega)] at hc25
          refine lv_iconst (v := nI 0 - 1) hx hb d_Mo_place_28 (by decide) ?_
          have hP9 := hP.sub (ws' := [(mo, .inr (5, [.int (nI sp), .int (nI d), .ref mdr, .int (nI mm - 1), .ref mtx, .ref mod, .ref mia, .ref mus, .ref mol, .ref mle, .int (nI kn), .ref mrw, .ref mls])), (mtx, .inl (ky, 97, .inl (nA Mx))), (mle, .inl (ky, 8, .inl (nA Wn)))]) [1, 0, 2] rfl
          have hD9 := hD.sub (ws' := [(mo, .inr (5, [.int (nI sp), .int (nI d), .ref mdr, .int (nI mm - 1), .ref mtx, .ref mod, .ref mia, .ref mus, .ref mol, .ref mle, .int (nI kn), .ref mrw, .ref mls])), (mtx, .inl (ky, 97, .inl (nA Mx))), (mle, .inl (ky, 8, .inl (nA Wn)))]) [1, 0, 2] (by decide) rfl
          exact W.iret (v := nI 0 - 1) hx hb hr (fun t ht hW => ⟨⟨nI 0 - 1, (kn, Wn), rfl, (by first | exact ⟨Or.inr ⟨fun k v hp _ _ => absurd hp (hnP k), rfl⟩, hk8, hWb⟩ | exact ⟨Or.inr ⟨fun k v hp h1 h2 => by rw [Pat_uniq hp hPt]; rw [Pat_uniq hp hPt] at h2; exact hno v h1 h2, rfl⟩, hk8, hWb⟩ | exact ⟨Or.inr ⟨fun k v _ h1 _ => bw_neg (n := 98) hc1 (by omega) _ (by have := num_le (occ T (pw w) k 0) v; omega), rfl⟩, hmy8, hLw⟩ | (exfalso; omega)), by rw [ht]; exact hP9, hD9⟩, hS.F ht⟩) hS.2.2 d_Mo_place_29
      · exact absurd hc9 (by decide)

set_option maxHeartbeats 4000000 in
set_option maxRecDepth 100000 in
theorem c_Mo_letter (l : Launch) (dC : Nat → ClassId) (dI : Nat → Nat → Nat) (ky : ClassId) (sz : Nat) (mo : Nat) (sp : Nat) (d : Nat) (mdr : Nat) (mm : Nat) (mtx : Nat) (mod : Nat) (mia : Nat) (mus : Nat) (mol : Nat) (mle : Nat) (my : Nat) (mrw : Nat) (mls : Nat) (Lw : Nat → Nat) (Wl : Nat → Nat) (Rr : Nat → Nat) (cs : Nat) (hmy : 1 ≤ my ∧ my ≤ 8) (hLw : ∀ k_, Lw k_ < 125) (hWl28 : ∀ k_, Wl k_ < 28) (hLW : ∀ i, i < my → Lw i = cod (Wl i)) (hW0 : ∀ i, i < my → 2 ≤ Wl i) (hc : cs < 28) (hRr : ∀ k_, Rr k_ < 110) : Met l y_Mo_letter (Cond.code y_Mo_letter prog_7_method_30_code 5 none :: W0) ({ frames := 0, cells := 0, slots := 0, locals := 0 }) (va_Pc [.ref mo, .int (nI (cod cs))] (fun U => U.heap.size = sz ∧ va_P (dC, dI) cls_ [(mo, .inr (5, [.int (nI sp), .int (nI d), .ref mdr, .int (nI mm - 1), .ref mtx, .ref mod, .ref mia, .ref mus, .ref mol, .ref mle, .int (nI my), .ref mrw, .ref mls])), (mle, .inl (ky, 8, .inl (nA Lw))), (mrw, .inl (ky, 9, .inl (nA Rr)))] U.heap ∧ va_K (dC, dI) cls_ [(ky, .int)] U ∧ va_D (fun _ => True) [(mo, .inr (5, [.int (nI sp), .int (nI d), .ref mdr, .int (nI mm - 1), .ref mtx, .ref mod, .ref mia, .ref mus, .ref mol, .ref mle, .int (nI my), .ref mrw, .ref mls])), (mle, .inl (ky, 8, .inl (nA Lw))), (mrw, .inl (ky, 9, .inl (nA Rr)))])) (va_Qv (fun (Rn : Nat → Nat) => (∀ i, i ≤ my → Rn i = lvr Wl Rr cs i) ∧ (∀ i, my < i → Rn i = Rr i)) (fun (Rn : Nat → Nat) (t : State) => va_P (dC, dI) cls_ [(mo, .inr (5, [.int (nI sp), .int (nI d), .ref mdr, .int (nI mm - 1), .ref mtx, .ref mod, .ref mia, .ref mus, .ref mol, .ref mle, .int (nI my), .ref mrw, .ref mls])), (mle, .inl (ky, 8, .inl (nA Lw))), (mrw, .inl (ky, 9, .inl (nA Rn)))] t.heap ∧ va_D (va_A [(mo, .inr (5, [.int (nI sp), .int (nI d), .ref mdr, .int (nI mm - 1), .ref mtx, .ref mod, .ref mia, .ref mus, .ref mol, .ref mle, .int (nI my), .ref mrw, .ref mls])), (mle, .inl (ky, 8, .inl (nA Lw))), (mrw, .inl (ky, 9, .inl (nA Rr)))] sz) [(mo, .inr (5, [.int (nI sp), .int (nI d), .ref mdr, .int (nI mm - 1), .ref mtx, .ref mod, .ref mia, .ref mus, .ref mol, .ref mle, .int (nI my), .ref mrw, .ref mls])), (mle, .inl (ky, 8, .inl (nA Lw))), (mrw, .inl (ky, 9, .inl (nA Rn)))]) (va_A [(mo, .inr (5, [.int (nI sp), .int (nI d), .ref mdr, .int (nI mm - 1), .ref mtx, .ref mod, .ref mia, .ref mus, .ref mol, .ref mle, .int (nI my), .ref mrw, .ref mls])), (mle, .inl (ky, 8, .inl (nA Lw))), (mrw, .inl (ky, 9, .inl (nA Rr)))] sz)) 0 0 (va_A [(mo, .inr (5, [.int (nI sp), .int (nI d), .ref mdr, .int (nI mm - 1), .ref mtx, .ref mod, .ref mia, .ref mus, .ref mol, .ref mle, .int (nI my), .ref mrw, .ref mls])), (mle, .inl (ky, 8, .inl (nA Lw))), (mrw, .inl (ky, 9, .inl (nA Rr)))] sz) := by
  refine Met.ofW (cc := prog_7_method_30_code) (maxL := 5) (ret := none) (by decide) rfl ?_
  intro p e s m args below meth c s₁ B hml hv
  obtain ⟨rfl, hsz, hP, hK, hD0⟩ := hv
  have hx := B.exec
  have hb := B.bytes
  have hr := B.returns
  have hlocks := B.notSynchronized
  have hts := atoms_spec (ws := (Cond.code y_Mo_letter prog_7_method_30_code 5 none :: W0)) B.pre
  have htb : ∀ w ∈ W0, w.before _ s = true := fun w h => hts w (List.mem_cons_of_mem _ h)
  have hown : s.vm.findClass "SelfIndexedSequencesModel" = some m.cls := findClass_of_methodNamed B.named
  subst hsz
  have hD := hD0.self (sz := s.heap.size)
  generalize hAe : va_A [(mo, .inr (5, [.int (nI sp), .int (nI d), .ref mdr, .int (nI mm - 1), .ref mtx, .ref mod, .ref mia, .ref mus, .ref mol, .ref mle, .int (nI my), .ref mrw, .ref mls])), (mle, .inl (ky, 8, .inl (nA Lw))), (mrw, .inl (ky, 9, .inl (nA Rr)))] s.heap.size = A at hD ⊢
  have hA : ∀ q : Nat, s.heap.size ≤ q → A q := fun q h => by rw [← hAe]; exact Or.inr h
  have hS : va_S A s.heap s.heap [] := va_S.rf
  have hl := lv_entry ([.ref mo, .int (nI (cod cs))]) (n := 5) (Nat.le_of_ble_eq_true rfl)
  rw [lg_entry_eq]
  generalize (lg_sl ([.ref mo, .int (nI (cod cs))]) ++ List.replicate (5 - (lg_sl ([.ref mo, .int (nI (cod cs))])).length) Slot.unset).toArray = ls at hl ⊢
  have hl : lv_has ls 5 [(0, .ref mo), (1, .int (nI (cod cs)))] := hl
  have hR1 : ∀ k_, Rr k_ < 111 := fun k => by have := hRr k; omega
  have hcc := cod_lt hc
  refine lv_aload_n hx hb d_Mo_letter_0 rfl (lv_at hl 0 rfl) ?_
  refine va_get (D := (dC, dI)) (ci := 5) (v := .ref mrw) (C := R_Mo) (T := F_Mo) (N := 13) hx hb htb in_Mo hown hK hP 0 rfl rfl 11 (by decide) (htb _ tw_372) (fun _ h9 => h9) rfl d_Mo_letter_1 ?_
  refine lv_iconst (v := nI 0) hx hb d_Mo_letter_4 (by decide) ?_
  refine va_iald hx hb hK hP 2 0 rfl rfl (vp_in_nI (by omega) (by decide)) d_Mo_letter_5 ?_
  rw [nI_clamp (by omega)]
  have hb5 := hR1 0
  rw [nA_at]
  refine lv_istore_n hx hb d_Mo_letter_6 rfl hl (by decide) rfl (fun ls hl => ?_)
  have hl : lv_has ls 5 [(2, .int (nI (Rr 0))), (0, .ref mo), (1, .int (nI (cod cs)))] := hl
  refine lv_aload_n hx hb d_Mo_letter_7 rfl (lv_at hl 1 rfl) ?_
  refine va_get (D := (dC, dI)) (ci := 5) (v := .ref mrw) (C := R_Mo) (T := F_Mo) (N := 13) hx hb htb in_Mo hown hK hP 0 rfl rfl 11 (by decide) (htb _ tw_372) (fun _ h9 => h9) rfl d_Mo_letter_8 ?_
  refine lv_iconst (v := nI 0) hx hb d_Mo_letter_11 (by decide) ?_
  refine lv_aload_n hx hb d_Mo_letter_12 rfl (lv_at hl 1 rfl) ?_
  refine va_get (D := (dC, dI)) (ci := 5) (v := .ref mrw) (C := R_Mo) (T := F_Mo) (N := 13) hx hb htb in_Mo hown hK hP 0 rfl rfl 11 (by decide) (htb _ tw_372) (fun _ h9 => h9) rfl d_Mo_letter_13 ?_
  refine lv_iconst (v := nI 0) hx hb d_Mo_letter_16 (by decide) ?_
  refine va_iald hx hb hK hP 2 0 rfl rfl (vp_in_nI (by omega) (by decide)) d_Mo_letter_17 ?_
  rw [nI_clamp (by omega)]
  have hb17 := hR1 0
  rw [nA_at]
  refine lv_iconst (v := nI 1) hx hb d_Mo_letter_18 (by decide) ?_
  refine lv_iadd hx hb d_Mo_letter_19 ?_
  rw [nI_add]
  have hr00 := hRr 0
  refine va_iast hx hb hK hP hD hS 2 0 rfl rfl (vp_in_nI (by omega) (by decide)) d_Mo_letter_20 (fun H locs hP hD hS => ?_)
  rw [nI_clamp (by omega)] at hP hD
  rw [nA_upd] at hP hD
  have hu1 : ∀ k_, (upN Rr 0 ((Rr 0) + 1)) k_ < 111 := upN_lt hR1 (by omega)
  have hP : va_P (dC, dI) cls_ [(mo, .inr (5, [.int (nI sp), .int (nI d), .ref mdr, .int (nI mm - 1), .ref mtx, .ref mod, .ref mia, .ref mus, .ref mol, .ref mle, .int (nI my), .ref mrw, .ref mls])), (mle, .inl (ky, 8, .inl (nA Lw))), (mrw, .inl (ky, 9, .inl (nA (upN Rr 0 ((Rr 0) + 1)))))] H := hP
  have hD : va_D A [(mo, .inr (5, [.int (nI sp), .int (nI d), .ref mdr, .int (nI mm - 1), .ref mtx, .ref mod, .ref mia, .ref mus, .ref mol, .ref mle, .int (nI my), .ref mrw, .ref mls])), (mle, .inl (ky, 8, .inl (nA Lw))), (mrw, .inl (ky, 9, .inl (nA (upN Rr 0 ((Rr 0) + 1)))))] := hD
  refine lv_iconst (v := nI 1) hx hb d_Mo_letter_21 (by decide) ?_
  refine lv_istore_n hx hb d_Mo_letter_22 rfl hl (by decide) rfl (fun ls hl => ?_)
  have hl : lv_has ls 5 [(3, .int (nI 1)), (2, .int (nI (Rr 0))), (0, .ref mo), (1, .int (nI (cod cs)))] := hl
  refine wl_loop (σ := Nat × Nat × (Nat → Nat)) 23 [] (fun (a_ : Nat × Nat × (Nat → Nat)) => match a_ with | (j, co, Rq) => my + 1 - j) (fun (a_ : Nat × Nat × (Nat → Nat)) (H : Heap) (locs : List Loc) (ls : Array Slot) => match a_ with | (j, co, Rq) => (1 ≤ j) ∧ (j ≤ my + 1) ∧ (co = Rr (j - 1)) ∧ (∀ i, i < j → Rq i = lvr Wl Rr cs i) ∧ (∀ i, j ≤ i → Rq i = Rr i) ∧ (∀ k_, Rq k_ < 111) ∧ va_P (dC, dI) cls_ [(mo, .inr (5, [.int (nI sp), .int (nI d), .ref mdr, .int (nI mm - 1), .ref mtx, .ref mod, .ref mia, .ref mus, .ref mol, .ref mle, .int (nI my), .ref mrw, .ref mls])), (mle, .inl (ky, 8, .inl (nA Lw))), (mrw, .inl (ky, 9, .inl (nA Rq)))] H ∧ va_D A [(mo, .inr (5, [.int (nI sp), .int (nI d), .ref mdr, .int (nI mm - 1), .ref mtx, .ref mod, .ref mia, .ref mus, .ref mol, .ref mle, .int (nI my), .ref mrw, .ref mls])), (mle, .inl (ky, 8, .inl (nA Lw))), (mrw, .inl (ky, 9, .inl (nA Rq)))] ∧ va_S A s.heap H locs ∧ lv_has ls 5 [(3, .int (nI j)), (2, .int (nI co)), (0, .ref mo), (1, .int (nI (cod cs)))]) ?_ (1, (Rr 0), (upN Rr 0 ((Rr 0) + 1))) ⟨(by first | assumption | omega | (simp; done) | (simp_all; done)), (by first | assumption | omega | (simp; done) | (simp_all; done)), rfl, (fun i hi => by rw [show i = 0 by omega, upN_s]; rfl), (fun i hi => upN_o (by omega)), (by first | assumption | omega | (simp; done) | (simp_all; done)), hP, hD, hS, lv_sub hl [0, 1, 2, 3] rfl⟩
  clear hP hD hS hl
  intro a_ H locs ls hI ih23
  obtain ⟨j, co, Rq⟩ := a_
  obtain ⟨hj1, hj, hco, hlo, hhi, hRq, hP, hD, hS, hl⟩ := hI
  have hl : lv_has ls 5 [(3, .int (nI j)), (2, .int (nI co)), (0, .ref mo), (1, .int (nI (cod cs)))] := hl
  have hP : va_P (dC, dI) cls_ [(mo, .inr (5, [.int (nI sp), .int (nI d), .ref mdr, .int (nI mm - 1), .ref mtx, .ref mod, .ref mia, .ref mus, .ref mol, .ref mle, .int (nI my), .ref mrw, .ref mls])), (mle, .inl (ky, 8, .inl (nA Lw))), (mrw, .inl (ky, 9, .inl (nA Rq)))] H := hP
  have hD : va_D A [(mo, .inr (5, [.int (nI sp), .int (nI d), .ref mdr, .int (nI mm - 1), .ref mtx, .ref mod, .ref mia, .ref mus, .ref mol, .ref mle, .int (nI my), .ref mrw, .ref mls])), (mle, .inl (ky, 8, .inl (nA Lw))), (mrw, .inl (ky, 9, .inl (nA Rq)))] := hD
  have hj1 : 1 ≤ j := hj1
  have hj : j ≤ my + 1 := hj
  have hco : co = Rr (j - 1) := hco
  have hlo : ∀ i, i < j → Rq i = lvr Wl Rr cs i := hlo
  have hhi : ∀ i, j ≤ i → Rq i = Rr i := hhi
  have hRq : ∀ k_, Rq k_ < 111 := hRq
  refine lv_iload_n hx hb d_Mo_letter_23 rfl (lv_at hl 0 rfl) ?_
  refine lv_aload_n hx hb d_Mo_letter_24 rfl (lv_at hl 2 rfl) ?_
  refine va_get (D := (dC, dI)) (ci := 5) (v := .int (nI my)) (C := R_Mo) (T := F_Mo) (N := 13) hx hb htb in_Mo hown hK hP 0 rfl rfl 10 (by decide) (htb _ tw_371) (fun _ h9 => h9) rfl d_Mo_letter_25 ?_
  refine lv_icmp_gt (tgt := 129) hx hb d_Mo_letter_28 (by decide) (fun hc28 => ?_) (fun hc28 => ?_)
  · skip
    rw [bw_lt_nn (by omega) (by omega)] at hc28
    have hP9 := hP.sub (ws' := [(mo, .inr (5, [.int (nI sp), .int (nI d), .ref mdr, .int (nI mm - 1), .ref mtx, .ref mod, .ref mia, .ref mus, .ref mol, .ref mle, .int (nI my), .ref mrw, .ref mls])), (mle, .inl (ky, 8, .inl (nA Lw))), (mrw, .inl (ky, 9, .inl (nA Rq)))]) [0, 1, 2] rfl
    have hD9 := hD.sub (ws' := [(mo, .inr (5, [.int (nI sp), .int (nI d), .ref mdr, .int (nI mm - 1), .ref mtx, .ref mod, .ref mia, .ref mus, .ref mol, .ref mle, .int (nI my), .ref mrw, .ref mls])), (mle, .inl (ky, 8, .inl (nA Lw))), (mrw, .inl (ky, 9, .inl (nA Rq)))]) [0, 1, 2] (by decide) rfl
    exact W.vret hx hb hr (fun t ht hW => ⟨⟨Rq, rfl, ⟨fun i hi => hlo i (by omega), fun i hi => hhi i (by omega)⟩, by rw [ht]; exact hP9, hD9⟩, hS.F ht⟩) hS.2.2 d_Mo_letter_129
  · skip
    rw [bw_lt_nn (by omega) (by omega)] at hc28
    have hcw := cod_lt (hWl28 (j - 1))
    have hlv := lv_step (W := Wl) (D := Rr) (c := cs) hj1 hco (hhi j (Nat.le_refl j)) (hlo (j - 1) (by omega))
    have hb1 := hRr (j - 1)
    refine lv_iload_n hx hb d_Mo_letter_31 rfl (lv_at hl 1 rfl) ?_
    refine lv_aload_n hx hb d_Mo_letter_32 rfl (lv_at hl 2 rfl) ?_
    refine va_get (D := (dC, dI)) (ci := 5) (v := .ref mle) (C := R_Mo) (T := F_Mo) (N := 13) hx hb htb in_Mo hown hK hP 0 rfl rfl 9 (by decide) (htb _ tw_370) (fun _ h9 => h9) rfl d_Mo_letter_33 ?_
    refine lv_iload_n hx hb d_Mo_letter_36 rfl (lv_at hl 0 rfl) ?_
    refine lv_iconst (v := nI 1) hx hb d_Mo_letter_37 (by decide) ?_
    refine lv_isub hx hb d_Mo_letter_38 ?_
    rw [bw_n1 j]
    rw [bw_pn (show 0 < j by omega)]
    refine va_iald hx hb hK hP 1 0 rfl rfl (vp_in_nI (by omega) (by decide)) d_Mo_letter_39 ?_
    rw [nI_clamp (by omega)]
    have hb39 := hLw (j - 1)
    rw [nA_at]
    rw [show nI (Lw (j - 1)) = nI (cod (Wl (j - 1))) from (by rw [hLW _ (by omega)])]
    refine lv_iload_n hx hb d_Mo_letter_40 rfl (lv_at hl 3 rfl) ?_
    refine lv_icmp_ne (tgt := 48) hx hb d_Mo_letter_41 (by decide) (fun hc41 => ?_) (fun hc41 => ?_)
    · skip
      rw [bw_eq_nn (by omega) (by omega)] at hc41
      have hxq : neq (Wl (j - 1)) cs = 1 := if_neg (fun z => hc41 (by rw [z]))
      refine lv_iconst (v := nI 1) hx hb d_Mo_letter_48 (by decide) ?_
      refine lv_iadd hx hb d_Mo_letter_49 ?_
      rw [nI_add]
      refine lv_istore hx hb d_Mo_letter_50 hl (by decide) rfl (fun ls hl => ?_)
      have hl : lv_has ls 5 [(4, .int (nI (co + 1))), (3, .int (nI j)), (2, .int (nI co)), (0, .ref mo), (1, .int (nI (cod cs)))] := hl
      refine lv_aload_n hx hb d_Mo_letter_52 rfl (lv_at hl 3 rfl) ?_
      refine va_get (D := (dC, dI)) (ci := 5) (v := .ref mrw) (C := R_Mo) (T := F_Mo) (N := 13) hx hb htb in_Mo hown hK hP 0 rfl rfl 11 (by decide) (htb _ tw_372) (fun _ h9 => h9) rfl d_Mo_letter_53 ?_
      refine lv_iload_n hx hb d_Mo_letter_56 rfl (lv_at hl 1 rfl) ?_
      refine va_iald hx hb hK hP 2 0 rfl rfl (vp_in_nI (by omega) (by decide)) d_Mo_letter_57 ?_
      rw [nI_clamp (by omega)]
      have hb57 := hRq j
      rw [nA_at]
      refine lv_istore_n hx hb d_Mo_letter_58 rfl hl (by decide) rfl (fun ls hl => ?_)
      have hl : lv_has ls 5 [(2, .int (nI (Rq j))), (4, .int (nI (co + 1))), (3, .int (nI j)), (0, .ref mo), (1, .int (nI (cod cs)))] := hl
      refine lv_aload_n hx hb d_Mo_letter_59 rfl (lv_at hl 3 rfl) ?_
      refine va_get (D := (dC, dI)) (ci := 5) (v := .ref mrw) (C := R_Mo) (T := F_Mo) (N := 13) hx hb htb in_Mo hown hK hP 0 rfl rfl 11 (by decide) (htb _ tw_372) (fun _ h9 => h9) rfl d_Mo_letter_60 ?_
      refine lv_iload_n hx hb d_Mo_letter_63 rfl (lv_at hl 2 rfl) ?_
      refine va_iald hx hb hK hP 2 0 rfl rfl (vp_in_nI (by omega) (by decide)) d_Mo_letter_64 ?_
      rw [nI_clamp (by omega)]
      have hb64 := hRq j
      rw [nA_at]
      refine lv_iconst (v := nI 1) hx hb d_Mo_letter_65 (by decide) ?_
      refine lv_iadd hx hb d_Mo_letter_66 ?_
      rw [nI_add]
      refine lv_iload hx hb d_Mo_letter_67 (lv_at hl 1 rfl) ?_
      refine lv_icmp_ge (tgt := 83) hx hb d_Mo_letter_69 (by decide) (fun hc69 => ?_) (fun hc69 => ?_)
      · skip
        rw [bw_le_nn (by omega) (by omega)] at hc69
        refine lv_iload hx hb d_Mo_letter_83 (lv_at hl 1 rfl) ?_
        refine lv_istore hx hb d_Mo_letter_85 hl (by decide) rfl (fun ls hl => ?_)
        have hl : lv_has ls 5 [(4, .int (nI (co + 1))), (2, .int (nI (Rq j))), (3, .int (nI j)), (0, .ref mo), (1, .int (nI (cod cs)))] := hl
        refine lv_aload_n hx hb d_Mo_letter_87 rfl (lv_at hl 3 rfl) ?_
        refine va_get (D := (dC, dI)) (ci := 5) (v := .ref mrw) (C := R_Mo) (T := F_Mo) (N := 13) hx hb htb in_Mo hown hK hP 0 rfl rfl 11 (by decide) (htb _ tw_372) (fun _ h9 => h9) rfl d_Mo_letter_88 ?_
        refine lv_iload_n hx hb d_Mo_letter_91 rfl (lv_at hl 2 rfl) ?_
        refine lv_aload_n hx hb d_Mo_letter_92 rfl (lv_at hl 3 rfl) ?_
        refine va_get (D := (dC, dI)) (ci := 5) (v := .ref mrw) (C := R_Mo) (T := F_Mo) (N := 13) hx hb htb in_Mo hown hK hP 0 rfl rfl 11 (by decide) (htb _ tw_372) (fun _ h9 => h9) rfl d_Mo_letter_93 ?_
        refine lv_iload_n hx hb d_Mo_letter_96 rfl (lv_at hl 2 rfl) ?_
        refine lv_iconst (v := nI 1) hx hb d_Mo_letter_97 (by decide) ?_
        refine lv_isub hx hb d_Mo_letter_98 ?_
        rw [bw_n1 j]
        rw [bw_pn (show 0 < j by omega)]
        refine va_iald hx hb hK hP 2 0 rfl rfl (vp_in_nI (by omega) (by decide)) d_Mo_letter_99 ?_
        rw [nI_clamp (by omega)]
        have hb99 := hRq (j - 1)
        rw [nA_at]
        refine lv_iconst (v := nI 1) hx hb d_Mo_letter_100 (by decide) ?_
        refine lv_iadd hx hb d_Mo_letter_101 ?_
        rw [nI_add]
        refine lv_iload hx hb d_Mo_letter_102 (lv_at hl 0 rfl) ?_
        refine lv_icmp_ge (tgt := 120) hx hb d_Mo_letter_104 (by decide) (fun hc104 => ?_) (fun hc104 => ?_)
        · skip
          rw [bw_le_nn (by omega) (by omega)] at hc104
          refine lv_iload hx hb d_Mo_letter_120 (lv_at hl 0 rfl) ?_
          refine va_iast hx hb hK hP hD hS 2 0 rfl rfl (vp_in_nI (by omega) (by decide)) d_Mo_letter_122 (fun H locs hP hD hS => ?_)
          rw [nI_clamp (by omega)] at hP hD
          rw [nA_upd] at hP hD
          have hu2 : ∀ k_, (upN Rq j (co + 1)) k_ < 111 := upN_lt hRq (by have := hRr j; have := lvr_le Wl Rr cs j; omega)
          have hP : va_P (dC, dI) cls_ [(mo, .inr (5, [.int (nI sp), .int (nI d), .ref mdr, .int (nI mm - 1), .ref mtx, .ref mod, .ref mia, .ref mus, .ref mol, .ref mle, .int (nI my), .ref mrw, .ref mls])), (mle, .inl (ky, 8, .inl (nA Lw))), (mrw, .inl (ky, 9, .inl (nA (upN Rq j (co + 1)))))] H := hP
          have hD : va_D A [(mo, .inr (5, [.int (nI sp), .int (nI d), .ref mdr, .int (nI mm - 1), .ref mtx, .ref mod, .ref mia, .ref mus, .ref mol, .ref mle, .int (nI my), .ref mrw, .ref mls])), (mle, .inl (ky, 8, .inl (nA Lw))), (mrw, .inl (ky, 9, .inl (nA (upN Rq j (co + 1)))))] := hD
          refine lv_iinc (v := nI (j + 1)) (k := 2) hx hb d_Mo_letter_123 hl rfl (bw_inc j 1) (by decide) rfl (fun ls hl => ?_)
          have hl : lv_has ls 5 [(3, .int (nI (j + 1))), (4, .int (nI (co + 1))), (2, .int (nI (Rq j))), (0, .ref mo), (1, .int (nI (cod cs)))] := hl
          refine lv_goto (tgt := 23) hx hb d_Mo_letter_126 (by decide) ?_
          exact ih23 ((j + 1), (Rq j), (upN Rq j (co + 1))) _ _ _ ⟨(by first | assumption | omega | (simp; done) | (simp_all; done)), (by first | assumption | omega | (simp; done) | (simp_all; done)), (by rw [Nat.add_sub_cancel]; exact hhi j (Nat.le_refl j)), (fun i hi => if e : i = j then (by rw [e, upN_s]; omega) else (by rw [upN_o e]; exact hlo i (by omega))), (fun i hi => by rw [upN_o (by omega)]; exact hhi i (by omega)), (by first | assumption | omega | (simp; done) | (simp_all; done)), hP, hD, hS, lv_sub hl [0, 2, 3, 4] rfl⟩ (by first | omega | (simp only; omega) | (dsimp only; omega))
        · skip
          rw [bw_le_nn (by omega) (by omega)] at hc104
          refine lv_aload_n hx hb d_Mo_letter_107 rfl (lv_at hl 3 rfl) ?_
          refine va_get (D := (dC, dI)) (ci := 5) (v := .ref mrw) (C := R_Mo) (T := F_Mo) (N := 13) hx hb htb in_Mo hown hK hP 0 rfl rfl 11 (by decide) (htb _ tw_372) (fun _ h9 => h9) rfl d_Mo_letter_108 ?_
          refine lv_iload_n hx hb d_Mo_letter_111 rfl (lv_at hl 2 rfl) ?_
          refine lv_iconst (v := nI 1) hx hb d_Mo_letter_112 (by decide) ?_
          refine lv_isub hx hb d_Mo_letter_113 ?_
          rw [bw_n1 j]
          rw [bw_pn (show 0 < j by omega)]
          refine va_iald hx hb hK hP 2 0 rfl rfl (vp_in_nI (by omega) (by decide)) d_Mo_letter_114 ?_
          rw [nI_clamp (by omega)]
          have hb114 := hRq (j - 1)
          rw [nA_at]
          refine lv_iconst (v := nI 1) hx hb d_Mo_letter_115 (by decide) ?_
          refine lv_iadd hx hb d_Mo_letter_116 ?_
          rw [nI_add]
          refine lv_goto (tgt := 122) hx hb d_Mo_letter_117 (by decide) ?_
          refine va_iast hx hb hK hP hD hS 2 0 rfl rfl (vp_in_nI (by omega) (by decide)) d_Mo_letter_122 (fun H locs hP hD hS => ?_)
          rw [nI_clamp (by omega)] at hP hD
          rw [nA_upd] at hP hD
          have hu3 : ∀ k_, (upN Rq j ((Rq (j - 1)) + 1)) k_ < 111 := upN_lt hRq (by have := hRr j; have := lvr_le Wl Rr cs j; omega)
          have hP : va_P (dC, dI) cls_ [(mo, .inr (5, [.int (nI sp), .int (nI d), .ref mdr, .int (nI mm - 1), .ref mtx, .ref mod, .ref mia, .ref mus, .ref mol, .ref mle, .int (nI my), .ref mrw, .ref mls])), (mle, .inl (ky, 8, .inl (nA Lw))), (mrw, .inl (ky, 9, .inl (nA (upN Rq j ((Rq (j - 1)) + 1)))))] H := hP
          have hD : va_D A [(mo, .inr (5, [.int (nI sp), .int (nI d), .ref mdr, .int (nI mm - 1), .ref mtx, .ref mod, .ref mia, .ref mus, .ref mol, .ref mle, .int (nI my), .ref mrw, .ref mls])), (mle, .inl (ky, 8, .inl (nA Lw))), (mrw, .inl (ky, 9, .inl (nA (upN Rq j ((Rq (j - 1)) + 1)))))] := hD
          refine lv_iinc (v := nI (j + 1)) (k := 2) hx hb d_Mo_letter_123 hl rfl (bw_inc j 1) (by decide) rfl (fun ls hl => ?_)
          have hl : lv_has ls 5 [(3, .int (nI (j + 1))), (4, .int (nI (co + 1))), (2, .int (nI (Rq j))), (0, .ref mo), (1, .int (nI (cod cs)))] := hl
          refine lv_goto (tgt := 23) hx hb d_Mo_letter_126 (by decide) ?_
          exact ih23 ((j + 1), (Rq j), (upN Rq j ((Rq (j - 1)) + 1))) _ _ _ ⟨(by first | assumption | omega | (simp; done) | (simp_all; done)), (by first | assumption | omega | (simp; done) | (simp_all; done)), (by rw [Nat.add_sub_cancel]; exact hhi j (Nat.le_refl j)), (fun i hi => if e : i = j then (by rw [e, upN_s]; omega) else (by rw [upN_o e]; exact hlo i (by omega))), (fun i hi => by rw [upN_o (by omega)]; exact hhi i (by omega)), (by first | assumption | omega | (simp; done) | (simp_all; done)), hP, hD, hS, lv_sub hl [0, 2, 3, 4] rfl⟩ (by first | omega | (simp only; omega) | (dsimp only; omega))
      · skip
        rw [bw_le_nn (by omega) (by omega)] at hc69
        refine lv_aload_n hx hb d_Mo_letter_72 rfl (lv_at hl 3 rfl) ?_
        refine va_get (D := (dC, dI)) (ci := 5) (v := .ref mrw) (C := R_Mo) (T := F_Mo) (N := 13) hx hb htb in_Mo hown hK hP 0 rfl rfl 11 (by decide) (htb _ tw_372) (fun _ h9 => h9) rfl d_Mo_letter_73 ?_
        refine lv_iload_n hx hb d_Mo_letter_76 rfl (lv_at hl 2 rfl) ?_
        refine va_iald hx hb hK hP 2 0 rfl rfl (vp_in_nI (by omega) (by decide)) d_Mo_letter_77 ?_
        rw [nI_clamp (by omega)]
        have hb77 := hRq j
        rw [nA_at]
        refine lv_iconst (v := nI 1) hx hb d_Mo_letter_78 (by decide) ?_
        refine lv_iadd hx hb d_Mo_letter_79 ?_
        rw [nI_add]
        refine lv_goto (tgt := 85) hx hb d_Mo_letter_80 (by decide) ?_
        refine lv_istore hx hb d_Mo_letter_85 hl (by decide) rfl (fun ls hl => ?_)
        have hl : lv_has ls 5 [(4, .int (nI ((Rq j) + 1))), (2, .int (nI (Rq j))), (3, .int (nI j)), (0, .ref mo), (1, .int (nI (cod cs)))] := hl
        refine lv_aload_n hx hb d_Mo_letter_87 rfl (lv_at hl 3 rfl) ?_
        refine va_get (D := (dC, dI)) (ci := 5) (v := .ref mrw) (C := R_Mo) (T := F_Mo) (N := 13) hx hb htb in_Mo hown hK hP 0 rfl rfl 11 (by decide) (htb _ tw_372) (fun _ h9 => h9) rfl d_Mo_letter_88 ?_
        refine lv_iload_n hx hb d_Mo_letter_91 rfl (lv_at hl 2 rfl) ?_
        refine lv_aload_n hx hb d_Mo_letter_92 rfl (lv_at hl 3 rfl) ?_
        refine va_get (D := (dC, dI)) (ci := 5) (v := .ref mrw) (C := R_Mo) (T := F_Mo) (N := 13) hx hb htb in_Mo hown hK hP 0 rfl rfl 11 (by decide) (htb _ tw_372) (fun _ h9 => h9) rfl d_Mo_letter_93 ?_
        refine lv_iload_n hx hb d_Mo_letter_96 rfl (lv_at hl 2 rfl) ?_
        refine lv_iconst (v := nI 1) hx hb d_Mo_letter_97 (by decide) ?_
        refine lv_isub hx hb d_Mo_letter_98 ?_
        rw [bw_n1 j]
        rw [bw_pn (show 0 < j by omega)]
        refine va_iald hx hb hK hP 2 0 rfl rfl (vp_in_nI (by omega) (by decide)) d_Mo_letter_99 ?_
        rw [nI_clamp (by omega)]
        have hb99 := hRq (j - 1)
        rw [nA_at]
        refine lv_iconst (v := nI 1) hx hb d_Mo_letter_100 (by decide) ?_
        refine lv_iadd hx hb d_Mo_letter_101 ?_
        rw [nI_add]
        refine lv_iload hx hb d_Mo_letter_102 (lv_at hl 0 rfl) ?_
        refine lv_icmp_ge (tgt := 120) hx hb d_Mo_letter_104 (by decide) (fun hc104 => ?_) (fun hc104 => ?_)
        · skip
          rw [bw_le_nn (by omega) (by omega)] at hc104
          refine lv_iload hx hb d_Mo_letter_120 (lv_at hl 0 rfl) ?_
          refine va_iast hx hb hK hP hD hS 2 0 rfl rfl (vp_in_nI (by omega) (by decide)) d_Mo_letter_122 (fun H locs hP hD hS => ?_)
          rw [nI_clamp (by omega)] at hP hD
          rw [nA_upd] at hP hD
          have hu4 : ∀ k_, (upN Rq j ((Rq j) + 1)) k_ < 111 := upN_lt hRq (by have := hRr j; have := lvr_le Wl Rr cs j; omega)
          have hP : va_P (dC, dI) cls_ [(mo, .inr (5, [.int (nI sp), .int (nI d), .ref mdr, .int (nI mm - 1), .ref mtx, .ref mod, .ref mia, .ref mus, .ref mol, .ref mle, .int (nI my), .ref mrw, .ref mls])), (mle, .inl (ky, 8, .inl (nA Lw))), (mrw, .inl (ky, 9, .inl (nA (upN Rq j ((Rq j) + 1)))))] H := hP
          have hD : va_D A [(mo, .inr (5, [.int (nI sp), .int (nI d), .ref mdr, .int (nI mm - 1), .ref mtx, .ref mod, .ref mia, .ref mus, .ref mol, .ref mle, .int (nI my), .ref mrw, .ref mls])), (mle, .inl (ky, 8, .inl (nA Lw))), (mrw, .inl (ky, 9, .inl (nA (upN Rq j ((Rq j) + 1)))))] := hD
          refine lv_iinc (v := nI (j + 1)) (k := 2) hx hb d_Mo_letter_123 hl rfl (bw_inc j 1) (by decide) rfl (fun ls hl => ?_)
          have hl : lv_has ls 5 [(3, .int (nI (j + 1))), (4, .int (nI ((Rq j) + 1))), (2, .int (nI (Rq j))), (0, .ref mo), (1, .int (nI (cod cs)))] := hl
          refine lv_goto (tgt := 23) hx hb d_Mo_letter_126 (by decide) ?_
          exact ih23 ((j + 1), (Rq j), (upN Rq j ((Rq j) + 1))) _ _ _ ⟨(by first | assumption | omega | (simp; done) | (simp_all; done)), (by first | assumption | omega | (simp; done) | (simp_all; done)), (by rw [Nat.add_sub_cancel]; exact hhi j (Nat.le_refl j)), (fun i hi => if e : i = j then (by rw [e, upN_s]; omega) else (by rw [upN_o e]; exact hlo i (by omega))), (fun i hi => by rw [upN_o (by omega)]; exact hhi i (by omega)), (by first | assumption | omega | (simp; done) | (simp_all; done)), hP, hD, hS, lv_sub hl [0, 2, 3, 4] rfl⟩ (by first | omega | (simp only; omega) | (dsimp only; omega))
        · skip
          rw [bw_le_nn (by omega) (by omega)] at hc104
          refine lv_aload_n hx hb d_Mo_letter_107 rfl (lv_at hl 3 rfl) ?_
          refine va_get (D := (dC, dI)) (ci := 5) (v := .ref mrw) (C := R_Mo) (T := F_Mo) (N := 13) hx hb htb in_Mo hown hK hP 0 rfl rfl 11 (by decide) (htb _ tw_372) (fun _ h9 => h9) rfl d_Mo_letter_108 ?_
          refine lv_iload_n hx hb d_Mo_letter_111 rfl (lv_at hl 2 rfl) ?_
          refine lv_iconst (v := nI 1) hx hb d_Mo_letter_112 (by decide) ?_
          refine lv_isub hx hb d_Mo_letter_113 ?_
          rw [bw_n1 j]
          rw [bw_pn (show 0 < j by omega)]
          refine va_iald hx hb hK hP 2 0 rfl rfl (vp_in_nI (by omega) (by decide)) d_Mo_letter_114 ?_
          rw [nI_clamp (by omega)]
          have hb114 := hRq (j - 1)
          rw [nA_at]
          refine lv_iconst (v := nI 1) hx hb d_Mo_letter_115 (by decide) ?_
          refine lv_iadd hx hb d_Mo_letter_116 ?_
          rw [nI_add]
          refine lv_goto (tgt := 122) hx hb d_Mo_letter_117 (by decide) ?_
          refine va_iast hx hb hK hP hD hS 2 0 rfl rfl (vp_in_nI (by omega) (by decide)) d_Mo_letter_122 (fun H locs hP hD hS => ?_)
          rw [nI_clamp (by omega)] at hP hD
          rw [nA_upd] at hP hD
          have hu5 : ∀ k_, (upN Rq j ((Rq (j - 1)) + 1)) k_ < 111 := upN_lt hRq (by have := hRr j; have := lvr_le Wl Rr cs j; omega)
          have hP : va_P (dC, dI) cls_ [(mo, .inr (5, [.int (nI sp), .int (nI d), .ref mdr, .int (nI mm - 1), .ref mtx, .ref mod, .ref mia, .ref mus, .ref mol, .ref mle, .int (nI my), .ref mrw, .ref mls])), (mle, .inl (ky, 8, .inl (nA Lw))), (mrw, .inl (ky, 9, .inl (nA (upN Rq j ((Rq (j - 1)) + 1)))))] H := hP
          have hD : va_D A [(mo, .inr (5, [.int (nI sp), .int (nI d), .ref mdr, .int (nI mm - 1), .ref mtx, .ref mod, .ref mia, .ref mus, .ref mol, .ref mle, .int (nI my), .ref mrw, .ref mls])), (mle, .inl (ky, 8, .inl (nA Lw))), (mrw, .inl (ky, 9, .inl (nA (upN Rq j ((Rq (j - 1)) + 1)))))] := hD
          refine lv_iinc (v := nI (j + 1)) (k := 2) hx hb d_Mo_letter_123 hl rfl (bw_inc j 1) (by decide) rfl (fun ls hl => ?_)
          have hl : lv_has ls 5 [(3, .int (nI (j + 1))), (4, .int (nI ((Rq j) + 1))), (2, .int (nI (Rq j))), (0, .ref mo), (1, .int (nI (cod cs)))] := hl
          refine lv_goto (tgt := 23) hx hb d_Mo_letter_126 (by decide) ?_
          exact ih23 ((j + 1), (Rq j), (upN Rq j ((Rq (j - 1)) + 1))) _ _ _ ⟨(by first | assumption | omega | (simp; done) | (simp_all; done)), (by first | assumption | omega | (simp; done) | (simp_all; done)), (by rw [Nat.add_sub_cancel]; exact hhi j (Nat.le_refl j)), (fun i hi => if e : i = j then (by rw [e, upN_s]; omega) else (by rw [upN_o e]; exact hlo i (by omega))), (fun i hi => by rw [upN_o (by omega)]; exact hhi i (by omega)), (by first | assumption | omega | (simp; done) | (simp_all; done)), hP, hD, hS, lv_sub hl [0, 2, 3, 4] rfl⟩ (by first | omega | (simp only; omega) | (dsimp only; omega))
    · skip
      rw [bw_eq_nn (by omega) (by omega)] at hc41
      have hxq : neq (Wl (j - 1)) cs = 0 := if_pos (cod_inj (hWl28 _) hc (by assumption))
      refine lv_iconst (v := nI 0) hx hb d_Mo_letter_44 (by decide) ?_
      refine lv_goto (tgt := 49) hx hb d_Mo_letter_45 (by decide) ?_
      refine lv_iadd hx hb d_Mo_letter_49 ?_
      rw [nI_add]
      refine lv_istore hx hb d_Mo_letter_50 hl (by decide) rfl (fun ls hl => ?_)
      have hl : lv_has ls 5 [(4, .int (nI (co + 0))), (3, .int (nI j)), (2, .int (nI co)), (0, .ref mo), (1, .int (nI (cod cs)))] := hl
      refine lv_aload_n hx hb d_Mo_letter_52 rfl (lv_at hl 3 rfl) ?_
      refine va_get (D := (dC, dI)) (ci := 5) (v := .ref mrw) (C := R_Mo) (T := F_Mo) (N := 13) hx hb htb in_Mo hown hK hP 0 rfl rfl 11 (by decide) (htb _ tw_372) (fun _ h9 => h9) rfl d_Mo_letter_53 ?_
      refine lv_iload_n hx hb d_Mo_letter_56 rfl (lv_at hl 1 rfl) ?_
      refine va_iald hx hb hK hP 2 0 rfl rfl (vp_in_nI (by omega) (by decide)) d_Mo_letter_57 ?_
      rw [nI_clamp (by omega)]
      have hb57 := hRq j
      rw [nA_at]
      refine lv_istore_n hx hb d_Mo_letter_58 rfl hl (by decide) rfl (fun ls hl => ?_)
      have hl : lv_has ls 5 [(2, .int (nI (Rq j))), (4, .int (nI (co + 0))), (3, .int (nI j)), (0, .ref mo), (1, .int (nI (cod cs)))] := hl
      refine lv_aload_n hx hb d_Mo_letter_59 rfl (lv_at hl 3 rfl) ?_
      refine va_get (D := (dC, dI)) (ci := 5) (v := .ref mrw) (C := R_Mo) (T := F_Mo) (N := 13) hx hb htb in_Mo hown hK hP 0 rfl rfl 11 (by decide) (htb _ tw_372) (fun _ h9 => h9) rfl d_Mo_letter_60 ?_
      refine lv_iload_n hx hb d_Mo_letter_63 rfl (lv_at hl 2 rfl) ?_
      refine va_iald hx hb hK hP 2 0 rfl rfl (vp_in_nI (by omega) (by decide)) d_Mo_letter_64 ?_
      rw [nI_clamp (by omega)]
      have hb64 := hRq j
      rw [nA_at]
      refine lv_iconst (v := nI 1) hx hb d_Mo_letter_65 (by decide) ?_
      refine lv_iadd hx hb d_Mo_letter_66 ?_
      rw [nI_add]
      refine lv_iload hx hb d_Mo_letter_67 (lv_at hl 1 rfl) ?_
      refine lv_icmp_ge (tgt := 83) hx hb d_Mo_letter_69 (by decide) (fun hc69 => ?_) (fun hc69 => ?_)
      · skip
        rw [bw_le_nn (by omega) (by omega)] at hc69
        refine lv_iload hx hb d_Mo_letter_83 (lv_at hl 1 rfl) ?_
        refine lv_istore hx hb d_Mo_letter_85 hl (by decide) rfl (fun ls hl => ?_)
        have hl : lv_has ls 5 [(4, .int (nI (co + 0))), (2, .int (nI (Rq j))), (3, .int (nI j)), (0, .ref mo), (1, .int (nI (cod cs)))] := hl
        refine lv_aload_n hx hb d_Mo_letter_87 rfl (lv_at hl 3 rfl) ?_
        refine va_get (D := (dC, dI)) (ci := 5) (v := .ref mrw) (C := R_Mo) (T := F_Mo) (N := 13) hx hb htb in_Mo hown hK hP 0 rfl rfl 11 (by decide) (htb _ tw_372) (fun _ h9 => h9) rfl d_Mo_letter_88 ?_
        refine lv_iload_n hx hb d_Mo_letter_91 rfl (lv_at hl 2 rfl) ?_
        refine lv_aload_n hx hb d_Mo_letter_92 rfl (lv_at hl 3 rfl) ?_
        refine va_get (D := (dC, dI)) (ci := 5) (v := .ref mrw) (C := R_Mo) (T := F_Mo) (N := 13) hx hb htb in_Mo hown hK hP 0 rfl rfl 11 (by decide) (htb _ tw_372) (fun _ h9 => h9) rfl d_Mo_letter_93 ?_
        refine lv_iload_n hx hb d_Mo_letter_96 rfl (lv_at hl 2 rfl) ?_
        refine lv_iconst (v := nI 1) hx hb d_Mo_letter_97 (by decide) ?_
        refine lv_isub hx hb d_Mo_letter_98 ?_
        rw [bw_n1 j]
        rw [bw_pn (show 0 < j by omega)]
        refine va_iald hx hb hK hP 2 0 rfl rfl (vp_in_nI (by omega) (by decide)) d_Mo_letter_99 ?_
        rw [nI_clamp (by omega)]
        have hb99 := hRq (j - 1)
        rw [nA_at]
        refine lv_iconst (v := nI 1) hx hb d_Mo_letter_100 (by decide) ?_
        refine lv_iadd hx hb d_Mo_letter_101 ?_
        rw [nI_add]
        refine lv_iload hx hb d_Mo_letter_102 (lv_at hl 0 rfl) ?_
        refine lv_icmp_ge (tgt := 120) hx hb d_Mo_letter_104 (by decide) (fun hc104 => ?_) (fun hc104 => ?_)
        · skip
          rw [bw_le_nn (by omega) (by omega)] at hc104
          refine lv_iload hx hb d_Mo_letter_120 (lv_at hl 0 rfl) ?_
          refine va_iast hx hb hK hP hD hS 2 0 rfl rfl (vp_in_nI (by omega) (by decide)) d_Mo_letter_122 (fun H locs hP hD hS => ?_)
          rw [nI_clamp (by omega)] at hP hD
          rw [nA_upd] at hP hD
          have hu6 : ∀ k_, (upN Rq j (co + 0)) k_ < 111 := upN_lt hRq (by have := hRr j; have := lvr_le Wl Rr cs j; omega)
          have hP : va_P (dC, dI) cls_ [(mo, .inr (5, [.int (nI sp), .int (nI d), .ref mdr, .int (nI mm - 1), .ref mtx, .ref mod, .ref mia, .ref mus, .ref mol, .ref mle, .int (nI my), .ref mrw, .ref mls])), (mle, .inl (ky, 8, .inl (nA Lw))), (mrw, .inl (ky, 9, .inl (nA (upN Rq j (co + 0)))))] H := hP
          have hD : va_D A [(mo, .inr (5, [.int (nI sp), .int (nI d), .ref mdr, .int (nI mm - 1), .ref mtx, .ref mod, .ref mia, .ref mus, .ref mol, .ref mle, .int (nI my), .ref mrw, .ref mls])), (mle, .inl (ky, 8, .inl (nA Lw))), (mrw, .inl (ky, 9, .inl (nA (upN Rq j (co + 0)))))] := hD
          refine lv_iinc (v := nI (j + 1)) (k := 2) hx hb d_Mo_letter_123 hl rfl (bw_inc j 1) (by decide) rfl (fun ls hl => ?_)
          have hl : lv_has ls 5 [(3, .int (nI (j + 1))), (4, .int (nI (co + 0))), (2, .int (nI (Rq j))), (0, .ref mo), (1, .int (nI (cod cs)))] := hl
          refine lv_goto (tgt := 23) hx hb d_Mo_letter_126 (by decide) ?_
          exact ih23 ((j + 1), (Rq j), (upN Rq j (co + 0))) _ _ _ ⟨(by first | assumption | omega | (simp; done) | (simp_all; done)), (by first | assumption | omega | (simp; done) | (simp_all; done)), (by rw [Nat.add_sub_cancel]; exact hhi j (Nat.le_refl j)), (fun i hi => if e : i = j then (by rw [e, upN_s]; omega) else (by rw [upN_o e]; exact hlo i (by omega))), (fun i hi => by rw [upN_o (by omega)]; exact hhi i (by omega)), (by first | assumption | omega | (simp; done) | (simp_all; done)), hP, hD, hS, lv_sub hl [0, 2, 3, 4] rfl⟩ (by first | omega | (simp only; omega) | (dsimp only; omega))
        · skip
          rw [bw_le_nn (by omega) (by omega)] at hc104
          refine lv_aload_n hx hb d_Mo_letter_107 rfl (lv_at hl 3 rfl) ?_
          refine va_get (D := (dC, dI)) (ci := 5) (v := .ref mrw) (C := R_Mo) (T := F_Mo) (N := 13) hx hb htb in_Mo hown hK hP 0 rfl rfl 11 (by decide) (htb _ tw_372) (fun _ h9 => h9) rfl d_Mo_letter_108 ?_
          refine lv_iload_n hx hb d_Mo_letter_111 rfl (lv_at hl 2 rfl) ?_
          refine lv_iconst (v := nI 1) hx hb d_Mo_letter_112 (by decide) ?_
          refine lv_isub hx hb d_Mo_letter_113 ?_
          rw [bw_n1 j]
          rw [bw_pn (show 0 < j by omega)]
          refine va_iald hx hb hK hP 2 0 rfl rfl (vp_in_nI (by omega) (by decide)) d_Mo_letter_114 ?_
          rw [nI_clamp (by omega)]
          have hb114 := hRq (j - 1)
          rw [nA_at]
          refine lv_iconst (v := nI 1) hx hb d_Mo_letter_115 (by decide) ?_
          refine lv_iadd hx hb d_Mo_letter_116 ?_
          rw [nI_add]
          refine lv_goto (tgt := 122) hx hb d_Mo_letter_117 (by decide) ?_
          refine va_iast hx hb hK hP hD hS 2 0 rfl rfl (vp_in_nI (by omega) (by decide)) d_Mo_letter_122 (fun H locs hP hD hS => ?_)
          rw [nI_clamp (by omega)] at hP hD
          rw [nA_upd] at hP hD
          have hu7 : ∀ k_, (upN Rq j ((Rq (j - 1)) + 1)) k_ < 111 := upN_lt hRq (by have := hRr j; have := lvr_le Wl Rr cs j; omega)
          have hP : va_P (dC, dI) cls_ [(mo, .inr (5, [.int (nI sp), .int (nI d), .ref mdr, .int (nI mm - 1), .ref mtx, .ref mod, .ref mia, .ref mus, .ref mol, .ref mle, .int (nI my), .ref mrw, .ref mls])), (mle, .inl (ky, 8, .inl (nA Lw))), (mrw, .inl (ky, 9, .inl (nA (upN Rq j ((Rq (j - 1)) + 1)))))] H := hP
          have hD : va_D A [(mo, .inr (5, [.int (nI sp), .int (nI d), .ref mdr, .int (nI mm - 1), .ref mtx, .ref mod, .ref mia, .ref mus, .ref mol, .ref mle, .int (nI my), .ref mrw, .ref mls])), (mle, .inl (ky, 8, .inl (nA Lw))), (mrw, .inl (ky, 9, .inl (nA (upN Rq j ((Rq (j - 1)) + 1)))))] := hD
          refine lv_iinc (v := nI (j + 1)) (k := 2) hx hb d_Mo_letter_123 hl rfl (bw_inc j 1) (by decide) rfl (fun ls hl => ?_)
          have hl : lv_has ls 5 [(3, .int (nI (j + 1))), (4, .int (nI (co + 0))), (2, .int (nI (Rq j))), (0, .ref mo), (1, .int (nI (cod cs)))] := hl
          refine lv_goto (tgt := 23) hx hb d_Mo_letter_126 (by decide) ?_
          exact ih23 ((j + 1), (Rq j), (upN Rq j ((Rq (j - 1)) + 1))) _ _ _ ⟨(by first | assumption | omega | (simp; done) | (simp_all; done)), (by first | assumption | omega | (simp; done) | (simp_all; done)), (by rw [Nat.add_sub_cancel]; exact hhi j (Nat.le_refl j)), (fun i hi => if e : i = j then (by rw [e, upN_s]; omega) else (by rw [upN_o e]; exact hlo i (by omega))), (fun i hi => by rw [upN_o (by omega)]; exact hhi i (by omega)), (by first | assumption | omega | (simp; done) | (simp_all; done)), hP, hD, hS, lv_sub hl [0, 2, 3, 4] rfl⟩ (by first | omega | (simp only; omega) | (dsimp only; omega))
      · skip
        rw [bw_le_nn (by omega) (by omega)] at hc69
        refine lv_aload_n hx hb d_Mo_letter_72 rfl (lv_at hl 3 rfl) ?_
        refine va_get (D := (dC, dI)) (ci := 5) (v := .ref mrw) (C := R_Mo) (T := F_Mo) (N := 13) hx hb htb in_Mo hown hK hP 0 rfl rfl 11 (by decide) (htb _ tw_372) (fun _ h9 => h9) rfl d_Mo_letter_73 ?_
        refine lv_iload_n hx hb d_Mo_letter_76 rfl (lv_at hl 2 rfl) ?_
        refine va_iald hx hb hK hP 2 0 rfl rfl (vp_in_nI (by omega) (by decide)) d_Mo_letter_77 ?_
        rw [nI_clamp (by omega)]
        have hb77 := hRq j
        rw [nA_at]
        refine lv_iconst (v := nI 1) hx hb d_Mo_letter_78 (by decide) ?_
        refine lv_iadd hx hb d_Mo_letter_79 ?_
        rw [nI_add]
        refine lv_goto (tgt := 85) hx hb d_Mo_letter_80 (by decide) ?_
        refine lv_istore hx hb d_Mo_letter_85 hl (by decide) rfl (fun ls hl => ?_)
        have hl : lv_has ls 5 [(4, .int (nI ((Rq j) + 1))), (2, .int (nI (Rq j))), (3, .int (nI j)), (0, .ref mo), (1, .int (nI (cod cs)))] := hl
        refine lv_aload_n hx hb d_Mo_letter_87 rfl (lv_at hl 3 rfl) ?_
        refine va_get (D := (dC, dI)) (ci := 5) (v := .ref mrw) (C := R_Mo) (T := F_Mo) (N := 13) hx hb htb in_Mo hown hK hP 0 rfl rfl 11 (by decide) (htb _ tw_372) (fun _ h9 => h9) rfl d_Mo_letter_88 ?_
        refine lv_iload_n hx hb d_Mo_letter_91 rfl (lv_at hl 2 rfl) ?_
        refine lv_aload_n hx hb d_Mo_letter_92 rfl (lv_at hl 3 rfl) ?_
        refine va_get (D := (dC, dI)) (ci := 5) (v := .ref mrw) (C := R_Mo) (T := F_Mo) (N := 13) hx hb htb in_Mo hown hK hP 0 rfl rfl 11 (by decide) (htb _ tw_372) (fun _ h9 => h9) rfl d_Mo_letter_93 ?_
        refine lv_iload_n hx hb d_Mo_letter_96 rfl (lv_at hl 2 rfl) ?_
        refine lv_iconst (v := nI 1) hx hb d_Mo_letter_97 (by decide) ?_
        refine lv_isub hx hb d_Mo_letter_98 ?_
        rw [bw_n1 j]
        rw [bw_pn (show 0 < j by omega)]
        refine va_iald hx hb hK hP 2 0 rfl rfl (vp_in_nI (by omega) (by decide)) d_Mo_letter_99 ?_
        rw [nI_clamp (by omega)]
        have hb99 := hRq (j - 1)
        rw [nA_at]
        refine lv_iconst (v := nI 1) hx hb d_Mo_letter_100 (by decide) ?_
        refine lv_iadd hx hb d_Mo_letter_101 ?_
        rw [nI_add]
        refine lv_iload hx hb d_Mo_letter_102 (lv_at hl 0 rfl) ?_
        refine lv_icmp_ge (tgt := 120) hx hb d_Mo_letter_104 (by decide) (fun hc104 => ?_) (fun hc104 => ?_)
        · skip
          rw [bw_le_nn (by omega) (by omega)] at hc104
          refine lv_iload hx hb d_Mo_letter_120 (lv_at hl 0 rfl) ?_
          refine va_iast hx hb hK hP hD hS 2 0 rfl rfl (vp_in_nI (by omega) (by decide)) d_Mo_letter_122 (fun H locs hP hD hS => ?_)
          rw [nI_clamp (by omega)] at hP hD
          rw [nA_upd] at hP hD
          have hu8 : ∀ k_, (upN Rq j ((Rq j) + 1)) k_ < 111 := upN_lt hRq (by have := hRr j; have := lvr_le Wl Rr cs j; omega)
          have hP : va_P (dC, dI) cls_ [(mo, .inr (5, [.int (nI sp), .int (nI d), .ref mdr, .int (nI mm - 1), .ref mtx, .ref mod, .ref mia, .ref mus, .ref mol, .ref mle, .int (nI my), .ref mrw, .ref mls])), (mle, .inl (ky, 8, .inl (nA Lw))), (mrw, .inl (ky, 9, .inl (nA (upN Rq j ((Rq j) + 1)))))] H := hP
          have hD : va_D A [(mo, .inr (5, [.int (nI sp), .int (nI d), .ref mdr, .int (nI mm - 1), .ref mtx, .ref mod, .ref mia, .ref mus, .ref mol, .ref mle, .int (nI my), .ref mrw, .ref mls])), (mle, .inl (ky, 8, .inl (nA Lw))), (mrw, .inl (ky, 9, .inl (nA (upN Rq j ((Rq j) + 1)))))] := hD
          refine lv_iinc (v := nI (j + 1)) (k := 2) hx hb d_Mo_letter_123 hl rfl (bw_inc j 1) (by decide) rfl (fun ls hl => ?_)
          have hl : lv_has ls 5 [(3, .int (nI (j + 1))), (4, .int (nI ((Rq j) + 1))), (2, .int (nI (Rq j))), (0, .ref mo), (1, .int (nI (cod cs)))] := hl
          refine lv_goto (tgt := 23) hx hb d_Mo_letter_126 (by decide) ?_
          exact ih23 ((j + 1), (Rq j), (upN Rq j ((Rq j) + 1))) _ _ _ ⟨(by first | assumption | omega | (simp; done) | (simp_all; done)), (by first | assumption | omega | (simp; done) | (simp_all; done)), (by rw [Nat.add_sub_cancel]; exact hhi j (Nat.le_refl j)), (fun i hi => if e : i = j then (by rw [e, upN_s]; omega) else (by rw [upN_o e]; exact hlo i (by omega))), (fun i hi => by rw [upN_o (by omega)]; exact hhi i (by omega)), (by first | assumption | omega | (simp; done) | (simp_all; done)), hP, hD, hS, lv_sub hl [0, 2, 3, 4] rfl⟩ (by first | omega | (simp only; omega) | (dsimp only; omega))
        · skip
          rw [bw_le_nn (by omega) (by omega)] at hc104
          refine lv_aload_n hx hb d_Mo_letter_107 rfl (lv_at hl 3 rfl) ?_
          refine va_get (D := (dC, dI)) (ci := 5) (v := .ref mrw) (C := R_Mo) (T := F_Mo) (N := 13) hx hb htb in_Mo hown hK hP 0 rfl rfl 11 (by decide) (htb _ tw_372) (fun _ h9 => h9) rfl d_Mo_letter_108 ?_
          refine lv_iload_n hx hb d_Mo_letter_111 rfl (lv_at hl 2 rfl) ?_
          refine lv_iconst (v := nI 1) hx hb d_Mo_letter_112 (by decide) ?_
          refine lv_isub hx hb d_Mo_letter_113 ?_
          rw [bw_n1 j]
          rw [bw_pn (show 0 < j by omega)]
          refine va_iald hx hb hK hP 2 0 rfl rfl (vp_in_nI (by omega) (by decide)) d_Mo_letter_114 ?_
          rw [nI_clamp (by omega)]
          have hb114 := hRq (j - 1)
          rw [nA_at]
          refine lv_iconst (v := nI 1) hx hb d_Mo_letter_115 (by decide) ?_
          refine lv_iadd hx hb d_Mo_letter_116 ?_
          rw [nI_add]
          refine lv_goto (tgt := 122) hx hb d_Mo_letter_117 (by decide) ?_
          refine va_iast hx hb hK hP hD hS 2 0 rfl rfl (vp_in_nI (by omega) (by decide)) d_Mo_letter_122 (fun H locs hP hD hS => ?_)
          rw [nI_clamp (by omega)] at hP hD
          rw [nA_upd] at hP hD
          have hu9 : ∀ k_, (upN Rq j ((Rq (j - 1)) + 1)) k_ < 111 := upN_lt hRq (by have := hRr j; have := lvr_le Wl Rr cs j; omega)
          have hP : va_P (dC, dI) cls_ [(mo, .inr (5, [.int (nI sp), .int (nI d), .ref mdr, .int (nI mm - 1), .ref mtx, .ref mod, .ref mia, .ref mus, .ref mol, .ref mle, .int (nI my), .ref mrw, .ref mls])), (mle, .inl (ky, 8, .inl (nA Lw))), (mrw, .inl (ky, 9, .inl (nA (upN Rq j ((Rq (j - 1)) + 1)))))] H := hP
          have hD : va_D A [(mo, .inr (5, [.int (nI sp), .int (nI d), .ref mdr, .int (nI mm - 1), .ref mtx, .ref mod, .ref mia, .ref mus, .ref mol, .ref mle, .int (nI my), .ref mrw, .ref mls])), (mle, .inl (ky, 8, .inl (nA Lw))), (mrw, .inl (ky, 9, .inl (nA (upN Rq j ((Rq (j - 1)) + 1)))))] := hD
          refine lv_iinc (v := nI (j + 1)) (k := 2) hx hb d_Mo_letter_123 hl rfl (bw_inc j 1) (by decide) rfl (fun ls hl => ?_)
          have hl : lv_has ls 5 [(3, .int (nI (j + 1))), (4, .int (nI ((Rq j) + 1))), (2, .int (nI (Rq j))), (0, .ref mo), (1, .int (nI (cod cs)))] := hl
          refine lv_goto (tgt := 23) hx hb d_Mo_letter_126 (by decide) ?_
          exact ih23 ((j + 1), (Rq j), (upN Rq j ((Rq (j - 1)) + 1))) _ _ _ ⟨(by first | assumption | omega | (simp; done) | (simp_all; done)), (by first | assumption | omega | (simp; done) | (simp_all; done)), (by rw [Nat.add_sub_cancel]; exact hhi j (Nat.le_refl j)), (fun i hi => if e : i = j then (by rw [e, upN_s]; omega) else (by rw [upN_o e]; exact hlo i (by omega))), (fun i hi => by rw [upN_o (by omega)]; exact hhi i (by omega)), (by first | assumption | omega | (simp; done) | (simp_all; done)), hP, hD, hS, lv_sub hl [0, 2, 3, 4] rfl⟩ (by first | omega | (simp only; omega) | (dsimp only; omega))

set_option maxHeartbeats 4000000 in
set_option maxRecDepth 100000 in
theorem c_Mo_measure (l : Launch) (dC : Nat → ClassId) (dI : Nat → Nat → Nat) (ky : ClassId) (sz : Nat) (mo : Nat) (sp : Nat) (d : Nat) (mdr : Nat) (mm : Nat) (mtx : Nat) (mod : Nat) (mia : Nat) (mus : Nat) (mol : Nat) (mle : Nat) (my : Nat) (mrw : Nat) (mls : Nat) (Mx : Nat → Nat) (T : Nat → Nat) (Lw : Nat → Nat) (Wl : Nat → Nat) (Rr : Nat → Nat) (Ls : Nat → Nat) (fr : Nat) (tt : Nat) (hMx : ∀ k_, Mx k_ < 125) (hmm : mm ≤ 97) (hT28 : ∀ k_, T k_ < 28) (hTx : ∀ q, q + 1 < mm → Mx q = cod (T q)) (hmy : 1 ≤ my ∧ my ≤ 8) (hLw : ∀ k_, Lw k_ < 125) (hWl28 : ∀ k_, Wl k_ < 28) (hLW : ∀ i, i < my → Lw i = cod (Wl i)) (hW0 : ∀ i, i < my → 2 ≤ Wl i) (hRr : ∀ k_, Rr k_ < 110) (hLs : ∀ k_, Ls k_ < 9) (hft : fr ≤ tt) (htm : tt + 1 ≤ mm) : Met l y_Mo_measure (Cond.code y_Mo_measure prog_7_method_31_code 6 none :: W0) ({ frames := 1, cells := 0, slots := 0, locals := 24 }) (va_Pc [.ref mo, .int (nI fr), .int (nI tt)] (fun U => U.heap.size = sz ∧ va_P (dC, dI) cls_ [(mo, .inr (5, [.int (nI sp), .int (nI d), .ref mdr, .int (nI mm - 1), .ref mtx, .ref mod, .ref mia, .ref mus, .ref mol, .ref mle, .int (nI my), .ref mrw, .ref mls])), (mtx, .inl (ky, 97, .inl (nA Mx))), (mle, .inl (ky, 8, .inl (nA Lw))), (mrw, .inl (ky, 9, .inl (nA Rr))), (mls, .inl (ky, 97, .inl (nA Ls)))] U.heap ∧ va_K (dC, dI) cls_ [(ky, .int)] U ∧ va_D (fun _ => True) [(mo, .inr (5, [.int (nI sp), .int (nI d), .ref mdr, .int (nI mm - 1), .ref mtx, .ref mod, .ref mia, .ref mus, .ref mol, .ref mle, .int (nI my), .ref mrw, .ref mls])), (mtx, .inl (ky, 97, .inl (nA Mx))), (mle, .inl (ky, 8, .inl (nA Lw))), (mrw, .inl (ky, 9, .inl (nA Rr))), (mls, .inl (ky, 97, .inl (nA Ls)))])) (va_Qv (fun (u : (Nat → Nat) × (Nat → Nat)) => match u with | (Rn, Ln) => (∀ e, e ≤ tt - fr → Ln e = Sr Wl T fr e my) ∧ (∀ k_, Rn k_ < 110) ∧ (∀ k_, Ln k_ < 9)) (fun (u : (Nat → Nat) × (Nat → Nat)) (t : State) => match u with | (Rn, Ln) => va_P (dC, dI) cls_ [(mo, .inr (5, [.int (nI sp), .int (nI d), .ref mdr, .int (nI mm - 1), .ref mtx, .ref mod, .ref mia, .ref mus, .ref mol, .ref mle, .int (nI my), .ref mrw, .ref mls])), (mtx, .inl (ky, 97, .inl (nA Mx))), (mle, .inl (ky, 8, .inl (nA Lw))), (mrw, .inl (ky, 9, .inl (nA Rn))), (mls, .inl (ky, 97, .inl (nA Ln)))] t.heap ∧ va_D (va_A [(mo, .inr (5, [.int (nI sp), .int (nI d), .ref mdr, .int (nI mm - 1), .ref mtx, .ref mod, .ref mia, .ref mus, .ref mol, .ref mle, .int (nI my), .ref mrw, .ref mls])), (mtx, .inl (ky, 97, .inl (nA Mx))), (mle, .inl (ky, 8, .inl (nA Lw))), (mrw, .inl (ky, 9, .inl (nA Rr))), (mls, .inl (ky, 97, .inl (nA Ls)))] sz) [(mo, .inr (5, [.int (nI sp), .int (nI d), .ref mdr, .int (nI mm - 1), .ref mtx, .ref mod, .ref mia, .ref mus, .ref mol, .ref mle, .int (nI my), .ref mrw, .ref mls])), (mtx, .inl (ky, 97, .inl (nA Mx))), (mle, .inl (ky, 8, .inl (nA Lw))), (mrw, .inl (ky, 9, .inl (nA Rn))), (mls, .inl (ky, 97, .inl (nA Ln)))]) (va_A [(mo, .inr (5, [.int (nI sp), .int (nI d), .ref mdr, .int (nI mm - 1), .ref mtx, .ref mod, .ref mia, .ref mus, .ref mol, .ref mle, .int (nI my), .ref mrw, .ref mls])), (mtx, .inl (ky, 97, .inl (nA Mx))), (mle, .inl (ky, 8, .inl (nA Lw))), (mrw, .inl (ky, 9, .inl (nA Rr))), (mls, .inl (ky, 97, .inl (nA Ls)))] sz)) 0 0 (va_A [(mo, .inr (5, [.int (nI sp), .int (nI d), .ref mdr, .int (nI mm - 1), .ref mtx, .ref mod, .ref mia, .ref mus, .ref mol, .ref mle, .int (nI my), .ref mrw, .ref mls])), (mtx, .inl (ky, 97, .inl (nA Mx))), (mle, .inl (ky, 8, .inl (nA Lw))), (mrw, .inl (ky, 9, .inl (nA Rr))), (mls, .inl (ky, 97, .inl (nA Ls)))] sz) := by
  refine Met.ofW (cc := prog_7_method_31_code) (maxL := 6) (ret := none) (by decide) rfl ?_
  intro p e s m args below meth c s₁ B hml hv
  obtain ⟨rfl, hsz, hP, hK, hD0⟩ := hv
  have hx := B.exec
  have hb := B.bytes
  have hr := B.returns
  have hlocks := B.notSynchronized
  have hts := atoms_spec (ws := (Cond.code y_Mo_measure prog_7_method_31_code 6 none :: W0)) B.pre
  have htb : ∀ w ∈ W0, w.before _ s = true := fun w h => hts w (List.mem_cons_of_mem _ h)
  have hown : s.vm.findClass "SelfIndexedSequencesModel" = some m.cls := findClass_of_methodNamed B.named
  subst hsz
  have hD := hD0.self (sz := s.heap.size)
  generalize hAe : va_A [(mo, .inr (5, [.int (nI sp), .int (nI d), .ref mdr, .int (nI mm - 1), .ref mtx, .ref mod, .ref mia, .ref mus, .ref mol, .ref mle, .int (nI my), .ref mrw, .ref mls])), (mtx, .inl (ky, 97, .inl (nA Mx))), (mle, .inl (ky, 8, .inl (nA Lw))), (mrw, .inl (ky, 9, .inl (nA Rr))), (mls, .inl (ky, 97, .inl (nA Ls)))] s.heap.size = A at hD ⊢
  have hA : ∀ q : Nat, s.heap.size ≤ q → A q := fun q h => by rw [← hAe]; exact Or.inr h
  have hS : va_S A s.heap s.heap [] := va_S.rf
  have hl := lv_entry ([.ref mo, .int (nI fr), .int (nI tt)]) (n := 6) (Nat.le_of_ble_eq_true rfl)
  rw [lg_entry_eq]
  generalize (lg_sl ([.ref mo, .int (nI fr), .int (nI tt)]) ++ List.replicate (6 - (lg_sl ([.ref mo, .int (nI fr), .int (nI tt)])).length) Slot.unset).toArray = ls at hl ⊢
  have hl : lv_has ls 6 [(0, .ref mo), (1, .int (nI fr)), (2, .int (nI tt))] := hl
  refine lv_iconst (v := nI 0) hx hb d_Mo_measure_0 (by decide) ?_
  refine lv_istore_n hx hb d_Mo_measure_1 rfl hl (by decide) rfl (fun ls hl => ?_)
  have hl : lv_has ls 6 [(3, .int (nI 0)), (0, .ref mo), (1, .int (nI fr)), (2, .int (nI tt))] := hl
  refine wl_loop (σ := Nat × (Nat → Nat)) 2 [] (fun (a_ : Nat × (Nat → Nat)) => match a_ with | (e1, Lq) => tt + 1 - fr - e1) (fun (a_ : Nat × (Nat → Nat)) (H : Heap) (locs : List Loc) (ls : Array Slot) => match a_ with | (e1, Lq) => (e1 ≤ tt - fr + 1) ∧ (∀ i, i < e1 → Lq i = my) ∧ (∀ k_, Lq k_ < 9) ∧ va_P (dC, dI) cls_ [(mo, .inr (5, [.int (nI sp), .int (nI d), .ref mdr, .int (nI mm - 1), .ref mtx, .ref mod, .ref mia, .ref mus, .ref mol, .ref mle, .int (nI my), .ref mrw, .ref mls])), (mtx, .inl (ky, 97, .inl (nA Mx))), (mle, .inl (ky, 8, .inl (nA Lw))), (mrw, .inl (ky, 9, .inl (nA Rr))), (mls, .inl (ky, 97, .inl (nA Lq)))] H ∧ va_D A [(mo, .inr (5, [.int (nI sp), .int (nI d), .ref mdr, .int (nI mm - 1), .ref mtx, .ref mod, .ref mia, .ref mus, .ref mol, .ref mle, .int (nI my), .ref mrw, .ref mls])), (mtx, .inl (ky, 97, .inl (nA Mx))), (mle, .inl (ky, 8, .inl (nA Lw))), (mrw, .inl (ky, 9, .inl (nA Rr))), (mls, .inl (ky, 97, .inl (nA Lq)))] ∧ va_S A s.heap H locs ∧ lv_has ls 6 [(3, .int (nI e1)), (0, .ref mo), (1, .int (nI fr)), (2, .int (nI tt))]) ?_ (0, Ls) ⟨(by first | assumption | omega | (simp; done) | (simp_all; done)), (fun i hi => by omega), hLs, hP, hD, hS, lv_sub hl [0, 1, 2, 3] rfl⟩
  clear hP hD hS hl
  intro a_ H locs ls hI ih2
  obtain ⟨e1, Lq⟩ := a_
  obtain ⟨he1, hLi, hLq, hP, hD, hS, hl⟩ := hI
  have hl : lv_has ls 6 [(3, .int (nI e1)), (0, .ref mo), (1, .int (nI fr)), (2, .int (nI tt))] := hl
  have hP : va_P (dC, dI) cls_ [(mo, .inr (5, [.int (nI sp), .int (nI d), .ref mdr, .int (nI mm - 1), .ref mtx, .ref mod, .ref mia, .ref mus, .ref mol, .ref mle, .int (nI my), .ref mrw, .ref mls])), (mtx, .inl (ky, 97, .inl (nA Mx))), (mle, .inl (ky, 8, .inl (nA Lw))), (mrw, .inl (ky, 9, .inl (nA Rr))), (mls, .inl (ky, 97, .inl (nA Lq)))] H := hP
  have hD : va_D A [(mo, .inr (5, [.int (nI sp), .int (nI d), .ref mdr, .int (nI mm - 1), .ref mtx, .ref mod, .ref mia, .ref mus, .ref mol, .ref mle, .int (nI my), .ref mrw, .ref mls])), (mtx, .inl (ky, 97, .inl (nA Mx))), (mle, .inl (ky, 8, .inl (nA Lw))), (mrw, .inl (ky, 9, .inl (nA Rr))), (mls, .inl (ky, 97, .inl (nA Lq)))] := hD
  have he1 : e1 ≤ tt - fr + 1 := he1
  have hLi : ∀ i, i < e1 → Lq i = my := hLi
  have hLq : ∀ k_, Lq k_ < 9 := hLq
  refine lv_iload_n hx hb d_Mo_measure_2 rfl (lv_at hl 0 rfl) ?_
  refine lv_iload_n hx hb d_Mo_measure_3 rfl (lv_at hl 3 rfl) ?_
  refine lv_iload_n hx hb d_Mo_measure_4 rfl (lv_at hl 2 rfl) ?_
  refine lv_isub hx hb d_Mo_measure_5 ?_
  rw [pk_sub (show fr ≤ tt by omega)]
  refine lv_icmp_gt (tgt := 25) hx hb d_Mo_measure_6 (by decide) (fun hc6 => ?_) (fun hc6 => ?_)
  · skip
    rw [bw_lt_nn (by omega) (by omega)] at hc6
    refine lv_iload_n hx hb d_Mo_measure_25 rfl (lv_at hl 2 rfl) ?_
    refine lv_istore_n hx hb d_Mo_measure_26 rfl hl (by decide) rfl (fun ls hl => ?_)
    have hl : lv_has ls 6 [(3, .int (nI fr)), (0, .ref mo), (1, .int (nI fr)), (2, .int (nI tt))] := hl
    refine wl_loop (σ := Nat × (Nat → Nat) × (Nat → Nat)) 27 [] (fun (a_ : Nat × (Nat → Nat) × (Nat → Nat)) => match a_ with | (b1, Rb, Lb) => tt - b1) (fun (a_ : Nat × (Nat → Nat) × (Nat → Nat)) (H : Heap) (locs : List Loc) (ls : Array Slot) => match a_ with | (b1, Rb, Lb) => (fr ≤ b1) ∧ (b1 ≤ tt) ∧ (∀ e, e ≤ tt - fr → Lb e = lst Wl T fr my (b1 - fr) e) ∧ (∀ k_, Rb k_ < 110) ∧ (∀ k_, Lb k_ < 9) ∧ va_P (dC, dI) cls_ [(mo, .inr (5, [.int (nI sp), .int (nI d), .ref mdr, .int (nI mm - 1), .ref mtx, .ref mod, .ref mia, .ref mus, .ref mol, .ref mle, .int (nI my), .ref mrw, .ref mls])), (mtx, .inl (ky, 97, .inl (nA Mx))), (mle, .inl (ky, 8, .inl (nA Lw))), (mrw, .inl (ky, 9, .inl (nA Rb))), (mls, .inl (ky, 97, .inl (nA Lb)))] H ∧ va_D A [(mo, .inr (5, [.int (nI sp), .int (nI d), .ref mdr, .int (nI mm - 1), .ref mtx, .ref mod, .ref mia, .ref mus, .ref mol, .ref mle, .int (nI my), .ref mrw, .ref mls])), (mtx, .inl (ky, 97, .inl (nA Mx))), (mle, .inl (ky, 8, .inl (nA Lw))), (mrw, .inl (ky, 9, .inl (nA Rb))), (mls, .inl (ky, 97, .inl (nA Lb)))] ∧ va_S A s.heap H locs ∧ lv_has ls 6 [(3, .int (nI b1)), (0, .ref mo), (1, .int (nI fr)), (2, .int (nI tt))]) ?_ (fr, Rr, Lq) ⟨(by first | assumption | omega | (simp; done) | (simp_all; done)), (by first | assumption | omega | (simp; done) | (simp_all; done)), (fun e he => by rw [hLi e (by omega), Nat.sub_self]; rfl), hRr, hLq, hP, hD, hS, lv_sub hl [0, 1, 2, 3] rfl⟩
    clear hP hD hS hl
    intro a_ H locs ls hI ih27
    obtain ⟨b1, Rb, Lb⟩ := a_
    obtain ⟨hb1, hb2, hLe, hRb, hLb, hP, hD, hS, hl⟩ := hI
    have hl : lv_has ls 6 [(3, .int (nI b1)), (0, .ref mo), (1, .int (nI fr)), (2, .int (nI tt))] := hl
    have hP : va_P (dC, dI) cls_ [(mo, .inr (5, [.int (nI sp), .int (nI d), .ref mdr, .int (nI mm - 1), .ref mtx, .ref mod, .ref mia, .ref mus, .ref mol, .ref mle, .int (nI my), .ref mrw, .ref mls])), (mtx, .inl (ky, 97, .inl (nA Mx))), (mle, .inl (ky, 8, .inl (nA Lw))), (mrw, .inl (ky, 9, .inl (nA Rb))), (mls, .inl (ky, 97, .inl (nA Lb)))] H := hP
    have hD : va_D A [(mo, .inr (5, [.int (nI sp), .int (nI d), .ref mdr, .int (nI mm - 1), .ref mtx, .ref mod, .ref mia, .ref mus, .ref mol, .ref mle, .int (nI my), .ref mrw, .ref mls])), (mtx, .inl (ky, 97, .inl (nA Mx))), (mle, .inl (ky, 8, .inl (nA Lw))), (mrw, .inl (ky, 9, .inl (nA Rb))), (mls, .inl (ky, 97, .inl (nA Lb)))] := hD
    have hb1 : fr ≤ b1 := hb1
    have hb2 : b1 ≤ tt := hb2
    have hLe : ∀ e, e ≤ tt - fr → Lb e = lst Wl T fr my (b1 - fr) e := hLe
    have hRb : ∀ k_, Rb k_ < 110 := hRb
    have hLb : ∀ k_, Lb k_ < 9 := hLb
    refine lv_iload_n hx hb d_Mo_measure_27 rfl (lv_at hl 0 rfl) ?_
    refine lv_iload_n hx hb d_Mo_measure_28 rfl (lv_at hl 3 rfl) ?_
    refine lv_icmp_ge (tgt := 144) hx hb d_Mo_measure_29 (by decide) (fun hc29 => ?_) (fun hc29 => ?_)
    · skip
      rw [bw_le_nn (by omega) (by omega)] at hc29
      have hP9 := hP.sub (ws' := [(mo, .inr (5, [.int (nI sp), .int (nI d), .ref mdr, .int (nI mm - 1), .ref mtx, .ref mod, .ref mia, .ref mus, .ref mol, .ref mle, .int (nI my), .ref mrw, .ref mls])), (mtx, .inl (ky, 97, .inl (nA Mx))), (mle, .inl (ky, 8, .inl (nA Lw))), (mrw, .inl (ky, 9, .inl (nA Rb))), (mls, .inl (ky, 97, .inl (nA Lb)))]) [0, 1, 2, 3, 4] rfl
      have hD9 := hD.sub (ws' := [(mo, .inr (5, [.int (nI sp), .int (nI d), .ref mdr, .int (nI mm - 1), .ref mtx, .ref mod, .ref mia, .ref mus, .ref mol, .ref mle, .int (nI my), .ref mrw, .ref mls])), (mtx, .inl (ky, 97, .inl (nA Mx))), (mle, .inl (ky, 8, .inl (nA Lw))), (mrw, .inl (ky, 9, .inl (nA Rb))), (mls, .inl (ky, 97, .inl (nA Lb)))]) [0, 1, 2, 3, 4] (by decide) rfl
      exact W.vret hx hb hr (fun t ht hW => ⟨⟨(Rb, Lb), rfl, ⟨fun e he => by rw [hLe e he, lst_Sr Wl T fr my (by omega)], hRb, hLb⟩, by rw [ht]; exact hP9, hD9⟩, hS.F ht⟩) hS.2.2 d_Mo_measure_144
    · skip
      rw [bw_le_nn (by omega) (by omega)] at hc29
      refine lv_iconst (v := nI 0) hx hb d_Mo_measure_32 (by decide) ?_
      refine lv_istore hx hb d_Mo_measure_33 hl (by decide) rfl (fun ls hl => ?_)
      have hl : lv_has ls 6 [(4, .int (nI 0)), (3, .int (nI b1)), (0, .ref mo), (1, .int (nI fr)), (2, .int (nI tt))] := hl
      refine wl_loop (σ := Nat × (Nat → Nat)) 35 [] (fun (a_ : Nat × (Nat → Nat)) => match a_ with | (j1, Rj) => my + 1 - j1) (fun (a_ : Nat × (Nat → Nat)) (H : Heap) (locs : List Loc) (ls : Array Slot) => match a_ with | (j1, Rj) => (j1 ≤ my + 1) ∧ (∀ i, i < j1 → Rj i = i) ∧ (∀ k_, Rj k_ < 110) ∧ va_P (dC, dI) cls_ [(mo, .inr (5, [.int (nI sp), .int (nI d), .ref mdr, .int (nI mm - 1), .ref mtx, .ref mod, .ref mia, .ref mus, .ref mol, .ref mle, .int (nI my), .ref mrw, .ref mls])), (mtx, .inl (ky, 97, .inl (nA Mx))), (mle, .inl (ky, 8, .inl (nA Lw))), (mrw, .inl (ky, 9, .inl (nA Rj))), (mls, .inl (ky, 97, .inl (nA Lb)))] H ∧ va_D A [(mo, .inr (5, [.int (nI sp), .int (nI d), .ref mdr, .int (nI mm - 1), .ref mtx, .ref mod, .ref mia, .ref mus, .ref mol, .ref mle, .int (nI my), .ref mrw, .ref mls])), (mtx, .inl (ky, 97, .inl (nA Mx))), (mle, .inl (ky, 8, .inl (nA Lw))), (mrw, .inl (ky, 9, .inl (nA Rj))), (mls, .inl (ky, 97, .inl (nA Lb)))] ∧ va_S A s.heap H locs ∧ lv_has ls 6 [(4, .int (nI j1)), (3, .int (nI b1)), (0, .ref mo), (1, .int (nI fr)), (2, .int (nI tt))]) ?_ (0, Rb) ⟨(by first | assumption | omega | (simp; done) | (simp_all; done)), (fun i hi => by omega), hRb, hP, hD, hS, lv_sub hl [0, 1, 2, 3, 4] rfl⟩
      clear hP hD hS hl
      intro a_ H locs ls hI ih35
      obtain ⟨j1, Rj⟩ := a_
      obtain ⟨hj1, hRi, hRj, hP, hD, hS, hl⟩ := hI
      have hl : lv_has ls 6 [(4, .int (nI j1)), (3, .int (nI b1)), (0, .ref mo), (1, .int (nI fr)), (2, .int (nI tt))] := hl
      have hP : va_P (dC, dI) cls_ [(mo, .inr (5, [.int (nI sp), .int (nI d), .ref mdr, .int (nI mm - 1), .ref mtx, .ref mod, .ref mia, .ref mus, .ref mol, .ref mle, .int (nI my), .ref mrw, .ref mls])), (mtx, .inl (ky, 97, .inl (nA Mx))), (mle, .inl (ky, 8, .inl (nA Lw))), (mrw, .inl (ky, 9, .inl (nA Rj))), (mls, .inl (ky, 97, .inl (nA Lb)))] H := hP
      have hD : va_D A [(mo, .inr (5, [.int (nI sp), .int (nI d), .ref mdr, .int (nI mm - 1), .ref mtx, .ref mod, .ref mia, .ref mus, .ref mol, .ref mle, .int (nI my), .ref mrw, .ref mls])), (mtx, .inl (ky, 97, .inl (nA Mx))), (mle, .inl (ky, 8, .inl (nA Lw))), (mrw, .inl (ky, 9, .inl (nA Rj))), (mls, .inl (ky, 97, .inl (nA Lb)))] := hD
      have hj1 : j1 ≤ my + 1 := hj1
      have hRi : ∀ i, i < j1 → Rj i = i := hRi
      have hRj : ∀ k_, Rj k_ < 110 := hRj
      refine lv_iload hx hb d_Mo_measure_35 (lv_at hl 0 rfl) ?_
      refine lv_aload_n hx hb d_Mo_measure_37 rfl (lv_at hl 2 rfl) ?_
      refine va_get (D := (dC, dI)) (ci := 5) (v := .int (nI my)) (C := R_Mo) (T := F_Mo) (N := 13) hx hb htb in_Mo hown hK hP 0 rfl rfl 10 (by decide) (htb _ tw_371) (fun _ h9 => h9) rfl d_Mo_measure_38 ?_
      refine lv_icmp_gt (tgt := 59) hx hb d_Mo_measure_41 (by decide) (fun hc41 => ?_) (fun hc41 => ?_)
      · skip
        rw [bw_lt_nn (by omega) (by omega)] at hc41
        refine lv_iload_n hx hb d_Mo_measure_59 rfl (lv_at hl 1 rfl) ?_
        refine lv_istore hx hb d_Mo_measure_60 hl (by decide) rfl (fun ls hl => ?_)
        have hl : lv_has ls 6 [(4, .int (nI b1)), (3, .int (nI b1)), (0, .ref mo), (1, .int (nI fr)), (2, .int (nI tt))] := hl
        refine wl_loop (σ := Nat × (Nat → Nat) × (Nat → Nat)) 62 [] (fun (a_ : Nat × (Nat → Nat) × (Nat → Nat)) => match a_ with | (p1, Rp, Lp) => tt - p1) (fun (a_ : Nat × (Nat → Nat) × (Nat → Nat)) (H : Heap) (locs : List Loc) (ls : Array Slot) => match a_ with | (p1, Rp, Lp) => (b1 ≤ p1) ∧ (p1 ≤ tt) ∧ (∀ i, i ≤ my → Rp i = Lr Wl T b1 (p1 - b1) i) ∧ (∀ e, e ≤ tt - fr → Lp e = (if e ≤ p1 - fr then lst Wl T fr my (b1 - fr + 1) e else lst Wl T fr my (b1 - fr) e)) ∧ (∀ k_, Rp k_ < 110) ∧ (∀ k_, Lp k_ < 9) ∧ va_P (dC, dI) cls_ [(mo, .inr (5, [.int (nI sp), .int (nI d), .ref mdr, .int (nI mm - 1), .ref mtx, .ref mod, .ref mia, .ref mus, .ref mol, .ref mle, .int (nI my), .ref mrw, .ref mls])), (mtx, .inl (ky, 97, .inl (nA Mx))), (mle, .inl (ky, 8, .inl (nA Lw))), (mrw, .inl (ky, 9, .inl (nA Rp))), (mls, .inl (ky, 97, .inl (nA Lp)))] H ∧ va_D A [(mo, .inr (5, [.int (nI sp), .int (nI d), .ref mdr, .int (nI mm - 1), .ref mtx, .ref mod, .ref mia, .ref mus, .ref mol, .ref mle, .int (nI my), .ref mrw, .ref mls])), (mtx, .inl (ky, 97, .inl (nA Mx))), (mle, .inl (ky, 8, .inl (nA Lw))), (mrw, .inl (ky, 9, .inl (nA Rp))), (mls, .inl (ky, 97, .inl (nA Lp)))] ∧ va_S A s.heap H locs ∧ lv_has ls 6 [(4, .int (nI p1)), (3, .int (nI b1)), (0, .ref mo), (1, .int (nI fr)), (2, .int (nI tt))]) ?_ (b1, Rj, Lb) ⟨(by first | assumption | omega | (simp; done) | (simp_all; done)), (by first | assumption | omega | (simp; done) | (simp_all; done)), (fun i hi => by rw [hRi i (by omega), Nat.sub_self]; rfl), (ls_0 hLe), hRj, hLb, hP, hD, hS, lv_sub hl [0, 1, 2, 3, 4] rfl⟩
        clear hP hD hS hl
        intro a_ H locs ls hI ih62
        obtain ⟨p1, Rp, Lp⟩ := a_
        obtain ⟨hp1, hp2, hRl, hLl, hRp, hLp, hP, hD, hS, hl⟩ := hI
        have hl : lv_has ls 6 [(4, .int (nI p1)), (3, .int (nI b1)), (0, .ref mo), (1, .int (nI fr)), (2, .int (nI tt))] := hl
        have hP : va_P (dC, dI) cls_ [(mo, .inr (5, [.int (nI sp), .int (nI d), .ref mdr, .int (nI mm - 1), .ref mtx, .ref mod, .ref mia, .ref mus, .ref mol, .ref mle, .int (nI my), .ref mrw, .ref mls])), (mtx, .inl (ky, 97, .inl (nA Mx))), (mle, .inl (ky, 8, .inl (nA Lw))), (mrw, .inl (ky, 9, .inl (nA Rp))), (mls, .inl (ky, 97, .inl (nA Lp)))] H := hP
        have hD : va_D A [(mo, .inr (5, [.int (nI sp), .int (nI d), .ref mdr, .int (nI mm - 1), .ref mtx, .ref mod, .ref mia, .ref mus, .ref mol, .ref mle, .int (nI my), .ref mrw, .ref mls])), (mtx, .inl (ky, 97, .inl (nA Mx))), (mle, .inl (ky, 8, .inl (nA Lw))), (mrw, .inl (ky, 9, .inl (nA Rp))), (mls, .inl (ky, 97, .inl (nA Lp)))] := hD
        have hp1 : b1 ≤ p1 := hp1
        have hp2 : p1 ≤ tt := hp2
        have hRl : ∀ i, i ≤ my → Rp i = Lr Wl T b1 (p1 - b1) i := hRl
        have hLl : ∀ e, e ≤ tt - fr → Lp e = (if e ≤ p1 - fr then lst Wl T fr my (b1 - fr + 1) e else lst Wl T fr my (b1 - fr) e) := hLl
        have hRp : ∀ k_, Rp k_ < 110 := hRp
        have hLp : ∀ k_, Lp k_ < 9 := hLp
        refine lv_iload hx hb d_Mo_measure_62 (lv_at hl 0 rfl) ?_
        refine lv_iload_n hx hb d_Mo_measure_64 rfl (lv_at hl 4 rfl) ?_
        refine lv_icmp_ge (tgt := 138) hx hb d_Mo_measure_65 (by decide) (fun hc65 => ?_) (fun hc65 => ?_)
        · skip
          rw [bw_le_nn (by omega) (by omega)] at hc65
          refine lv_iinc (v := nI (b1 + 1)) (k := 1) hx hb d_Mo_measure_138 hl rfl (bw_inc b1 1) (by decide) rfl (fun ls hl => ?_)
          have hl : lv_has ls 6 [(3, .int (nI (b1 + 1))), (4, .int (nI p1)), (0, .ref mo), (1, .int (nI fr)), (2, .int (nI tt))] := hl
          refine lv_goto (tgt := 27) hx hb d_Mo_measure_141 (by decide) ?_
          exact ih27 ((b1 + 1), Rp, Lp) _ _ _ ⟨(by first | assumption | omega | (simp; done) | (simp_all; done)), (by first | assumption | omega | (simp; done) | (simp_all; done)), (fun e he => by rw [hLl e he, if_pos (by omega), show b1 + 1 - fr = b1 - fr + 1 by omega]), hRp, hLp, hP, hD, hS, lv_sub hl [0, 2, 3, 4] rfl⟩ (by first | omega | (simp only; omega) | (dsimp only; omega))
        · skip
          rw [bw_le_nn (by omega) (by omega)] at hc65
          refine lv_aload_n hx hb d_Mo_measure_68 rfl (lv_at hl 2 rfl) ?_
          refine lv_aload_n hx hb d_Mo_measure_69 rfl (lv_at hl 2 rfl) ?_
          refine va_get (D := (dC, dI)) (ci := 5) (v := .ref mtx) (C := R_Mo) (T := F_Mo) (N := 13) hx hb htb in_Mo hown hK hP 0 rfl rfl 4 (by decide) (htb _ tw_365) (fun _ h9 => h9) rfl d_Mo_measure_70 ?_
          refine lv_iload hx hb d_Mo_measure_73 (lv_at hl 0 rfl) ?_
          have hcl := cod_lt (hT28 p1)
          refine va_iald hx hb hK hP 1 0 rfl rfl (vp_in_nI (by omega) (by decide)) d_Mo_measure_75 ?_
          rw [nI_clamp (by omega)]
          have hb75 := hMx p1
          rw [nA_at]
          rw [show nI (Mx p1) = nI (cod (T p1)) from (by rw [hTx _ (by omega)])]
          have hPc := hP.sub (ws' := [(mo, .inr (5, [.int (nI sp), .int (nI d), .ref mdr, .int (nI mm - 1), .ref mtx, .ref mod, .ref mia, .ref mus, .ref mol, .ref mle, .int (nI my), .ref mrw, .ref mls])), (mle, .inl (ky, 8, .inl (nA Lw))), (mrw, .inl (ky, 9, .inl (nA Rp)))]) [0, 2, 3] rfl
          have hDc := hD.sub (ws' := [(mo, .inr (5, [.int (nI sp), .int (nI d), .ref mdr, .int (nI mm - 1), .ref mtx, .ref mod, .ref mia, .ref mus, .ref mol, .ref mle, .int (nI my), .ref mrw, .ref mls])), (mle, .inl (ky, 8, .inl (nA Lw))), (mrw, .inl (ky, 9, .inl (nA Rp)))]) [0, 2, 3] (by decide) rfl
          have hFc := va_free (wc := [(mo, .inr (5, [.int (nI sp), .int (nI d), .ref mdr, .int (nI mm - 1), .ref mtx, .ref mod, .ref mia, .ref mus, .ref mol, .ref mle, .int (nI my), .ref mrw, .ref mls])), (mle, .inl (ky, 8, .inl (nA Lw))), (mrw, .inl (ky, 9, .inl (nA Rp)))]) hD hS hA [0, 2, 3] rfl
          refine va_callv (va_runV (C := "SelfIndexedSequencesModel") (As := [.int (nI (cod (T p1)))]) (rest := []) ⟨hx, hb, hml, hown, hts⟩ (c_Mo_letter l dC dI ky H.size mo sp d mdr mm mtx mod mia mus mol mle my mrw mls Lw Wl Rp (T p1) (by first | assumption | omega | (simp; done) | (simp_all; done)) hLw (by first | assumption | omega | (simp; done) | (simp_all; done)) (by first | assumption | omega | (simp; done) | (simp_all; done)) (by first | assumption | omega | (simp; done) | (simp_all; done)) (hT28 p1) hRp) ⟨callB_of 1 hts (W0_good tw_528) rfl rfl rfl (htb _ tw_28) (htb _ tw_525) ⟨by decide, by decide, by decide +kernel⟩ ⟨(Nat.le_of_ble_eq_true rfl), (Nat.le_of_ble_eq_true rfl)⟩, htb _ tw_527, htb _ tw_21⟩ ⟨fun a U g mk q => by obtain ⟨q0, q1, qP, qK, qD⟩ := q; exact ⟨q0, q1, qP, va_K.moved (u := U) (U := U.calling g mk a) (Vm.Alike.refl U.vm) qK, qD⟩, va_recv hK hPc (q0 := 0) (q := (R_Mo, F_Mo, 13)) rfl rfl, fun U hU hW => ⟨rfl, by rw [hU], by rw [hU]; exact hPc, va_K.moved hW.alike hK, hDc.weaken (fun _ _ _ _ => trivial)⟩⟩ rfl rfl hl.1 rfl (lv_room (Nat.le_of_ble_eq_true rfl)) d_Mo_measure_76 ⟨(Nat.le_of_ble_eq_true rfl), (Nat.le_of_ble_eq_true rfl)⟩) hS (fun q _ h => hFc q h) hFc (fun Rl t H locs ht hvm hw76 hB hz1 hk1 hS => ?_)
          obtain ⟨hP1, hD1⟩ := hB
          rw [ht] at hP1
          obtain ⟨hP, hD⟩ := va_join (wr := [(mtx, .inl (ky, 97, .inl (nA Mx))), (mls, .inl (ky, 97, .inl (nA Lp)))]) (w1 := [(mo, .inr (5, [.int (nI sp), .int (nI d), .ref mdr, .int (nI mm - 1), .ref mtx, .ref mod, .ref mia, .ref mus, .ref mol, .ref mle, .int (nI my), .ref mrw, .ref mls])), (mle, .inl (ky, 8, .inl (nA Lw))), (mrw, .inl (ky, 9, .inl (nA Rl)))]) hP hD [0, 2, 3] [1, 4] rfl rfl (by decide) (by decide) hk1 hFc hP1 hD1
          have hP : va_P (dC, dI) cls_ [(mtx, .inl (ky, 97, .inl (nA Mx))), (mls, .inl (ky, 97, .inl (nA Lp))), (mo, .inr (5, [.int (nI sp), .int (nI d), .ref mdr, .int (nI mm - 1), .ref mtx, .ref mod, .ref mia, .ref mus, .ref mol, .ref mle, .int (nI my), .ref mrw, .ref mls])), (mle, .inl (ky, 8, .inl (nA Lw))), (mrw, .inl (ky, 9, .inl (nA Rl)))] H := hP
          have hD : va_D A [(mtx, .inl (ky, 97, .inl (nA Mx))), (mls, .inl (ky, 97, .inl (nA Lp))), (mo, .inr (5, [.int (nI sp), .int (nI d), .ref mdr, .int (nI mm - 1), .ref mtx, .ref mod, .ref mia, .ref mus, .ref mol, .ref mle, .int (nI my), .ref mrw, .ref mls])), (mle, .inl (ky, 8, .inl (nA Lw))), (mrw, .inl (ky, 9, .inl (nA Rl)))] := hD
          have hq76 : (∀ i, i ≤ my → Rl i = lvr Wl Rp (T p1) i) ∧ (∀ i, my < i → Rl i = Rp i) := hw76
          have hRm := lr_next hp1 hRl hq76.1
          have hRl9 : ∀ k_, Rl k_ < 110 := fun k => if e : k ≤ my then (by rw [hRm k e]; have := Lr_le Wl T b1 (p1 + 1 - b1) k; omega) else (by rw [hq76.2 k (by omega)]; exact hRp k)
          refine lv_iload hx hb d_Mo_measure_79 (lv_at hl 0 rfl) ?_
          refine lv_iconst (v := nI 1) hx hb d_Mo_measure_81 (by decide) ?_
          refine lv_iadd hx hb d_Mo_measure_82 ?_
          rw [nI_add]
          refine lv_iload_n hx hb d_Mo_measure_83 rfl (lv_at hl 3 rfl) ?_
          refine lv_isub hx hb d_Mo_measure_84 ?_
          rw [pk_sub (show fr ≤ (p1 + 1) by omega)]
          refine lv_istore hx hb d_Mo_measure_85 hl (by decide) rfl (fun ls hl => ?_)
          have hl : lv_has ls 6 [(5, .int (nI ((p1 + 1) - fr))), (4, .int (nI p1)), (3, .int (nI b1)), (0, .ref mo), (1, .int (nI fr)), (2, .int (nI tt))] := hl
          refine lv_aload_n hx hb d_Mo_measure_87 rfl (lv_at hl 3 rfl) ?_
          refine va_get (D := (dC, dI)) (ci := 5) (v := .ref mls) (C := R_Mo) (T := F_Mo) (N := 13) hx hb htb in_Mo hown hK hP 2 rfl rfl 12 (by decide) (htb _ tw_373) (fun _ h9 => h9) rfl d_Mo_measure_88 ?_
          refine lv_iload hx hb d_Mo_measure_91 (lv_at hl 0 rfl) ?_
          refine lv_aload_n hx hb d_Mo_measure_93 rfl (lv_at hl 3 rfl) ?_
          refine va_get (D := (dC, dI)) (ci := 5) (v := .ref mrw) (C := R_Mo) (T := F_Mo) (N := 13) hx hb htb in_Mo hown hK hP 2 rfl rfl 11 (by decide) (htb _ tw_372) (fun _ h9 => h9) rfl d_Mo_measure_94 ?_
          refine lv_aload_n hx hb d_Mo_measure_97 rfl (lv_at hl 3 rfl) ?_
          refine va_get (D := (dC, dI)) (ci := 5) (v := .int (nI my)) (C := R_Mo) (T := F_Mo) (N := 13) hx hb htb in_Mo hown hK hP 2 rfl rfl 10 (by decide) (htb _ tw_371) (fun _ h9 => h9) rfl d_Mo_measure_98 ?_
          have hRmy := hRm my (Nat.le_refl my)
          refine va_iald hx hb hK hP 4 0 rfl rfl (vp_in_nI (by omega) (by decide)) d_Mo_measure_101 ?_
          rw [nI_clamp (by omega)]
          have hb101 := hRl9 my
          rw [nA_at]
          refine lv_aload_n hx hb d_Mo_measure_102 rfl (lv_at hl 3 rfl) ?_
          refine va_get (D := (dC, dI)) (ci := 5) (v := .ref mls) (C := R_Mo) (T := F_Mo) (N := 13) hx hb htb in_Mo hown hK hP 2 rfl rfl 12 (by decide) (htb _ tw_373) (fun _ h9 => h9) rfl d_Mo_measure_103 ?_
          refine lv_iload hx hb d_Mo_measure_106 (lv_at hl 0 rfl) ?_
          refine va_iald hx hb hK hP 1 0 rfl rfl (vp_in_nI (by omega) (by decide)) d_Mo_measure_108 ?_
          rw [nI_clamp (by omega)]
          have hb108 := hLp ((p1 + 1) - fr)
          rw [nA_at]
          refine lv_icmp_ge (tgt := 124) hx hb d_Mo_measure_109 (by decide) (fun hc109 => ?_) (fun hc109 => ?_)
          · skip
            rw [bw_le_nn (by omega) (by omega)] at hc109
            refine lv_aload_n hx hb d_Mo_measure_124 rfl (lv_at hl 3 rfl) ?_
            refine va_get (D := (dC, dI)) (ci := 5) (v := .ref mls) (C := R_Mo) (T := F_Mo) (N := 13) hx hb htb in_Mo hown hK hP 2 rfl rfl 12 (by decide) (htb _ tw_373) (fun _ h9 => h9) rfl d_Mo_measure_125 ?_
            refine lv_iload hx hb d_Mo_measure_128 (lv_at hl 0 rfl) ?_
            refine va_iald hx hb hK hP 1 0 rfl rfl (vp_in_nI (by omega) (by decide)) d_Mo_measure_130 ?_
            rw [nI_clamp (by omega)]
            have hb130 := hLp ((p1 + 1) - fr)
            rw [nA_at]
            refine va_iast hx hb hK hP hD hS 1 0 rfl rfl (vp_in_nI (by omega) (by decide)) d_Mo_measure_131 (fun H locs hP hD hS => ?_)
            rw [nI_clamp (by omega)] at hP hD
            rw [nA_upd] at hP hD
            have hu1 : ∀ k_, (upN Lp ((p1 + 1) - fr) (Lp ((p1 + 1) - fr))) k_ < 9 := upN_lt hLp (by omega)
            have hP : va_P (dC, dI) cls_ [(mtx, .inl (ky, 97, .inl (nA Mx))), (mls, .inl (ky, 97, .inl (nA (upN Lp ((p1 + 1) - fr) (Lp ((p1 + 1) - fr)))))), (mo, .inr (5, [.int (nI sp), .int (nI d), .ref mdr, .int (nI mm - 1), .ref mtx, .ref mod, .ref mia, .ref mus, .ref mol, .ref mle, .int (nI my), .ref mrw, .ref mls])), (mle, .inl (ky, 8, .inl (nA Lw))), (mrw, .inl (ky, 9, .inl (nA Rl)))] H := hP
            have hD : va_D A [(mtx, .inl (ky, 97, .inl (nA Mx))), (mls, .inl (ky, 97, .inl (nA (upN Lp ((p1 + 1) - fr) (Lp ((p1 + 1) - fr)))))), (mo, .inr (5, [.int (nI sp), .int (nI d), .ref mdr, .int (nI mm - 1), .ref mtx, .ref mod, .ref mia, .ref mus, .ref mol, .ref mle, .int (nI my), .ref mrw, .ref mls])), (mle, .inl (ky, 8, .inl (nA Lw))), (mrw, .inl (ky, 9, .inl (nA Rl)))] := hD
            refine lv_iinc (v := nI (p1 + 1)) (k := 1) hx hb d_Mo_measure_132 hl rfl (bw_inc p1 1) (by decide) rfl (fun ls hl => ?_)
            have hl : lv_has ls 6 [(4, .int (nI (p1 + 1))), (5, .int (nI ((p1 + 1) - fr))), (3, .int (nI b1)), (0, .ref mo), (1, .int (nI fr)), (2, .int (nI tt))] := hl
            refine lv_goto (tgt := 62) hx hb d_Mo_measure_135 (by decide) ?_
            exact ih62 ((p1 + 1), Rl, (upN Lp ((p1 + 1) - fr) (Lp ((p1 + 1) - fr)))) _ _ _ ⟨(by first | assumption | omega | (simp; done) | (simp_all; done)), (by first | assumption | omega | (simp; done) | (simp_all; done)), hRm, (ls_ok hb1 hp1 rfl hLl (by omega)), hRl9, (by assumption), (hP.sub [2, 0, 3, 4, 1] rfl), (hD.sub [2, 0, 3, 4, 1] (by decide) rfl), hS, lv_sub hl [0, 2, 3, 4, 5] rfl⟩ (by first | omega | (simp only; omega) | (dsimp only; omega))
          · skip
            rw [bw_le_nn (by omega) (by omega)] at hc109
            refine lv_aload_n hx hb d_Mo_measure_112 rfl (lv_at hl 3 rfl) ?_
            refine va_get (D := (dC, dI)) (ci := 5) (v := .ref mrw) (C := R_Mo) (T := F_Mo) (N := 13) hx hb htb in_Mo hown hK hP 2 rfl rfl 11 (by decide) (htb _ tw_372) (fun _ h9 => h9) rfl d_Mo_measure_113 ?_
            refine lv_aload_n hx hb d_Mo_measure_116 rfl (lv_at hl 3 rfl) ?_
            refine va_get (D := (dC, dI)) (ci := 5) (v := .int (nI my)) (C := R_Mo) (T := F_Mo) (N := 13) hx hb htb in_Mo hown hK hP 2 rfl rfl 10 (by decide) (htb _ tw_371) (fun _ h9 => h9) rfl d_Mo_measure_117 ?_
            refine va_iald hx hb hK hP 4 0 rfl rfl (vp_in_nI (by omega) (by decide)) d_Mo_measure_120 ?_
            rw [nI_clamp (by omega)]
            have hb120 := hRl9 my
            rw [nA_at]
            refine lv_goto (tgt := 131) hx hb d_Mo_measure_121 (by decide) ?_
            refine va_iast hx hb hK hP hD hS 1 0 rfl rfl (vp_in_nI (by omega) (by decide)) d_Mo_measure_131 (fun H locs hP hD hS => ?_)
            rw [nI_clamp (by omega)] at hP hD
            rw [nA_upd] at hP hD
            have hu2 : ∀ k_, (upN Lp ((p1 + 1) - fr) (Rl my)) k_ < 9 := upN_lt hLp (by omega)
            have hP : va_P (dC, dI) cls_ [(mtx, .inl (ky, 97, .inl (nA Mx))), (mls, .inl (ky, 97, .inl (nA (upN Lp ((p1 + 1) - fr) (Rl my))))), (mo, .inr (5, [.int (nI sp), .int (nI d), .ref mdr, .int (nI mm - 1), .ref mtx, .ref mod, .ref mia, .ref mus, .ref mol, .ref mle, .int (nI my), .ref mrw, .ref mls])), (mle, .inl (ky, 8, .inl (nA Lw))), (mrw, .inl (ky, 9, .inl (nA Rl)))] H := hP
            have hD : va_D A [(mtx, .inl (ky, 97, .inl (nA Mx))), (mls, .inl (ky, 97, .inl (nA (upN Lp ((p1 + 1) - fr) (Rl my))))), (mo, .inr (5, [.int (nI sp), .int (nI d), .ref mdr, .int (nI mm - 1), .ref mtx, .ref mod, .ref mia, .ref mus, .ref mol, .ref mle, .int (nI my), .ref mrw, .ref mls])), (mle, .inl (ky, 8, .inl (nA Lw))), (mrw, .inl (ky, 9, .inl (nA Rl)))] := hD
            refine lv_iinc (v := nI (p1 + 1)) (k := 1) hx hb d_Mo_measure_132 hl rfl (bw_inc p1 1) (by decide) rfl (fun ls hl => ?_)
            have hl : lv_has ls 6 [(4, .int (nI (p1 + 1))), (5, .int (nI ((p1 + 1) - fr))), (3, .int (nI b1)), (0, .ref mo), (1, .int (nI fr)), (2, .int (nI tt))] := hl
            refine lv_goto (tgt := 62) hx hb d_Mo_measure_135 (by decide) ?_
            exact ih62 ((p1 + 1), Rl, (upN Lp ((p1 + 1) - fr) (Rl my))) _ _ _ ⟨(by first | assumption | omega | (simp; done) | (simp_all; done)), (by first | assumption | omega | (simp; done) | (simp_all; done)), hRm, (ls_ok hb1 hp1 rfl hLl (by omega)), hRl9, (by assumption), (hP.sub [2, 0, 3, 4, 1] rfl), (hD.sub [2, 0, 3, 4, 1] (by decide) rfl), hS, lv_sub hl [0, 2, 3, 4, 5] rfl⟩ (by first | omega | (simp only; omega) | (dsimp only; omega))
      · skip
        rw [bw_lt_nn (by omega) (by omega)] at hc41
        refine lv_aload_n hx hb d_Mo_measure_44 rfl (lv_at hl 2 rfl) ?_
        refine va_get (D := (dC, dI)) (ci := 5) (v := .ref mrw) (C := R_Mo) (T := F_Mo) (N := 13) hx hb htb in_Mo hown hK hP 0 rfl rfl 11 (by decide) (htb _ tw_372) (fun _ h9 => h9) rfl d_Mo_measure_45 ?_
        refine lv_iload hx hb d_Mo_measure_48 (lv_at hl 0 rfl) ?_
        refine lv_iload hx hb d_Mo_measure_50 (lv_at hl 0 rfl) ?_
        refine va_iast hx hb hK hP hD hS 3 0 rfl rfl (vp_in_nI (by omega) (by decide)) d_Mo_measure_52 (fun H locs hP hD hS => ?_)
        rw [nI_clamp (by omega)] at hP hD
        rw [nA_upd] at hP hD
        have hu3 : ∀ k_, (upN Rj j1 j1) k_ < 110 := upN_lt hRj (by omega)
        have hP : va_P (dC, dI) cls_ [(mo, .inr (5, [.int (nI sp), .int (nI d), .ref mdr, .int (nI mm - 1), .ref mtx, .ref mod, .ref mia, .ref mus, .ref mol, .ref mle, .int (nI my), .ref mrw, .ref mls])), (mtx, .inl (ky, 97, .inl (nA Mx))), (mle, .inl (ky, 8, .inl (nA Lw))), (mrw, .inl (ky, 9, .inl (nA (upN Rj j1 j1)))), (mls, .inl (ky, 97, .inl (nA Lb)))] H := hP
        have hD : va_D A [(mo, .inr (5, [.int (nI sp), .int (nI d), .ref mdr, .int (nI mm - 1), .ref mtx, .ref mod, .ref mia, .ref mus, .ref mol, .ref mle, .int (nI my), .ref mrw, .ref mls])), (mtx, .inl (ky, 97, .inl (nA Mx))), (mle, .inl (ky, 8, .inl (nA Lw))), (mrw, .inl (ky, 9, .inl (nA (upN Rj j1 j1)))), (mls, .inl (ky, 97, .inl (nA Lb)))] := hD
        refine lv_iinc (v := nI (j1 + 1)) (k := 0) hx hb d_Mo_measure_53 hl rfl (bw_inc j1 1) (by decide) rfl (fun ls hl => ?_)
        have hl : lv_has ls 6 [(4, .int (nI (j1 + 1))), (3, .int (nI b1)), (0, .ref mo), (1, .int (nI fr)), (2, .int (nI tt))] := hl
        refine lv_goto (tgt := 35) hx hb d_Mo_measure_56 (by decide) ?_
        exact ih35 ((j1 + 1), (upN Rj j1 j1)) _ _ _ ⟨(by first | assumption | omega | (simp; done) | (simp_all; done)), (fun i hi => if e : i = j1 then (by rw [e, upN_s]) else (by rw [upN_o e]; exact hRi i (by omega))), (by assumption), hP, hD, hS, lv_sub hl [0, 1, 2, 3, 4] rfl⟩ (by first | omega | (simp only; omega) | (dsimp only; omega))
  · skip
    rw [bw_lt_nn (by omega) (by omega)] at hc6
    refine lv_aload_n hx hb d_Mo_measure_9 rfl (lv_at hl 1 rfl) ?_
    refine va_get (D := (dC, dI)) (ci := 5) (v := .ref mls) (C := R_Mo) (T := F_Mo) (N := 13) hx hb htb in_Mo hown hK hP 0 rfl rfl 12 (by decide) (htb _ tw_373) (fun _ h9 => h9) rfl d_Mo_measure_10 ?_
    refine lv_iload_n hx hb d_Mo_measure_13 rfl (lv_at hl 0 rfl) ?_
    refine lv_aload_n hx hb d_Mo_measure_14 rfl (lv_at hl 1 rfl) ?_
    refine va_get (D := (dC, dI)) (ci := 5) (v := .int (nI my)) (C := R_Mo) (T := F_Mo) (N := 13) hx hb htb in_Mo hown hK hP 0 rfl rfl 10 (by decide) (htb _ tw_371) (fun _ h9 => h9) rfl d_Mo_measure_15 ?_
    refine va_iast hx hb hK hP hD hS 4 0 rfl rfl (vp_in_nI (by omega) (by decide)) d_Mo_measure_18 (fun H locs hP hD hS => ?_)
    rw [nI_clamp (by omega)] at hP hD
    rw [nA_upd] at hP hD
    have hu4 : ∀ k_, (upN Lq e1 my) k_ < 9 := upN_lt hLq (by omega)
    have hP : va_P (dC, dI) cls_ [(mo, .inr (5, [.int (nI sp), .int (nI d), .ref mdr, .int (nI mm - 1), .ref mtx, .ref mod, .ref mia, .ref mus, .ref mol, .ref mle, .int (nI my), .ref mrw, .ref mls])), (mtx, .inl (ky, 97, .inl (nA Mx))), (mle, .inl (ky, 8, .inl (nA Lw))), (mrw, .inl (ky, 9, .inl (nA Rr))), (mls, .inl (ky, 97, .inl (nA (upN Lq e1 my))))] H := hP
    have hD : va_D A [(mo, .inr (5, [.int (nI sp), .int (nI d), .ref mdr, .int (nI mm - 1), .ref mtx, .ref mod, .ref mia, .ref mus, .ref mol, .ref mle, .int (nI my), .ref mrw, .ref mls])), (mtx, .inl (ky, 97, .inl (nA Mx))), (mle, .inl (ky, 8, .inl (nA Lw))), (mrw, .inl (ky, 9, .inl (nA Rr))), (mls, .inl (ky, 97, .inl (nA (upN Lq e1 my))))] := hD
    refine lv_iinc (v := nI (e1 + 1)) (k := 0) hx hb d_Mo_measure_19 hl rfl (bw_inc e1 1) (by decide) rfl (fun ls hl => ?_)
    have hl : lv_has ls 6 [(3, .int (nI (e1 + 1))), (0, .ref mo), (1, .int (nI fr)), (2, .int (nI tt))] := hl
    refine lv_goto (tgt := 2) hx hb d_Mo_measure_22 (by decide) ?_
    exact ih2 ((e1 + 1), (upN Lq e1 my)) _ _ _ ⟨(by first | assumption | omega | (simp; done) | (simp_all; done)), (fun i hi => if e : i = e1 then (by rw [e, upN_s]) else (by rw [upN_o e]; exact hLi i (by omega))), (by assumption), hP, hD, hS, lv_sub hl [0, 1, 2, 3] rfl⟩ (by first | omega | (simp only; omega) | (dsimp only; omega))

set_option maxHeartbeats 4000000 in
set_option maxRecDepth 100000 in
theorem c_Mo_look (l : Launch) (dC : Nat → ClassId) (dI : Nat → Nat → Nat) (ky : ClassId) (sz : Nat) (mo : Nat) (sp : Nat) (d : Nat) (mdr : Nat) (mm : Nat) (mtx : Nat) (mod : Nat) (mia : Nat) (mus : Nat) (mol : Nat) (mle : Nat) (my : Nat) (mrw : Nat) (mls : Nat) (Mx : Nat → Nat) (T : Nat → Nat) (Lw : Nat → Nat) (Wl : Nat → Nat) (Rr : Nat → Nat) (Ls : Nat → Nat) (kk : Nat) (xi : Int32) (hMx : ∀ k_, Mx k_ < 125) (hmm : mm ≤ 97) (hT28 : ∀ k_, T k_ < 28) (hTx : ∀ q, q + 1 < mm → Mx q = cod (T q)) (hmy : 1 ≤ my ∧ my ≤ 8) (hLw : ∀ k_, Lw k_ < 125) (hWl28 : ∀ k_, Wl k_ < 28) (hLW : ∀ i, i < my → Lw i = cod (Wl i)) (hW0 : ∀ i, i < my → 2 ≤ Wl i) (hRr : ∀ k_, Rr k_ < 110) (hLs : ∀ k_, Ls k_ < 9) (hk4 : kk ≤ 4) : Met l y_Mo_look (Cond.code y_Mo_look prog_7_method_32_code 9 (some .int) :: W0) ({ frames := 2, cells := 0, slots := 0, locals := 49 }) (va_Pc [.ref mo, .int (nI kk), .int (xi)] (fun U => U.heap.size = sz ∧ va_P (dC, dI) cls_ [(mo, .inr (5, [.int (nI sp), .int (nI d), .ref mdr, .int (nI mm - 1), .ref mtx, .ref mod, .ref mia, .ref mus, .ref mol, .ref mle, .int (nI my), .ref mrw, .ref mls])), (mtx, .inl (ky, 97, .inl (nA Mx))), (mle, .inl (ky, 8, .inl (nA Lw))), (mrw, .inl (ky, 9, .inl (nA Rr))), (mls, .inl (ky, 97, .inl (nA Ls)))] U.heap ∧ va_K (dC, dI) cls_ [(ky, .int)] U ∧ va_D (fun _ => True) [(mo, .inr (5, [.int (nI sp), .int (nI d), .ref mdr, .int (nI mm - 1), .ref mtx, .ref mod, .ref mia, .ref mus, .ref mol, .ref mle, .int (nI my), .ref mrw, .ref mls])), (mtx, .inl (ky, 97, .inl (nA Mx))), (mle, .inl (ky, 8, .inl (nA Lw))), (mrw, .inl (ky, 9, .inl (nA Rr))), (mls, .inl (ky, 97, .inl (nA Ls)))])) (va_Qi (fun (r : Int32) (u : (Nat → Nat) × (Nat → Nat)) => match u with | (Rn, Ln) => ((∃ v, v < mm ∧ Er Wl T v my ≤ kk ∧ xi = nI (num (fun v => Er Wl T v my ≤ kk) v) ∧ r = nI (10000 * nb T v + 10 * (v - gs T (mm - 1) (nb T v)) + Er Wl T v my)) ∨ ((∀ v, v < mm → Er Wl T v my ≤ kk → xi ≠ nI (num (fun v => Er Wl T v my ≤ kk) v)) ∧ ((xi < 0 ∧ r = nI (num (fun v => Er Wl T v my ≤ kk) mm)) ∨ (¬ xi < 0 ∧ r = nI 0 - 1)))) ∧ (∀ k_, Rn k_ < 110) ∧ (∀ k_, Ln k_ < 9)) (fun (u : (Nat → Nat) × (Nat → Nat)) (t : State) => match u with | (Rn, Ln) => va_P (dC, dI) cls_ [(mo, .inr (5, [.int (nI sp), .int (nI d), .ref mdr, .int (nI mm - 1), .ref mtx, .ref mod, .ref mia, .ref mus, .ref mol, .ref mle, .int (nI my), .ref mrw, .ref mls])), (mtx, .inl (ky, 97, .inl (nA Mx))), (mle, .inl (ky, 8, .inl (nA Lw))), (mrw, .inl (ky, 9, .inl (nA Rn))), (mls, .inl (ky, 97, .inl (nA Ln)))] t.heap ∧ va_D (va_A [(mo, .inr (5, [.int (nI sp), .int (nI d), .ref mdr, .int (nI mm - 1), .ref mtx, .ref mod, .ref mia, .ref mus, .ref mol, .ref mle, .int (nI my), .ref mrw, .ref mls])), (mtx, .inl (ky, 97, .inl (nA Mx))), (mle, .inl (ky, 8, .inl (nA Lw))), (mrw, .inl (ky, 9, .inl (nA Rr))), (mls, .inl (ky, 97, .inl (nA Ls)))] sz) [(mo, .inr (5, [.int (nI sp), .int (nI d), .ref mdr, .int (nI mm - 1), .ref mtx, .ref mod, .ref mia, .ref mus, .ref mol, .ref mle, .int (nI my), .ref mrw, .ref mls])), (mtx, .inl (ky, 97, .inl (nA Mx))), (mle, .inl (ky, 8, .inl (nA Lw))), (mrw, .inl (ky, 9, .inl (nA Rn))), (mls, .inl (ky, 97, .inl (nA Ln)))]) (va_A [(mo, .inr (5, [.int (nI sp), .int (nI d), .ref mdr, .int (nI mm - 1), .ref mtx, .ref mod, .ref mia, .ref mus, .ref mol, .ref mle, .int (nI my), .ref mrw, .ref mls])), (mtx, .inl (ky, 97, .inl (nA Mx))), (mle, .inl (ky, 8, .inl (nA Lw))), (mrw, .inl (ky, 9, .inl (nA Rr))), (mls, .inl (ky, 97, .inl (nA Ls)))] sz)) 0 0 (va_A [(mo, .inr (5, [.int (nI sp), .int (nI d), .ref mdr, .int (nI mm - 1), .ref mtx, .ref mod, .ref mia, .ref mus, .ref mol, .ref mle, .int (nI my), .ref mrw, .ref mls])), (mtx, .inl (ky, 97, .inl (nA Mx))), (mle, .inl (ky, 8, .inl (nA Lw))), (mrw, .inl (ky, 9, .inl (nA Rr))), (mls, .inl (ky, 97, .inl (nA Ls)))] sz) := by
  refine Met.ofW (cc := prog_7_method_32_code) (maxL := 9) (ret := (some .int)) (by decide) rfl ?_
  intro p e s m args below meth c s₁ B hml hv
  obtain ⟨rfl, hsz, hP, hK, hD0⟩ := hv
  have hx := B.exec
  have hb := B.bytes
  have hr := B.returns
  have hlocks := B.notSynchronized
  have hts := atoms_spec (ws := (Cond.code y_Mo_look prog_7_method_32_code 9 (some .int) :: W0)) B.pre
  have htb : ∀ w ∈ W0, w.before _ s = true := fun w h => hts w (List.mem_cons_of_mem _ h)
  have hown : s.vm.findClass "SelfIndexedSequencesModel" = some m.cls := findClass_of_methodNamed B.named
  subst hsz
  have hD := hD0.self (sz := s.heap.size)
  generalize hAe : va_A [(mo, .inr (5, [.int (nI sp), .int (nI d), .ref mdr, .int (nI mm - 1), .ref mtx, .ref mod, .ref mia, .ref mus, .ref mol, .ref mle, .int (nI my), .ref mrw, .ref mls])), (mtx, .inl (ky, 97, .inl (nA Mx))), (mle, .inl (ky, 8, .inl (nA Lw))), (mrw, .inl (ky, 9, .inl (nA Rr))), (mls, .inl (ky, 97, .inl (nA Ls)))] s.heap.size = A at hD ⊢
  have hA : ∀ q : Nat, s.heap.size ≤ q → A q := fun q h => by rw [← hAe]; exact Or.inr h
  have hS : va_S A s.heap s.heap [] := va_S.rf
  have hl := lv_entry ([.ref mo, .int (nI kk), .int (xi)]) (n := 9) (Nat.le_of_ble_eq_true rfl)
  rw [lg_entry_eq]
  generalize (lg_sl ([.ref mo, .int (nI kk), .int (xi)]) ++ List.replicate (9 - (lg_sl ([.ref mo, .int (nI kk), .int (xi)])).length) Slot.unset).toArray = ls at hl ⊢
  have hl : lv_has ls 9 [(0, .ref mo), (1, .int (nI kk)), (2, .int (xi))] := hl
  refine lv_iconst (v := nI 0) hx hb d_Mo_look_0 (by decide) ?_
  refine lv_istore_n hx hb d_Mo_look_1 rfl hl (by decide) rfl (fun ls hl => ?_)
  have hl : lv_has ls 9 [(3, .int (nI 0)), (0, .ref mo), (1, .int (nI kk)), (2, .int (xi))] := hl
  refine lv_aload_n hx hb d_Mo_look_2 rfl (lv_at hl 1 rfl) ?_
  have hPc := hP.sub (ws' := [(mo, .inr (5, [.int (nI sp), .int (nI d), .ref mdr, .int (nI mm - 1), .ref mtx, .ref mod, .ref mia, .ref mus, .ref mol, .ref mle, .int (nI my), .ref mrw, .ref mls])), (mtx, .inl (ky, 97, .inl (nA Mx)))]) [0, 1] rfl
  have hDc := hD.sub (ws' := [(mo, .inr (5, [.int (nI sp), .int (nI d), .ref mdr, .int (nI mm - 1), .ref mtx, .ref mod, .ref mia, .ref mus, .ref mol, .ref mle, .int (nI my), .ref mrw, .ref mls])), (mtx, .inl (ky, 97, .inl (nA Mx)))]) [0, 1] (by decide) rfl
  have hFc := va_free (wc := [(mo, .inr (5, [.int (nI sp), .int (nI d), .ref mdr, .int (nI mm - 1), .ref mtx, .ref mod, .ref mia, .ref mus, .ref mol, .ref mle, .int (nI my), .ref mrw, .ref mls])), (mtx, .inl (ky, 97, .inl (nA Mx)))]) hD hS hA [0, 1] rfl
  refine va_calli (va_runV (C := "SelfIndexedSequencesModel") (As := []) (rest := []) ⟨hx, hb, hml, hown, hts⟩ (c_Mo_sequences l dC dI ky s.heap.size mo sp d mdr mm mtx mod mia mus mol mle my mrw mls Mx T hMx (by first | assumption | omega | (simp; done) | (simp_all; done)) (by first | assumption | omega | (simp; done) | (simp_all; done)) (by first | assumption | omega | (simp; done) | (simp_all; done))) ⟨callB_of 0 hts (W0_good tw_442) rfl rfl rfl (htb _ tw_28) (htb _ tw_439) ⟨by decide, by decide, by decide +kernel⟩ ⟨(Nat.le_of_ble_eq_true rfl), (Nat.le_of_ble_eq_true rfl)⟩, htb _ tw_440, htb _ tw_441⟩ ⟨fun a U g mk q => by obtain ⟨q0, q1, qP, qK, qD⟩ := q; exact ⟨q0, q1, qP, va_K.moved (u := U) (U := U.calling g mk a) (Vm.Alike.refl U.vm) qK, qD⟩, va_recv hK hPc (q0 := 0) (q := (R_Mo, F_Mo, 13)) rfl rfl, fun U hU hW => ⟨rfl, by rw [hU], by rw [hU]; exact hPc, va_K.moved hW.alike hK, hDc.weaken (fun _ _ _ _ => trivial)⟩⟩ rfl rfl hl.1 rfl (lv_room (Nat.le_of_ble_eq_true rfl)) d_Mo_look_3 ⟨(Nat.le_of_ble_eq_true rfl), (Nat.le_of_ble_eq_true rfl)⟩) hS (fun q _ h => hFc q h) hFc (fun r3 u_ t H locs ht hvm hw3 hB hz1 hk1 hS => ?_)
  obtain ⟨hP1, hD1⟩ := hB
  rw [ht] at hP1
  obtain ⟨hP, hD⟩ := va_join (wr := [(mle, .inl (ky, 8, .inl (nA Lw))), (mrw, .inl (ky, 9, .inl (nA Rr))), (mls, .inl (ky, 97, .inl (nA Ls)))]) (w1 := [(mo, .inr (5, [.int (nI sp), .int (nI d), .ref mdr, .int (nI mm - 1), .ref mtx, .ref mod, .ref mia, .ref mus, .ref mol, .ref mle, .int (nI my), .ref mrw, .ref mls])), (mtx, .inl (ky, 97, .inl (nA Mx)))]) hP hD [0, 1] [2, 3, 4] rfl rfl (by decide) (by decide) hk1 hFc hP1 hD1
  have hP : va_P (dC, dI) cls_ [(mle, .inl (ky, 8, .inl (nA Lw))), (mrw, .inl (ky, 9, .inl (nA Rr))), (mls, .inl (ky, 97, .inl (nA Ls))), (mo, .inr (5, [.int (nI sp), .int (nI d), .ref mdr, .int (nI mm - 1), .ref mtx, .ref mod, .ref mia, .ref mus, .ref mol, .ref mle, .int (nI my), .ref mrw, .ref mls])), (mtx, .inl (ky, 97, .inl (nA Mx)))] H := hP
  have hD : va_D A [(mle, .inl (ky, 8, .inl (nA Lw))), (mrw, .inl (ky, 9, .inl (nA Rr))), (mls, .inl (ky, 97, .inl (nA Ls))), (mo, .inr (5, [.int (nI sp), .int (nI d), .ref mdr, .int (nI mm - 1), .ref mtx, .ref mod, .ref mia, .ref mus, .ref mol, .ref mle, .int (nI my), .ref mrw, .ref mls])), (mtx, .inl (ky, 97, .inl (nA Mx)))] := hD
  have hw3 : r3 = nI (sqs T mm) ∧ (True) := hw3
  obtain ⟨hre, hq3⟩ := hw3
  subst hre
  refine lv_istore hx hb d_Mo_look_6 hl (by decide) rfl (fun ls hl => ?_)
  have hl : lv_has ls 9 [(4, .int (nI (sqs T mm))), (3, .int (nI 0)), (0, .ref mo), (1, .int (nI kk)), (2, .int (xi))] := hl
  refine lv_iconst (v := nI 0) hx hb d_Mo_look_8 (by decide) ?_
  refine lv_istore hx hb d_Mo_look_9 hl (by decide) rfl (fun ls hl => ?_)
  have hl : lv_has ls 9 [(5, .int (nI 0)), (4, .int (nI (sqs T mm))), (3, .int (nI 0)), (0, .ref mo), (1, .int (nI kk)), (2, .int (xi))] := hl
  refine wl_loop (σ := Nat × Nat × (Nat → Nat) × (Nat → Nat)) 11 [] (fun (a_ : Nat × Nat × (Nat → Nat) × (Nat → Nat)) => match a_ with | (s1, f1, Rs, Lz) => sqs T mm - s1) (fun (a_ : Nat × Nat × (Nat → Nat) × (Nat → Nat)) (H : Heap) (locs : List Loc) (ls : Array Slot) => match a_ with | (s1, f1, Rs, Lz) => (s1 ≤ sqs T mm) ∧ (Fnd (fun v => Er Wl T v my ≤ kk) xi (gs T (mm - 1) s1) f1) ∧ (f1 ≤ 97) ∧ (∀ k_, Rs k_ < 110) ∧ (∀ k_, Lz k_ < 9) ∧ va_P (dC, dI) cls_ [(mo, .inr (5, [.int (nI sp), .int (nI d), .ref mdr, .int (nI mm - 1), .ref mtx, .ref mod, .ref mia, .ref mus, .ref mol, .ref mle, .int (nI my), .ref mrw, .ref mls])), (mtx, .inl (ky, 97, .inl (nA Mx))), (mle, .inl (ky, 8, .inl (nA Lw))), (mrw, .inl (ky, 9, .inl (nA Rs))), (mls, .inl (ky, 97, .inl (nA Lz)))] H ∧ va_D A [(mo, .inr (5, [.int (nI sp), .int (nI d), .ref mdr, .int (nI mm - 1), .ref mtx, .ref mod, .ref mia, .ref mus, .ref mol, .ref mle, .int (nI my), .ref mrw, .ref mls])), (mtx, .inl (ky, 97, .inl (nA Mx))), (mle, .inl (ky, 8, .inl (nA Lw))), (mrw, .inl (ky, 9, .inl (nA Rs))), (mls, .inl (ky, 97, .inl (nA Lz)))] ∧ va_S A s.heap H locs ∧ lv_has ls 9 [(5, .int (nI s1)), (3, .int (nI f1)), (0, .ref mo), (1, .int (nI kk)), (2, .int (xi)), (4, .int (nI (sqs T mm)))]) ?_ (0, 0, Rr, Ls) ⟨(by first | assumption | omega | (simp; done) | (simp_all; done)), (by rw [gs_0]; exact Fnd_0 _ xi), (by first | assumption | omega | (simp; done) | (simp_all; done)), hRr, hLs, (hP.sub [3, 4, 0, 1, 2] rfl), (hD.sub [3, 4, 0, 1, 2] (by decide) rfl), hS, lv_sub hl [0, 2, 3, 4, 5, 1] rfl⟩
  clear hP hD hS hl
  intro a_ H locs ls hI ih11
  obtain ⟨s1, f1, Rs, Lz⟩ := a_
  obtain ⟨hs1, hfd, hf1, hRs, hLz, hP, hD, hS, hl⟩ := hI
  have hl : lv_has ls 9 [(5, .int (nI s1)), (3, .int (nI f1)), (0, .ref mo), (1, .int (nI kk)), (2, .int (xi)), (4, .int (nI (sqs T mm)))] := hl
  have hP : va_P (dC, dI) cls_ [(mo, .inr (5, [.int (nI sp), .int (nI d), .ref mdr, .int (nI mm - 1), .ref mtx, .ref mod, .ref mia, .ref mus, .ref mol, .ref mle, .int (nI my), .ref mrw, .ref mls])), (mtx, .inl (ky, 97, .inl (nA Mx))), (mle, .inl (ky, 8, .inl (nA Lw))), (mrw, .inl (ky, 9, .inl (nA Rs))), (mls, .inl (ky, 97, .inl (nA Lz)))] H := hP
  have hD : va_D A [(mo, .inr (5, [.int (nI sp), .int (nI d), .ref mdr, .int (nI mm - 1), .ref mtx, .ref mod, .ref mia, .ref mus, .ref mol, .ref mle, .int (nI my), .ref mrw, .ref mls])), (mtx, .inl (ky, 97, .inl (nA Mx))), (mle, .inl (ky, 8, .inl (nA Lw))), (mrw, .inl (ky, 9, .inl (nA Rs))), (mls, .inl (ky, 97, .inl (nA Lz)))] := hD
  have hs1 : s1 ≤ sqs T mm := hs1
  have hfd : Fnd (fun v => Er Wl T v my ≤ kk) xi (gs T (mm - 1) s1) f1 := hfd
  have hf1 : f1 ≤ 97 := hf1
  have hRs : ∀ k_, Rs k_ < 110 := hRs
  have hLz : ∀ k_, Lz k_ < 9 := hLz
  have hsl := sqs_le T mm
  refine lv_iload hx hb d_Mo_look_11 (lv_at hl 0 rfl) ?_
  refine lv_iload hx hb d_Mo_look_13 (lv_at hl 5 rfl) ?_
  refine lv_icmp_ge (tgt := 107) hx hb d_Mo_look_15 (by decide) (fun hc15 => ?_) (fun hc15 => ?_)
  · skip
    rw [bw_le_nn (by omega) (by omega)] at hc15
    refine lv_iload_n hx hb d_Mo_look_107 rfl (lv_at hl 4 rfl) ?_
    refine lv_if_ge (tgt := 115) hx hb d_Mo_look_108 (by decide) (fun hc108 => ?_) (fun hc108 => ?_)
    · skip
      refine lv_iconst (v := nI 0 - 1) hx hb d_Mo_look_115 (by decide) ?_
      have hgm : gs T (mm - 1) s1 = mm := by rw [show s1 = sqs T mm by omega]; exact gs_all T mm
      rw [hgm] at hfd
      have hP9 := hP.sub (ws' := [(mo, .inr (5, [.int (nI sp), .int (nI d), .ref mdr, .int (nI mm - 1), .ref mtx, .ref mod, .ref mia, .ref mus, .ref mol, .ref mle, .int (nI my), .ref mrw, .ref mls])), (mtx, .inl (ky, 97, .inl (nA Mx))), (mle, .inl (ky, 8, .inl (nA Lw))), (mrw, .inl (ky, 9, .inl (nA Rs))), (mls, .inl (ky, 97, .inl (nA Lz)))]) [0, 1, 2, 3, 4] rfl
      have hD9 := hD.sub (ws' := [(mo, .inr (5, [.int (nI sp), .int (nI d), .ref mdr, .int (nI mm - 1), .ref mtx, .ref mod, .ref mia, .ref mus, .ref mol, .ref mle, .int (nI my), .ref mrw, .ref mls])), (mtx, .inl (ky, 97, .inl (nA Mx))), (mle, .inl (ky, 8, .inl (nA Lw))), (mrw, .inl (ky, 9, .inl (nA Rs))), (mls, .inl (ky, 97, .inl (nA Lz)))]) [0, 1, 2, 3, 4] (by decide) rfl
      exact W.iret (v := nI 0 - 1) hx hb hr (fun t ht hW => ⟨⟨nI 0 - 1, (Rs, Lz), rfl, ⟨Or.inr ⟨hfd.2, by first | exact Or.inl ⟨bw_nge hc108, by rw [hfd.1]⟩ | exact Or.inr ⟨bw_ge hc108, rfl⟩⟩, hRs, hLz⟩, by rw [ht]; exact hP9, hD9⟩, hS.F ht⟩) hS.2.2 d_Mo_look_116
    · skip
      refine lv_iload_n hx hb d_Mo_look_111 rfl (lv_at hl 1 rfl) ?_
      refine lv_goto (tgt := 116) hx hb d_Mo_look_112 (by decide) ?_
      have hgm : gs T (mm - 1) s1 = mm := by rw [show s1 = sqs T mm by omega]; exact gs_all T mm
      rw [hgm] at hfd
      have hP9 := hP.sub (ws' := [(mo, .inr (5, [.int (nI sp), .int (nI d), .ref mdr, .int (nI mm - 1), .ref mtx, .ref mod, .ref mia, .ref mus, .ref mol, .ref mle, .int (nI my), .ref mrw, .ref mls])), (mtx, .inl (ky, 97, .inl (nA Mx))), (mle, .inl (ky, 8, .inl (nA Lw))), (mrw, .inl (ky, 9, .inl (nA Rs))), (mls, .inl (ky, 97, .inl (nA Lz)))]) [0, 1, 2, 3, 4] rfl
      have hD9 := hD.sub (ws' := [(mo, .inr (5, [.int (nI sp), .int (nI d), .ref mdr, .int (nI mm - 1), .ref mtx, .ref mod, .ref mia, .ref mus, .ref mol, .ref mle, .int (nI my), .ref mrw, .ref mls])), (mtx, .inl (ky, 97, .inl (nA Mx))), (mle, .inl (ky, 8, .inl (nA Lw))), (mrw, .inl (ky, 9, .inl (nA Rs))), (mls, .inl (ky, 97, .inl (nA Lz)))]) [0, 1, 2, 3, 4] (by decide) rfl
      exact W.iret (v := nI f1) hx hb hr (fun t ht hW => ⟨⟨nI f1, (Rs, Lz), rfl, ⟨Or.inr ⟨hfd.2, by first | exact Or.inl ⟨bw_nge hc108, by rw [hfd.1]⟩ | exact Or.inr ⟨bw_ge hc108, rfl⟩⟩, hRs, hLz⟩, by rw [ht]; exact hP9, hD9⟩, hS.F ht⟩) hS.2.2 d_Mo_look_116
  · skip
    rw [bw_le_nn (by omega) (by omega)] at hc15
    have hsi := sqs_in (show s1 < sqs T mm by omega)
    have hgv := nb_gs T (mm - 1) s1 hsi.2
    have hgn := sq_next hsi.2
    have hgl := gs_le T (mm - 1) (s1 + 1)
    refine lv_aload_n hx hb d_Mo_look_18 rfl (lv_at hl 2 rfl) ?_
    refine lv_iload hx hb d_Mo_look_19 (lv_at hl 0 rfl) ?_
    have hPc := hP.sub (ws' := [(mo, .inr (5, [.int (nI sp), .int (nI d), .ref mdr, .int (nI mm - 1), .ref mtx, .ref mod, .ref mia, .ref mus, .ref mol, .ref mle, .int (nI my), .ref mrw, .ref mls])), (mtx, .inl (ky, 97, .inl (nA Mx)))]) [0, 1] rfl
    have hDc := hD.sub (ws' := [(mo, .inr (5, [.int (nI sp), .int (nI d), .ref mdr, .int (nI mm - 1), .ref mtx, .ref mod, .ref mia, .ref mus, .ref mol, .ref mle, .int (nI my), .ref mrw, .ref mls])), (mtx, .inl (ky, 97, .inl (nA Mx)))]) [0, 1] (by decide) rfl
    have hFc := va_free (wc := [(mo, .inr (5, [.int (nI sp), .int (nI d), .ref mdr, .int (nI mm - 1), .ref mtx, .ref mod, .ref mia, .ref mus, .ref mol, .ref mle, .int (nI my), .ref mrw, .ref mls])), (mtx, .inl (ky, 97, .inl (nA Mx)))]) hD hS hA [0, 1] rfl
    refine va_calli (va_runV (C := "SelfIndexedSequencesModel") (As := [.int (nI s1)]) (rest := []) ⟨hx, hb, hml, hown, hts⟩ (c_Mo_beginning l dC dI ky H.size mo sp d mdr mm mtx mod mia mus mol mle my mrw mls Mx T (nI s1) hMx (by first | assumption | omega | (simp; done) | (simp_all; done)) (by first | assumption | omega | (simp; done) | (simp_all; done)) (by first | assumption | omega | (simp; done) | (simp_all; done))) ⟨callB_of 1 hts (W0_good tw_483) rfl rfl rfl (htb _ tw_28) (htb _ tw_480) ⟨by decide, by decide, by decide +kernel⟩ ⟨(Nat.le_of_ble_eq_true rfl), (Nat.le_of_ble_eq_true rfl)⟩, htb _ tw_482, htb _ tw_14⟩ ⟨fun a U g mk q => by obtain ⟨q0, q1, qP, qK, qD⟩ := q; exact ⟨q0, q1, qP, va_K.moved (u := U) (U := U.calling g mk a) (Vm.Alike.refl U.vm) qK, qD⟩, va_recv hK hPc (q0 := 0) (q := (R_Mo, F_Mo, 13)) rfl rfl, fun U hU hW => ⟨rfl, by rw [hU], by rw [hU]; exact hPc, va_K.moved hW.alike hK, hDc.weaken (fun _ _ _ _ => trivial)⟩⟩ rfl rfl hl.1 rfl (lv_room (Nat.le_of_ble_eq_true rfl)) d_Mo_look_21 ⟨(Nat.le_of_ble_eq_true rfl), (Nat.le_of_ble_eq_true rfl)⟩) hS (fun q _ h => hFc q h) hFc (fun r21 u_ t H locs ht hvm hw21 hB hz1 hk1 hS => ?_)
    obtain ⟨hP1, hD1⟩ := hB
    rw [ht] at hP1
    obtain ⟨hP, hD⟩ := va_join (wr := [(mle, .inl (ky, 8, .inl (nA Lw))), (mrw, .inl (ky, 9, .inl (nA Rs))), (mls, .inl (ky, 97, .inl (nA Lz)))]) (w1 := [(mo, .inr (5, [.int (nI sp), .int (nI d), .ref mdr, .int (nI mm - 1), .ref mtx, .ref mod, .ref mia, .ref mus, .ref mol, .ref mle, .int (nI my), .ref mrw, .ref mls])), (mtx, .inl (ky, 97, .inl (nA Mx)))]) hP hD [0, 1] [2, 3, 4] rfl rfl (by decide) (by decide) hk1 hFc hP1 hD1
    have hP : va_P (dC, dI) cls_ [(mle, .inl (ky, 8, .inl (nA Lw))), (mrw, .inl (ky, 9, .inl (nA Rs))), (mls, .inl (ky, 97, .inl (nA Lz))), (mo, .inr (5, [.int (nI sp), .int (nI d), .ref mdr, .int (nI mm - 1), .ref mtx, .ref mod, .ref mia, .ref mus, .ref mol, .ref mle, .int (nI my), .ref mrw, .ref mls])), (mtx, .inl (ky, 97, .inl (nA Mx)))] H := hP
    have hD : va_D A [(mle, .inl (ky, 8, .inl (nA Lw))), (mrw, .inl (ky, 9, .inl (nA Rs))), (mls, .inl (ky, 97, .inl (nA Lz))), (mo, .inr (5, [.int (nI sp), .int (nI d), .ref mdr, .int (nI mm - 1), .ref mtx, .ref mod, .ref mia, .ref mus, .ref mol, .ref mle, .int (nI my), .ref mrw, .ref mls])), (mtx, .inl (ky, 97, .inl (nA Mx)))] := hD
    have hq21 : (∃ v, v < sqs T mm ∧ (nI s1) = nI v ∧ r21 = nI (gs T (mm - 1) v)) ∨ ((∀ v, v < sqs T mm → (nI s1) ≠ nI v) ∧ r21 = nI 0 - 1) := hw21
    rcases hq21 with ⟨v1, hv1, hxv1, rfl⟩ | ⟨hnv, rfl⟩
    · skip
      have hvv : v1 = s1 := ((nI_eq (by omega) (by omega)).mp hxv1).symm
      rw [hvv]
      refine lv_istore hx hb d_Mo_look_24 hl (by decide) rfl (fun ls hl => ?_)
      have hl : lv_has ls 9 [(6, .int (nI (gs T (mm - 1) s1))), (5, .int (nI s1)), (3, .int (nI f1)), (0, .ref mo), (1, .int (nI kk)), (2, .int (xi)), (4, .int (nI (sqs T mm)))] := hl
      refine lv_aload_n hx hb d_Mo_look_26 rfl (lv_at hl 3 rfl) ?_
      refine lv_iload hx hb d_Mo_look_27 (lv_at hl 0 rfl) ?_
      have hPc := hP.sub (ws' := [(mo, .inr (5, [.int (nI sp), .int (nI d), .ref mdr, .int (nI mm - 1), .ref mtx, .ref mod, .ref mia, .ref mus, .ref mol, .ref mle, .int (nI my), .ref mrw, .ref mls])), (mtx, .inl (ky, 97, .inl (nA Mx)))]) [3, 4] rfl
      have hDc := hD.sub (ws' := [(mo, .inr (5, [.int (nI sp), .int (nI d), .ref mdr, .int (nI mm - 1), .ref mtx, .ref mod, .ref mia, .ref mus, .ref mol, .ref mle, .int (nI my), .ref mrw, .ref mls])), (mtx, .inl (ky, 97, .inl (nA Mx)))]) [3, 4] (by decide) rfl
      have hFc := va_free (wc := [(mo, .inr (5, [.int (nI sp), .int (nI d), .ref mdr, .int (nI mm - 1), .ref mtx, .ref mod, .ref mia, .ref mus, .ref mol, .ref mle, .int (nI my), .ref mrw, .ref mls])), (mtx, .inl (ky, 97, .inl (nA Mx)))]) hD hS hA [3, 4] rfl
      refine va_calli (va_runV (C := "SelfIndexedSequencesModel") (As := [.int (nI (gs T (mm - 1) s1))]) (rest := []) ⟨hx, hb, hml, hown, hts⟩ (c_Mo_end l dC dI ky H.size mo sp d mdr mm mtx mod mia mus mol mle my mrw mls Mx T (gs T (mm - 1) s1) hMx (by first | assumption | omega | (simp; done) | (simp_all; done)) (by first | assumption | omega | (simp; done) | (simp_all; done)) (by first | assumption | omega | (simp; done) | (simp_all; done)) (by first | assumption | omega | (simp; done) | (simp_all; done))) ⟨callB_of 1 hts (W0_good tw_487) rfl rfl rfl (htb _ tw_28) (htb _ tw_484) ⟨by decide, by decide, by decide +kernel⟩ ⟨(Nat.le_of_ble_eq_true rfl), (Nat.le_of_ble_eq_true rfl)⟩, htb _ tw_486, htb _ tw_15⟩ ⟨fun a U g mk q => by obtain ⟨q0, q1, qP, qK, qD⟩ := q; exact ⟨q0, q1, qP, va_K.moved (u := U) (U := U.calling g mk a) (Vm.Alike.refl U.vm) qK, qD⟩, va_recv hK hPc (q0 := 0) (q := (R_Mo, F_Mo, 13)) rfl rfl, fun U hU hW => ⟨rfl, by rw [hU], by rw [hU]; exact hPc, va_K.moved hW.alike hK, hDc.weaken (fun _ _ _ _ => trivial)⟩⟩ rfl rfl hl.1 rfl (lv_room (Nat.le_of_ble_eq_true rfl)) d_Mo_look_29 ⟨(Nat.le_of_ble_eq_true rfl), (Nat.le_of_ble_eq_true rfl)⟩) hS (fun q _ h => hFc q h) hFc (fun r29 u_ t H locs ht hvm hw29 hB hz1 hk1 hS => ?_)
      obtain ⟨hP1, hD1⟩ := hB
      rw [ht] at hP1
      obtain ⟨hP, hD⟩ := va_join (wr := [(mle, .inl (ky, 8, .inl (nA Lw))), (mrw, .inl (ky, 9, .inl (nA Rs))), (mls, .inl (ky, 97, .inl (nA Lz)))]) (w1 := [(mo, .inr (5, [.int (nI sp), .int (nI d), .ref mdr, .int (nI mm - 1), .ref mtx, .ref mod, .ref mia, .ref mus, .ref mol, .ref mle, .int (nI my), .ref mrw, .ref mls])), (mtx, .inl (ky, 97, .inl (nA Mx)))]) hP hD [3, 4] [0, 1, 2] rfl rfl (by decide) (by decide) hk1 hFc hP1 hD1
      have hP : va_P (dC, dI) cls_ [(mle, .inl (ky, 8, .inl (nA Lw))), (mrw, .inl (ky, 9, .inl (nA Rs))), (mls, .inl (ky, 97, .inl (nA Lz))), (mo, .inr (5, [.int (nI sp), .int (nI d), .ref mdr, .int (nI mm - 1), .ref mtx, .ref mod, .ref mia, .ref mus, .ref mol, .ref mle, .int (nI my), .ref mrw, .ref mls])), (mtx, .inl (ky, 97, .inl (nA Mx)))] H := hP
      have hD : va_D A [(mle, .inl (ky, 8, .inl (nA Lw))), (mrw, .inl (ky, 9, .inl (nA Rs))), (mls, .inl (ky, 97, .inl (nA Lz))), (mo, .inr (5, [.int (nI sp), .int (nI d), .ref mdr, .int (nI mm - 1), .ref mtx, .ref mod, .ref mia, .ref mus, .ref mol, .ref mle, .int (nI my), .ref mrw, .ref mls])), (mtx, .inl (ky, 97, .inl (nA Mx)))] := hD
      have hw29 : r29 = nI (gs T (mm - 1) (nb T (gs T (mm - 1) s1) + 1) - 1) ∧ (True) := hw29
      obtain ⟨hre, hq29⟩ := hw29
      subst hre
      rw [show nI (gs T (mm - 1) (nb T (gs T (mm - 1) s1) + 1) - 1) = nI (gs T (mm - 1) (s1 + 1) - 1) from (by rw [hgv.1])]
      refine lv_istore hx hb d_Mo_look_32 hl (by decide) rfl (fun ls hl => ?_)
      have hl : lv_has ls 9 [(7, .int (nI (gs T (mm - 1) (s1 + 1) - 1))), (6, .int (nI (gs T (mm - 1) s1))), (5, .int (nI s1)), (3, .int (nI f1)), (0, .ref mo), (1, .int (nI kk)), (2, .int (xi)), (4, .int (nI (sqs T mm)))] := hl
      refine lv_aload_n hx hb d_Mo_look_34 rfl (lv_at hl 4 rfl) ?_
      refine lv_iload hx hb d_Mo_look_35 (lv_at hl 1 rfl) ?_
      refine lv_iload hx hb d_Mo_look_37 (lv_at hl 0 rfl) ?_
      have hPc := hP.sub (ws' := [(mo, .inr (5, [.int (nI sp), .int (nI d), .ref mdr, .int (nI mm - 1), .ref mtx, .ref mod, .ref mia, .ref mus, .ref mol, .ref mle, .int (nI my), .ref mrw, .ref mls])), (mtx, .inl (ky, 97, .inl (nA Mx))), (mle, .inl (ky, 8, .inl (nA Lw))), (mrw, .inl (ky, 9, .inl (nA Rs))), (mls, .inl (ky, 97, .inl (nA Lz)))]) [3, 4, 0, 1, 2] rfl
      have hDc := hD.sub (ws' := [(mo, .inr (5, [.int (nI sp), .int (nI d), .ref mdr, .int (nI mm - 1), .ref mtx, .ref mod, .ref mia, .ref mus, .ref mol, .ref mle, .int (nI my), .ref mrw, .ref mls])), (mtx, .inl (ky, 97, .inl (nA Mx))), (mle, .inl (ky, 8, .inl (nA Lw))), (mrw, .inl (ky, 9, .inl (nA Rs))), (mls, .inl (ky, 97, .inl (nA Lz)))]) [3, 4, 0, 1, 2] (by decide) rfl
      have hFc := va_free (wc := [(mo, .inr (5, [.int (nI sp), .int (nI d), .ref mdr, .int (nI mm - 1), .ref mtx, .ref mod, .ref mia, .ref mus, .ref mol, .ref mle, .int (nI my), .ref mrw, .ref mls])), (mtx, .inl (ky, 97, .inl (nA Mx))), (mle, .inl (ky, 8, .inl (nA Lw))), (mrw, .inl (ky, 9, .inl (nA Rs))), (mls, .inl (ky, 97, .inl (nA Lz)))]) hD hS hA [3, 4, 0, 1, 2] rfl
      refine va_callv (va_runV (C := "SelfIndexedSequencesModel") (As := [.int (nI (gs T (mm - 1) s1)), .int (nI (gs T (mm - 1) (s1 + 1) - 1))]) (rest := []) ⟨hx, hb, hml, hown, hts⟩ (c_Mo_measure l dC dI ky H.size mo sp d mdr mm mtx mod mia mus mol mle my mrw mls Mx T Lw Wl Rs Lz (gs T (mm - 1) s1) (gs T (mm - 1) (s1 + 1) - 1) hMx (by first | assumption | omega | (simp; done) | (simp_all; done)) (by first | assumption | omega | (simp; done) | (simp_all; done)) (by first | assumption | omega | (simp; done) | (simp_all; done)) (by first | assumption | omega | (simp; done) | (simp_all; done)) hLw (by first | assumption | omega | (simp; done) | (simp_all; done)) (by first | assumption | omega | (simp; done) | (simp_all; done)) (by first | assumption | omega | (simp; done) | (simp_all; done)) hRs hLz (by first | assumption | omega | (simp; done) | (simp_all; done)) (by first | assumption | omega | (simp; done) | (simp_all; done))) ⟨callB_of 2 hts (W0_good tw_524) rfl rfl rfl (htb _ tw_28) (htb _ tw_521) ⟨by decide, by decide, by decide +kernel⟩ ⟨(Nat.le_of_ble_eq_true rfl), (Nat.le_of_ble_eq_true rfl)⟩, htb _ tw_523, htb _ tw_20⟩ ⟨fun a U g mk q => by obtain ⟨q0, q1, qP, qK, qD⟩ := q; exact ⟨q0, q1, qP, va_K.moved (u := U) (U := U.calling g mk a) (Vm.Alike.refl U.vm) qK, qD⟩, va_recv hK hPc (q0 := 0) (q := (R_Mo, F_Mo, 13)) rfl rfl, fun U hU hW => ⟨rfl, by rw [hU], by rw [hU]; exact hPc, va_K.moved hW.alike hK, hDc.weaken (fun _ _ _ _ => trivial)⟩⟩ rfl rfl hl.1 rfl (lv_room (Nat.le_of_ble_eq_true rfl)) d_Mo_look_39 ⟨(Nat.le_of_ble_eq_true rfl), (Nat.le_of_ble_eq_true rfl)⟩) hS (fun q _ h => hFc q h) hFc (fun u_ t H locs ht hvm hw39 hB hz1 hk1 hS => ?_)
      obtain ⟨Rl, Ll⟩ := u_
      obtain ⟨hP1, hD1⟩ := hB
      rw [ht] at hP1
      obtain ⟨hP, hD⟩ := va_join (wr := []) (w1 := [(mo, .inr (5, [.int (nI sp), .int (nI d), .ref mdr, .int (nI mm - 1), .ref mtx, .ref mod, .ref mia, .ref mus, .ref mol, .ref mle, .int (nI my), .ref mrw, .ref mls])), (mtx, .inl (ky, 97, .inl (nA Mx))), (mle, .inl (ky, 8, .inl (nA Lw))), (mrw, .inl (ky, 9, .inl (nA Rl))), (mls, .inl (ky, 97, .inl (nA Ll)))]) hP hD [3, 4, 0, 1, 2] [] rfl rfl (by decide) (by decide) hk1 hFc hP1 hD1
      have hP : va_P (dC, dI) cls_ [(mo, .inr (5, [.int (nI sp), .int (nI d), .ref mdr, .int (nI mm - 1), .ref mtx, .ref mod, .ref mia, .ref mus, .ref mol, .ref mle, .int (nI my), .ref mrw, .ref mls])), (mtx, .inl (ky, 97, .inl (nA Mx))), (mle, .inl (ky, 8, .inl (nA Lw))), (mrw, .inl (ky, 9, .inl (nA Rl))), (mls, .inl (ky, 97, .inl (nA Ll)))] H := hP
      have hD : va_D A [(mo, .inr (5, [.int (nI sp), .int (nI d), .ref mdr, .int (nI mm - 1), .ref mtx, .ref mod, .ref mia, .ref mus, .ref mol, .ref mle, .int (nI my), .ref mrw, .ref mls])), (mtx, .inl (ky, 97, .inl (nA Mx))), (mle, .inl (ky, 8, .inl (nA Lw))), (mrw, .inl (ky, 9, .inl (nA Rl))), (mls, .inl (ky, 97, .inl (nA Ll)))] := hD
      have hq39 : (∀ e, e ≤ (gs T (mm - 1) (s1 + 1) - 1) - (gs T (mm - 1) s1) → Ll e = Sr Wl T (gs T (mm - 1) s1) e my) ∧ (∀ k_, Rl k_ < 110) ∧ (∀ k_, Ll k_ < 9) := hw39
      obtain ⟨hLn, hRl, hLl⟩ := hq39
      refine lv_iconst (v := nI 0) hx hb d_Mo_look_42 (by decide) ?_
      refine lv_istore hx hb d_Mo_look_43 hl (by decide) rfl (fun ls hl => ?_)
      have hl : lv_has ls 9 [(8, .int (nI 0)), (7, .int (nI (gs T (mm - 1) (s1 + 1) - 1))), (6, .int (nI (gs T (mm - 1) s1))), (5, .int (nI s1)), (3, .int (nI f1)), (0, .ref mo), (1, .int (nI kk)), (2, .int (xi)), (4, .int (nI (sqs T mm)))] := hl
      refine wl_loop (σ := Nat × Nat) 45 [] (fun (a_ : Nat × Nat) => match a_ with | (e1, f2) => gs T (mm - 1) (s1 + 1) - e1) (fun (a_ : Nat × Nat) (H : Heap) (locs : List Loc) (ls : Array Slot) => match a_ with | (e1, f2) => (gs T (mm - 1) s1 + e1 ≤ gs T (mm - 1) (s1 + 1)) ∧ (Fnd (fun v => Er Wl T v my ≤ kk) xi (gs T (mm - 1) s1 + e1) f2) ∧ (f2 ≤ 97) ∧ va_P (dC, dI) cls_ [(mo, .inr (5, [.int (nI sp), .int (nI d), .ref mdr, .int (nI mm - 1), .ref mtx, .ref mod, .ref mia, .ref mus, .ref mol, .ref mle, .int (nI my), .ref mrw, .ref mls])), (mtx, .inl (ky, 97, .inl (nA Mx))), (mle, .inl (ky, 8, .inl (nA Lw))), (mrw, .inl (ky, 9, .inl (nA Rl))), (mls, .inl (ky, 97, .inl (nA Ll)))] H ∧ va_D A [(mo, .inr (5, [.int (nI sp), .int (nI d), .ref mdr, .int (nI mm - 1), .ref mtx, .ref mod, .ref mia, .ref mus, .ref mol, .ref mle, .int (nI my), .ref mrw, .ref mls])), (mtx, .inl (ky, 97, .inl (nA Mx))), (mle, .inl (ky, 8, .inl (nA Lw))), (mrw, .inl (ky, 9, .inl (nA Rl))), (mls, .inl (ky, 97, .inl (nA Ll)))] ∧ va_S A s.heap H locs ∧ lv_has ls 9 [(8, .int (nI e1)), (3, .int (nI f2)), (5, .int (nI s1)), (6, .int (nI (gs T (mm - 1) s1))), (7, .int (nI (gs T (mm - 1) (s1 + 1) - 1))), (0, .ref mo), (1, .int (nI kk)), (2, .int (xi)), (4, .int (nI (sqs T mm)))]) ?_ (0, f1) ⟨(by first | assumption | omega | (simp; done) | (simp_all; done)), hfd, (by first | assumption | omega | (simp; done) | (simp_all; done)), hP, hD, hS, lv_sub hl [0, 4, 3, 2, 1, 5, 6, 7, 8] rfl⟩
      clear hP hD hS hl
      intro a_ H locs ls hI ih45
      obtain ⟨e1, f2⟩ := a_
      obtain ⟨he1, hfe, hf2, hP, hD, hS, hl⟩ := hI
      have hl : lv_has ls 9 [(8, .int (nI e1)), (3, .int (nI f2)), (5, .int (nI s1)), (6, .int (nI (gs T (mm - 1) s1))), (7, .int (nI (gs T (mm - 1) (s1 + 1) - 1))), (0, .ref mo), (1, .int (nI kk)), (2, .int (xi)), (4, .int (nI (sqs T mm)))] := hl
      have hP : va_P (dC, dI) cls_ [(mo, .inr (5, [.int (nI sp), .int (nI d), .ref mdr, .int (nI mm - 1), .ref mtx, .ref mod, .ref mia, .ref mus, .ref mol, .ref mle, .int (nI my), .ref mrw, .ref mls])), (mtx, .inl (ky, 97, .inl (nA Mx))), (mle, .inl (ky, 8, .inl (nA Lw))), (mrw, .inl (ky, 9, .inl (nA Rl))), (mls, .inl (ky, 97, .inl (nA Ll)))] H := hP
      have hD : va_D A [(mo, .inr (5, [.int (nI sp), .int (nI d), .ref mdr, .int (nI mm - 1), .ref mtx, .ref mod, .ref mia, .ref mus, .ref mol, .ref mle, .int (nI my), .ref mrw, .ref mls])), (mtx, .inl (ky, 97, .inl (nA Mx))), (mle, .inl (ky, 8, .inl (nA Lw))), (mrw, .inl (ky, 9, .inl (nA Rl))), (mls, .inl (ky, 97, .inl (nA Ll)))] := hD
      have he1 : gs T (mm - 1) s1 + e1 ≤ gs T (mm - 1) (s1 + 1) := he1
      have hfe : Fnd (fun v => Er Wl T v my ≤ kk) xi (gs T (mm - 1) s1 + e1) f2 := hfe
      have hf2 : f2 ≤ 97 := hf2
      refine lv_iload hx hb d_Mo_look_45 (lv_at hl 0 rfl) ?_
      refine lv_iload hx hb d_Mo_look_47 (lv_at hl 4 rfl) ?_
      refine lv_iload hx hb d_Mo_look_49 (lv_at hl 3 rfl) ?_
      refine lv_isub hx hb d_Mo_look_51 ?_
      rw [pk_sub (show (gs T (mm - 1) s1) ≤ (gs T (mm - 1) (s1 + 1) - 1) by omega)]
      refine lv_icmp_gt (tgt := 101) hx hb d_Mo_look_52 (by decide) (fun hc52 => ?_) (fun hc52 => ?_)
      · skip
        rw [bw_lt_nn (by omega) (by omega)] at hc52
        refine lv_iinc (v := nI (s1 + 1)) (k := 2) hx hb d_Mo_look_101 hl rfl (bw_inc s1 1) (by decide) rfl (fun ls hl => ?_)
        have hl : lv_has ls 9 [(5, .int (nI (s1 + 1))), (8, .int (nI e1)), (3, .int (nI f2)), (6, .int (nI (gs T (mm - 1) s1))), (7, .int (nI (gs T (mm - 1) (s1 + 1) - 1))), (0, .ref mo), (1, .int (nI kk)), (2, .int (xi)), (4, .int (nI (sqs T mm)))] := hl
        refine lv_goto (tgt := 11) hx hb d_Mo_look_104 (by decide) ?_
        exact ih11 ((s1 + 1), f2, Rl, Ll) _ _ _ ⟨(by first | assumption | omega | (simp; done) | (simp_all; done)), (by rw [show gs T (mm - 1) (s1 + 1) = gs T (mm - 1) s1 + e1 by omega]; exact hfe), (by first | assumption | omega | (simp; done) | (simp_all; done)), hRl, hLl, hP, hD, hS, lv_sub hl [0, 2, 5, 6, 7, 8] rfl⟩ (by first | omega | (simp only; omega) | (dsimp only; omega))
      · skip
        rw [bw_lt_nn (by omega) (by omega)] at hc52
        have hLe : Ll e1 = Er Wl T (gs T (mm - 1) s1 + e1) my := by rw [hLn e1 (by omega), Er_seq Wl T hsi.2 (by omega)]
        have hnbv : nb T (gs T (mm - 1) s1 + e1) = s1 := nb_in (n := mm - 1) (by omega) (by omega)
        have hfn := num_le (fun v => Er Wl T v my ≤ kk) (gs T (mm - 1) s1 + e1)
        have hfe1 := hfe.1
        refine lv_aload_n hx hb d_Mo_look_55 rfl (lv_at hl 5 rfl) ?_
        refine va_get (D := (dC, dI)) (ci := 5) (v := .ref mls) (C := R_Mo) (T := F_Mo) (N := 13) hx hb htb in_Mo hown hK hP 0 rfl rfl 12 (by decide) (htb _ tw_373) (fun _ h9 => h9) rfl d_Mo_look_56 ?_
        refine lv_iload hx hb d_Mo_look_59 (lv_at hl 0 rfl) ?_
        refine va_iald hx hb hK hP 4 0 rfl rfl (vp_in_nI (by omega) (by decide)) d_Mo_look_61 ?_
        rw [nI_clamp (by omega)]
        have hb61 := hLl e1
        rw [nA_at]
        refine lv_iload_n hx hb d_Mo_look_62 rfl (lv_at hl 6 rfl) ?_
        refine lv_icmp_gt (tgt := 95) hx hb d_Mo_look_63 (by decide) (fun hc63 => ?_) (fun hc63 => ?_)
        · skip
          rw [bw_lt_nn (by omega) (by omega)] at hc63
          refine lv_iinc (v := nI (e1 + 1)) (k := 0) hx hb d_Mo_look_95 hl rfl (bw_inc e1 1) (by decide) rfl (fun ls hl => ?_)
          have hl : lv_has ls 9 [(8, .int (nI (e1 + 1))), (3, .int (nI f2)), (5, .int (nI s1)), (6, .int (nI (gs T (mm - 1) s1))), (7, .int (nI (gs T (mm - 1) (s1 + 1) - 1))), (0, .ref mo), (1, .int (nI kk)), (2, .int (xi)), (4, .int (nI (sqs T mm)))] := hl
          refine lv_goto (tgt := 45) hx hb d_Mo_look_98 (by decide) ?_
          exact ih45 ((e1 + 1), f2) _ _ _ ⟨(by first | assumption | omega | (simp; done) | (simp_all; done)), (by rw [← Nat.add_assoc]; first | exact Fnd_y hfe (by (try dsimp only); omega) hc68 | exact Fnd_n hfe (by (try dsimp only); omega)), (by omega), hP, hD, hS, lv_sub hl [0, 1, 2, 3, 4, 5, 6, 7, 8] rfl⟩ (by first | omega | (simp only; omega) | (dsimp only; omega))
        · skip
          rw [bw_lt_nn (by omega) (by omega)] at hc63
          refine lv_iload_n hx hb d_Mo_look_66 rfl (lv_at hl 1 rfl) ?_
          refine lv_iload_n hx hb d_Mo_look_67 rfl (lv_at hl 7 rfl) ?_
          refine lv_icmp_ne (tgt := 92) hx hb d_Mo_look_68 (by decide) (fun hc68 => ?_) (fun hc68 => ?_)
          · skip
            refine lv_iinc (v := nI (f2 + 1)) (k := 1) hx hb d_Mo_look_92 hl rfl (bw_inc f2 1) (by decide) rfl (fun ls hl => ?_)
            have hl : lv_has ls 9 [(3, .int (nI (f2 + 1))), (8, .int (nI e1)), (5, .int (nI s1)), (6, .int (nI (gs T (mm - 1) s1))), (7, .int (nI (gs T (mm - 1) (s1 + 1) - 1))), (0, .ref mo), (1, .int (nI kk)), (2, .int (xi)), (4, .int (nI (sqs T mm)))] := hl
            refine lv_iinc (v := nI (e1 + 1)) (k := 1) hx hb d_Mo_look_95 hl rfl (bw_inc e1 1) (by decide) rfl (fun ls hl => ?_)
            have hl : lv_has ls 9 [(8, .int (nI (e1 + 1))), (3, .int (nI (f2 + 1))), (5, .int (nI s1)), (6, .int (nI (gs T (mm - 1) s1))), (7, .int (nI (gs T (mm - 1) (s1 + 1) - 1))), (0, .ref mo), (1, .int (nI kk)), (2, .int (xi)), (4, .int (nI (sqs T mm)))] := hl
            refine lv_goto (tgt := 45) hx hb d_Mo_look_98 (by decide) ?_
            exact ih45 ((e1 + 1), (f2 + 1)) _ _ _ ⟨(by first | assumption | omega | (simp; done) | (simp_all; done)), (by rw [← Nat.add_assoc]; first | exact Fnd_y hfe (by (try dsimp only); omega) hc68 | exact Fnd_n hfe (by (try dsimp only); omega)), (by omega), hP, hD, hS, lv_sub hl [0, 1, 2, 3, 4, 5, 6, 7, 8] rfl⟩ (by first | omega | (simp only; omega) | (dsimp only; omega))
          · skip
            refine lv_sipush (v := nI 10000) hx hb d_Mo_look_71 (by decide) ?_
            refine lv_iload hx hb d_Mo_look_74 (lv_at hl 2 rfl) ?_
            refine lv_imul hx hb d_Mo_look_76 ?_
            rw [pk_mul]
            refine lv_bipush (v := nI 10) hx hb d_Mo_look_77 (by decide) ?_
            refine lv_iload hx hb d_Mo_look_79 (lv_at hl 0 rfl) ?_
            refine lv_imul hx hb d_Mo_look_81 ?_
            rw [pk_mul]
            refine lv_iadd hx hb d_Mo_look_82 ?_
            rw [nI_add]
            refine lv_aload_n hx hb d_Mo_look_83 rfl (lv_at hl 5 rfl) ?_
            refine va_get (D := (dC, dI)) (ci := 5) (v := .ref mls) (C := R_Mo) (T := F_Mo) (N := 13) hx hb htb in_Mo hown hK hP 0 rfl rfl 12 (by decide) (htb _ tw_373) (fun _ h9 => h9) rfl d_Mo_look_84 ?_
            refine lv_iload hx hb d_Mo_look_87 (lv_at hl 0 rfl) ?_
            refine va_iald hx hb hK hP 4 0 rfl rfl (vp_in_nI (by omega) (by decide)) d_Mo_look_89 ?_
            rw [nI_clamp (by omega)]
            have hb89 := hLl e1
            rw [nA_at]
            refine lv_iadd hx hb d_Mo_look_90 ?_
            rw [nI_add]
            have hP9 := hP.sub (ws' := [(mo, .inr (5, [.int (nI sp), .int (nI d), .ref mdr, .int (nI mm - 1), .ref mtx, .ref mod, .ref mia, .ref mus, .ref mol, .ref mle, .int (nI my), .ref mrw, .ref mls])), (mtx, .inl (ky, 97, .inl (nA Mx))), (mle, .inl (ky, 8, .inl (nA Lw))), (mrw, .inl (ky, 9, .inl (nA Rl))), (mls, .inl (ky, 97, .inl (nA Ll)))]) [0, 1, 2, 3, 4] rfl
            have hD9 := hD.sub (ws' := [(mo, .inr (5, [.int (nI sp), .int (nI d), .ref mdr, .int (nI mm - 1), .ref mtx, .ref mod, .ref mia, .ref mus, .ref mol, .ref mle, .int (nI my), .ref mrw, .ref mls])), (mtx, .inl (ky, 97, .inl (nA Mx))), (mle, .inl (ky, 8, .inl (nA Lw))), (mrw, .inl (ky, 9, .inl (nA Rl))), (mls, .inl (ky, 97, .inl (nA Ll)))]) [0, 1, 2, 3, 4] (by decide) rfl
            exact W.iret (v := nI (((10000 * s1) + (10 * e1)) + (Ll e1))) hx hb hr (fun t ht hW => ⟨⟨nI (((10000 * s1) + (10 * e1)) + (Ll e1)), (Rl, Ll), rfl, ⟨Or.inl ⟨gs T (mm - 1) s1 + e1, by omega, by omega, by rw [← hfe1]; exact hc68.symm, by rw [hnbv, Nat.add_sub_cancel_left, hLe]⟩, hRl, hLl⟩, by rw [ht]; exact hP9, hD9⟩, hS.F ht⟩) hS.2.2 d_Mo_look_91
    · exact absurd rfl (hnv s1 (by omega))
