set_option maxHeartbeats 4000000 in
set_option maxRecDepth 100000 in
theorem c_Ar_fill (l : Launch) (dC : Nat → ClassId) (dI : Nat → Nat → Nat) (ky : ClassId) (sz : Nat) (ee : Nat) (v : Nat) (E : Nat → Nat) (hE : ∀ k_, E k_ < 9) (hv9 : v < 9) : Met l y_Ar_fill (Cond.code y_Ar_fill prog_10_method_103_code 4 none :: W0) ({ frames := 0, cells := 0, slots := 0, locals := 0 }) (va_Pc [.ref ee, .int (nI v)] (fun U => U.heap.size = sz ∧ va_P (dC, dI) cls_ [(ee, .inl (ky, 97, .inl (nA E)))] U.heap ∧ va_K (dC, dI) cls_ [(ky, .int)] U ∧ va_D (fun _ => True) [(ee, .inl (ky, 97, .inl (nA E)))])) (va_Qv (fun (En : Nat → Nat) => (∀ k, k < 97 → En k = v) ∧ (∀ k_, En k_ < 9)) (fun (En : Nat → Nat) (t : State) => va_P (dC, dI) cls_ [(ee, .inl (ky, 97, .inl (nA En)))] t.heap ∧ va_D (va_A [(ee, .inl (ky, 97, .inl (nA E)))] sz) [(ee, .inl (ky, 97, .inl (nA En)))]) (va_A [(ee, .inl (ky, 97, .inl (nA E)))] sz)) 0 0 (va_A [(ee, .inl (ky, 97, .inl (nA E)))] sz) := by
  refine Met.ofW (cc := prog_10_method_103_code) (maxL := 4) (ret := none) (by decide) rfl ?_
  intro p e s m args below meth c s₁ B hml hv
  obtain ⟨rfl, hsz, hP, hK, hD0⟩ := hv
  have hx := B.exec
  have hb := B.bytes
  have hr := B.returns
  have hlocks := B.notSynchronized
  have hts := atoms_spec (ws := (Cond.code y_Ar_fill prog_10_method_103_code 4 none :: W0)) B.pre
  have htb : ∀ w ∈ W0, w.before _ s = true := fun w h => hts w (List.mem_cons_of_mem _ h)
  have hown : s.vm.findClass "java/util/Arrays" = some m.cls := findClass_of_methodNamed B.named
  subst hsz
  have hD := hD0.self (sz := s.heap.size)
  generalize hAe : va_A [(ee, .inl (ky, 97, .inl (nA E)))] s.heap.size = A at hD ⊢
  have hA : ∀ q : Nat, s.heap.size ≤ q → A q := fun q h => by rw [← hAe]; exact Or.inr h
  have hS : va_S A s.heap s.heap [] := va_S.rf
  have hl := lv_entry ([.ref ee, .int (nI v)]) (n := 4) (Nat.le_of_ble_eq_true rfl)
  rw [lg_entry_eq]
  generalize (lg_sl ([.ref ee, .int (nI v)]) ++ List.replicate (4 - (lg_sl ([.ref ee, .int (nI v)])).length) Slot.unset).toArray = ls at hl ⊢
  have hl : lv_has ls 4 [(0, .ref ee), (1, .int (nI v))] := hl
  refine lv_iconst (v := nI 0) hx hb d_Ar_fill_0 (by decide) ?_
  refine lv_istore_n hx hb d_Ar_fill_1 rfl hl (by decide) rfl (fun ls hl => ?_)
  have hl : lv_has ls 4 [(2, .int (nI 0)), (0, .ref ee), (1, .int (nI v))] := hl
  refine lv_aload_n hx hb d_Ar_fill_2 rfl (lv_at hl 1 rfl) ?_
  refine va_alen (v := nI 97) hx hb hK hP 0 0 rfl rfl rfl d_Ar_fill_3 ?_
  refine lv_istore_n hx hb d_Ar_fill_4 rfl hl (by decide) rfl (fun ls hl => ?_)
  have hl : lv_has ls 4 [(3, .int (nI 97)), (2, .int (nI 0)), (0, .ref ee), (1, .int (nI v))] := hl
  refine wl_loop (σ := Nat × (Nat → Nat)) 5 [] (fun (a_ : Nat × (Nat → Nat)) => match a_ with | (k, Eq) => 97 - k) (fun (a_ : Nat × (Nat → Nat)) (H : Heap) (locs : List Loc) (ls : Array Slot) => match a_ with | (k, Eq) => (k ≤ 97) ∧ (∀ j, j < k → Eq j = v) ∧ (∀ k_, Eq k_ < 9) ∧ va_P (dC, dI) cls_ [(ee, .inl (ky, 97, .inl (nA Eq)))] H ∧ va_D A [(ee, .inl (ky, 97, .inl (nA Eq)))] ∧ va_S A s.heap H locs ∧ lv_has ls 4 [(2, .int (nI k)), (0, .ref ee), (1, .int (nI v)), (3, .int (nI 97))]) ?_ (0, E) ⟨(by first | assumption | omega | (simp; done) | (simp_all; done)), (fun j hj => by omega), hE, hP, hD, hS, lv_sub hl [1, 2, 3, 0] rfl⟩
  clear hP hD hS hl
  intro a_ H locs ls hI ih5
  obtain ⟨k, Eq⟩ := a_
  obtain ⟨hk, hEk, hEq, hP, hD, hS, hl⟩ := hI
  have hl : lv_has ls 4 [(2, .int (nI k)), (0, .ref ee), (1, .int (nI v)), (3, .int (nI 97))] := hl
  have hP : va_P (dC, dI) cls_ [(ee, .inl (ky, 97, .inl (nA Eq)))] H := hP
  have hD : va_D A [(ee, .inl (ky, 97, .inl (nA Eq)))] := hD
  have hk : k ≤ 97 := hk
  have hEk : ∀ j, j < k → Eq j = v := hEk
  have hEq : ∀ k_, Eq k_ < 9 := hEq
  refine lv_iload_n hx hb d_Ar_fill_5 rfl (lv_at hl 0 rfl) ?_
  refine lv_iload_n hx hb d_Ar_fill_6 rfl (lv_at hl 3 rfl) ?_
  refine lv_icmp_ge (tgt := 20) hx hb d_Ar_fill_7 (by decide) (fun hc7 => ?_) (fun hc7 => ?_)
  · skip
    rw [bw_le_nn (by omega) (by omega)] at hc7
    have hP9 := hP.sub (ws' := [(ee, .inl (ky, 97, .inl (nA Eq)))]) [0] rfl
    have hD9 := hD.sub (ws' := [(ee, .inl (ky, 97, .inl (nA Eq)))]) [0] (by decide) rfl
    exact W.vret hx hb hr (fun t ht hW => ⟨⟨Eq, rfl, ⟨fun j hj => hEk j (by omega), hEq⟩, by rw [ht]; exact hP9, hD9⟩, hS.F ht⟩) hS.2.2 d_Ar_fill_20
  · skip
    rw [bw_le_nn (by omega) (by omega)] at hc7
    refine lv_aload_n hx hb d_Ar_fill_10 rfl (lv_at hl 1 rfl) ?_
    refine lv_iload_n hx hb d_Ar_fill_11 rfl (lv_at hl 0 rfl) ?_
    refine lv_iload_n hx hb d_Ar_fill_12 rfl (lv_at hl 2 rfl) ?_
    refine va_iast hx hb hK hP hD hS 0 0 rfl rfl (vp_in_nI (by omega) (by decide)) d_Ar_fill_13 (fun H locs hP hD hS => ?_)
    rw [nI_clamp (by omega)] at hP hD
    rw [nA_upd] at hP hD
    have hu1 : ∀ k_, (upN Eq k v) k_ < 9 := upN_lt hEq (by omega)
    have hP : va_P (dC, dI) cls_ [(ee, .inl (ky, 97, .inl (nA (upN Eq k v))))] H := hP
    have hD : va_D A [(ee, .inl (ky, 97, .inl (nA (upN Eq k v))))] := hD
    refine lv_iinc (v := nI (k + 1)) (k := 0) hx hb d_Ar_fill_14 hl rfl (bw_inc k 1) (by decide) rfl (fun ls hl => ?_)
    have hl : lv_has ls 4 [(2, .int (nI (k + 1))), (0, .ref ee), (1, .int (nI v)), (3, .int (nI 97))] := hl
    refine lv_goto (tgt := 5) hx hb d_Ar_fill_17 (by decide) ?_
    exact ih5 ((k + 1), (upN Eq k v)) _ _ _ ⟨(by first | assumption | omega | (simp; done) | (simp_all; done)), (fun j hj => if e : j = k then (by rw [e, upN_s]) else (by rw [upN_o e]; exact hEk j (by omega))), hu1, hP, hD, hS, lv_sub hl [0, 1, 2, 3] rfl⟩ (by first | omega | (simp only; omega) | (dsimp only; omega))

set_option maxHeartbeats 4000000 in
set_option maxRecDepth 100000 in
theorem c_Fi_clear (l : Launch) (dC : Nat → ClassId) (dI : Nat → Nat → Nat) (ky : ClassId) (sz : Nat) (fs : Nat) (ee : Nat) (fn : Nat) (E : Nat → Nat) (v : Nat) (hE : ∀ k_, E k_ < 9) (hv97 : v ≤ 97) : Met l y_Fi_clear (Cond.code y_Fi_clear prog_2_method_2_code 2 none :: W0) ({ frames := 1, cells := 0, slots := 0, locals := 23 }) (va_Pc [.ref fs, .int (nI v)] (fun U => U.heap.size = sz ∧ va_P (dC, dI) cls_ [(fs, .inr (0, [.ref ee, .int (nI fn)])), (ee, .inl (ky, 97, .inl (nA E)))] U.heap ∧ va_K (dC, dI) cls_ [(ky, .int)] U ∧ va_D (fun _ => True) [(fs, .inr (0, [.ref ee, .int (nI fn)])), (ee, .inl (ky, 97, .inl (nA E)))])) (va_Qv (fun (En : Nat → Nat) => (∀ k, k < 97 → En k = 5) ∧ (∀ k_, En k_ < 9)) (fun (En : Nat → Nat) (t : State) => va_P (dC, dI) cls_ [(fs, .inr (0, [.ref ee, .int (nI v)])), (ee, .inl (ky, 97, .inl (nA En)))] t.heap ∧ va_D (va_A [(fs, .inr (0, [.ref ee, .int (nI fn)])), (ee, .inl (ky, 97, .inl (nA E)))] sz) [(fs, .inr (0, [.ref ee, .int (nI v)])), (ee, .inl (ky, 97, .inl (nA En)))]) (va_A [(fs, .inr (0, [.ref ee, .int (nI fn)])), (ee, .inl (ky, 97, .inl (nA E)))] sz)) 0 0 (va_A [(fs, .inr (0, [.ref ee, .int (nI fn)])), (ee, .inl (ky, 97, .inl (nA E)))] sz) := by
  refine Met.ofW (cc := prog_2_method_2_code) (maxL := 2) (ret := none) (by decide) rfl ?_
  intro p e s m args below meth c s₁ B hml hv
  obtain ⟨rfl, hsz, hP, hK, hD0⟩ := hv
  have hx := B.exec
  have hb := B.bytes
  have hr := B.returns
  have hlocks := B.notSynchronized
  have hts := atoms_spec (ws := (Cond.code y_Fi_clear prog_2_method_2_code 2 none :: W0)) B.pre
  have htb : ∀ w ∈ W0, w.before _ s = true := fun w h => hts w (List.mem_cons_of_mem _ h)
  have hown : s.vm.findClass "SelfIndexedSequences$Finds" = some m.cls := findClass_of_methodNamed B.named
  subst hsz
  have hD := hD0.self (sz := s.heap.size)
  generalize hAe : va_A [(fs, .inr (0, [.ref ee, .int (nI fn)])), (ee, .inl (ky, 97, .inl (nA E)))] s.heap.size = A at hD ⊢
  have hA : ∀ q : Nat, s.heap.size ≤ q → A q := fun q h => by rw [← hAe]; exact Or.inr h
  have hS : va_S A s.heap s.heap [] := va_S.rf
  have hl := lv_entry ([.ref fs, .int (nI v)]) (n := 2) (Nat.le_of_ble_eq_true rfl)
  rw [lg_entry_eq]
  generalize (lg_sl ([.ref fs, .int (nI v)]) ++ List.replicate (2 - (lg_sl ([.ref fs, .int (nI v)])).length) Slot.unset).toArray = ls at hl ⊢
  have hl : lv_has ls 2 [(0, .ref fs), (1, .int (nI v))] := hl
  refine lv_aload_n hx hb d_Fi_clear_0 rfl (lv_at hl 0 rfl) ?_
  refine lv_iload_n hx hb d_Fi_clear_1 rfl (lv_at hl 1 rfl) ?_
  refine va_put (D := (dC, dI)) (ci := 0) (v := .int (nI v)) (ty := .int) (C := R_Fi) (T := F_Fi) (N := 2) hx hb htb in_Fi t_Fi tk_Fi nm_Fi hown hK hP hD hS 0 rfl rfl 1 (by decide) (htb _ tw_99) (fun _ h9 => h9) rfl (by decide +kernel) rfl rfl (Nat.le_of_ble_eq_true rfl) d_Fi_clear_2 (fun H locs hP hD hS => ?_)
  have hP : va_P (dC, dI) cls_ [(fs, .inr (0, [.ref ee, .int (nI v)])), (ee, .inl (ky, 97, .inl (nA E)))] H := hP
  have hD : va_D A [(fs, .inr (0, [.ref ee, .int (nI v)])), (ee, .inl (ky, 97, .inl (nA E)))] := hD
  refine lv_aload_n hx hb d_Fi_clear_5 rfl (lv_at hl 0 rfl) ?_
  refine va_get (D := (dC, dI)) (ci := 0) (v := .ref ee) (C := R_Fi) (T := F_Fi) (N := 2) hx hb htb in_Fi hown hK hP 0 rfl rfl 0 (by decide) (htb _ tw_97) (fun _ h9 => h9) rfl d_Fi_clear_6 ?_
  refine lv_iconst (v := nI 5) hx hb d_Fi_clear_9 (by decide) ?_
  have hPc := hP.sub (ws' := [(ee, .inl (ky, 97, .inl (nA E)))]) [1] rfl
  have hDc := hD.sub (ws' := [(ee, .inl (ky, 97, .inl (nA E)))]) [1] (by decide) rfl
  have hFc := va_free (wc := [(ee, .inl (ky, 97, .inl (nA E)))]) hD hS hA [1] rfl
  refine va_callv (va_runS (As := [.ref ee, .int (nI 5)]) (rest := []) ⟨hx, hb, hml, hown, hts⟩ (c_Ar_fill l dC dI ky H.size ee 5 E hE (by first | assumption | omega | (simp; done) | (simp_all; done))) ⟨callB_of 2 hts (W0_good tw_308) rfl rfl rfl (htb _ tw_30) (htb _ tw_306) ⟨by decide, by decide, by decide +kernel⟩ ⟨(Nat.le_of_ble_eq_true rfl), (Nat.le_of_ble_eq_true rfl)⟩, htb _ tw_307⟩ ⟨fun a U g mk q => by obtain ⟨q0, q1, qP, qK, qD⟩ := q; exact ⟨q0, q1, qP, va_K.moved (u := U) (U := U.calling g mk a) (Vm.Alike.refl U.vm) qK, qD⟩, fun U hU hW => ⟨rfl, by rw [hU], by rw [hU]; exact hPc, va_K.moved hW.alike hK, hDc.weaken (fun _ _ _ _ => trivial)⟩⟩ rfl rfl hl.1 rfl (lv_room (Nat.le_of_ble_eq_true rfl)) d_Fi_clear_10 ⟨(Nat.le_of_ble_eq_true rfl), (Nat.le_of_ble_eq_true rfl)⟩) hS (fun q _ h => hFc q h) hFc (fun En_10 t H locs ht hvm hw10 hB hz1 hk1 hS => ?_)
  obtain ⟨hP1, hD1⟩ := hB
  rw [ht] at hP1
  obtain ⟨hP, hD⟩ := va_join (wr := [(fs, .inr (0, [.ref ee, .int (nI v)]))]) (w1 := [(ee, .inl (ky, 97, .inl (nA En_10)))]) hP hD [1] [0] rfl rfl (by decide) (by decide) hk1 hFc hP1 hD1
  have hP : va_P (dC, dI) cls_ [(fs, .inr (0, [.ref ee, .int (nI v)])), (ee, .inl (ky, 97, .inl (nA En_10)))] H := hP
  have hD : va_D A [(fs, .inr (0, [.ref ee, .int (nI v)])), (ee, .inl (ky, 97, .inl (nA En_10)))] := hD
  have hq10 : (∀ k, k < 97 → En_10 k = 5) ∧ (∀ k_, En_10 k_ < 9) := hw10
  have hP9 := hP.sub (ws' := [(fs, .inr (0, [.ref ee, .int (nI v)])), (ee, .inl (ky, 97, .inl (nA En_10)))]) [0, 1] rfl
  have hD9 := hD.sub (ws' := [(fs, .inr (0, [.ref ee, .int (nI v)])), (ee, .inl (ky, 97, .inl (nA En_10)))]) [0, 1] (by decide) rfl
  exact W.vret hx hb hr (fun t ht hW => ⟨⟨En_10, rfl, hq10, by rw [ht]; exact hP9, hD9⟩, hS.F ht⟩) hS.2.2 d_Fi_clear_13

set_option maxHeartbeats 4000000 in
set_option maxRecDepth 100000 in
theorem c_Fi_within (l : Launch) (dC : Nat → ClassId) (dI : Nat → Nat → Nat) (ky : ClassId) (sz : Nat) (fs : Nat) (ee : Nat) (fn : Nat) (E : Nat → Nat) (kk : Nat) (hE : ∀ k_, E k_ < 9) (hk4 : kk ≤ 4) (hfn : fn ≤ 97) : Met l y_Fi_within (Cond.code y_Fi_within prog_2_method_3_code 4 (some .int) :: W0) ({ frames := 0, cells := 0, slots := 0, locals := 0 }) (va_Pc [.ref fs, .int (nI kk)] (fun U => U.heap.size = sz ∧ va_P (dC, dI) cls_ [(fs, .inr (0, [.ref ee, .int (nI fn)])), (ee, .inl (ky, 97, .inl (nA E)))] U.heap ∧ va_K (dC, dI) cls_ [(ky, .int)] U ∧ va_D (fun _ => True) [(fs, .inr (0, [.ref ee, .int (nI fn)])), (ee, .inl (ky, 97, .inl (nA E)))])) (va_Qi (fun (r : Int32) (_ : Unit) => r = nI (num (fun q => E q ≤ kk) fn) ∧ (True)) (fun (_ : Unit) (t : State) => va_P (dC, dI) cls_ [(fs, .inr (0, [.ref ee, .int (nI fn)])), (ee, .inl (ky, 97, .inl (nA E)))] t.heap ∧ va_D (va_A [(fs, .inr (0, [.ref ee, .int (nI fn)])), (ee, .inl (ky, 97, .inl (nA E)))] sz) [(fs, .inr (0, [.ref ee, .int (nI fn)])), (ee, .inl (ky, 97, .inl (nA E)))]) (va_A [(fs, .inr (0, [.ref ee, .int (nI fn)])), (ee, .inl (ky, 97, .inl (nA E)))] sz)) 0 0 (va_A [(fs, .inr (0, [.ref ee, .int (nI fn)])), (ee, .inl (ky, 97, .inl (nA E)))] sz) := by
  refine Met.ofW (cc := prog_2_method_3_code) (maxL := 4) (ret := (some .int)) (by decide) rfl ?_
  intro p e s m args below meth c s₁ B hml hv
  obtain ⟨rfl, hsz, hP, hK, hD0⟩ := hv
  have hx := B.exec
  have hb := B.bytes
  have hr := B.returns
  have hlocks := B.notSynchronized
  have hts := atoms_spec (ws := (Cond.code y_Fi_within prog_2_method_3_code 4 (some .int) :: W0)) B.pre
  have htb : ∀ w ∈ W0, w.before _ s = true := fun w h => hts w (List.mem_cons_of_mem _ h)
  have hown : s.vm.findClass "SelfIndexedSequences$Finds" = some m.cls := findClass_of_methodNamed B.named
  subst hsz
  have hD := hD0.self (sz := s.heap.size)
  generalize hAe : va_A [(fs, .inr (0, [.ref ee, .int (nI fn)])), (ee, .inl (ky, 97, .inl (nA E)))] s.heap.size = A at hD ⊢
  have hA : ∀ q : Nat, s.heap.size ≤ q → A q := fun q h => by rw [← hAe]; exact Or.inr h
  have hS : va_S A s.heap s.heap [] := va_S.rf
  have hl := lv_entry ([.ref fs, .int (nI kk)]) (n := 4) (Nat.le_of_ble_eq_true rfl)
  rw [lg_entry_eq]
  generalize (lg_sl ([.ref fs, .int (nI kk)]) ++ List.replicate (4 - (lg_sl ([.ref fs, .int (nI kk)])).length) Slot.unset).toArray = ls at hl ⊢
  have hl : lv_has ls 4 [(0, .ref fs), (1, .int (nI kk))] := hl
  refine lv_iconst (v := nI 0) hx hb d_Fi_within_0 (by decide) ?_
  refine lv_istore_n hx hb d_Fi_within_1 rfl hl (by decide) rfl (fun ls hl => ?_)
  have hl : lv_has ls 4 [(2, .int (nI 0)), (0, .ref fs), (1, .int (nI kk))] := hl
  refine lv_iconst (v := nI 0) hx hb d_Fi_within_2 (by decide) ?_
  refine lv_istore_n hx hb d_Fi_within_3 rfl hl (by decide) rfl (fun ls hl => ?_)
  have hl : lv_has ls 4 [(3, .int (nI 0)), (2, .int (nI 0)), (0, .ref fs), (1, .int (nI kk))] := hl
  refine wl_loop (σ := Nat × Nat) 4 [] (fun (a_ : Nat × Nat) => match a_ with | (k, f) => fn - k) (fun (a_ : Nat × Nat) (H : Heap) (locs : List Loc) (ls : Array Slot) => match a_ with | (k, f) => (k ≤ fn) ∧ (f = num (fun q => E q ≤ kk) k) ∧ (f ≤ k) ∧ va_P (dC, dI) cls_ [(fs, .inr (0, [.ref ee, .int (nI fn)])), (ee, .inl (ky, 97, .inl (nA E)))] H ∧ va_D A [(fs, .inr (0, [.ref ee, .int (nI fn)])), (ee, .inl (ky, 97, .inl (nA E)))] ∧ va_S A s.heap H locs ∧ lv_has ls 4 [(3, .int (nI k)), (2, .int (nI f)), (0, .ref fs), (1, .int (nI kk))]) ?_ (0, 0) ⟨(by first | assumption | omega | (simp; done) | (simp_all; done)), rfl, (by first | assumption | omega | (simp; done) | (simp_all; done)), hP, hD, hS, lv_sub hl [0, 1, 2, 3] rfl⟩
  clear hP hD hS hl
  intro a_ H locs ls hI ih4
  obtain ⟨k, f⟩ := a_
  obtain ⟨hk, hf, hfk, hP, hD, hS, hl⟩ := hI
  have hl : lv_has ls 4 [(3, .int (nI k)), (2, .int (nI f)), (0, .ref fs), (1, .int (nI kk))] := hl
  have hP : va_P (dC, dI) cls_ [(fs, .inr (0, [.ref ee, .int (nI fn)])), (ee, .inl (ky, 97, .inl (nA E)))] H := hP
  have hD : va_D A [(fs, .inr (0, [.ref ee, .int (nI fn)])), (ee, .inl (ky, 97, .inl (nA E)))] := hD
  have hk : k ≤ fn := hk
  have hf : f = num (fun q => E q ≤ kk) k := hf
  have hfk : f ≤ k := hfk
  refine lv_iload_n hx hb d_Fi_within_4 rfl (lv_at hl 0 rfl) ?_
  refine lv_aload_n hx hb d_Fi_within_5 rfl (lv_at hl 2 rfl) ?_
  refine va_get (D := (dC, dI)) (ci := 0) (v := .int (nI fn)) (C := R_Fi) (T := F_Fi) (N := 2) hx hb htb in_Fi hown hK hP 0 rfl rfl 1 (by decide) (htb _ tw_99) (fun _ h9 => h9) rfl d_Fi_within_6 ?_
  refine lv_icmp_ge (tgt := 31) hx hb d_Fi_within_9 (by decide) (fun hc9 => ?_) (fun hc9 => ?_)
  · skip
    rw [bw_le_nn (by omega) (by omega)] at hc9
    refine lv_iload_n hx hb d_Fi_within_31 rfl (lv_at hl 1 rfl) ?_
    have hP9 := hP.sub (ws' := [(fs, .inr (0, [.ref ee, .int (nI fn)])), (ee, .inl (ky, 97, .inl (nA E)))]) [0, 1] rfl
    have hD9 := hD.sub (ws' := [(fs, .inr (0, [.ref ee, .int (nI fn)])), (ee, .inl (ky, 97, .inl (nA E)))]) [0, 1] (by decide) rfl
    exact W.iret (v := nI f) hx hb hr (fun t ht hW => ⟨⟨nI f, (), rfl, ⟨(by rw [hf, show k = fn by omega]), (by first | trivial | assumption | omega)⟩, by rw [ht]; exact hP9, hD9⟩, hS.F ht⟩) hS.2.2 d_Fi_within_32
  · skip
    rw [bw_le_nn (by omega) (by omega)] at hc9
    refine lv_aload_n hx hb d_Fi_within_12 rfl (lv_at hl 2 rfl) ?_
    refine va_get (D := (dC, dI)) (ci := 0) (v := .ref ee) (C := R_Fi) (T := F_Fi) (N := 2) hx hb htb in_Fi hown hK hP 0 rfl rfl 0 (by decide) (htb _ tw_97) (fun _ h9 => h9) rfl d_Fi_within_13 ?_
    refine lv_iload_n hx hb d_Fi_within_16 rfl (lv_at hl 0 rfl) ?_
    refine va_iald hx hb hK hP 1 0 rfl rfl (vp_in_nI (by omega) (by decide)) d_Fi_within_17 ?_
    rw [nI_clamp (by omega)]
    have hb17 := hE k
    rw [nA_at]
    refine lv_iload_n hx hb d_Fi_within_18 rfl (lv_at hl 3 rfl) ?_
    refine lv_icmp_gt (tgt := 25) hx hb d_Fi_within_19 (by decide) (fun hc19 => ?_) (fun hc19 => ?_)
    · skip
      rw [bw_lt_nn (by omega) (by omega)] at hc19
      refine lv_iinc (v := nI (k + 1)) (k := 0) hx hb d_Fi_within_25 hl rfl (bw_inc k 1) (by decide) rfl (fun ls hl => ?_)
      have hl : lv_has ls 4 [(3, .int (nI (k + 1))), (2, .int (nI f)), (0, .ref fs), (1, .int (nI kk))] := hl
      refine lv_goto (tgt := 4) hx hb d_Fi_within_28 (by decide) ?_
      exact ih4 ((k + 1), f) _ _ _ ⟨(by first | assumption | omega | (simp; done) | (simp_all; done)), (by first | exact num_sy (by (try dsimp only); omega) hf | exact num_sn (by (try dsimp only); omega) hf), (by first | assumption | omega | (simp; done) | (simp_all; done)), hP, hD, hS, lv_sub hl [0, 1, 2, 3] rfl⟩ (by first | omega | (simp only; omega) | (dsimp only; omega))
    · skip
      rw [bw_lt_nn (by omega) (by omega)] at hc19
      refine lv_iinc (v := nI (f + 1)) (k := 1) hx hb d_Fi_within_22 hl rfl (bw_inc f 1) (by decide) rfl (fun ls hl => ?_)
      have hl : lv_has ls 4 [(2, .int (nI (f + 1))), (3, .int (nI k)), (0, .ref fs), (1, .int (nI kk))] := hl
      refine lv_iinc (v := nI (k + 1)) (k := 1) hx hb d_Fi_within_25 hl rfl (bw_inc k 1) (by decide) rfl (fun ls hl => ?_)
      have hl : lv_has ls 4 [(3, .int (nI (k + 1))), (2, .int (nI (f + 1))), (0, .ref fs), (1, .int (nI kk))] := hl
      refine lv_goto (tgt := 4) hx hb d_Fi_within_28 (by decide) ?_
      exact ih4 ((k + 1), (f + 1)) _ _ _ ⟨(by first | assumption | omega | (simp; done) | (simp_all; done)), (by first | exact num_sy (by (try dsimp only); omega) hf | exact num_sn (by (try dsimp only); omega) hf), (by first | assumption | omega | (simp; done) | (simp_all; done)), hP, hD, hS, lv_sub hl [0, 1, 2, 3] rfl⟩ (by first | omega | (simp only; omega) | (dsimp only; omega))

set_option maxHeartbeats 4000000 in
set_option maxRecDepth 100000 in
theorem c_Fi_numbered (l : Launch) (dC : Nat → ClassId) (dI : Nat → Nat → Nat) (ky : ClassId) (sz : Nat) (fs : Nat) (ee : Nat) (fn : Nat) (E : Nat → Nat) (xi : Int32) (kk : Nat) (hE : ∀ k_, E k_ < 9) (hk4 : kk ≤ 4) (hfn : fn ≤ 97) : Met l y_Fi_numbered (Cond.code y_Fi_numbered prog_2_method_4_code 5 (some .int) :: W0) ({ frames := 0, cells := 0, slots := 0, locals := 0 }) (va_Pc [.ref fs, .int (xi), .int (nI kk)] (fun U => U.heap.size = sz ∧ va_P (dC, dI) cls_ [(fs, .inr (0, [.ref ee, .int (nI fn)])), (ee, .inl (ky, 97, .inl (nA E)))] U.heap ∧ va_K (dC, dI) cls_ [(ky, .int)] U ∧ va_D (fun _ => True) [(fs, .inr (0, [.ref ee, .int (nI fn)])), (ee, .inl (ky, 97, .inl (nA E)))])) (va_Qi (fun (r : Int32) (_ : Unit) => (∃ v, v < fn ∧ E v ≤ kk ∧ xi = nI (num (fun q => E q ≤ kk) v) ∧ r = nI v) ∨ ((∀ v, v < fn → E v ≤ kk → xi ≠ nI (num (fun q => E q ≤ kk) v)) ∧ r = nI 0 - 1)) (fun (_ : Unit) (t : State) => va_P (dC, dI) cls_ [(fs, .inr (0, [.ref ee, .int (nI fn)])), (ee, .inl (ky, 97, .inl (nA E)))] t.heap ∧ va_D (va_A [(fs, .inr (0, [.ref ee, .int (nI fn)])), (ee, .inl (ky, 97, .inl (nA E)))] sz) [(fs, .inr (0, [.ref ee, .int (nI fn)])), (ee, .inl (ky, 97, .inl (nA E)))]) (va_A [(fs, .inr (0, [.ref ee, .int (nI fn)])), (ee, .inl (ky, 97, .inl (nA E)))] sz)) 0 0 (va_A [(fs, .inr (0, [.ref ee, .int (nI fn)])), (ee, .inl (ky, 97, .inl (nA E)))] sz) := by
  refine Met.ofW (cc := prog_2_method_4_code) (maxL := 5) (ret := (some .int)) (by decide) rfl ?_
  intro p e s m args below meth c s₁ B hml hv
  obtain ⟨rfl, hsz, hP, hK, hD0⟩ := hv
  have hx := B.exec
  have hb := B.bytes
  have hr := B.returns
  have hlocks := B.notSynchronized
  have hts := atoms_spec (ws := (Cond.code y_Fi_numbered prog_2_method_4_code 5 (some .int) :: W0)) B.pre
  have htb : ∀ w ∈ W0, w.before _ s = true := fun w h => hts w (List.mem_cons_of_mem _ h)
  have hown : s.vm.findClass "SelfIndexedSequences$Finds" = some m.cls := findClass_of_methodNamed B.named
  subst hsz
  have hD := hD0.self (sz := s.heap.size)
  generalize hAe : va_A [(fs, .inr (0, [.ref ee, .int (nI fn)])), (ee, .inl (ky, 97, .inl (nA E)))] s.heap.size = A at hD ⊢
  have hA : ∀ q : Nat, s.heap.size ≤ q → A q := fun q h => by rw [← hAe]; exact Or.inr h
  have hS : va_S A s.heap s.heap [] := va_S.rf
  have hl := lv_entry ([.ref fs, .int (xi), .int (nI kk)]) (n := 5) (Nat.le_of_ble_eq_true rfl)
  rw [lg_entry_eq]
  generalize (lg_sl ([.ref fs, .int (xi), .int (nI kk)]) ++ List.replicate (5 - (lg_sl ([.ref fs, .int (xi), .int (nI kk)])).length) Slot.unset).toArray = ls at hl ⊢
  have hl : lv_has ls 5 [(0, .ref fs), (1, .int (xi)), (2, .int (nI kk))] := hl
  refine lv_iconst (v := nI 0) hx hb d_Fi_numbered_0 (by decide) ?_
  refine lv_istore_n hx hb d_Fi_numbered_1 rfl hl (by decide) rfl (fun ls hl => ?_)
  have hl : lv_has ls 5 [(3, .int (nI 0)), (0, .ref fs), (1, .int (xi)), (2, .int (nI kk))] := hl
  refine lv_iconst (v := nI 0) hx hb d_Fi_numbered_2 (by decide) ?_
  refine lv_istore hx hb d_Fi_numbered_3 hl (by decide) rfl (fun ls hl => ?_)
  have hl : lv_has ls 5 [(4, .int (nI 0)), (3, .int (nI 0)), (0, .ref fs), (1, .int (xi)), (2, .int (nI kk))] := hl
  refine wl_loop (σ := Nat × Nat) 5 [] (fun (a_ : Nat × Nat) => match a_ with | (k, f) => fn - k) (fun (a_ : Nat × Nat) (H : Heap) (locs : List Loc) (ls : Array Slot) => match a_ with | (k, f) => (k ≤ fn) ∧ (f = num (fun q => E q ≤ kk) k) ∧ (f ≤ k) ∧ (∀ v, v < k → E v ≤ kk → xi ≠ nI (num (fun q => E q ≤ kk) v)) ∧ va_P (dC, dI) cls_ [(fs, .inr (0, [.ref ee, .int (nI fn)])), (ee, .inl (ky, 97, .inl (nA E)))] H ∧ va_D A [(fs, .inr (0, [.ref ee, .int (nI fn)])), (ee, .inl (ky, 97, .inl (nA E)))] ∧ va_S A s.heap H locs ∧ lv_has ls 5 [(4, .int (nI k)), (3, .int (nI f)), (0, .ref fs), (1, .int (xi)), (2, .int (nI kk))]) ?_ (0, 0) ⟨(by first | assumption | omega | (simp; done) | (simp_all; done)), rfl, (by first | assumption | omega | (simp; done) | (simp_all; done)), (fun v hv => by omega), hP, hD, hS, lv_sub hl [0, 1, 2, 3, 4] rfl⟩
  clear hP hD hS hl
  intro a_ H locs ls hI ih5
  obtain ⟨k, f⟩ := a_
  obtain ⟨hk, hf, hfk, hno, hP, hD, hS, hl⟩ := hI
  have hl : lv_has ls 5 [(4, .int (nI k)), (3, .int (nI f)), (0, .ref fs), (1, .int (xi)), (2, .int (nI kk))] := hl
  have hP : va_P (dC, dI) cls_ [(fs, .inr (0, [.ref ee, .int (nI fn)])), (ee, .inl (ky, 97, .inl (nA E)))] H := hP
  have hD : va_D A [(fs, .inr (0, [.ref ee, .int (nI fn)])), (ee, .inl (ky, 97, .inl (nA E)))] := hD
  have hk : k ≤ fn := hk
  have hf : f = num (fun q => E q ≤ kk) k := hf
  have hfk : f ≤ k := hfk
  have hno : ∀ v, v < k → E v ≤ kk → xi ≠ nI (num (fun q => E q ≤ kk) v) := hno
  refine lv_iload hx hb d_Fi_numbered_5 (lv_at hl 0 rfl) ?_
  refine lv_aload_n hx hb d_Fi_numbered_7 rfl (lv_at hl 2 rfl) ?_
  refine va_get (D := (dC, dI)) (ci := 0) (v := .int (nI fn)) (C := R_Fi) (T := F_Fi) (N := 2) hx hb htb in_Fi hown hK hP 0 rfl rfl 1 (by decide) (htb _ tw_99) (fun _ h9 => h9) rfl d_Fi_numbered_8 ?_
  refine lv_icmp_ge (tgt := 42) hx hb d_Fi_numbered_11 (by decide) (fun hc11 => ?_) (fun hc11 => ?_)
  · skip
    rw [bw_le_nn (by omega) (by omega)] at hc11
    refine lv_iconst (v := nI 0 - 1) hx hb d_Fi_numbered_42 (by decide) ?_
    have hP9 := hP.sub (ws' := [(fs, .inr (0, [.ref ee, .int (nI fn)])), (ee, .inl (ky, 97, .inl (nA E)))]) [0, 1] rfl
    have hD9 := hD.sub (ws' := [(fs, .inr (0, [.ref ee, .int (nI fn)])), (ee, .inl (ky, 97, .inl (nA E)))]) [0, 1] (by decide) rfl
    exact W.iret (v := nI 0 - 1) hx hb hr (fun t ht hW => ⟨⟨nI 0 - 1, (), rfl, (Or.inr ⟨fun v hv => hno v (by omega), rfl⟩), by rw [ht]; exact hP9, hD9⟩, hS.F ht⟩) hS.2.2 d_Fi_numbered_43
  · skip
    rw [bw_le_nn (by omega) (by omega)] at hc11
    refine lv_aload_n hx hb d_Fi_numbered_14 rfl (lv_at hl 2 rfl) ?_
    refine va_get (D := (dC, dI)) (ci := 0) (v := .ref ee) (C := R_Fi) (T := F_Fi) (N := 2) hx hb htb in_Fi hown hK hP 0 rfl rfl 0 (by decide) (htb _ tw_97) (fun _ h9 => h9) rfl d_Fi_numbered_15 ?_
    refine lv_iload hx hb d_Fi_numbered_18 (lv_at hl 0 rfl) ?_
    refine va_iald hx hb hK hP 1 0 rfl rfl (vp_in_nI (by omega) (by decide)) d_Fi_numbered_20 ?_
    rw [nI_clamp (by omega)]
    have hb20 := hE k
    rw [nA_at]
    refine lv_iload_n hx hb d_Fi_numbered_21 rfl (lv_at hl 4 rfl) ?_
    refine lv_icmp_gt (tgt := 36) hx hb d_Fi_numbered_22 (by decide) (fun hc22 => ?_) (fun hc22 => ?_)
    · skip
      rw [bw_lt_nn (by omega) (by omega)] at hc22
      refine lv_iinc (v := nI (k + 1)) (k := 0) hx hb d_Fi_numbered_36 hl rfl (bw_inc k 1) (by decide) rfl (fun ls hl => ?_)
      have hl : lv_has ls 5 [(4, .int (nI (k + 1))), (3, .int (nI f)), (0, .ref fs), (1, .int (xi)), (2, .int (nI kk))] := hl
      refine lv_goto (tgt := 5) hx hb d_Fi_numbered_39 (by decide) ?_
      exact ih5 ((k + 1), f) _ _ _ ⟨(by first | assumption | omega | (simp; done) | (simp_all; done)), (by first | exact num_sy (by (try dsimp only); omega) hf | exact num_sn (by (try dsimp only); omega) hf), (by first | assumption | omega | (simp; done) | (simp_all; done)), (fun v hv hq => if e : v = k then (by first | (subst e; omega) | (subst e; rw [← hf]; exact fun z => hc27 z.symm)) else (by exact hno v (by omega) hq)), hP, hD, hS, lv_sub hl [0, 1, 2, 3, 4] rfl⟩ (by first | omega | (simp only; omega) | (dsimp only; omega))
    · skip
      rw [bw_lt_nn (by omega) (by omega)] at hc22
      refine lv_iload_n hx hb d_Fi_numbered_25 rfl (lv_at hl 1 rfl) ?_
      refine lv_iload_n hx hb d_Fi_numbered_26 rfl (lv_at hl 3 rfl) ?_
      refine lv_icmp_ne (tgt := 33) hx hb d_Fi_numbered_27 (by decide) (fun hc27 => ?_) (fun hc27 => ?_)
      · skip
        refine lv_iinc (v := nI (f + 1)) (k := 1) hx hb d_Fi_numbered_33 hl rfl (bw_inc f 1) (by decide) rfl (fun ls hl => ?_)
        have hl : lv_has ls 5 [(3, .int (nI (f + 1))), (4, .int (nI k)), (0, .ref fs), (1, .int (xi)), (2, .int (nI kk))] := hl
        refine lv_iinc (v := nI (k + 1)) (k := 1) hx hb d_Fi_numbered_36 hl rfl (bw_inc k 1) (by decide) rfl (fun ls hl => ?_)
        have hl : lv_has ls 5 [(4, .int (nI (k + 1))), (3, .int (nI (f + 1))), (0, .ref fs), (1, .int (xi)), (2, .int (nI kk))] := hl
        refine lv_goto (tgt := 5) hx hb d_Fi_numbered_39 (by decide) ?_
        exact ih5 ((k + 1), (f + 1)) _ _ _ ⟨(by first | assumption | omega | (simp; done) | (simp_all; done)), (by first | exact num_sy (by (try dsimp only); omega) hf | exact num_sn (by (try dsimp only); omega) hf), (by first | assumption | omega | (simp; done) | (simp_all; done)), (fun v hv hq => if e : v = k then (by first | (subst e; omega) | (subst e; rw [← hf]; exact fun z => hc27 z.symm)) else (by exact hno v (by omega) hq)), hP, hD, hS, lv_sub hl [0, 1, 2, 3, 4] rfl⟩ (by first | omega | (simp only; omega) | (dsimp only; omega))
      · skip
        refine lv_iload hx hb d_Fi_numbered_30 (lv_at hl 0 rfl) ?_
        have hP9 := hP.sub (ws' := [(fs, .inr (0, [.ref ee, .int (nI fn)])), (ee, .inl (ky, 97, .inl (nA E)))]) [0, 1] rfl
        have hD9 := hD.sub (ws' := [(fs, .inr (0, [.ref ee, .int (nI fn)])), (ee, .inl (ky, 97, .inl (nA E)))]) [0, 1] (by decide) rfl
        exact W.iret (v := nI k) hx hb hr (fun t ht hW => ⟨⟨nI k, (), rfl, (Or.inl ⟨k, by omega, by omega, by rw [← hf]; exact hc27.symm, rfl⟩), by rw [ht]; exact hP9, hD9⟩, hS.F ht⟩) hS.2.2 d_Fi_numbered_32

set_option maxHeartbeats 4000000 in
set_option maxRecDepth 100000 in
theorem c_Pa_read (l : Launch) (dC : Nat → ClassId) (dI : Nat → Nat → Nat) (ky : ClassId) (sz : Nat) (pa : Nat) (le : Nat) (di : Nat) (pk : Nat) (Wl : Nat → Nat) (w : Nat) (hWl : ∀ k_, Wl k_ < 28) (hw : w < 2 ^ 64) : Met l y_Pa_read (Cond.code y_Pa_read prog_4_method_2_code 6 (some .boolean) :: W0) ({ frames := 1, cells := 0, slots := 0, locals := 22 }) (va_Pc [.ref pa, .long (lN w)] (fun U => U.heap.size = sz ∧ va_P (dC, dI) cls_ [(pa, .inr (2, [.ref le, .int (nI pk), .ref di])), (le, .inl (ky, 8, .inl (nA Wl)))] U.heap ∧ va_K (dC, dI) cls_ [(ky, .int)] U ∧ va_D (fun _ => True) [(pa, .inr (2, [.ref le, .int (nI pk), .ref di])), (le, .inl (ky, 8, .inl (nA Wl)))] ∧ va_Nw (Cond.methodLinkNest "SelfIndexedSequences$Pattern" 22 (y_Si_codeAt) "SelfIndexedSequences") U ∧ va_Nw (Cond.methodLinkNest "SelfIndexedSequences$Pattern" 26 (y_Si_symbolOf) "SelfIndexedSequences") U)) (va_Qi (fun (r : Int32) (u : (Nat) × (Nat → Nat)) => match u with | (kn, Wn) => ((r = nI 1 ∧ Pat w kn ∧ ∀ i, i < kn → Wn i = by8 w i - 95) ∨ (r = nI 0 ∧ ∀ k, ¬ Pat w k)) ∧ kn ≤ 8 ∧ (∀ k_, Wn k_ < 28)) (fun (u : (Nat) × (Nat → Nat)) (t : State) => match u with | (kn, Wn) => va_P (dC, dI) cls_ [(pa, .inr (2, [.ref le, .int (nI kn), .ref di])), (le, .inl (ky, 8, .inl (nA Wn)))] t.heap ∧ va_D (va_A [(pa, .inr (2, [.ref le, .int (nI pk), .ref di])), (le, .inl (ky, 8, .inl (nA Wl)))] sz) [(pa, .inr (2, [.ref le, .int (nI kn), .ref di])), (le, .inl (ky, 8, .inl (nA Wn)))]) (va_A [(pa, .inr (2, [.ref le, .int (nI pk), .ref di])), (le, .inl (ky, 8, .inl (nA Wl)))] sz)) 0 0 (va_A [(pa, .inr (2, [.ref le, .int (nI pk), .ref di])), (le, .inl (ky, 8, .inl (nA Wl)))] sz) := by
  refine Met.ofW (cc := prog_4_method_2_code) (maxL := 6) (ret := (some .boolean)) (by decide) rfl ?_
  intro p e s m args below meth c s₁ B hml hv
  obtain ⟨rfl, hsz, hP, hK, hD0, hN0, hN1⟩ := hv
  have hx := B.exec
  have hb := B.bytes
  have hr := B.returns
  have hlocks := B.notSynchronized
  have hts := atoms_spec (ws := (Cond.code y_Pa_read prog_4_method_2_code 6 (some .boolean) :: W0)) B.pre
  have htb : ∀ w ∈ W0, w.before _ s = true := fun w h => hts w (List.mem_cons_of_mem _ h)
  have hown : s.vm.findClass "SelfIndexedSequences$Pattern" = some m.cls := findClass_of_methodNamed B.named
  subst hsz
  have hD := hD0.self (sz := s.heap.size)
  generalize hAe : va_A [(pa, .inr (2, [.ref le, .int (nI pk), .ref di])), (le, .inl (ky, 8, .inl (nA Wl)))] s.heap.size = A at hD ⊢
  have hA : ∀ q : Nat, s.heap.size ≤ q → A q := fun q h => by rw [← hAe]; exact Or.inr h
  have hS : va_S A s.heap s.heap [] := va_S.rf
  have hl := lv_entry ([.ref pa, .long (lN w)]) (n := 6) (Nat.le_of_ble_eq_true rfl)
  rw [lg_entry_eq]
  generalize (lg_sl ([.ref pa, .long (lN w)]) ++ List.replicate (6 - (lg_sl ([.ref pa, .long (lN w)])).length) Slot.unset).toArray = ls at hl ⊢
  have hl : lv_has ls 6 [(0, .ref pa), (1, .long (lN w))] := hl
  refine lv_aload_n hx hb d_Pa_read_0 rfl (lv_at hl 0 rfl) ?_
  refine lv_iconst (v := nI 0) hx hb d_Pa_read_1 (by decide) ?_
  refine va_put (D := (dC, dI)) (ci := 2) (v := .int (nI 0)) (ty := .int) (C := R_Pa) (T := F_Pa) (N := 3) hx hb htb in_Pa t_Pa tk_Pa nm_Pa hown hK hP hD hS 0 rfl rfl 1 (by decide) (htb _ tw_81) (fun _ h9 => h9) rfl (by decide +kernel) rfl rfl (Nat.le_of_ble_eq_true rfl) d_Pa_read_2 (fun H locs hP hD hS => ?_)
  have hP : va_P (dC, dI) cls_ [(pa, .inr (2, [.ref le, .int (nI 0), .ref di])), (le, .inl (ky, 8, .inl (nA Wl)))] H := hP
  have hD : va_D A [(pa, .inr (2, [.ref le, .int (nI 0), .ref di])), (le, .inl (ky, 8, .inl (nA Wl)))] := hD
  refine lv_iconst (v := nI 0) hx hb d_Pa_read_5 (by decide) ?_
  refine lv_istore_n hx hb d_Pa_read_6 rfl hl (by decide) rfl (fun ls hl => ?_)
  have hl : lv_has ls 6 [(3, .int (nI 0)), (0, .ref pa), (1, .long (lN w))] := hl
  refine wl_loop (σ := Nat × Nat × (Nat → Nat)) 7 [] (fun (a_ : Nat × Nat × (Nat → Nat)) => match a_ with | (b, kq, Wq) => 8 - b) (fun (a_ : Nat × Nat × (Nat → Nat)) (H : Heap) (locs : List Loc) (ls : Array Slot) => match a_ with | (b, kq, Wq) => (b ≤ 8) ∧ (kq ≤ b) ∧ (PatP w b kq Wq) ∧ (∀ k_, Wq k_ < 28) ∧ va_P (dC, dI) cls_ [(pa, .inr (2, [.ref le, .int (nI kq), .ref di])), (le, .inl (ky, 8, .inl (nA Wq)))] H ∧ va_D A [(pa, .inr (2, [.ref le, .int (nI kq), .ref di])), (le, .inl (ky, 8, .inl (nA Wq)))] ∧ va_S A s.heap H locs ∧ lv_has ls 6 [(3, .int (nI b)), (0, .ref pa), (1, .long (lN w))]) ?_ (0, 0, Wl) ⟨(by first | assumption | omega | (simp; done) | (simp_all; done)), (by first | assumption | omega | (simp; done) | (simp_all; done)), (PatP_0 w Wl), hWl, hP, hD, hS, lv_sub hl [0, 1, 2] rfl⟩
  clear hP hD hS hl
  intro a_ H locs ls hI ih7
  obtain ⟨b, kq, Wq⟩ := a_
  obtain ⟨hb8, hkb, hPp, hWq, hP, hD, hS, hl⟩ := hI
  have hl : lv_has ls 6 [(3, .int (nI b)), (0, .ref pa), (1, .long (lN w))] := hl
  have hP : va_P (dC, dI) cls_ [(pa, .inr (2, [.ref le, .int (nI kq), .ref di])), (le, .inl (ky, 8, .inl (nA Wq)))] H := hP
  have hD : va_D A [(pa, .inr (2, [.ref le, .int (nI kq), .ref di])), (le, .inl (ky, 8, .inl (nA Wq)))] := hD
  have hb8 : b ≤ 8 := hb8
  have hkb : kq ≤ b := hkb
  have hPp : PatP w b kq Wq := hPp
  have hWq : ∀ k_, Wq k_ < 28 := hWq
  refine lv_iload_n hx hb d_Pa_read_7 rfl (lv_at hl 0 rfl) ?_
  refine lv_bipush (v := nI 8) hx hb d_Pa_read_8 (by decide) ?_
  refine lv_icmp_ge (tgt := 75) hx hb d_Pa_read_10 (by decide) (fun hc10 => ?_) (fun hc10 => ?_)
  · skip
    rw [bw_le_nn (by omega) (by omega)] at hc10
    obtain rfl : b = 8 := by omega
    have hl : lv_has ls 6 [(3, .int (nI 8)), (0, .ref pa), (1, .long (lN w))] := hl
    have hP : va_P (dC, dI) cls_ [(pa, .inr (2, [.ref le, .int (nI kq), .ref di])), (le, .inl (ky, 8, .inl (nA Wq)))] H := hP
    have hD : va_D A [(pa, .inr (2, [.ref le, .int (nI kq), .ref di])), (le, .inl (ky, 8, .inl (nA Wq)))] := hD
    refine lv_aload_n hx hb d_Pa_read_75 rfl (lv_at hl 1 rfl) ?_
    refine va_get (D := (dC, dI)) (ci := 2) (v := .int (nI kq)) (C := R_Pa) (T := F_Pa) (N := 3) hx hb htb in_Pa hown hK hP 0 rfl rfl 1 (by decide) (htb _ tw_81) (fun _ h9 => h9) rfl d_Pa_read_76 ?_
    refine lv_if_le (tgt := 86) hx hb d_Pa_read_79 (by decide) (fun hc79 => ?_) (fun hc79 => ?_)
    · skip
      rw [← nI_0, bw_le_nn (by omega) (by omega)] at hc79
      refine lv_iconst (v := nI 0) hx hb d_Pa_read_86 (by decide) ?_
      have hP9 := hP.sub (ws' := [(pa, .inr (2, [.ref le, .int (nI kq), .ref di])), (le, .inl (ky, 8, .inl (nA Wq)))]) [0, 1] rfl
      have hD9 := hD.sub (ws' := [(pa, .inr (2, [.ref le, .int (nI kq), .ref di])), (le, .inl (ky, 8, .inl (nA Wq)))]) [0, 1] (by decide) rfl
      exact W.zret (v := nI 0) hx hb hr (by first | rfl | decide) (fun t ht hW => ⟨⟨nI 0, (kq, Wq), rfl, (by first | exact ⟨Or.inl ⟨rfl, (Pat_end hPp hkb).1 (by omega), fun i hi => (hPp.1 i hi).2⟩, by omega, hWq⟩ | exact ⟨Or.inr ⟨rfl, (Pat_end hPp hkb).2 (by omega)⟩, by omega, hWq⟩), by rw [ht]; exact hP9, hD9⟩, hS.F ht⟩) hS.2.2 d_Pa_read_87
    · skip
      rw [← nI_0, bw_le_nn (by omega) (by omega)] at hc79
      refine lv_iconst (v := nI 1) hx hb d_Pa_read_82 (by decide) ?_
      refine lv_goto (tgt := 87) hx hb d_Pa_read_83 (by decide) ?_
      have hP9 := hP.sub (ws' := [(pa, .inr (2, [.ref le, .int (nI kq), .ref di])), (le, .inl (ky, 8, .inl (nA Wq)))]) [0, 1] rfl
      have hD9 := hD.sub (ws' := [(pa, .inr (2, [.ref le, .int (nI kq), .ref di])), (le, .inl (ky, 8, .inl (nA Wq)))]) [0, 1] (by decide) rfl
      exact W.zret (v := nI 1) hx hb hr (by first | rfl | decide) (fun t ht hW => ⟨⟨nI 1, (kq, Wq), rfl, (by first | exact ⟨Or.inl ⟨rfl, (Pat_end hPp hkb).1 (by omega), fun i hi => (hPp.1 i hi).2⟩, by omega, hWq⟩ | exact ⟨Or.inr ⟨rfl, (Pat_end hPp hkb).2 (by omega)⟩, by omega, hWq⟩), by rw [ht]; exact hP9, hD9⟩, hS.F ht⟩) hS.2.2 d_Pa_read_87
  · skip
    rw [bw_le_nn (by omega) (by omega)] at hc10
    refine lv_lload_n hx hb d_Pa_read_13 rfl (lv_at hl 2 rfl) ?_
    refine lv_iload_n hx hb d_Pa_read_14 rfl (lv_at hl 0 rfl) ?_
    have hPc := hP.sub (ws' := []) [] rfl
    have hDc := hD.sub (ws' := []) [] (by decide) rfl
    have hFc := va_free (wc := []) hD hS hA [] rfl
    refine va_calli (va_runSN (As := [.long (lN w), .int (nI b)]) (rest := []) ⟨hx, hb, hml, hown, hts⟩ (c_Si_codeAt l dC dI ky H.size w b hw (by first | assumption | omega | (simp; done) | (simp_all; done))) ⟨va_cnB 2 hts (W0_good tw_162) rfl rfl rfl hN0 (htb _ tw_23) ⟨by decide, by decide, by decide +kernel⟩ ⟨(Nat.le_of_ble_eq_true rfl), (Nat.le_of_ble_eq_true rfl)⟩, htb _ tw_161, trivial⟩ ⟨fun a U g mk q => by obtain ⟨q0, q1, qP, qK, qD⟩ := q; exact ⟨q0, q1, qP, va_K.moved (u := U) (U := U.calling g mk a) (Vm.Alike.refl U.vm) qK, qD⟩, fun U hU hW => ⟨rfl, by rw [hU], by rw [hU]; exact hPc, va_K.moved hW.alike hK, hDc.weaken (fun _ _ _ _ => trivial)⟩⟩ rfl rfl hl.1 rfl (lv_room (Nat.le_of_ble_eq_true rfl)) d_Pa_read_15 ⟨(Nat.le_of_ble_eq_true rfl), (Nat.le_of_ble_eq_true rfl)⟩) hS (fun q _ h => hFc q h) hFc (fun r15 u_ t H locs ht hvm hw15 hB hz1 hk1 hS => ?_)
    obtain ⟨hP1, hD1⟩ := hB
    rw [ht] at hP1
    obtain ⟨hP, hD⟩ := va_join (wr := [(pa, .inr (2, [.ref le, .int (nI kq), .ref di])), (le, .inl (ky, 8, .inl (nA Wq)))]) (w1 := []) hP hD [] [0, 1] rfl rfl (by decide) (by decide) hk1 hFc hP1 hD1
    have hP : va_P (dC, dI) cls_ [(pa, .inr (2, [.ref le, .int (nI kq), .ref di])), (le, .inl (ky, 8, .inl (nA Wq)))] H := hP
    have hD : va_D A [(pa, .inr (2, [.ref le, .int (nI kq), .ref di])), (le, .inl (ky, 8, .inl (nA Wq)))] := hD
    have hw15 : r15 = nI (by8 w b) ∧ (True) := hw15
    obtain ⟨hre, hq15⟩ := hw15
    subst hre
    refine lv_istore hx hb d_Pa_read_18 hl (by decide) rfl (fun ls hl => ?_)
    have hl : lv_has ls 6 [(4, .int (nI (by8 w b))), (3, .int (nI b)), (0, .ref pa), (1, .long (lN w))] := hl
    refine lv_iload hx hb d_Pa_read_20 (lv_at hl 0 rfl) ?_
    have hb256 := by8_lt w b
    refine lv_if_eq (tgt := 69) hx hb d_Pa_read_22 (by decide) (fun hc22 => ?_) (fun hc22 => ?_)
    · skip
      rw [← nI_0, bw_eq_nn (by omega) (by omega)] at hc22
      refine lv_iinc (v := nI (b + 1)) (k := 1) hx hb d_Pa_read_69 hl rfl (bw_inc b 1) (by decide) rfl (fun ls hl => ?_)
      have hl : lv_has ls 6 [(3, .int (nI (b + 1))), (4, .int (nI (by8 w b))), (0, .ref pa), (1, .long (lN w))] := hl
      refine lv_goto (tgt := 7) hx hb d_Pa_read_72 (by decide) ?_
      exact ih7 ((b + 1), kq, Wq) _ _ _ ⟨(by first | assumption | omega | (simp; done) | (simp_all; done)), (by first | assumption | omega | (simp; done) | (simp_all; done)), (by first | exact PatP_z hPp (by omega) | exact PatP_y hPp hyS (by omega) (by omega)), (by first | assumption | exact hu1), hP, hD, hS, lv_sub hl [0, 2, 3] rfl⟩ (by first | omega | (simp only; omega) | (dsimp only; omega))
    · skip
      rw [← nI_0, bw_eq_nn (by omega) (by omega)] at hc22
      refine lv_iload hx hb d_Pa_read_25 (lv_at hl 0 rfl) ?_
      have hPc := hP.sub (ws' := []) [] rfl
      have hDc := hD.sub (ws' := []) [] (by decide) rfl
      have hFc := va_free (wc := []) hD hS hA [] rfl
      refine va_calli (va_runSN (As := [.int (nI (by8 w b))]) (rest := []) ⟨hx, hb, hml, hown, hts⟩ (c_Si_symbolOf l dC dI ky H.size (by8 w b) (by first | assumption | omega | (simp; done) | (simp_all; done))) ⟨va_cnB 1 hts (W0_good tw_165) rfl rfl rfl hN1 (htb _ tw_23) ⟨by decide, by decide, by decide +kernel⟩ ⟨(Nat.le_of_ble_eq_true rfl), (Nat.le_of_ble_eq_true rfl)⟩, htb _ tw_164, trivial⟩ ⟨fun a U g mk q => by obtain ⟨q0, q1, qP, qK, qD⟩ := q; exact ⟨q0, q1, qP, va_K.moved (u := U) (U := U.calling g mk a) (Vm.Alike.refl U.vm) qK, qD⟩, fun U hU hW => ⟨rfl, by rw [hU], by rw [hU]; exact hPc, va_K.moved hW.alike hK, hDc.weaken (fun _ _ _ _ => trivial)⟩⟩ rfl rfl hl.1 rfl (lv_room (Nat.le_of_ble_eq_true rfl)) d_Pa_read_27 ⟨(Nat.le_of_ble_eq_true rfl), (Nat.le_of_ble_eq_true rfl)⟩) hS (fun q _ h => hFc q h) hFc (fun r27 u_ t H locs ht hvm hw27 hB hz1 hk1 hS => ?_)
      obtain ⟨hP1, hD1⟩ := hB
      rw [ht] at hP1
      obtain ⟨hP, hD⟩ := va_join (wr := [(pa, .inr (2, [.ref le, .int (nI kq), .ref di])), (le, .inl (ky, 8, .inl (nA Wq)))]) (w1 := []) hP hD [] [0, 1] rfl rfl (by decide) (by decide) hk1 hFc hP1 hD1
      have hP : va_P (dC, dI) cls_ [(pa, .inr (2, [.ref le, .int (nI kq), .ref di])), (le, .inl (ky, 8, .inl (nA Wq)))] H := hP
      have hD : va_D A [(pa, .inr (2, [.ref le, .int (nI kq), .ref di])), (le, .inl (ky, 8, .inl (nA Wq)))] := hD
      have hq27 : (isS (by8 w b) ∧ r27 = nI (sno (by8 w b))) ∨ (¬ isS (by8 w b) ∧ r27 = nI 0 - 1) := hw27
      rcases hq27 with ⟨hyS, rfl⟩ | ⟨hnS, rfl⟩
      · skip
        have hsn := (cod_sno hyS).1
        refine lv_istore hx hb d_Pa_read_30 hl (by decide) rfl (fun ls hl => ?_)
        have hl : lv_has ls 6 [(5, .int (nI (sno (by8 w b)))), (4, .int (nI (by8 w b))), (3, .int (nI b)), (0, .ref pa), (1, .long (lN w))] := hl
        refine lv_iload hx hb d_Pa_read_32 (lv_at hl 0 rfl) ?_
        refine lv_iconst (v := nI 2) hx hb d_Pa_read_34 (by decide) ?_
        refine lv_icmp_lt (tgt := 46) hx hb d_Pa_read_35 (by decide) (fun hc35 => ?_) (fun hc35 => ?_)
        · skip
          rw [bw_lt_nn (by omega) (by omega)] at hc35
          refine lv_iconst (v := nI 0) hx hb d_Pa_read_46 (by decide) ?_
          have hP9 := hP.sub (ws' := [(pa, .inr (2, [.ref le, .int (nI kq), .ref di])), (le, .inl (ky, 8, .inl (nA Wq)))]) [0, 1] rfl
          have hD9 := hD.sub (ws' := [(pa, .inr (2, [.ref le, .int (nI kq), .ref di])), (le, .inl (ky, 8, .inl (nA Wq)))]) [0, 1] (by decide) rfl
          exact W.zret (v := nI 0) hx hb hr (by first | rfl | decide) (fun t ht hW => ⟨⟨nI 0, (kq, Wq), rfl, ⟨Or.inr ⟨rfl, Pat_no hPp (by omega) (by omega) (by first | exact Or.inl (sno_nl (by omega)) | exact Or.inl (fun q => hnS (Or.inr (Or.inr q))) | exact Or.inr ⟨by omega, by omega⟩)⟩, by omega, hWq⟩, by rw [ht]; exact hP9, hD9⟩, hS.F ht⟩) hS.2.2 d_Pa_read_47
        · skip
          rw [bw_lt_nn (by omega) (by omega)] at hc35
          refine lv_aload_n hx hb d_Pa_read_38 rfl (lv_at hl 3 rfl) ?_
          refine va_get (D := (dC, dI)) (ci := 2) (v := .int (nI kq)) (C := R_Pa) (T := F_Pa) (N := 3) hx hb htb in_Pa hown hK hP 0 rfl rfl 1 (by decide) (htb _ tw_81) (fun _ h9 => h9) rfl d_Pa_read_39 ?_
          refine lv_iload_n hx hb d_Pa_read_42 rfl (lv_at hl 2 rfl) ?_
          refine lv_icmp_eq (tgt := 48) hx hb d_Pa_read_43 (by decide) (fun hc43 => ?_) (fun hc43 => ?_)
          · skip
            rw [bw_eq_nn (by omega) (by omega)] at hc43
            refine lv_aload_n hx hb d_Pa_read_48 rfl (lv_at hl 3 rfl) ?_
            refine va_get (D := (dC, dI)) (ci := 2) (v := .ref le) (C := R_Pa) (T := F_Pa) (N := 3) hx hb htb in_Pa hown hK hP 0 rfl rfl 0 (by decide) (htb _ tw_79) (fun _ h9 => h9) rfl d_Pa_read_49 ?_
            refine lv_aload_n hx hb d_Pa_read_52 rfl (lv_at hl 3 rfl) ?_
            refine va_get (D := (dC, dI)) (ci := 2) (v := .int (nI kq)) (C := R_Pa) (T := F_Pa) (N := 3) hx hb htb in_Pa hown hK hP 0 rfl rfl 1 (by decide) (htb _ tw_81) (fun _ h9 => h9) rfl d_Pa_read_53 ?_
            refine lv_iload hx hb d_Pa_read_56 (lv_at hl 0 rfl) ?_
            refine va_iast hx hb hK hP hD hS 1 0 rfl rfl (vp_in_nI (by omega) (by decide)) d_Pa_read_58 (fun H locs hP hD hS => ?_)
            rw [nI_clamp (by omega)] at hP hD
            rw [nA_upd] at hP hD
            have hu1 : ∀ k_, (upN Wq kq (sno (by8 w b))) k_ < 28 := upN_lt hWq (by omega)
            have hP : va_P (dC, dI) cls_ [(pa, .inr (2, [.ref le, .int (nI kq), .ref di])), (le, .inl (ky, 8, .inl (nA (upN Wq kq (sno (by8 w b))))))] H := hP
            have hD : va_D A [(pa, .inr (2, [.ref le, .int (nI kq), .ref di])), (le, .inl (ky, 8, .inl (nA (upN Wq kq (sno (by8 w b))))))] := hD
            refine lv_aload_n hx hb d_Pa_read_59 rfl (lv_at hl 3 rfl) ?_
            refine lv_dup hx hb d_Pa_read_60 rfl ?_
            refine va_get (D := (dC, dI)) (ci := 2) (v := .int (nI kq)) (C := R_Pa) (T := F_Pa) (N := 3) hx hb htb in_Pa hown hK hP 0 rfl rfl 1 (by decide) (htb _ tw_81) (fun _ h9 => h9) rfl d_Pa_read_61 ?_
            refine lv_iconst (v := nI 1) hx hb d_Pa_read_64 (by decide) ?_
            refine lv_iadd hx hb d_Pa_read_65 ?_
            rw [nI_add]
            refine va_put (D := (dC, dI)) (ci := 2) (v := .int (nI (kq + 1))) (ty := .int) (C := R_Pa) (T := F_Pa) (N := 3) hx hb htb in_Pa t_Pa tk_Pa nm_Pa hown hK hP hD hS 0 rfl rfl 1 (by decide) (htb _ tw_81) (fun _ h9 => h9) rfl (by decide +kernel) rfl rfl (Nat.le_of_ble_eq_true rfl) d_Pa_read_66 (fun H locs hP hD hS => ?_)
            have hP : va_P (dC, dI) cls_ [(pa, .inr (2, [.ref le, .int (nI (kq + 1)), .ref di])), (le, .inl (ky, 8, .inl (nA (upN Wq kq (sno (by8 w b))))))] H := hP
            have hD : va_D A [(pa, .inr (2, [.ref le, .int (nI (kq + 1)), .ref di])), (le, .inl (ky, 8, .inl (nA (upN Wq kq (sno (by8 w b))))))] := hD
            refine lv_iinc (v := nI (b + 1)) (k := 2) hx hb d_Pa_read_69 hl rfl (bw_inc b 1) (by decide) rfl (fun ls hl => ?_)
            have hl : lv_has ls 6 [(3, .int (nI (b + 1))), (5, .int (nI (sno (by8 w b)))), (4, .int (nI (by8 w b))), (0, .ref pa), (1, .long (lN w))] := hl
            refine lv_goto (tgt := 7) hx hb d_Pa_read_72 (by decide) ?_
            exact ih7 ((b + 1), (kq + 1), (upN Wq kq (sno (by8 w b)))) _ _ _ ⟨(by first | assumption | omega | (simp; done) | (simp_all; done)), (by first | assumption | omega | (simp; done) | (simp_all; done)), (by first | exact PatP_z hPp (by omega) | exact PatP_y hPp hyS (by omega) (by omega)), (by first | assumption | exact hu1), hP, hD, hS, lv_sub hl [0, 3, 4] rfl⟩ (by first | omega | (simp only; omega) | (dsimp only; omega))
          · skip
            rw [bw_eq_nn (by omega) (by omega)] at hc43
            refine lv_iconst (v := nI 0) hx hb d_Pa_read_46 (by decide) ?_
            have hP9 := hP.sub (ws' := [(pa, .inr (2, [.ref le, .int (nI kq), .ref di])), (le, .inl (ky, 8, .inl (nA Wq)))]) [0, 1] rfl
            have hD9 := hD.sub (ws' := [(pa, .inr (2, [.ref le, .int (nI kq), .ref di])), (le, .inl (ky, 8, .inl (nA Wq)))]) [0, 1] (by decide) rfl
            exact W.zret (v := nI 0) hx hb hr (by first | rfl | decide) (fun t ht hW => ⟨⟨nI 0, (kq, Wq), rfl, ⟨Or.inr ⟨rfl, Pat_no hPp (by omega) (by omega) (by first | exact Or.inl (sno_nl (by omega)) | exact Or.inl (fun q => hnS (Or.inr (Or.inr q))) | exact Or.inr ⟨by omega, by omega⟩)⟩, by omega, hWq⟩, by rw [ht]; exact hP9, hD9⟩, hS.F ht⟩) hS.2.2 d_Pa_read_47
      · skip
        refine lv_istore hx hb d_Pa_read_30 hl (by decide) rfl (fun ls hl => ?_)
        have hl : lv_has ls 6 [(5, .int (nI 0 - 1)), (4, .int (nI (by8 w b))), (3, .int (nI b)), (0, .ref pa), (1, .long (lN w))] := hl
        refine lv_iload hx hb d_Pa_read_32 (lv_at hl 0 rfl) ?_
        refine lv_iconst (v := nI 2) hx hb d_Pa_read_34 (by decide) ?_
        refine lv_icmp_lt (tgt := 46) hx hb d_Pa_read_35 (by decide) (fun hc35 => ?_) (fun hc35 => ?_)
        · skip
          rw [bw_lt_pn (by omega) (by omega)] at hc35
          refine lv_iconst (v := nI 0) hx hb d_Pa_read_46 (by decide) ?_
          have hP9 := hP.sub (ws' := [(pa, .inr (2, [.ref le, .int (nI kq), .ref di])), (le, .inl (ky, 8, .inl (nA Wq)))]) [0, 1] rfl
          have hD9 := hD.sub (ws' := [(pa, .inr (2, [.ref le, .int (nI kq), .ref di])), (le, .inl (ky, 8, .inl (nA Wq)))]) [0, 1] (by decide) rfl
          exact W.zret (v := nI 0) hx hb hr (by first | rfl | decide) (fun t ht hW => ⟨⟨nI 0, (kq, Wq), rfl, ⟨Or.inr ⟨rfl, Pat_no hPp (by omega) (by omega) (by first | exact Or.inl (sno_nl (by omega)) | exact Or.inl (fun q => hnS (Or.inr (Or.inr q))) | exact Or.inr ⟨by omega, by omega⟩)⟩, by omega, hWq⟩, by rw [ht]; exact hP9, hD9⟩, hS.F ht⟩) hS.2.2 d_Pa_read_47
        · exact absurd hc35 (by decide)

set_option maxHeartbeats 4000000 in
set_option maxRecDepth 100000 in
theorem c_Pa_restart (l : Launch) (dC : Nat → ClassId) (dI : Nat → Nat → Nat) (ky : ClassId) (sz : Nat) (pa : Nat) (le : Nat) (di : Nat) (pk : Nat) (Dd : Nat → Nat) (hDd : ∀ k_, Dd k_ < 9) (hpk : pk ≤ 8) : Met l y_Pa_restart (Cond.code y_Pa_restart prog_4_method_3_code 2 none :: W0) ({ frames := 0, cells := 0, slots := 0, locals := 0 }) (va_Pc [.ref pa] (fun U => U.heap.size = sz ∧ va_P (dC, dI) cls_ [(pa, .inr (2, [.ref le, .int (nI pk), .ref di])), (di, .inl (ky, 9, .inl (nA Dd)))] U.heap ∧ va_K (dC, dI) cls_ [(ky, .int)] U ∧ va_D (fun _ => True) [(pa, .inr (2, [.ref le, .int (nI pk), .ref di])), (di, .inl (ky, 9, .inl (nA Dd)))])) (va_Qv (fun (Dn : Nat → Nat) => (∀ i, i ≤ pk → Dn i = i) ∧ (∀ k_, Dn k_ < 9)) (fun (Dn : Nat → Nat) (t : State) => va_P (dC, dI) cls_ [(pa, .inr (2, [.ref le, .int (nI pk), .ref di])), (di, .inl (ky, 9, .inl (nA Dn)))] t.heap ∧ va_D (va_A [(pa, .inr (2, [.ref le, .int (nI pk), .ref di])), (di, .inl (ky, 9, .inl (nA Dd)))] sz) [(pa, .inr (2, [.ref le, .int (nI pk), .ref di])), (di, .inl (ky, 9, .inl (nA Dn)))]) (va_A [(pa, .inr (2, [.ref le, .int (nI pk), .ref di])), (di, .inl (ky, 9, .inl (nA Dd)))] sz)) 0 0 (va_A [(pa, .inr (2, [.ref le, .int (nI pk), .ref di])), (di, .inl (ky, 9, .inl (nA Dd)))] sz) := by
  refine Met.ofW (cc := prog_4_method_3_code) (maxL := 2) (ret := none) (by decide) rfl ?_
  intro p e s m args below meth c s₁ B hml hv
  obtain ⟨rfl, hsz, hP, hK, hD0⟩ := hv
  have hx := B.exec
  have hb := B.bytes
  have hr := B.returns
  have hlocks := B.notSynchronized
  have hts := atoms_spec (ws := (Cond.code y_Pa_restart prog_4_method_3_code 2 none :: W0)) B.pre
  have htb : ∀ w ∈ W0, w.before _ s = true := fun w h => hts w (List.mem_cons_of_mem _ h)
  have hown : s.vm.findClass "SelfIndexedSequences$Pattern" = some m.cls := findClass_of_methodNamed B.named
  subst hsz
  have hD := hD0.self (sz := s.heap.size)
  generalize hAe : va_A [(pa, .inr (2, [.ref le, .int (nI pk), .ref di])), (di, .inl (ky, 9, .inl (nA Dd)))] s.heap.size = A at hD ⊢
  have hA : ∀ q : Nat, s.heap.size ≤ q → A q := fun q h => by rw [← hAe]; exact Or.inr h
  have hS : va_S A s.heap s.heap [] := va_S.rf
  have hl := lv_entry ([.ref pa]) (n := 2) (Nat.le_of_ble_eq_true rfl)
  rw [lg_entry_eq]
  generalize (lg_sl ([.ref pa]) ++ List.replicate (2 - (lg_sl ([.ref pa])).length) Slot.unset).toArray = ls at hl ⊢
  have hl : lv_has ls 2 [(0, .ref pa)] := hl
  refine lv_iconst (v := nI 0) hx hb d_Pa_restart_0 (by decide) ?_
  refine lv_istore_n hx hb d_Pa_restart_1 rfl hl (by decide) rfl (fun ls hl => ?_)
  have hl : lv_has ls 2 [(1, .int (nI 0)), (0, .ref pa)] := hl
  refine wl_loop (σ := Nat × (Nat → Nat)) 2 [] (fun (a_ : Nat × (Nat → Nat)) => match a_ with | (j, Dq) => pk + 1 - j) (fun (a_ : Nat × (Nat → Nat)) (H : Heap) (locs : List Loc) (ls : Array Slot) => match a_ with | (j, Dq) => (j ≤ pk + 1) ∧ (∀ i, i < j → Dq i = i) ∧ (∀ k_, Dq k_ < 9) ∧ va_P (dC, dI) cls_ [(pa, .inr (2, [.ref le, .int (nI pk), .ref di])), (di, .inl (ky, 9, .inl (nA Dq)))] H ∧ va_D A [(pa, .inr (2, [.ref le, .int (nI pk), .ref di])), (di, .inl (ky, 9, .inl (nA Dq)))] ∧ va_S A s.heap H locs ∧ lv_has ls 2 [(1, .int (nI j)), (0, .ref pa)]) ?_ (0, Dd) ⟨(by first | assumption | omega | (simp; done) | (simp_all; done)), (fun i hi => by omega), hDd, hP, hD, hS, lv_sub hl [0, 1] rfl⟩
  clear hP hD hS hl
  intro a_ H locs ls hI ih2
  obtain ⟨j, Dq⟩ := a_
  obtain ⟨hj, hjq, hDq, hP, hD, hS, hl⟩ := hI
  have hl : lv_has ls 2 [(1, .int (nI j)), (0, .ref pa)] := hl
  have hP : va_P (dC, dI) cls_ [(pa, .inr (2, [.ref le, .int (nI pk), .ref di])), (di, .inl (ky, 9, .inl (nA Dq)))] H := hP
  have hD : va_D A [(pa, .inr (2, [.ref le, .int (nI pk), .ref di])), (di, .inl (ky, 9, .inl (nA Dq)))] := hD
  have hj : j ≤ pk + 1 := hj
  have hjq : ∀ i, i < j → Dq i = i := hjq
  have hDq : ∀ k_, Dq k_ < 9 := hDq
  refine lv_iload_n hx hb d_Pa_restart_2 rfl (lv_at hl 0 rfl) ?_
  refine lv_aload_n hx hb d_Pa_restart_3 rfl (lv_at hl 1 rfl) ?_
  refine va_get (D := (dC, dI)) (ci := 2) (v := .int (nI pk)) (C := R_Pa) (T := F_Pa) (N := 3) hx hb htb in_Pa hown hK hP 0 rfl rfl 1 (by decide) (htb _ tw_81) (fun _ h9 => h9) rfl d_Pa_restart_4 ?_
  refine lv_icmp_gt (tgt := 23) hx hb d_Pa_restart_7 (by decide) (fun hc7 => ?_) (fun hc7 => ?_)
  · skip
    rw [bw_lt_nn (by omega) (by omega)] at hc7
    have hP9 := hP.sub (ws' := [(pa, .inr (2, [.ref le, .int (nI pk), .ref di])), (di, .inl (ky, 9, .inl (nA Dq)))]) [0, 1] rfl
    have hD9 := hD.sub (ws' := [(pa, .inr (2, [.ref le, .int (nI pk), .ref di])), (di, .inl (ky, 9, .inl (nA Dq)))]) [0, 1] (by decide) rfl
    exact W.vret hx hb hr (fun t ht hW => ⟨⟨Dq, rfl, ⟨fun i hi => hjq i (by omega), hDq⟩, by rw [ht]; exact hP9, hD9⟩, hS.F ht⟩) hS.2.2 d_Pa_restart_23
  · skip
    rw [bw_lt_nn (by omega) (by omega)] at hc7
    refine lv_aload_n hx hb d_Pa_restart_10 rfl (lv_at hl 1 rfl) ?_
    refine va_get (D := (dC, dI)) (ci := 2) (v := .ref di) (C := R_Pa) (T := F_Pa) (N := 3) hx hb htb in_Pa hown hK hP 0 rfl rfl 2 (by decide) (htb _ tw_83) (fun _ h9 => h9) rfl d_Pa_restart_11 ?_
    refine lv_iload_n hx hb d_Pa_restart_14 rfl (lv_at hl 0 rfl) ?_
    refine lv_iload_n hx hb d_Pa_restart_15 rfl (lv_at hl 0 rfl) ?_
    refine va_iast hx hb hK hP hD hS 1 0 rfl rfl (vp_in_nI (by omega) (by decide)) d_Pa_restart_16 (fun H locs hP hD hS => ?_)
    rw [nI_clamp (by omega)] at hP hD
    rw [nA_upd] at hP hD
    have hu1 : ∀ k_, (upN Dq j j) k_ < 9 := upN_lt hDq (by omega)
    have hP : va_P (dC, dI) cls_ [(pa, .inr (2, [.ref le, .int (nI pk), .ref di])), (di, .inl (ky, 9, .inl (nA (upN Dq j j))))] H := hP
    have hD : va_D A [(pa, .inr (2, [.ref le, .int (nI pk), .ref di])), (di, .inl (ky, 9, .inl (nA (upN Dq j j))))] := hD
    refine lv_iinc (v := nI (j + 1)) (k := 0) hx hb d_Pa_restart_17 hl rfl (bw_inc j 1) (by decide) rfl (fun ls hl => ?_)
    have hl : lv_has ls 2 [(1, .int (nI (j + 1))), (0, .ref pa)] := hl
    refine lv_goto (tgt := 2) hx hb d_Pa_restart_20 (by decide) ?_
    exact ih2 ((j + 1), (upN Dq j j)) _ _ _ ⟨(by first | assumption | omega | (simp; done) | (simp_all; done)), (fun i hi => if e : i = j then (by rw [e, upN_s]) else (by rw [upN_o e]; exact hjq i (by omega))), hu1, hP, hD, hS, lv_sub hl [0, 1] rfl⟩ (by first | omega | (simp only; omega) | (dsimp only; omega))

set_option maxHeartbeats 4000000 in
set_option maxRecDepth 100000 in
theorem c_Pa_goOver (l : Launch) (dC : Nat → ClassId) (dI : Nat → Nat → Nat) (ky : ClassId) (sz : Nat) (pa : Nat) (le : Nat) (di : Nat) (pk : Nat) (Wl : Nat → Nat) (Dd : Nat → Nat) (cs : Nat) (hWl : ∀ k_, Wl k_ < 28) (hDd : ∀ k_, Dd k_ < 9) (hpk : pk ≤ 8) (hc : cs < 28) (hD00 : Dd 0 = 0) : Met l y_Pa_goOver (Cond.code y_Pa_goOver prog_4_method_4_code 6 none :: W0) ({ frames := 1, cells := 0, slots := 0, locals := 21 }) (va_Pc [.ref pa, .int (nI cs)] (fun U => U.heap.size = sz ∧ va_P (dC, dI) cls_ [(pa, .inr (2, [.ref le, .int (nI pk), .ref di])), (le, .inl (ky, 8, .inl (nA Wl))), (di, .inl (ky, 9, .inl (nA Dd)))] U.heap ∧ va_K (dC, dI) cls_ [(ky, .int)] U ∧ va_D (fun _ => True) [(pa, .inr (2, [.ref le, .int (nI pk), .ref di])), (le, .inl (ky, 8, .inl (nA Wl))), (di, .inl (ky, 9, .inl (nA Dd)))])) (va_Qv (fun (Dn : Nat → Nat) => (∀ i, i ≤ pk → Dn i = if cs = 1 then i else svr Wl Dd cs i) ∧ (∀ k_, Dn k_ < 9)) (fun (Dn : Nat → Nat) (t : State) => va_P (dC, dI) cls_ [(pa, .inr (2, [.ref le, .int (nI pk), .ref di])), (le, .inl (ky, 8, .inl (nA Wl))), (di, .inl (ky, 9, .inl (nA Dn)))] t.heap ∧ va_D (va_A [(pa, .inr (2, [.ref le, .int (nI pk), .ref di])), (le, .inl (ky, 8, .inl (nA Wl))), (di, .inl (ky, 9, .inl (nA Dd)))] sz) [(pa, .inr (2, [.ref le, .int (nI pk), .ref di])), (le, .inl (ky, 8, .inl (nA Wl))), (di, .inl (ky, 9, .inl (nA Dn)))]) (va_A [(pa, .inr (2, [.ref le, .int (nI pk), .ref di])), (le, .inl (ky, 8, .inl (nA Wl))), (di, .inl (ky, 9, .inl (nA Dd)))] sz)) 0 0 (va_A [(pa, .inr (2, [.ref le, .int (nI pk), .ref di])), (le, .inl (ky, 8, .inl (nA Wl))), (di, .inl (ky, 9, .inl (nA Dd)))] sz) := by
  refine Met.ofW (cc := prog_4_method_4_code) (maxL := 6) (ret := none) (by decide) rfl ?_
  intro p e s m args below meth c s₁ B hml hv
  obtain ⟨rfl, hsz, hP, hK, hD0⟩ := hv
  have hx := B.exec
  have hb := B.bytes
  have hr := B.returns
  have hlocks := B.notSynchronized
  have hts := atoms_spec (ws := (Cond.code y_Pa_goOver prog_4_method_4_code 6 none :: W0)) B.pre
  have htb : ∀ w ∈ W0, w.before _ s = true := fun w h => hts w (List.mem_cons_of_mem _ h)
  have hown : s.vm.findClass "SelfIndexedSequences$Pattern" = some m.cls := findClass_of_methodNamed B.named
  subst hsz
  have hD := hD0.self (sz := s.heap.size)
  generalize hAe : va_A [(pa, .inr (2, [.ref le, .int (nI pk), .ref di])), (le, .inl (ky, 8, .inl (nA Wl))), (di, .inl (ky, 9, .inl (nA Dd)))] s.heap.size = A at hD ⊢
  have hA : ∀ q : Nat, s.heap.size ≤ q → A q := fun q h => by rw [← hAe]; exact Or.inr h
  have hS : va_S A s.heap s.heap [] := va_S.rf
  have hl := lv_entry ([.ref pa, .int (nI cs)]) (n := 6) (Nat.le_of_ble_eq_true rfl)
  rw [lg_entry_eq]
  generalize (lg_sl ([.ref pa, .int (nI cs)]) ++ List.replicate (6 - (lg_sl ([.ref pa, .int (nI cs)])).length) Slot.unset).toArray = ls at hl ⊢
  have hl : lv_has ls 6 [(0, .ref pa), (1, .int (nI cs))] := hl
  refine lv_iload_n hx hb d_Pa_goOver_0 rfl (lv_at hl 1 rfl) ?_
  refine lv_iconst (v := nI 1) hx hb d_Pa_goOver_1 (by decide) ?_
  refine lv_icmp_ne (tgt := 10) hx hb d_Pa_goOver_2 (by decide) (fun hc2 => ?_) (fun hc2 => ?_)
  · skip
    rw [bw_eq_nn (by omega) (by omega)] at hc2
    refine lv_aload_n hx hb d_Pa_goOver_10 rfl (lv_at hl 0 rfl) ?_
    refine va_get (D := (dC, dI)) (ci := 2) (v := .ref di) (C := R_Pa) (T := F_Pa) (N := 3) hx hb htb in_Pa hown hK hP 0 rfl rfl 2 (by decide) (htb _ tw_83) (fun _ h9 => h9) rfl d_Pa_goOver_11 ?_
    refine lv_iconst (v := nI 0) hx hb d_Pa_goOver_14 (by decide) ?_
    refine va_iald hx hb hK hP 2 0 rfl rfl (vp_in_nI (by omega) (by decide)) d_Pa_goOver_15 ?_
    rw [nI_clamp (by omega)]
    have hb15 := hDd 0
    rw [nA_at]
    refine lv_istore_n hx hb d_Pa_goOver_16 rfl hl (by decide) rfl (fun ls hl => ?_)
    have hl : lv_has ls 6 [(2, .int (nI (Dd 0))), (0, .ref pa), (1, .int (nI cs))] := hl
    refine lv_iconst (v := nI 1) hx hb d_Pa_goOver_17 (by decide) ?_
    refine lv_istore_n hx hb d_Pa_goOver_18 rfl hl (by decide) rfl (fun ls hl => ?_)
    have hl : lv_has ls 6 [(3, .int (nI 1)), (2, .int (nI (Dd 0))), (0, .ref pa), (1, .int (nI cs))] := hl
    refine wl_loop (σ := Nat × Nat × (Nat → Nat)) 19 [] (fun (a_ : Nat × Nat × (Nat → Nat)) => match a_ with | (j, dg, Dq) => pk + 1 - j) (fun (a_ : Nat × Nat × (Nat → Nat)) (H : Heap) (locs : List Loc) (ls : Array Slot) => match a_ with | (j, dg, Dq) => (1 ≤ j) ∧ (j ≤ pk + 1) ∧ (dg = Dd (j - 1)) ∧ (∀ i, i < j → Dq i = svr Wl Dd cs i) ∧ (∀ i, j ≤ i → Dq i = Dd i) ∧ (∀ k_, Dq k_ < 9) ∧ va_P (dC, dI) cls_ [(pa, .inr (2, [.ref le, .int (nI pk), .ref di])), (le, .inl (ky, 8, .inl (nA Wl))), (di, .inl (ky, 9, .inl (nA Dq)))] H ∧ va_D A [(pa, .inr (2, [.ref le, .int (nI pk), .ref di])), (le, .inl (ky, 8, .inl (nA Wl))), (di, .inl (ky, 9, .inl (nA Dq)))] ∧ va_S A s.heap H locs ∧ lv_has ls 6 [(3, .int (nI j)), (2, .int (nI dg)), (0, .ref pa), (1, .int (nI cs))]) ?_ (1, (Dd 0), Dd) ⟨(by first | assumption | omega | (simp; done) | (simp_all; done)), (by first | assumption | omega | (simp; done) | (simp_all; done)), rfl, (fun i hi => by rw [show i = 0 by omega]; rfl), (fun i hi => rfl), hDd, hP, hD, hS, lv_sub hl [0, 1, 2, 3] rfl⟩
    clear hP hD hS hl
    intro a_ H locs ls hI ih19
    obtain ⟨j, dg, Dq⟩ := a_
    obtain ⟨hj1, hj, hdg, hlo, hhi, hDq, hP, hD, hS, hl⟩ := hI
    have hl : lv_has ls 6 [(3, .int (nI j)), (2, .int (nI dg)), (0, .ref pa), (1, .int (nI cs))] := hl
    have hP : va_P (dC, dI) cls_ [(pa, .inr (2, [.ref le, .int (nI pk), .ref di])), (le, .inl (ky, 8, .inl (nA Wl))), (di, .inl (ky, 9, .inl (nA Dq)))] H := hP
    have hD : va_D A [(pa, .inr (2, [.ref le, .int (nI pk), .ref di])), (le, .inl (ky, 8, .inl (nA Wl))), (di, .inl (ky, 9, .inl (nA Dq)))] := hD
    have hj1 : 1 ≤ j := hj1
    have hj : j ≤ pk + 1 := hj
    have hdg : dg = Dd (j - 1) := hdg
    have hlo : ∀ i, i < j → Dq i = svr Wl Dd cs i := hlo
    have hhi : ∀ i, j ≤ i → Dq i = Dd i := hhi
    have hDq : ∀ k_, Dq k_ < 9 := hDq
    refine lv_iload_n hx hb d_Pa_goOver_19 rfl (lv_at hl 0 rfl) ?_
    refine lv_aload_n hx hb d_Pa_goOver_20 rfl (lv_at hl 2 rfl) ?_
    refine va_get (D := (dC, dI)) (ci := 2) (v := .int (nI pk)) (C := R_Pa) (T := F_Pa) (N := 3) hx hb htb in_Pa hown hK hP 0 rfl rfl 1 (by decide) (htb _ tw_81) (fun _ h9 => h9) rfl d_Pa_goOver_21 ?_
    refine lv_icmp_gt (tgt := 95) hx hb d_Pa_goOver_24 (by decide) (fun hc24 => ?_) (fun hc24 => ?_)
    · skip
      rw [bw_lt_nn (by omega) (by omega)] at hc24
      have hP9 := hP.sub (ws' := [(pa, .inr (2, [.ref le, .int (nI pk), .ref di])), (le, .inl (ky, 8, .inl (nA Wl))), (di, .inl (ky, 9, .inl (nA Dq)))]) [0, 1, 2] rfl
      have hD9 := hD.sub (ws' := [(pa, .inr (2, [.ref le, .int (nI pk), .ref di])), (le, .inl (ky, 8, .inl (nA Wl))), (di, .inl (ky, 9, .inl (nA Dq)))]) [0, 1, 2] (by decide) rfl
      exact W.vret hx hb hr (fun t ht hW => ⟨⟨Dq, rfl, ⟨fun i hi => by rw [if_neg hc2]; exact hlo i (by omega), hDq⟩, by rw [ht]; exact hP9, hD9⟩, hS.F ht⟩) hS.2.2 d_Pa_goOver_95
    · skip
      rw [bw_lt_nn (by omega) (by omega)] at hc24
      refine lv_iload_n hx hb d_Pa_goOver_27 rfl (lv_at hl 1 rfl) ?_
      refine lv_aload_n hx hb d_Pa_goOver_28 rfl (lv_at hl 2 rfl) ?_
      refine va_get (D := (dC, dI)) (ci := 2) (v := .ref le) (C := R_Pa) (T := F_Pa) (N := 3) hx hb htb in_Pa hown hK hP 0 rfl rfl 0 (by decide) (htb _ tw_79) (fun _ h9 => h9) rfl d_Pa_goOver_29 ?_
      refine lv_iload_n hx hb d_Pa_goOver_32 rfl (lv_at hl 0 rfl) ?_
      refine lv_iconst (v := nI 1) hx hb d_Pa_goOver_33 (by decide) ?_
      refine lv_isub hx hb d_Pa_goOver_34 ?_
      rw [bw_n1 j]
      rw [bw_pn (show 0 < j by omega)]
      refine va_iald hx hb hK hP 1 0 rfl rfl (vp_in_nI (by omega) (by decide)) d_Pa_goOver_35 ?_
      rw [nI_clamp (by omega)]
      have hb35 := hWl (j - 1)
      rw [nA_at]
      refine lv_iload_n hx hb d_Pa_goOver_36 rfl (lv_at hl 3 rfl) ?_
      have hdd := hDd (j - 1)
      refine lv_icmp_ne (tgt := 44) hx hb d_Pa_goOver_37 (by decide) (fun hc37 => ?_) (fun hc37 => ?_)
      · skip
        rw [bw_eq_nn (by omega) (by omega)] at hc37
        refine lv_iconst (v := nI 1) hx hb d_Pa_goOver_44 (by decide) ?_
        refine lv_iadd hx hb d_Pa_goOver_45 ?_
        rw [nI_add]
        refine lv_istore hx hb d_Pa_goOver_46 hl (by decide) rfl (fun ls hl => ?_)
        have hl : lv_has ls 6 [(4, .int (nI (dg + 1))), (3, .int (nI j)), (2, .int (nI dg)), (0, .ref pa), (1, .int (nI cs))] := hl
        refine lv_aload_n hx hb d_Pa_goOver_48 rfl (lv_at hl 3 rfl) ?_
        refine va_get (D := (dC, dI)) (ci := 2) (v := .ref di) (C := R_Pa) (T := F_Pa) (N := 3) hx hb htb in_Pa hown hK hP 0 rfl rfl 2 (by decide) (htb _ tw_83) (fun _ h9 => h9) rfl d_Pa_goOver_49 ?_
        refine lv_iload_n hx hb d_Pa_goOver_52 rfl (lv_at hl 1 rfl) ?_
        refine va_iald hx hb hK hP 2 0 rfl rfl (vp_in_nI (by omega) (by decide)) d_Pa_goOver_53 ?_
        rw [nI_clamp (by omega)]
        have hb53 := hDq j
        rw [nA_at]
        refine lv_aload_n hx hb d_Pa_goOver_54 rfl (lv_at hl 3 rfl) ?_
        refine va_get (D := (dC, dI)) (ci := 2) (v := .ref di) (C := R_Pa) (T := F_Pa) (N := 3) hx hb htb in_Pa hown hK hP 0 rfl rfl 2 (by decide) (htb _ tw_83) (fun _ h9 => h9) rfl d_Pa_goOver_55 ?_
        refine lv_iload_n hx hb d_Pa_goOver_58 rfl (lv_at hl 1 rfl) ?_
        refine lv_iconst (v := nI 1) hx hb d_Pa_goOver_59 (by decide) ?_
        refine lv_isub hx hb d_Pa_goOver_60 ?_
        rw [bw_n1 j]
        rw [bw_pn (show 0 < j by omega)]
        refine va_iald hx hb hK hP 2 0 rfl rfl (vp_in_nI (by omega) (by decide)) d_Pa_goOver_61 ?_
        rw [nI_clamp (by omega)]
        have hb61 := hDq (j - 1)
        rw [nA_at]
        refine va_mmin hx hb (by rw [hml]; exact hl.1.symm) hown (htb _ tw_337) (htb _ tw_338) (htb _ tw_31) (htb _ tw_339) (Nat.le_of_ble_eq_true rfl) (Nat.le_of_ble_eq_true rfl) (Nat.le_of_ble_eq_true rfl) (Nat.le_of_ble_eq_true rfl) d_Pa_goOver_62 ?_
        rw [bw_min (by omega) (by omega)]
        refine lv_iconst (v := nI 1) hx hb d_Pa_goOver_65 (by decide) ?_
        refine lv_iadd hx hb d_Pa_goOver_66 ?_
        rw [nI_add]
        refine lv_istore hx hb d_Pa_goOver_67 hl (by decide) rfl (fun ls hl => ?_)
        have hl : lv_has ls 6 [(5, .int (nI ((min (Dq j) (Dq (j - 1))) + 1))), (4, .int (nI (dg + 1))), (3, .int (nI j)), (2, .int (nI dg)), (0, .ref pa), (1, .int (nI cs))] := hl
        refine lv_aload_n hx hb d_Pa_goOver_69 rfl (lv_at hl 4 rfl) ?_
        refine va_get (D := (dC, dI)) (ci := 2) (v := .ref di) (C := R_Pa) (T := F_Pa) (N := 3) hx hb htb in_Pa hown hK hP 0 rfl rfl 2 (by decide) (htb _ tw_83) (fun _ h9 => h9) rfl d_Pa_goOver_70 ?_
        refine lv_iload_n hx hb d_Pa_goOver_73 rfl (lv_at hl 2 rfl) ?_
        refine va_iald hx hb hK hP 2 0 rfl rfl (vp_in_nI (by omega) (by decide)) d_Pa_goOver_74 ?_
        rw [nI_clamp (by omega)]
        have hb74 := hDq j
        rw [nA_at]
        refine lv_istore_n hx hb d_Pa_goOver_75 rfl hl (by decide) rfl (fun ls hl => ?_)
        have hl : lv_has ls 6 [(2, .int (nI (Dq j))), (5, .int (nI ((min (Dq j) (Dq (j - 1))) + 1))), (4, .int (nI (dg + 1))), (3, .int (nI j)), (0, .ref pa), (1, .int (nI cs))] := hl
        refine lv_aload_n hx hb d_Pa_goOver_76 rfl (lv_at hl 4 rfl) ?_
        refine va_get (D := (dC, dI)) (ci := 2) (v := .ref di) (C := R_Pa) (T := F_Pa) (N := 3) hx hb htb in_Pa hown hK hP 0 rfl rfl 2 (by decide) (htb _ tw_83) (fun _ h9 => h9) rfl d_Pa_goOver_77 ?_
        refine lv_iload_n hx hb d_Pa_goOver_80 rfl (lv_at hl 3 rfl) ?_
        refine lv_iload hx hb d_Pa_goOver_81 (lv_at hl 2 rfl) ?_
        refine lv_iload hx hb d_Pa_goOver_83 (lv_at hl 1 rfl) ?_
        refine va_mmin hx hb (by rw [hml]; exact hl.1.symm) hown (htb _ tw_337) (htb _ tw_338) (htb _ tw_31) (htb _ tw_339) (Nat.le_of_ble_eq_true rfl) (Nat.le_of_ble_eq_true rfl) (Nat.le_of_ble_eq_true rfl) (Nat.le_of_ble_eq_true rfl) d_Pa_goOver_85 ?_
        rw [bw_min (by omega) (by omega)]
        have hsv := sv_step (W := Wl) (D := Dd) (c := cs) hj1 hdg (by first | exact (if_pos hc37).symm | exact (if_neg hc37).symm) (hhi j (Nat.le_refl j)) (hlo (j - 1) (by omega))
        refine va_iast hx hb hK hP hD hS 2 0 rfl rfl (vp_in_nI (by omega) (by decide)) d_Pa_goOver_88 (fun H locs hP hD hS => ?_)
        rw [nI_clamp (by omega)] at hP hD
        rw [nA_upd] at hP hD
        have hu1 : ∀ k_, (upN Dq j (min (dg + 1) ((min (Dq j) (Dq (j - 1))) + 1))) k_ < 9 := upN_lt hDq (by have e9 := svr_le Wl Dd cs hD00 j; rw [← hsv] at e9; omega)
        have hP : va_P (dC, dI) cls_ [(pa, .inr (2, [.ref le, .int (nI pk), .ref di])), (le, .inl (ky, 8, .inl (nA Wl))), (di, .inl (ky, 9, .inl (nA (upN Dq j (min (dg + 1) ((min (Dq j) (Dq (j - 1))) + 1))))))] H := hP
        have hD : va_D A [(pa, .inr (2, [.ref le, .int (nI pk), .ref di])), (le, .inl (ky, 8, .inl (nA Wl))), (di, .inl (ky, 9, .inl (nA (upN Dq j (min (dg + 1) ((min (Dq j) (Dq (j - 1))) + 1))))))] := hD
        refine lv_iinc (v := nI (j + 1)) (k := 3) hx hb d_Pa_goOver_89 hl rfl (bw_inc j 1) (by decide) rfl (fun ls hl => ?_)
        have hl : lv_has ls 6 [(3, .int (nI (j + 1))), (2, .int (nI (Dq j))), (5, .int (nI ((min (Dq j) (Dq (j - 1))) + 1))), (4, .int (nI (dg + 1))), (0, .ref pa), (1, .int (nI cs))] := hl
        refine lv_goto (tgt := 19) hx hb d_Pa_goOver_92 (by decide) ?_
        exact ih19 ((j + 1), (Dq j), (upN Dq j (min (dg + 1) ((min (Dq j) (Dq (j - 1))) + 1)))) _ _ _ ⟨(by first | assumption | omega | (simp; done) | (simp_all; done)), (by first | assumption | omega | (simp; done) | (simp_all; done)), (by rw [Nat.add_sub_cancel]; exact hhi j (Nat.le_refl j)), (fun i hi => if e : i = j then (by rw [e, upN_s]; exact hsv) else (by rw [upN_o e]; exact hlo i (by omega))), (fun i hi => by rw [upN_o (by omega)]; exact hhi i (by omega)), (by first | assumption | omega | (simp; done) | (simp_all; done)), hP, hD, hS, lv_sub hl [0, 1, 4, 5] rfl⟩ (by first | omega | (simp only; omega) | (dsimp only; omega))
      · skip
        rw [bw_eq_nn (by omega) (by omega)] at hc37
        refine lv_iconst (v := nI 0) hx hb d_Pa_goOver_40 (by decide) ?_
        refine lv_goto (tgt := 45) hx hb d_Pa_goOver_41 (by decide) ?_
        refine lv_iadd hx hb d_Pa_goOver_45 ?_
        rw [nI_add]
        refine lv_istore hx hb d_Pa_goOver_46 hl (by decide) rfl (fun ls hl => ?_)
        have hl : lv_has ls 6 [(4, .int (nI (dg + 0))), (3, .int (nI j)), (2, .int (nI dg)), (0, .ref pa), (1, .int (nI cs))] := hl
        refine lv_aload_n hx hb d_Pa_goOver_48 rfl (lv_at hl 3 rfl) ?_
        refine va_get (D := (dC, dI)) (ci := 2) (v := .ref di) (C := R_Pa) (T := F_Pa) (N := 3) hx hb htb in_Pa hown hK hP 0 rfl rfl 2 (by decide) (htb _ tw_83) (fun _ h9 => h9) rfl d_Pa_goOver_49 ?_
        refine lv_iload_n hx hb d_Pa_goOver_52 rfl (lv_at hl 1 rfl) ?_
        refine va_iald hx hb hK hP 2 0 rfl rfl (vp_in_nI (by omega) (by decide)) d_Pa_goOver_53 ?_
        rw [nI_clamp (by omega)]
        have hb53 := hDq j
        rw [nA_at]
        refine lv_aload_n hx hb d_Pa_goOver_54 rfl (lv_at hl 3 rfl) ?_
        refine va_get (D := (dC, dI)) (ci := 2) (v := .ref di) (C := R_Pa) (T := F_Pa) (N := 3) hx hb htb in_Pa hown hK hP 0 rfl rfl 2 (by decide) (htb _ tw_83) (fun _ h9 => h9) rfl d_Pa_goOver_55 ?_
        refine lv_iload_n hx hb d_Pa_goOver_58 rfl (lv_at hl 1 rfl) ?_
        refine lv_iconst (v := nI 1) hx hb d_Pa_goOver_59 (by decide) ?_
        refine lv_isub hx hb d_Pa_goOver_60 ?_
        rw [bw_n1 j]
        rw [bw_pn (show 0 < j by omega)]
        refine va_iald hx hb hK hP 2 0 rfl rfl (vp_in_nI (by omega) (by decide)) d_Pa_goOver_61 ?_
        rw [nI_clamp (by omega)]
        have hb61 := hDq (j - 1)
        rw [nA_at]
        refine va_mmin hx hb (by rw [hml]; exact hl.1.symm) hown (htb _ tw_337) (htb _ tw_338) (htb _ tw_31) (htb _ tw_339) (Nat.le_of_ble_eq_true rfl) (Nat.le_of_ble_eq_true rfl) (Nat.le_of_ble_eq_true rfl) (Nat.le_of_ble_eq_true rfl) d_Pa_goOver_62 ?_
        rw [bw_min (by omega) (by omega)]
        refine lv_iconst (v := nI 1) hx hb d_Pa_goOver_65 (by decide) ?_
        refine lv_iadd hx hb d_Pa_goOver_66 ?_
        rw [nI_add]
        refine lv_istore hx hb d_Pa_goOver_67 hl (by decide) rfl (fun ls hl => ?_)
        have hl : lv_has ls 6 [(5, .int (nI ((min (Dq j) (Dq (j - 1))) + 1))), (4, .int (nI (dg + 0))), (3, .int (nI j)), (2, .int (nI dg)), (0, .ref pa), (1, .int (nI cs))] := hl
        refine lv_aload_n hx hb d_Pa_goOver_69 rfl (lv_at hl 4 rfl) ?_
        refine va_get (D := (dC, dI)) (ci := 2) (v := .ref di) (C := R_Pa) (T := F_Pa) (N := 3) hx hb htb in_Pa hown hK hP 0 rfl rfl 2 (by decide) (htb _ tw_83) (fun _ h9 => h9) rfl d_Pa_goOver_70 ?_
        refine lv_iload_n hx hb d_Pa_goOver_73 rfl (lv_at hl 2 rfl) ?_
        refine va_iald hx hb hK hP 2 0 rfl rfl (vp_in_nI (by omega) (by decide)) d_Pa_goOver_74 ?_
        rw [nI_clamp (by omega)]
        have hb74 := hDq j
        rw [nA_at]
        refine lv_istore_n hx hb d_Pa_goOver_75 rfl hl (by decide) rfl (fun ls hl => ?_)
        have hl : lv_has ls 6 [(2, .int (nI (Dq j))), (5, .int (nI ((min (Dq j) (Dq (j - 1))) + 1))), (4, .int (nI (dg + 0))), (3, .int (nI j)), (0, .ref pa), (1, .int (nI cs))] := hl
        refine lv_aload_n hx hb d_Pa_goOver_76 rfl (lv_at hl 4 rfl) ?_
        refine va_get (D := (dC, dI)) (ci := 2) (v := .ref di) (C := R_Pa) (T := F_Pa) (N := 3) hx hb htb in_Pa hown hK hP 0 rfl rfl 2 (by decide) (htb _ tw_83) (fun _ h9 => h9) rfl d_Pa_goOver_77 ?_
        refine lv_iload_n hx hb d_Pa_goOver_80 rfl (lv_at hl 3 rfl) ?_
        refine lv_iload hx hb d_Pa_goOver_81 (lv_at hl 2 rfl) ?_
        refine lv_iload hx hb d_Pa_goOver_83 (lv_at hl 1 rfl) ?_
        refine va_mmin hx hb (by rw [hml]; exact hl.1.symm) hown (htb _ tw_337) (htb _ tw_338) (htb _ tw_31) (htb _ tw_339) (Nat.le_of_ble_eq_true rfl) (Nat.le_of_ble_eq_true rfl) (Nat.le_of_ble_eq_true rfl) (Nat.le_of_ble_eq_true rfl) d_Pa_goOver_85 ?_
        rw [bw_min (by omega) (by omega)]
        have hsv := sv_step (W := Wl) (D := Dd) (c := cs) hj1 hdg (by first | exact (if_pos hc37).symm | exact (if_neg hc37).symm) (hhi j (Nat.le_refl j)) (hlo (j - 1) (by omega))
        refine va_iast hx hb hK hP hD hS 2 0 rfl rfl (vp_in_nI (by omega) (by decide)) d_Pa_goOver_88 (fun H locs hP hD hS => ?_)
        rw [nI_clamp (by omega)] at hP hD
        rw [nA_upd] at hP hD
        have hu2 : ∀ k_, (upN Dq j (min (dg + 0) ((min (Dq j) (Dq (j - 1))) + 1))) k_ < 9 := upN_lt hDq (by have e9 := svr_le Wl Dd cs hD00 j; rw [← hsv] at e9; omega)
        have hP : va_P (dC, dI) cls_ [(pa, .inr (2, [.ref le, .int (nI pk), .ref di])), (le, .inl (ky, 8, .inl (nA Wl))), (di, .inl (ky, 9, .inl (nA (upN Dq j (min (dg + 0) ((min (Dq j) (Dq (j - 1))) + 1))))))] H := hP
        have hD : va_D A [(pa, .inr (2, [.ref le, .int (nI pk), .ref di])), (le, .inl (ky, 8, .inl (nA Wl))), (di, .inl (ky, 9, .inl (nA (upN Dq j (min (dg + 0) ((min (Dq j) (Dq (j - 1))) + 1))))))] := hD
        refine lv_iinc (v := nI (j + 1)) (k := 3) hx hb d_Pa_goOver_89 hl rfl (bw_inc j 1) (by decide) rfl (fun ls hl => ?_)
        have hl : lv_has ls 6 [(3, .int (nI (j + 1))), (2, .int (nI (Dq j))), (5, .int (nI ((min (Dq j) (Dq (j - 1))) + 1))), (4, .int (nI (dg + 0))), (0, .ref pa), (1, .int (nI cs))] := hl
        refine lv_goto (tgt := 19) hx hb d_Pa_goOver_92 (by decide) ?_
        exact ih19 ((j + 1), (Dq j), (upN Dq j (min (dg + 0) ((min (Dq j) (Dq (j - 1))) + 1)))) _ _ _ ⟨(by first | assumption | omega | (simp; done) | (simp_all; done)), (by first | assumption | omega | (simp; done) | (simp_all; done)), (by rw [Nat.add_sub_cancel]; exact hhi j (Nat.le_refl j)), (fun i hi => if e : i = j then (by rw [e, upN_s]; exact hsv) else (by rw [upN_o e]; exact hlo i (by omega))), (fun i hi => by rw [upN_o (by omega)]; exact hhi i (by omega)), (by first | assumption | omega | (simp; done) | (simp_all; done)), hP, hD, hS, lv_sub hl [0, 1, 4, 5] rfl⟩ (by first | omega | (simp only; omega) | (dsimp only; omega))
  · skip
    rw [bw_eq_nn (by omega) (by omega)] at hc2
    refine lv_aload_n hx hb d_Pa_goOver_5 rfl (lv_at hl 0 rfl) ?_
    have hPc := hP.sub (ws' := [(pa, .inr (2, [.ref le, .int (nI pk), .ref di])), (di, .inl (ky, 9, .inl (nA Dd)))]) [0, 2] rfl
    have hDc := hD.sub (ws' := [(pa, .inr (2, [.ref le, .int (nI pk), .ref di])), (di, .inl (ky, 9, .inl (nA Dd)))]) [0, 2] (by decide) rfl
    have hFc := va_free (wc := [(pa, .inr (2, [.ref le, .int (nI pk), .ref di])), (di, .inl (ky, 9, .inl (nA Dd)))]) hD hS hA [0, 2] rfl
    refine va_callv (va_runV (C := "SelfIndexedSequences$Pattern") (As := []) (rest := []) ⟨hx, hb, hml, hown, hts⟩ (c_Pa_restart l dC dI ky s.heap.size pa le di pk Dd hDd (by first | assumption | omega | (simp; done) | (simp_all; done))) ⟨callB_of 0 hts (W0_good tw_331) rfl rfl rfl (htb _ tw_25) (htb _ tw_336) ⟨by decide, by decide, by decide +kernel⟩ ⟨(Nat.le_of_ble_eq_true rfl), (Nat.le_of_ble_eq_true rfl)⟩, htb _ tw_329, htb _ tw_330⟩ ⟨fun a U g mk q => by obtain ⟨q0, q1, qP, qK, qD⟩ := q; exact ⟨q0, q1, qP, va_K.moved (u := U) (U := U.calling g mk a) (Vm.Alike.refl U.vm) qK, qD⟩, va_recv hK hPc (q0 := 0) (q := (R_Pa, F_Pa, 3)) rfl rfl, fun U hU hW => ⟨rfl, by rw [hU], by rw [hU]; exact hPc, va_K.moved hW.alike hK, hDc.weaken (fun _ _ _ _ => trivial)⟩⟩ rfl rfl hl.1 rfl (lv_room (Nat.le_of_ble_eq_true rfl)) d_Pa_goOver_6 ⟨(Nat.le_of_ble_eq_true rfl), (Nat.le_of_ble_eq_true rfl)⟩) hS (fun q _ h => hFc q h) hFc (fun Dn_6 t H locs ht hvm hw6 hB hz1 hk1 hS => ?_)
    obtain ⟨hP1, hD1⟩ := hB
    rw [ht] at hP1
    obtain ⟨hP, hD⟩ := va_join (wr := [(le, .inl (ky, 8, .inl (nA Wl)))]) (w1 := [(pa, .inr (2, [.ref le, .int (nI pk), .ref di])), (di, .inl (ky, 9, .inl (nA Dn_6)))]) hP hD [0, 2] [1] rfl rfl (by decide) (by decide) hk1 hFc hP1 hD1
    have hP : va_P (dC, dI) cls_ [(le, .inl (ky, 8, .inl (nA Wl))), (pa, .inr (2, [.ref le, .int (nI pk), .ref di])), (di, .inl (ky, 9, .inl (nA Dn_6)))] H := hP
    have hD : va_D A [(le, .inl (ky, 8, .inl (nA Wl))), (pa, .inr (2, [.ref le, .int (nI pk), .ref di])), (di, .inl (ky, 9, .inl (nA Dn_6)))] := hD
    have hq6 : (∀ i, i ≤ pk → Dn_6 i = i) ∧ (∀ k_, Dn_6 k_ < 9) := hw6
    have hP9 := hP.sub (ws' := [(pa, .inr (2, [.ref le, .int (nI pk), .ref di])), (le, .inl (ky, 8, .inl (nA Wl))), (di, .inl (ky, 9, .inl (nA Dn_6)))]) [1, 0, 2] rfl
    have hD9 := hD.sub (ws' := [(pa, .inr (2, [.ref le, .int (nI pk), .ref di])), (le, .inl (ky, 8, .inl (nA Wl))), (di, .inl (ky, 9, .inl (nA Dn_6)))]) [1, 0, 2] (by decide) rfl
    exact W.vret hx hb hr (fun t ht hW => ⟨⟨Dn_6, rfl, ⟨fun i hi => by rw [if_pos hc2]; exact hq6.1 i hi, hq6.2⟩, by rw [ht]; exact hP9, hD9⟩, hS.F ht⟩) hS.2.2 d_Pa_goOver_9

set_option maxHeartbeats 4000000 in
set_option maxRecDepth 100000 in
theorem c_Pa_distance (l : Launch) (dC : Nat → ClassId) (dI : Nat → Nat → Nat) (ky : ClassId) (sz : Nat) (pa : Nat) (le : Nat) (di : Nat) (pk : Nat) (Dd : Nat → Nat) (hDd : ∀ k_, Dd k_ < 9) (hpk : pk ≤ 8) : Met l y_Pa_distance (Cond.code y_Pa_distance prog_4_method_5_code 1 (some .int) :: W0) ({ frames := 0, cells := 0, slots := 0, locals := 0 }) (va_Pc [.ref pa] (fun U => U.heap.size = sz ∧ va_P (dC, dI) cls_ [(pa, .inr (2, [.ref le, .int (nI pk), .ref di])), (di, .inl (ky, 9, .inl (nA Dd)))] U.heap ∧ va_K (dC, dI) cls_ [(ky, .int)] U ∧ va_D (fun _ => True) [(pa, .inr (2, [.ref le, .int (nI pk), .ref di])), (di, .inl (ky, 9, .inl (nA Dd)))])) (va_Qi (fun (r : Int32) (_ : Unit) => r = nI (Dd pk) ∧ (True)) (fun (_ : Unit) (t : State) => va_P (dC, dI) cls_ [(pa, .inr (2, [.ref le, .int (nI pk), .ref di])), (di, .inl (ky, 9, .inl (nA Dd)))] t.heap ∧ va_D (va_A [(pa, .inr (2, [.ref le, .int (nI pk), .ref di])), (di, .inl (ky, 9, .inl (nA Dd)))] sz) [(pa, .inr (2, [.ref le, .int (nI pk), .ref di])), (di, .inl (ky, 9, .inl (nA Dd)))]) (va_A [(pa, .inr (2, [.ref le, .int (nI pk), .ref di])), (di, .inl (ky, 9, .inl (nA Dd)))] sz)) 0 0 (va_A [(pa, .inr (2, [.ref le, .int (nI pk), .ref di])), (di, .inl (ky, 9, .inl (nA Dd)))] sz) := by
  refine Met.ofW (cc := prog_4_method_5_code) (maxL := 1) (ret := (some .int)) (by decide) rfl ?_
  intro p e s m args below meth c s₁ B hml hv
  obtain ⟨rfl, hsz, hP, hK, hD0⟩ := hv
  have hx := B.exec
  have hb := B.bytes
  have hr := B.returns
  have hlocks := B.notSynchronized
  have hts := atoms_spec (ws := (Cond.code y_Pa_distance prog_4_method_5_code 1 (some .int) :: W0)) B.pre
  have htb : ∀ w ∈ W0, w.before _ s = true := fun w h => hts w (List.mem_cons_of_mem _ h)
  have hown : s.vm.findClass "SelfIndexedSequences$Pattern" = some m.cls := findClass_of_methodNamed B.named
  subst hsz
  have hD := hD0.self (sz := s.heap.size)
  generalize hAe : va_A [(pa, .inr (2, [.ref le, .int (nI pk), .ref di])), (di, .inl (ky, 9, .inl (nA Dd)))] s.heap.size = A at hD ⊢
  have hA : ∀ q : Nat, s.heap.size ≤ q → A q := fun q h => by rw [← hAe]; exact Or.inr h
  have hS : va_S A s.heap s.heap [] := va_S.rf
  have hl := lv_entry ([.ref pa]) (n := 1) (Nat.le_of_ble_eq_true rfl)
  rw [lg_entry_eq]
  generalize (lg_sl ([.ref pa]) ++ List.replicate (1 - (lg_sl ([.ref pa])).length) Slot.unset).toArray = ls at hl ⊢
  have hl : lv_has ls 1 [(0, .ref pa)] := hl
  refine lv_aload_n hx hb d_Pa_distance_0 rfl (lv_at hl 0 rfl) ?_
  refine va_get (D := (dC, dI)) (ci := 2) (v := .ref di) (C := R_Pa) (T := F_Pa) (N := 3) hx hb htb in_Pa hown hK hP 0 rfl rfl 2 (by decide) (htb _ tw_83) (fun _ h9 => h9) rfl d_Pa_distance_1 ?_
  refine lv_aload_n hx hb d_Pa_distance_4 rfl (lv_at hl 0 rfl) ?_
  refine va_get (D := (dC, dI)) (ci := 2) (v := .int (nI pk)) (C := R_Pa) (T := F_Pa) (N := 3) hx hb htb in_Pa hown hK hP 0 rfl rfl 1 (by decide) (htb _ tw_81) (fun _ h9 => h9) rfl d_Pa_distance_5 ?_
  refine va_iald hx hb hK hP 1 0 rfl rfl (vp_in_nI (by omega) (by decide)) d_Pa_distance_8 ?_
  rw [nI_clamp (by omega)]
  have hb8 := hDd pk
  rw [nA_at]
  have hP9 := hP.sub (ws' := [(pa, .inr (2, [.ref le, .int (nI pk), .ref di])), (di, .inl (ky, 9, .inl (nA Dd)))]) [0, 1] rfl
  have hD9 := hD.sub (ws' := [(pa, .inr (2, [.ref le, .int (nI pk), .ref di])), (di, .inl (ky, 9, .inl (nA Dd)))]) [0, 1] (by decide) rfl
  exact W.iret (v := nI (Dd pk)) hx hb hr (fun t ht hW => ⟨⟨nI (Dd pk), (), rfl, ⟨(by first | rfl | (congr 1; omega) | (simp; done)), (by first | trivial | assumption | omega)⟩, by rw [ht]; exact hP9, hD9⟩, hS.F ht⟩) hS.2.2 d_Pa_distance_9
