set_option maxHeartbeats 4000000 in
set_option maxRecDepth 100000 in
theorem c_Si_scrap (l : Launch) (dC : Nat → ClassId) (dI : Nat → Nat → Nat) (ky : ClassId) (sz : Nat) (si : Nat) (dr : Nat) (d : Nat) (ta : Nat) (tr : Nat) (pl : Nat) (pa : Nat) (fs : Nat) : Met l y_Si_scrap (Cond.code y_Si_scrap prog_1_method_3_code 1 none :: W0) ({ frames := 0, cells := 0, slots := 0, locals := 0 }) (va_Pc [.ref si] (fun U => U.heap.size = sz ∧ va_P (dC, dI) cls_ [(si, .inr (4, [.ref dr, .int (nI d), .ref ta, .ref tr, .ref pl, .ref pa, .ref fs]))] U.heap ∧ va_K (dC, dI) cls_ [(ky, .int)] U ∧ va_D (fun _ => True) [(si, .inr (4, [.ref dr, .int (nI d), .ref ta, .ref tr, .ref pl, .ref pa, .ref fs]))])) (va_Qv (fun (_ : Unit) => True) (fun (_ : Unit) (t : State) => va_P (dC, dI) cls_ [(si, .inr (4, [.ref dr, .int (nI 0), .ref ta, .ref tr, .ref pl, .ref pa, .ref fs]))] t.heap ∧ va_D (va_A [(si, .inr (4, [.ref dr, .int (nI d), .ref ta, .ref tr, .ref pl, .ref pa, .ref fs]))] sz) [(si, .inr (4, [.ref dr, .int (nI 0), .ref ta, .ref tr, .ref pl, .ref pa, .ref fs]))]) (va_A [(si, .inr (4, [.ref dr, .int (nI d), .ref ta, .ref tr, .ref pl, .ref pa, .ref fs]))] sz)) 0 0 (va_A [(si, .inr (4, [.ref dr, .int (nI d), .ref ta, .ref tr, .ref pl, .ref pa, .ref fs]))] sz) := by
  refine Met.ofW (cc := prog_1_method_3_code) (maxL := 1) (ret := none) (by decide) rfl ?_
  intro p e s m args below meth c s₁ B hml hv
  obtain ⟨rfl, hsz, hP, hK, hD0⟩ := hv
  have hx := B.exec
  have hb := B.bytes
  have hr := B.returns
  have hlocks := B.notSynchronized
  have hts := atoms_spec (ws := (Cond.code y_Si_scrap prog_1_method_3_code 1 none :: W0)) B.pre
  have htb : ∀ w ∈ W0, w.before _ s = true := fun w h => hts w (List.mem_cons_of_mem _ h)
  have hown : s.vm.findClass "SelfIndexedSequences" = some m.cls := findClass_of_methodNamed B.named
  subst hsz
  have hD := hD0.self (sz := s.heap.size)
  generalize hAe : va_A [(si, .inr (4, [.ref dr, .int (nI d), .ref ta, .ref tr, .ref pl, .ref pa, .ref fs]))] s.heap.size = A at hD ⊢
  have hA : ∀ q : Nat, s.heap.size ≤ q → A q := fun q h => by rw [← hAe]; exact Or.inr h
  have hS : va_S A s.heap s.heap [] := va_S.rf
  have hl := lv_entry ([.ref si]) (n := 1) (Nat.le_of_ble_eq_true rfl)
  rw [lg_entry_eq]
  generalize (lg_sl ([.ref si]) ++ List.replicate (1 - (lg_sl ([.ref si])).length) Slot.unset).toArray = ls at hl ⊢
  have hl : lv_has ls 1 [(0, .ref si)] := hl
  refine lv_aload_n hx hb d_Si_scrap_0 rfl (lv_at hl 0 rfl) ?_
  refine lv_iconst (v := nI 0) hx hb d_Si_scrap_1 (by decide) ?_
  refine va_put (D := (dC, dI)) (ci := 4) (v := .int (nI 0)) (ty := .int) (C := R_Si) (T := F_Si) (N := 7) hx hb htb in_Si t_Si tk_Si nm_Si hown hK hP hD hS 0 rfl rfl 1 (by decide) (htb _ tw_135) (fun _ h9 => h9) rfl (by decide +kernel) rfl rfl (Nat.le_of_ble_eq_true rfl) d_Si_scrap_2 (fun H locs hP hD hS => ?_)
  have hP : va_P (dC, dI) cls_ [(si, .inr (4, [.ref dr, .int (nI 0), .ref ta, .ref tr, .ref pl, .ref pa, .ref fs]))] H := hP
  have hD : va_D A [(si, .inr (4, [.ref dr, .int (nI 0), .ref ta, .ref tr, .ref pl, .ref pa, .ref fs]))] := hD
  have hP9 := hP.sub (ws' := [(si, .inr (4, [.ref dr, .int (nI 0), .ref ta, .ref tr, .ref pl, .ref pa, .ref fs]))]) [0] rfl
  have hD9 := hD.sub (ws' := [(si, .inr (4, [.ref dr, .int (nI 0), .ref ta, .ref tr, .ref pl, .ref pa, .ref fs]))]) [0] (by decide) rfl
  exact W.vret hx hb hr (fun t ht hW => ⟨⟨(), rfl, (by first | trivial | assumption | omega), by rw [ht]; exact hP9, hD9⟩, hS.F ht⟩) hS.2.2 d_Si_scrap_5

set_option maxHeartbeats 4000000 in
set_option maxRecDepth 100000 in
theorem c_Si_size (l : Launch) (dC : Nat → ClassId) (dI : Nat → Nat → Nat) (ky : ClassId) (sz : Nat) (si : Nat) (dr : Nat) (d : Nat) (ta : Nat) (tr : Nat) (pl : Nat) (pa : Nat) (fs : Nat) (sy : Nat) (fi : Nat) (ba : Nat) (n : Nat) (lo : Int32) (hi : Int32) : Met l y_Si_size (Cond.code y_Si_size prog_1_method_6_code 1 (some .int) :: W0) ({ frames := 0, cells := 0, slots := 0, locals := 0 }) (va_Pc [.ref si] (fun U => U.heap.size = sz ∧ va_P (dC, dI) cls_ [(si, .inr (4, [.ref dr, .int (nI d), .ref ta, .ref tr, .ref pl, .ref pa, .ref fs])), (ta, .inr (1, [.ref sy, .int (nI n), .ref fi, .ref ba, .int (lo), .int (hi)]))] U.heap ∧ va_K (dC, dI) cls_ [(ky, .int)] U ∧ va_D (fun _ => True) [(si, .inr (4, [.ref dr, .int (nI d), .ref ta, .ref tr, .ref pl, .ref pa, .ref fs])), (ta, .inr (1, [.ref sy, .int (nI n), .ref fi, .ref ba, .int (lo), .int (hi)]))])) (va_Qi (fun (r : Int32) (_ : Unit) => r = nI n ∧ (True)) (fun (_ : Unit) (t : State) => va_P (dC, dI) cls_ [(si, .inr (4, [.ref dr, .int (nI d), .ref ta, .ref tr, .ref pl, .ref pa, .ref fs])), (ta, .inr (1, [.ref sy, .int (nI n), .ref fi, .ref ba, .int (lo), .int (hi)]))] t.heap ∧ va_D (va_A [(si, .inr (4, [.ref dr, .int (nI d), .ref ta, .ref tr, .ref pl, .ref pa, .ref fs])), (ta, .inr (1, [.ref sy, .int (nI n), .ref fi, .ref ba, .int (lo), .int (hi)]))] sz) [(si, .inr (4, [.ref dr, .int (nI d), .ref ta, .ref tr, .ref pl, .ref pa, .ref fs])), (ta, .inr (1, [.ref sy, .int (nI n), .ref fi, .ref ba, .int (lo), .int (hi)]))]) (va_A [(si, .inr (4, [.ref dr, .int (nI d), .ref ta, .ref tr, .ref pl, .ref pa, .ref fs])), (ta, .inr (1, [.ref sy, .int (nI n), .ref fi, .ref ba, .int (lo), .int (hi)]))] sz)) 0 0 (va_A [(si, .inr (4, [.ref dr, .int (nI d), .ref ta, .ref tr, .ref pl, .ref pa, .ref fs])), (ta, .inr (1, [.ref sy, .int (nI n), .ref fi, .ref ba, .int (lo), .int (hi)]))] sz) := by
  refine Met.ofW (cc := prog_1_method_6_code) (maxL := 1) (ret := (some .int)) (by decide) rfl ?_
  intro p e s m args below meth c s₁ B hml hv
  obtain ⟨rfl, hsz, hP, hK, hD0⟩ := hv
  have hx := B.exec
  have hb := B.bytes
  have hr := B.returns
  have hlocks := B.notSynchronized
  have hts := atoms_spec (ws := (Cond.code y_Si_size prog_1_method_6_code 1 (some .int) :: W0)) B.pre
  have htb : ∀ w ∈ W0, w.before _ s = true := fun w h => hts w (List.mem_cons_of_mem _ h)
  have hown : s.vm.findClass "SelfIndexedSequences" = some m.cls := findClass_of_methodNamed B.named
  subst hsz
  have hD := hD0.self (sz := s.heap.size)
  generalize hAe : va_A [(si, .inr (4, [.ref dr, .int (nI d), .ref ta, .ref tr, .ref pl, .ref pa, .ref fs])), (ta, .inr (1, [.ref sy, .int (nI n), .ref fi, .ref ba, .int (lo), .int (hi)]))] s.heap.size = A at hD ⊢
  have hA : ∀ q : Nat, s.heap.size ≤ q → A q := fun q h => by rw [← hAe]; exact Or.inr h
  have hS : va_S A s.heap s.heap [] := va_S.rf
  have hl := lv_entry ([.ref si]) (n := 1) (Nat.le_of_ble_eq_true rfl)
  rw [lg_entry_eq]
  generalize (lg_sl ([.ref si]) ++ List.replicate (1 - (lg_sl ([.ref si])).length) Slot.unset).toArray = ls at hl ⊢
  have hl : lv_has ls 1 [(0, .ref si)] := hl
  refine lv_aload_n hx hb d_Si_size_0 rfl (lv_at hl 0 rfl) ?_
  refine va_get (D := (dC, dI)) (ci := 4) (v := .ref ta) (C := R_Si) (T := F_Si) (N := 7) hx hb htb in_Si hown hK hP 0 rfl rfl 2 (by decide) (htb _ tw_136) (fun _ h9 => h9) rfl d_Si_size_1 ?_
  refine va_get (D := (dC, dI)) (ci := 1) (v := .int (nI n)) (C := R_Im) (T := F_Im) (N := 6) hx hb htb in_Im hown hK hP 1 rfl rfl 1 (by decide) (htb _ tw_51) (fun _ h9 => h9) rfl d_Si_size_4 ?_
  have hP9 := hP.sub (ws' := [(si, .inr (4, [.ref dr, .int (nI d), .ref ta, .ref tr, .ref pl, .ref pa, .ref fs])), (ta, .inr (1, [.ref sy, .int (nI n), .ref fi, .ref ba, .int (lo), .int (hi)]))]) [0, 1] rfl
  have hD9 := hD.sub (ws' := [(si, .inr (4, [.ref dr, .int (nI d), .ref ta, .ref tr, .ref pl, .ref pa, .ref fs])), (ta, .inr (1, [.ref sy, .int (nI n), .ref fi, .ref ba, .int (lo), .int (hi)]))]) [0, 1] (by decide) rfl
  exact W.iret (v := nI n) hx hb hr (fun t ht hW => ⟨⟨nI n, (), rfl, ⟨(by first | rfl | (congr 1; omega) | (simp; done)), (by first | trivial | assumption | omega)⟩, by rw [ht]; exact hP9, hD9⟩, hS.F ht⟩) hS.2.2 d_Si_size_7

set_option maxHeartbeats 4000000 in
set_option maxRecDepth 100000 in
theorem c_Si_sequences (l : Launch) (dC : Nat → ClassId) (dI : Nat → Nat → Nat) (ky : ClassId) (sz : Nat) (si : Nat) (dr : Nat) (d : Nat) (ta : Nat) (tr : Nat) (pl : Nat) (pa : Nat) (fs : Nat) (sp : Nat) (ah : Nat) (ke : Nat) (kr : Nat) (sa : Nat) (sq : Nat) : Met l y_Si_sequences (Cond.code y_Si_sequences prog_1_method_11_code 1 (some .int) :: W0) ({ frames := 0, cells := 0, slots := 0, locals := 0 }) (va_Pc [.ref si] (fun U => U.heap.size = sz ∧ va_P (dC, dI) cls_ [(si, .inr (4, [.ref dr, .int (nI d), .ref ta, .ref tr, .ref pl, .ref pa, .ref fs])), (pl, .inr (3, [.int (nI sp), .ref ah, .ref ke, .ref kr, .ref sa, .int (nI sq)]))] U.heap ∧ va_K (dC, dI) cls_ [(ky, .int)] U ∧ va_D (fun _ => True) [(si, .inr (4, [.ref dr, .int (nI d), .ref ta, .ref tr, .ref pl, .ref pa, .ref fs])), (pl, .inr (3, [.int (nI sp), .ref ah, .ref ke, .ref kr, .ref sa, .int (nI sq)]))])) (va_Qi (fun (r : Int32) (_ : Unit) => r = nI sq ∧ (True)) (fun (_ : Unit) (t : State) => va_P (dC, dI) cls_ [(si, .inr (4, [.ref dr, .int (nI d), .ref ta, .ref tr, .ref pl, .ref pa, .ref fs])), (pl, .inr (3, [.int (nI sp), .ref ah, .ref ke, .ref kr, .ref sa, .int (nI sq)]))] t.heap ∧ va_D (va_A [(si, .inr (4, [.ref dr, .int (nI d), .ref ta, .ref tr, .ref pl, .ref pa, .ref fs])), (pl, .inr (3, [.int (nI sp), .ref ah, .ref ke, .ref kr, .ref sa, .int (nI sq)]))] sz) [(si, .inr (4, [.ref dr, .int (nI d), .ref ta, .ref tr, .ref pl, .ref pa, .ref fs])), (pl, .inr (3, [.int (nI sp), .ref ah, .ref ke, .ref kr, .ref sa, .int (nI sq)]))]) (va_A [(si, .inr (4, [.ref dr, .int (nI d), .ref ta, .ref tr, .ref pl, .ref pa, .ref fs])), (pl, .inr (3, [.int (nI sp), .ref ah, .ref ke, .ref kr, .ref sa, .int (nI sq)]))] sz)) 0 0 (va_A [(si, .inr (4, [.ref dr, .int (nI d), .ref ta, .ref tr, .ref pl, .ref pa, .ref fs])), (pl, .inr (3, [.int (nI sp), .ref ah, .ref ke, .ref kr, .ref sa, .int (nI sq)]))] sz) := by
  refine Met.ofW (cc := prog_1_method_11_code) (maxL := 1) (ret := (some .int)) (by decide) rfl ?_
  intro p e s m args below meth c s₁ B hml hv
  obtain ⟨rfl, hsz, hP, hK, hD0⟩ := hv
  have hx := B.exec
  have hb := B.bytes
  have hr := B.returns
  have hlocks := B.notSynchronized
  have hts := atoms_spec (ws := (Cond.code y_Si_sequences prog_1_method_11_code 1 (some .int) :: W0)) B.pre
  have htb : ∀ w ∈ W0, w.before _ s = true := fun w h => hts w (List.mem_cons_of_mem _ h)
  have hown : s.vm.findClass "SelfIndexedSequences" = some m.cls := findClass_of_methodNamed B.named
  subst hsz
  have hD := hD0.self (sz := s.heap.size)
  generalize hAe : va_A [(si, .inr (4, [.ref dr, .int (nI d), .ref ta, .ref tr, .ref pl, .ref pa, .ref fs])), (pl, .inr (3, [.int (nI sp), .ref ah, .ref ke, .ref kr, .ref sa, .int (nI sq)]))] s.heap.size = A at hD ⊢
  have hA : ∀ q : Nat, s.heap.size ≤ q → A q := fun q h => by rw [← hAe]; exact Or.inr h
  have hS : va_S A s.heap s.heap [] := va_S.rf
  have hl := lv_entry ([.ref si]) (n := 1) (Nat.le_of_ble_eq_true rfl)
  rw [lg_entry_eq]
  generalize (lg_sl ([.ref si]) ++ List.replicate (1 - (lg_sl ([.ref si])).length) Slot.unset).toArray = ls at hl ⊢
  have hl : lv_has ls 1 [(0, .ref si)] := hl
  refine lv_aload_n hx hb d_Si_sequences_0 rfl (lv_at hl 0 rfl) ?_
  refine va_get (D := (dC, dI)) (ci := 4) (v := .ref pl) (C := R_Si) (T := F_Si) (N := 7) hx hb htb in_Si hown hK hP 0 rfl rfl 4 (by decide) (htb _ tw_138) (fun _ h9 => h9) rfl d_Si_sequences_1 ?_
  refine va_get (D := (dC, dI)) (ci := 3) (v := .int (nI sq)) (C := R_Pl) (T := F_Pl) (N := 6) hx hb htb in_Pl hown hK hP 1 rfl rfl 5 (by decide) (htb _ tw_120) (fun _ h9 => h9) rfl d_Si_sequences_4 ?_
  have hP9 := hP.sub (ws' := [(si, .inr (4, [.ref dr, .int (nI d), .ref ta, .ref tr, .ref pl, .ref pa, .ref fs])), (pl, .inr (3, [.int (nI sp), .ref ah, .ref ke, .ref kr, .ref sa, .int (nI sq)]))]) [0, 1] rfl
  have hD9 := hD.sub (ws' := [(si, .inr (4, [.ref dr, .int (nI d), .ref ta, .ref tr, .ref pl, .ref pa, .ref fs])), (pl, .inr (3, [.int (nI sp), .ref ah, .ref ke, .ref kr, .ref sa, .int (nI sq)]))]) [0, 1] (by decide) rfl
  exact W.iret (v := nI sq) hx hb hr (fun t ht hW => ⟨⟨nI sq, (), rfl, ⟨(by first | rfl | (congr 1; omega) | (simp; done)), (by first | trivial | assumption | omega)⟩, by rw [ht]; exact hP9, hD9⟩, hS.F ht⟩) hS.2.2 d_Si_sequences_7

set_option maxHeartbeats 4000000 in
set_option maxRecDepth 100000 in
theorem c_Si_draftHasEnd (l : Launch) (dC : Nat → ClassId) (dI : Nat → Nat → Nat) (ky : ClassId) (sz : Nat) (si : Nat) (dr : Nat) (d : Nat) (ta : Nat) (tr : Nat) (pl : Nat) (pa : Nat) (fs : Nat) (Dd : Nat → Nat) (hd : ∀ k_, Dd k_ < 28) (hd97 : d ≤ 97) : Met l y_Si_draftHasEnd (Cond.code y_Si_draftHasEnd prog_1_method_18_code 2 (some .boolean) :: W0) ({ frames := 0, cells := 0, slots := 0, locals := 0 }) (va_Pc [.ref si] (fun U => U.heap.size = sz ∧ va_P (dC, dI) cls_ [(si, .inr (4, [.ref dr, .int (nI d), .ref ta, .ref tr, .ref pl, .ref pa, .ref fs])), (dr, .inl (ky, 97, .inl (nA Dd)))] U.heap ∧ va_K (dC, dI) cls_ [(ky, .int)] U ∧ va_D (fun _ => True) [(si, .inr (4, [.ref dr, .int (nI d), .ref ta, .ref tr, .ref pl, .ref pa, .ref fs])), (dr, .inl (ky, 97, .inl (nA Dd)))])) (va_Qi (fun (r : Int32) (_ : Unit) => ((∃ k, k < d ∧ Dd k = 0) ∧ r = nI 1) ∨ ((∀ k, k < d → Dd k ≠ 0) ∧ r = nI 0)) (fun (_ : Unit) (t : State) => va_P (dC, dI) cls_ [(si, .inr (4, [.ref dr, .int (nI d), .ref ta, .ref tr, .ref pl, .ref pa, .ref fs])), (dr, .inl (ky, 97, .inl (nA Dd)))] t.heap ∧ va_D (va_A [(si, .inr (4, [.ref dr, .int (nI d), .ref ta, .ref tr, .ref pl, .ref pa, .ref fs])), (dr, .inl (ky, 97, .inl (nA Dd)))] sz) [(si, .inr (4, [.ref dr, .int (nI d), .ref ta, .ref tr, .ref pl, .ref pa, .ref fs])), (dr, .inl (ky, 97, .inl (nA Dd)))]) (va_A [(si, .inr (4, [.ref dr, .int (nI d), .ref ta, .ref tr, .ref pl, .ref pa, .ref fs])), (dr, .inl (ky, 97, .inl (nA Dd)))] sz)) 0 0 (va_A [(si, .inr (4, [.ref dr, .int (nI d), .ref ta, .ref tr, .ref pl, .ref pa, .ref fs])), (dr, .inl (ky, 97, .inl (nA Dd)))] sz) := by
  refine Met.ofW (cc := prog_1_method_18_code) (maxL := 2) (ret := (some .boolean)) (by decide) rfl ?_
  intro p e s m args below meth c s₁ B hml hv
  obtain ⟨rfl, hsz, hP, hK, hD0⟩ := hv
  have hx := B.exec
  have hb := B.bytes
  have hr := B.returns
  have hlocks := B.notSynchronized
  have hts := atoms_spec (ws := (Cond.code y_Si_draftHasEnd prog_1_method_18_code 2 (some .boolean) :: W0)) B.pre
  have htb : ∀ w ∈ W0, w.before _ s = true := fun w h => hts w (List.mem_cons_of_mem _ h)
  have hown : s.vm.findClass "SelfIndexedSequences" = some m.cls := findClass_of_methodNamed B.named
  subst hsz
  have hD := hD0.self (sz := s.heap.size)
  generalize hAe : va_A [(si, .inr (4, [.ref dr, .int (nI d), .ref ta, .ref tr, .ref pl, .ref pa, .ref fs])), (dr, .inl (ky, 97, .inl (nA Dd)))] s.heap.size = A at hD ⊢
  have hA : ∀ q : Nat, s.heap.size ≤ q → A q := fun q h => by rw [← hAe]; exact Or.inr h
  have hS : va_S A s.heap s.heap [] := va_S.rf
  have hl := lv_entry ([.ref si]) (n := 2) (Nat.le_of_ble_eq_true rfl)
  rw [lg_entry_eq]
  generalize (lg_sl ([.ref si]) ++ List.replicate (2 - (lg_sl ([.ref si])).length) Slot.unset).toArray = ls at hl ⊢
  have hl : lv_has ls 2 [(0, .ref si)] := hl
  refine lv_iconst (v := nI 0) hx hb d_Si_draftHasEnd_0 (by decide) ?_
  refine lv_istore_n hx hb d_Si_draftHasEnd_1 rfl hl (by decide) rfl (fun ls hl => ?_)
  have hl : lv_has ls 2 [(1, .int (nI 0)), (0, .ref si)] := hl
  refine wl_loop (σ := Nat) 2 [] (fun (k : Nat) => d - k) (fun (k : Nat) (H : Heap) (locs : List Loc) (ls : Array Slot) => (k ≤ d) ∧ (∀ i, i < k → Dd i ≠ 0) ∧ va_P (dC, dI) cls_ [(si, .inr (4, [.ref dr, .int (nI d), .ref ta, .ref tr, .ref pl, .ref pa, .ref fs])), (dr, .inl (ky, 97, .inl (nA Dd)))] H ∧ va_D A [(si, .inr (4, [.ref dr, .int (nI d), .ref ta, .ref tr, .ref pl, .ref pa, .ref fs])), (dr, .inl (ky, 97, .inl (nA Dd)))] ∧ va_S A s.heap H locs ∧ lv_has ls 2 [(1, .int (nI k)), (0, .ref si)]) ?_ 0 ⟨(by first | assumption | omega | (simp; done) | (simp_all; done)), (fun i hi => by omega), hP, hD, hS, lv_sub hl [0, 1] rfl⟩
  clear hP hD hS hl
  intro k H locs ls hI ih2
  obtain ⟨hk, hno, hP, hD, hS, hl⟩ := hI
  have hl : lv_has ls 2 [(1, .int (nI k)), (0, .ref si)] := hl
  have hP : va_P (dC, dI) cls_ [(si, .inr (4, [.ref dr, .int (nI d), .ref ta, .ref tr, .ref pl, .ref pa, .ref fs])), (dr, .inl (ky, 97, .inl (nA Dd)))] H := hP
  have hD : va_D A [(si, .inr (4, [.ref dr, .int (nI d), .ref ta, .ref tr, .ref pl, .ref pa, .ref fs])), (dr, .inl (ky, 97, .inl (nA Dd)))] := hD
  have hk : k ≤ d := hk
  have hno : ∀ i, i < k → Dd i ≠ 0 := hno
  refine lv_iload_n hx hb d_Si_draftHasEnd_2 rfl (lv_at hl 0 rfl) ?_
  refine lv_aload_n hx hb d_Si_draftHasEnd_3 rfl (lv_at hl 1 rfl) ?_
  refine va_get (D := (dC, dI)) (ci := 4) (v := .int (nI d)) (C := R_Si) (T := F_Si) (N := 7) hx hb htb in_Si hown hK hP 0 rfl rfl 1 (by decide) (htb _ tw_135) (fun _ h9 => h9) rfl d_Si_draftHasEnd_4 ?_
  refine lv_icmp_ge (tgt := 27) hx hb d_Si_draftHasEnd_7 (by decide) (fun hc7 => ?_) (fun hc7 => ?_)
  · skip
    rw [bw_le_nn (by omega) (by omega)] at hc7
    refine lv_iconst (v := nI 0) hx hb d_Si_draftHasEnd_27 (by decide) ?_
    have hP9 := hP.sub (ws' := [(si, .inr (4, [.ref dr, .int (nI d), .ref ta, .ref tr, .ref pl, .ref pa, .ref fs])), (dr, .inl (ky, 97, .inl (nA Dd)))]) [0, 1] rfl
    have hD9 := hD.sub (ws' := [(si, .inr (4, [.ref dr, .int (nI d), .ref ta, .ref tr, .ref pl, .ref pa, .ref fs])), (dr, .inl (ky, 97, .inl (nA Dd)))]) [0, 1] (by decide) rfl
    exact W.zret (v := nI 0) hx hb hr (by first | rfl | decide) (fun t ht hW => ⟨⟨nI 0, (), rfl, (Or.inr ⟨fun i hi => hno i (by omega), rfl⟩), by rw [ht]; exact hP9, hD9⟩, hS.F ht⟩) hS.2.2 d_Si_draftHasEnd_28
  · skip
    rw [bw_le_nn (by omega) (by omega)] at hc7
    refine lv_aload_n hx hb d_Si_draftHasEnd_10 rfl (lv_at hl 1 rfl) ?_
    refine va_get (D := (dC, dI)) (ci := 4) (v := .ref dr) (C := R_Si) (T := F_Si) (N := 7) hx hb htb in_Si hown hK hP 0 rfl rfl 0 (by decide) (htb _ tw_134) (fun _ h9 => h9) rfl d_Si_draftHasEnd_11 ?_
    refine lv_iload_n hx hb d_Si_draftHasEnd_14 rfl (lv_at hl 0 rfl) ?_
    refine va_iald hx hb hK hP 1 0 rfl rfl (vp_in_nI (by omega) (by decide)) d_Si_draftHasEnd_15 ?_
    rw [nI_clamp (by omega)]
    have hb15 := hd k
    rw [nA_at]
    refine lv_if_ne (tgt := 21) hx hb d_Si_draftHasEnd_16 (by decide) (fun hc16 => ?_) (fun hc16 => ?_)
    · skip
      rw [← nI_0, bw_eq_nn (by omega) (by omega)] at hc16
      refine lv_iinc (v := nI (k + 1)) (k := 0) hx hb d_Si_draftHasEnd_21 hl rfl (bw_inc k 1) (by decide) rfl (fun ls hl => ?_)
      have hl : lv_has ls 2 [(1, .int (nI (k + 1))), (0, .ref si)] := hl
      refine lv_goto (tgt := 2) hx hb d_Si_draftHasEnd_24 (by decide) ?_
      exact ih2 (k + 1) _ _ _ ⟨(by first | assumption | omega | (simp; done) | (simp_all; done)), (fun i hi => if e : i = k then (by rw [e]; assumption) else hno i (by omega)), hP, hD, hS, lv_sub hl [0, 1] rfl⟩ (by first | omega | (simp only; omega) | (dsimp only; omega))
    · skip
      rw [← nI_0, bw_eq_nn (by omega) (by omega)] at hc16
      refine lv_iconst (v := nI 1) hx hb d_Si_draftHasEnd_19 (by decide) ?_
      have hP9 := hP.sub (ws' := [(si, .inr (4, [.ref dr, .int (nI d), .ref ta, .ref tr, .ref pl, .ref pa, .ref fs])), (dr, .inl (ky, 97, .inl (nA Dd)))]) [0, 1] rfl
      have hD9 := hD.sub (ws' := [(si, .inr (4, [.ref dr, .int (nI d), .ref ta, .ref tr, .ref pl, .ref pa, .ref fs])), (dr, .inl (ky, 97, .inl (nA Dd)))]) [0, 1] (by decide) rfl
      exact W.zret (v := nI 1) hx hb hr (by first | rfl | decide) (fun t ht hW => ⟨⟨nI 1, (), rfl, (Or.inl ⟨⟨k, by omega, by omega⟩, rfl⟩), by rw [ht]; exact hP9, hD9⟩, hS.F ht⟩) hS.2.2 d_Si_draftHasEnd_20

set_option maxHeartbeats 4000000 in
set_option maxRecDepth 100000 in
theorem c_Si_hasRow (l : Launch) (dC : Nat → ClassId) (dI : Nat → Nat → Nat) (ky : ClassId) (sz : Nat) (si : Nat) (dr : Nat) (d : Nat) (ta : Nat) (tr : Nat) (pl : Nat) (pa : Nat) (fs : Nat) (sy : Nat) (fi : Nat) (ba : Nat) (n : Nat) (lo : Int32) (hi : Int32) (xk : Int32) (hn : n ≤ 97) : Met l y_Si_hasRow (Cond.code y_Si_hasRow prog_1_method_20_code 2 (some .boolean) :: W0) ({ frames := 0, cells := 0, slots := 0, locals := 0 }) (va_Pc [.ref si, .int (xk)] (fun U => U.heap.size = sz ∧ va_P (dC, dI) cls_ [(si, .inr (4, [.ref dr, .int (nI d), .ref ta, .ref tr, .ref pl, .ref pa, .ref fs])), (ta, .inr (1, [.ref sy, .int (nI n), .ref fi, .ref ba, .int (lo), .int (hi)]))] U.heap ∧ va_K (dC, dI) cls_ [(ky, .int)] U ∧ va_D (fun _ => True) [(si, .inr (4, [.ref dr, .int (nI d), .ref ta, .ref tr, .ref pl, .ref pa, .ref fs])), (ta, .inr (1, [.ref sy, .int (nI n), .ref fi, .ref ba, .int (lo), .int (hi)]))])) (va_Qi (fun (r : Int32) (_ : Unit) => ((∃ k, k < n ∧ xk = nI k) ∧ r = nI 1) ∨ ((∀ k, k < n → xk ≠ nI k) ∧ r = nI 0)) (fun (_ : Unit) (t : State) => va_P (dC, dI) cls_ [(si, .inr (4, [.ref dr, .int (nI d), .ref ta, .ref tr, .ref pl, .ref pa, .ref fs])), (ta, .inr (1, [.ref sy, .int (nI n), .ref fi, .ref ba, .int (lo), .int (hi)]))] t.heap ∧ va_D (va_A [(si, .inr (4, [.ref dr, .int (nI d), .ref ta, .ref tr, .ref pl, .ref pa, .ref fs])), (ta, .inr (1, [.ref sy, .int (nI n), .ref fi, .ref ba, .int (lo), .int (hi)]))] sz) [(si, .inr (4, [.ref dr, .int (nI d), .ref ta, .ref tr, .ref pl, .ref pa, .ref fs])), (ta, .inr (1, [.ref sy, .int (nI n), .ref fi, .ref ba, .int (lo), .int (hi)]))]) (va_A [(si, .inr (4, [.ref dr, .int (nI d), .ref ta, .ref tr, .ref pl, .ref pa, .ref fs])), (ta, .inr (1, [.ref sy, .int (nI n), .ref fi, .ref ba, .int (lo), .int (hi)]))] sz)) 0 0 (va_A [(si, .inr (4, [.ref dr, .int (nI d), .ref ta, .ref tr, .ref pl, .ref pa, .ref fs])), (ta, .inr (1, [.ref sy, .int (nI n), .ref fi, .ref ba, .int (lo), .int (hi)]))] sz) := by
  refine Met.ofW (cc := prog_1_method_20_code) (maxL := 2) (ret := (some .boolean)) (by decide) rfl ?_
  intro p e s m args below meth c s₁ B hml hv
  obtain ⟨rfl, hsz, hP, hK, hD0⟩ := hv
  have hx := B.exec
  have hb := B.bytes
  have hr := B.returns
  have hlocks := B.notSynchronized
  have hts := atoms_spec (ws := (Cond.code y_Si_hasRow prog_1_method_20_code 2 (some .boolean) :: W0)) B.pre
  have htb : ∀ w ∈ W0, w.before _ s = true := fun w h => hts w (List.mem_cons_of_mem _ h)
  have hown : s.vm.findClass "SelfIndexedSequences" = some m.cls := findClass_of_methodNamed B.named
  subst hsz
  have hD := hD0.self (sz := s.heap.size)
  generalize hAe : va_A [(si, .inr (4, [.ref dr, .int (nI d), .ref ta, .ref tr, .ref pl, .ref pa, .ref fs])), (ta, .inr (1, [.ref sy, .int (nI n), .ref fi, .ref ba, .int (lo), .int (hi)]))] s.heap.size = A at hD ⊢
  have hA : ∀ q : Nat, s.heap.size ≤ q → A q := fun q h => by rw [← hAe]; exact Or.inr h
  have hS : va_S A s.heap s.heap [] := va_S.rf
  have hl := lv_entry ([.ref si, .int (xk)]) (n := 2) (Nat.le_of_ble_eq_true rfl)
  rw [lg_entry_eq]
  generalize (lg_sl ([.ref si, .int (xk)]) ++ List.replicate (2 - (lg_sl ([.ref si, .int (xk)])).length) Slot.unset).toArray = ls at hl ⊢
  have hl : lv_has ls 2 [(0, .ref si), (1, .int (xk))] := hl
  refine lv_iload_n hx hb d_Si_hasRow_0 rfl (lv_at hl 1 rfl) ?_
  refine lv_if_lt (tgt := 19) hx hb d_Si_hasRow_1 (by decide) (fun hc1 => ?_) (fun hc1 => ?_)
  · skip
    refine lv_iconst (v := nI 0) hx hb d_Si_hasRow_19 (by decide) ?_
    have hP9 := hP.sub (ws' := [(si, .inr (4, [.ref dr, .int (nI d), .ref ta, .ref tr, .ref pl, .ref pa, .ref fs])), (ta, .inr (1, [.ref sy, .int (nI n), .ref fi, .ref ba, .int (lo), .int (hi)]))]) [0, 1] rfl
    have hD9 := hD.sub (ws' := [(si, .inr (4, [.ref dr, .int (nI d), .ref ta, .ref tr, .ref pl, .ref pa, .ref fs])), (ta, .inr (1, [.ref sy, .int (nI n), .ref fi, .ref ba, .int (lo), .int (hi)]))]) [0, 1] (by decide) rfl
    exact W.zret (v := nI 0) hx hb hr (by first | rfl | decide) (fun t ht hW => ⟨⟨nI 0, (), rfl, (by first | exact Or.inl ⟨bw_below hc1 hc12, rfl⟩ | exact Or.inr ⟨bw_neg hc1, rfl⟩ | exact Or.inr ⟨fun k hk e => by rw [e] at hc12; rw [nI_leI (by omega) (by omega)] at hc12; omega, rfl⟩), by rw [ht]; exact hP9, hD9⟩, hS.F ht⟩) hS.2.2 d_Si_hasRow_20
  · skip
    refine lv_iload_n hx hb d_Si_hasRow_4 rfl (lv_at hl 1 rfl) ?_
    refine lv_aload_n hx hb d_Si_hasRow_5 rfl (lv_at hl 0 rfl) ?_
    refine va_get (D := (dC, dI)) (ci := 4) (v := .ref ta) (C := R_Si) (T := F_Si) (N := 7) hx hb htb in_Si hown hK hP 0 rfl rfl 2 (by decide) (htb _ tw_136) (fun _ h9 => h9) rfl d_Si_hasRow_6 ?_
    refine va_get (D := (dC, dI)) (ci := 1) (v := .int (nI n)) (C := R_Im) (T := F_Im) (N := 6) hx hb htb in_Im hown hK hP 1 rfl rfl 1 (by decide) (htb _ tw_51) (fun _ h9 => h9) rfl d_Si_hasRow_9 ?_
    refine lv_icmp_ge (tgt := 19) hx hb d_Si_hasRow_12 (by decide) (fun hc12 => ?_) (fun hc12 => ?_)
    · skip
      refine lv_iconst (v := nI 0) hx hb d_Si_hasRow_19 (by decide) ?_
      have hP9 := hP.sub (ws' := [(si, .inr (4, [.ref dr, .int (nI d), .ref ta, .ref tr, .ref pl, .ref pa, .ref fs])), (ta, .inr (1, [.ref sy, .int (nI n), .ref fi, .ref ba, .int (lo), .int (hi)]))]) [0, 1] rfl
      have hD9 := hD.sub (ws' := [(si, .inr (4, [.ref dr, .int (nI d), .ref ta, .ref tr, .ref pl, .ref pa, .ref fs])), (ta, .inr (1, [.ref sy, .int (nI n), .ref fi, .ref ba, .int (lo), .int (hi)]))]) [0, 1] (by decide) rfl
      exact W.zret (v := nI 0) hx hb hr (by first | rfl | decide) (fun t ht hW => ⟨⟨nI 0, (), rfl, (by first | exact Or.inl ⟨bw_below hc1 hc12, rfl⟩ | exact Or.inr ⟨bw_neg hc1, rfl⟩ | exact Or.inr ⟨fun k hk e => by rw [e] at hc12; rw [nI_leI (by omega) (by omega)] at hc12; omega, rfl⟩), by rw [ht]; exact hP9, hD9⟩, hS.F ht⟩) hS.2.2 d_Si_hasRow_20
    · skip
      refine lv_iconst (v := nI 1) hx hb d_Si_hasRow_15 (by decide) ?_
      refine lv_goto (tgt := 20) hx hb d_Si_hasRow_16 (by decide) ?_
      have hP9 := hP.sub (ws' := [(si, .inr (4, [.ref dr, .int (nI d), .ref ta, .ref tr, .ref pl, .ref pa, .ref fs])), (ta, .inr (1, [.ref sy, .int (nI n), .ref fi, .ref ba, .int (lo), .int (hi)]))]) [0, 1] rfl
      have hD9 := hD.sub (ws' := [(si, .inr (4, [.ref dr, .int (nI d), .ref ta, .ref tr, .ref pl, .ref pa, .ref fs])), (ta, .inr (1, [.ref sy, .int (nI n), .ref fi, .ref ba, .int (lo), .int (hi)]))]) [0, 1] (by decide) rfl
      exact W.zret (v := nI 1) hx hb hr (by first | rfl | decide) (fun t ht hW => ⟨⟨nI 1, (), rfl, (by first | exact Or.inl ⟨bw_below hc1 hc12, rfl⟩ | exact Or.inr ⟨bw_neg hc1, rfl⟩ | exact Or.inr ⟨fun k hk e => by rw [e] at hc12; rw [nI_leI (by omega) (by omega)] at hc12; omega, rfl⟩), by rw [ht]; exact hP9, hD9⟩, hS.F ht⟩) hS.2.2 d_Si_hasRow_20

set_option maxHeartbeats 4000000 in
set_option maxRecDepth 100000 in
theorem c_Si_image (l : Launch) (dC : Nat → ClassId) (dI : Nat → Nat → Nat) (ky : ClassId) (sz : Nat) (si : Nat) (dr : Nat) (d : Nat) (ta : Nat) (tr : Nat) (pl : Nat) (pa : Nat) (fs : Nat) (sy : Nat) (fi : Nat) (ba : Nat) (n : Nat) (lo : Int32) (hi : Int32) (S : Nat → Nat) (xk : Int32) (hs : ∀ k_, S k_ < 28) (hn : n ≤ 97) : Met l y_Si_image (Cond.code y_Si_image prog_1_method_7_code 6 (some .long) :: W0) ({ frames := 2, cells := 0, slots := 0, locals := 41 }) (va_Pc [.ref si, .int (xk)] (fun U => U.heap.size = sz ∧ va_P (dC, dI) cls_ [(si, .inr (4, [.ref dr, .int (nI d), .ref ta, .ref tr, .ref pl, .ref pa, .ref fs])), (ta, .inr (1, [.ref sy, .int (nI n), .ref fi, .ref ba, .int (lo), .int (hi)])), (sy, .inl (ky, 97, .inl (nA S)))] U.heap ∧ va_K (dC, dI) cls_ [(ky, .int)] U ∧ va_D (fun _ => True) [(si, .inr (4, [.ref dr, .int (nI d), .ref ta, .ref tr, .ref pl, .ref pa, .ref fs])), (ta, .inr (1, [.ref sy, .int (nI n), .ref fi, .ref ba, .int (lo), .int (hi)])), (sy, .inl (ky, 97, .inl (nA S)))])) (va_Ql (fun (r : Int64) (_ : Unit) => (∃ k, k < 13 ∧ xk = nI k ∧ r = lN (wsum (imw S n k) 8)) ∨ ((∀ k, k < 13 → xk ≠ nI k) ∧ r = lN 0)) (fun (_ : Unit) (t : State) => va_P (dC, dI) cls_ [(si, .inr (4, [.ref dr, .int (nI d), .ref ta, .ref tr, .ref pl, .ref pa, .ref fs])), (ta, .inr (1, [.ref sy, .int (nI n), .ref fi, .ref ba, .int (lo), .int (hi)])), (sy, .inl (ky, 97, .inl (nA S)))] t.heap ∧ va_D (va_A [(si, .inr (4, [.ref dr, .int (nI d), .ref ta, .ref tr, .ref pl, .ref pa, .ref fs])), (ta, .inr (1, [.ref sy, .int (nI n), .ref fi, .ref ba, .int (lo), .int (hi)])), (sy, .inl (ky, 97, .inl (nA S)))] sz) [(si, .inr (4, [.ref dr, .int (nI d), .ref ta, .ref tr, .ref pl, .ref pa, .ref fs])), (ta, .inr (1, [.ref sy, .int (nI n), .ref fi, .ref ba, .int (lo), .int (hi)])), (sy, .inl (ky, 97, .inl (nA S)))]) (va_A [(si, .inr (4, [.ref dr, .int (nI d), .ref ta, .ref tr, .ref pl, .ref pa, .ref fs])), (ta, .inr (1, [.ref sy, .int (nI n), .ref fi, .ref ba, .int (lo), .int (hi)])), (sy, .inl (ky, 97, .inl (nA S)))] sz)) 0 0 (va_A [(si, .inr (4, [.ref dr, .int (nI d), .ref ta, .ref tr, .ref pl, .ref pa, .ref fs])), (ta, .inr (1, [.ref sy, .int (nI n), .ref fi, .ref ba, .int (lo), .int (hi)])), (sy, .inl (ky, 97, .inl (nA S)))] sz) := by
  refine Met.ofW (cc := prog_1_method_7_code) (maxL := 6) (ret := (some .long)) (by decide) rfl ?_
  intro p e s m args below meth c s₁ B hml hv
  obtain ⟨rfl, hsz, hP, hK, hD0⟩ := hv
  have hx := B.exec
  have hb := B.bytes
  have hr := B.returns
  have hlocks := B.notSynchronized
  have hts := atoms_spec (ws := (Cond.code y_Si_image prog_1_method_7_code 6 (some .long) :: W0)) B.pre
  have htb : ∀ w ∈ W0, w.before _ s = true := fun w h => hts w (List.mem_cons_of_mem _ h)
  have hown : s.vm.findClass "SelfIndexedSequences" = some m.cls := findClass_of_methodNamed B.named
  subst hsz
  have hD := hD0.self (sz := s.heap.size)
  generalize hAe : va_A [(si, .inr (4, [.ref dr, .int (nI d), .ref ta, .ref tr, .ref pl, .ref pa, .ref fs])), (ta, .inr (1, [.ref sy, .int (nI n), .ref fi, .ref ba, .int (lo), .int (hi)])), (sy, .inl (ky, 97, .inl (nA S)))] s.heap.size = A at hD ⊢
  have hA : ∀ q : Nat, s.heap.size ≤ q → A q := fun q h => by rw [← hAe]; exact Or.inr h
  have hS : va_S A s.heap s.heap [] := va_S.rf
  have hl := lv_entry ([.ref si, .int (xk)]) (n := 6) (Nat.le_of_ble_eq_true rfl)
  rw [lg_entry_eq]
  generalize (lg_sl ([.ref si, .int (xk)]) ++ List.replicate (6 - (lg_sl ([.ref si, .int (xk)])).length) Slot.unset).toArray = ls at hl ⊢
  have hl : lv_has ls 6 [(0, .ref si), (1, .int (xk))] := hl
  refine lv_iload_n hx hb d_Si_image_0 rfl (lv_at hl 1 rfl) ?_
  refine lv_if_lt (tgt := 18) hx hb d_Si_image_1 (by decide) (fun hc1 => ?_) (fun hc1 => ?_)
  · skip
    refine lv_lconst (v := lN 0) hx hb d_Si_image_18 (by decide) ?_
    have hP9 := hP.sub (ws' := [(si, .inr (4, [.ref dr, .int (nI d), .ref ta, .ref tr, .ref pl, .ref pa, .ref fs])), (ta, .inr (1, [.ref sy, .int (nI n), .ref fi, .ref ba, .int (lo), .int (hi)])), (sy, .inl (ky, 97, .inl (nA S)))]) [0, 1, 2] rfl
    have hD9 := hD.sub (ws' := [(si, .inr (4, [.ref dr, .int (nI d), .ref ta, .ref tr, .ref pl, .ref pa, .ref fs])), (ta, .inr (1, [.ref sy, .int (nI n), .ref fi, .ref ba, .int (lo), .int (hi)])), (sy, .inl (ky, 97, .inl (nA S)))]) [0, 1, 2] (by decide) rfl
    exact W.lret (v := lN 0) hx hb hr (fun t ht hW => ⟨⟨lN 0, (), rfl, (by first | exact Or.inr ⟨bw_neg hc1, rfl⟩ | (by_cases h13 : k < 13; exact Or.inl ⟨k, h13, hxk, by rw [wsum_0 (fun i _ => imw_n (by omega))]⟩; exact Or.inr ⟨fun k2 h2 e => by rw [hxk, nI_eq (by omega) (by omega)] at e; omega, rfl⟩)), by rw [ht]; exact hP9, hD9⟩, hS.F ht⟩) hS.2.2 d_Si_image_19
  · skip
    obtain ⟨k, hk1, hxk⟩ := bw_nn hc1
    have hv_ : xk = nI k := hxk
    rw [hv_] at hl
    have hl : lv_has ls 6 [(0, .ref si), (1, .int (nI k))] := hl
    refine lv_iload_n hx hb d_Si_image_4 rfl (lv_at hl 1 rfl) ?_
    refine lv_aload_n hx hb d_Si_image_5 rfl (lv_at hl 0 rfl) ?_
    refine va_get (D := (dC, dI)) (ci := 4) (v := .ref ta) (C := R_Si) (T := F_Si) (N := 7) hx hb htb in_Si hown hK hP 0 rfl rfl 2 (by decide) (htb _ tw_136) (fun _ h9 => h9) rfl d_Si_image_6 ?_
    refine va_get (D := (dC, dI)) (ci := 1) (v := .int (nI n)) (C := R_Im) (T := F_Im) (N := 6) hx hb htb in_Im hown hK hP 1 rfl rfl 1 (by decide) (htb _ tw_51) (fun _ h9 => h9) rfl d_Si_image_9 ?_
    refine lv_bipush (v := nI 8) hx hb d_Si_image_12 (by decide) ?_
    refine lv_idiv hx hb d_Si_image_14 (bw_ne0 (by omega) (by omega)) ?_
    rw [pk_div (by omega) (by omega) (by omega)]
    refine lv_icmp_le (tgt := 20) hx hb d_Si_image_15 (by decide) (fun hc15 => ?_) (fun hc15 => ?_)
    · skip
      rw [bw_le_nn (by omega) (by omega)] at hc15
      refine lv_lconst (v := lN 0) hx hb d_Si_image_20 (by decide) ?_
      refine lv_lstore_n hx hb d_Si_image_21 rfl hl (by decide) rfl (fun ls hl => ?_)
      have hl : lv_has ls 6 [(2, .long (lN 0)), (0, .ref si), (1, .int (nI k))] := hl
      refine lv_iconst (v := nI 0) hx hb d_Si_image_22 (by decide) ?_
      refine lv_istore hx hb d_Si_image_23 hl (by decide) rfl (fun ls hl => ?_)
      have hl : lv_has ls 6 [(4, .int (nI 0)), (2, .long (lN 0)), (0, .ref si), (1, .int (nI k))] := hl
      refine wl_loop (σ := Nat × Nat) 25 [] (fun (a_ : Nat × Nat) => match a_ with | (b, X1) => 8 - b) (fun (a_ : Nat × Nat) (H : Heap) (locs : List Loc) (ls : Array Slot) => match a_ with | (b, X1) => (b ≤ 8) ∧ (X1 = wsum (imw S n k) b) ∧ va_P (dC, dI) cls_ [(si, .inr (4, [.ref dr, .int (nI d), .ref ta, .ref tr, .ref pl, .ref pa, .ref fs])), (ta, .inr (1, [.ref sy, .int (nI n), .ref fi, .ref ba, .int (lo), .int (hi)])), (sy, .inl (ky, 97, .inl (nA S)))] H ∧ va_D A [(si, .inr (4, [.ref dr, .int (nI d), .ref ta, .ref tr, .ref pl, .ref pa, .ref fs])), (ta, .inr (1, [.ref sy, .int (nI n), .ref fi, .ref ba, .int (lo), .int (hi)])), (sy, .inl (ky, 97, .inl (nA S)))] ∧ va_S A s.heap H locs ∧ lv_has ls 6 [(4, .int (nI b)), (2, .long (lN X1)), (0, .ref si), (1, .int (nI k))]) ?_ (0, 0) ⟨(by first | assumption | omega | (simp; done) | (simp_all; done)), rfl, hP, hD, hS, lv_sub hl [0, 1, 2, 3] rfl⟩
      clear hP hD hS hl
      intro a_ H locs ls hI ih25
      obtain ⟨b, X1⟩ := a_
      obtain ⟨hb8, hXw, hP, hD, hS, hl⟩ := hI
      have hl : lv_has ls 6 [(4, .int (nI b)), (2, .long (lN X1)), (0, .ref si), (1, .int (nI k))] := hl
      have hP : va_P (dC, dI) cls_ [(si, .inr (4, [.ref dr, .int (nI d), .ref ta, .ref tr, .ref pl, .ref pa, .ref fs])), (ta, .inr (1, [.ref sy, .int (nI n), .ref fi, .ref ba, .int (lo), .int (hi)])), (sy, .inl (ky, 97, .inl (nA S)))] H := hP
      have hD : va_D A [(si, .inr (4, [.ref dr, .int (nI d), .ref ta, .ref tr, .ref pl, .ref pa, .ref fs])), (ta, .inr (1, [.ref sy, .int (nI n), .ref fi, .ref ba, .int (lo), .int (hi)])), (sy, .inl (ky, 97, .inl (nA S)))] := hD
      have hb8 : b ≤ 8 := hb8
      have hXw : X1 = wsum (imw S n k) b := hXw
      refine lv_iload hx hb d_Si_image_25 (lv_at hl 0 rfl) ?_
      refine lv_bipush (v := nI 8) hx hb d_Si_image_27 (by decide) ?_
      refine lv_icmp_ge (tgt := 77) hx hb d_Si_image_29 (by decide) (fun hc29 => ?_) (fun hc29 => ?_)
      · skip
        rw [bw_le_nn (by omega) (by omega)] at hc29
        refine lv_lload_n hx hb d_Si_image_77 rfl (lv_at hl 1 rfl) ?_
        have hP9 := hP.sub (ws' := [(si, .inr (4, [.ref dr, .int (nI d), .ref ta, .ref tr, .ref pl, .ref pa, .ref fs])), (ta, .inr (1, [.ref sy, .int (nI n), .ref fi, .ref ba, .int (lo), .int (hi)])), (sy, .inl (ky, 97, .inl (nA S)))]) [0, 1, 2] rfl
        have hD9 := hD.sub (ws' := [(si, .inr (4, [.ref dr, .int (nI d), .ref ta, .ref tr, .ref pl, .ref pa, .ref fs])), (ta, .inr (1, [.ref sy, .int (nI n), .ref fi, .ref ba, .int (lo), .int (hi)])), (sy, .inl (ky, 97, .inl (nA S)))]) [0, 1, 2] (by decide) rfl
        exact W.lret (v := lN X1) hx hb hr (fun t ht hW => ⟨⟨lN X1, (), rfl, (Or.inl ⟨k, by omega, hxk, by rw [hXw, show b = 8 by omega]⟩), by rw [ht]; exact hP9, hD9⟩, hS.F ht⟩) hS.2.2 d_Si_image_78
      · skip
        rw [bw_le_nn (by omega) (by omega)] at hc29
        refine lv_bipush (v := nI 8) hx hb d_Si_image_32 (by decide) ?_
        refine lv_iload_n hx hb d_Si_image_34 rfl (lv_at hl 3 rfl) ?_
        refine lv_imul hx hb d_Si_image_35 ?_
        rw [pk_mul]
        refine lv_iload hx hb d_Si_image_36 (lv_at hl 0 rfl) ?_
        refine lv_iadd hx hb d_Si_image_38 ?_
        rw [nI_add]
        refine lv_istore hx hb d_Si_image_39 hl (by decide) rfl (fun ls hl => ?_)
        have hl : lv_has ls 6 [(5, .int (nI ((8 * k) + b))), (4, .int (nI b)), (2, .long (lN X1)), (0, .ref si), (1, .int (nI k))] := hl
        refine lv_iload hx hb d_Si_image_41 (lv_at hl 0 rfl) ?_
        refine lv_aload_n hx hb d_Si_image_43 rfl (lv_at hl 3 rfl) ?_
        refine va_get (D := (dC, dI)) (ci := 4) (v := .ref ta) (C := R_Si) (T := F_Si) (N := 7) hx hb htb in_Si hown hK hP 0 rfl rfl 2 (by decide) (htb _ tw_136) (fun _ h9 => h9) rfl d_Si_image_44 ?_
        refine va_get (D := (dC, dI)) (ci := 1) (v := .int (nI n)) (C := R_Im) (T := F_Im) (N := 6) hx hb htb in_Im hown hK hP 1 rfl rfl 1 (by decide) (htb _ tw_51) (fun _ h9 => h9) rfl d_Si_image_47 ?_
        refine lv_icmp_ge (tgt := 71) hx hb d_Si_image_50 (by decide) (fun hc50 => ?_) (fun hc50 => ?_)
        · skip
          rw [bw_le_nn (by omega) (by omega)] at hc50
          refine lv_iinc (v := nI (b + 1)) (k := 1) hx hb d_Si_image_71 hl rfl (bw_inc b 1) (by decide) rfl (fun ls hl => ?_)
          have hl : lv_has ls 6 [(4, .int (nI (b + 1))), (5, .int (nI ((8 * k) + b))), (2, .long (lN X1)), (0, .ref si), (1, .int (nI k))] := hl
          refine lv_goto (tgt := 25) hx hb d_Si_image_74 (by decide) ?_
          exact ih25 ((b + 1), X1) _ _ _ ⟨(by first | assumption | omega | (simp; done) | (simp_all; done)), (by first | rfl | (rw [wsum_z (imw_n (by omega))]; exact hXw)), hP, hD, hS, lv_sub hl [0, 2, 3, 4] rfl⟩ (by first | omega | (simp only; omega) | (dsimp only; omega))
        · skip
          rw [bw_le_nn (by omega) (by omega)] at hc50
          refine lv_lload_n hx hb d_Si_image_53 rfl (lv_at hl 2 rfl) ?_
          refine lv_aload_n hx hb d_Si_image_54 rfl (lv_at hl 3 rfl) ?_
          refine va_get (D := (dC, dI)) (ci := 4) (v := .ref ta) (C := R_Si) (T := F_Si) (N := 7) hx hb htb in_Si hown hK hP 0 rfl rfl 2 (by decide) (htb _ tw_136) (fun _ h9 => h9) rfl d_Si_image_55 ?_
          refine va_get (D := (dC, dI)) (ci := 1) (v := .ref sy) (C := R_Im) (T := F_Im) (N := 6) hx hb htb in_Im hown hK hP 1 rfl rfl 0 (by decide) (htb _ tw_48) (fun _ h9 => h9) rfl d_Si_image_58 ?_
          refine lv_iload hx hb d_Si_image_61 (lv_at hl 0 rfl) ?_
          refine va_iald hx hb hK hP 2 0 rfl rfl (vp_in_nI (by omega) (by decide)) d_Si_image_63 ?_
          rw [nI_clamp (by omega)]
          have hb63 := hs ((8 * k) + b)
          rw [nA_at]
          refine lv_iload hx hb d_Si_image_64 (lv_at hl 1 rfl) ?_
          have hPc := hP.sub (ws' := []) [] rfl
          have hDc := hD.sub (ws' := []) [] (by decide) rfl
          have hFc := va_free (wc := []) hD hS hA [] rfl
          refine va_calll (va_runS (As := [.int (nI (S ((8 * k) + b))), .int (nI b)]) (rest := [.long (lN X1)]) ⟨hx, hb, hml, hown, hts⟩ (c_Si_codeInByte l dC dI ky H.size (S ((8 * k) + b)) b (by first | assumption | omega | (simp; done) | (simp_all; done)) (by first | assumption | omega | (simp; done) | (simp_all; done))) ⟨callB_of 2 hts (W0_good tw_235) rfl rfl rfl (htb _ tw_23) (htb _ tw_233) ⟨by decide, by decide, by decide +kernel⟩ ⟨(Nat.le_of_ble_eq_true rfl), (Nat.le_of_ble_eq_true rfl)⟩, htb _ tw_234⟩ ⟨fun a U g mk q => by obtain ⟨q0, q1, qP, qK, qD⟩ := q; exact ⟨q0, q1, qP, va_K.moved (u := U) (U := U.calling g mk a) (Vm.Alike.refl U.vm) qK, qD⟩, fun U hU hW => ⟨rfl, by rw [hU], by rw [hU]; exact hPc, va_K.moved hW.alike hK, hDc.weaken (fun _ _ _ _ => trivial)⟩⟩ rfl rfl hl.1 rfl (lv_room (Nat.le_of_ble_eq_true rfl)) d_Si_image_66 ⟨(Nat.le_of_ble_eq_true rfl), (Nat.le_of_ble_eq_true rfl)⟩) hS (fun q _ h => hFc q h) hFc (fun r66 u_ t H locs ht hvm hw66 hB hz1 hk1 hS => ?_)
          obtain ⟨hP1, hD1⟩ := hB
          rw [ht] at hP1
          obtain ⟨hP, hD⟩ := va_join (wr := [(si, .inr (4, [.ref dr, .int (nI d), .ref ta, .ref tr, .ref pl, .ref pa, .ref fs])), (ta, .inr (1, [.ref sy, .int (nI n), .ref fi, .ref ba, .int (lo), .int (hi)])), (sy, .inl (ky, 97, .inl (nA S)))]) (w1 := []) hP hD [] [0, 1, 2] rfl rfl (by decide) (by decide) hk1 hFc hP1 hD1
          have hP : va_P (dC, dI) cls_ [(si, .inr (4, [.ref dr, .int (nI d), .ref ta, .ref tr, .ref pl, .ref pa, .ref fs])), (ta, .inr (1, [.ref sy, .int (nI n), .ref fi, .ref ba, .int (lo), .int (hi)])), (sy, .inl (ky, 97, .inl (nA S)))] H := hP
          have hD : va_D A [(si, .inr (4, [.ref dr, .int (nI d), .ref ta, .ref tr, .ref pl, .ref pa, .ref fs])), (ta, .inr (1, [.ref sy, .int (nI n), .ref fi, .ref ba, .int (lo), .int (hi)])), (sy, .inl (ky, 97, .inl (nA S)))] := hD
          have hw66 : r66 = lN (cod (S ((8 * k) + b)) * 2 ^ (8 * b)) ∧ (True) := hw66
          obtain ⟨hre, hq66⟩ := hw66
          subst hre
          refine lv_lor hx hb d_Si_image_69 ?_
          rw [show (lN X1) ||| (lN (cod (S ((8 * k) + b)) * 2 ^ (8 * b))) = lN (wsum (imw S n k) (b + 1)) from (by rw [hXw, ← imw_y (S := S) (show 8 * k + b < n by omega)]; exact wsum_or (fun i _ => imw_lt hs n k i) (by omega))]
          refine lv_lstore_n hx hb d_Si_image_70 rfl hl (by decide) rfl (fun ls hl => ?_)
          have hl : lv_has ls 6 [(2, .long (lN (wsum (imw S n k) (b + 1)))), (5, .int (nI ((8 * k) + b))), (4, .int (nI b)), (0, .ref si), (1, .int (nI k))] := hl
          refine lv_iinc (v := nI (b + 1)) (k := 2) hx hb d_Si_image_71 hl rfl (bw_inc b 1) (by decide) rfl (fun ls hl => ?_)
          have hl : lv_has ls 6 [(4, .int (nI (b + 1))), (2, .long (lN (wsum (imw S n k) (b + 1)))), (5, .int (nI ((8 * k) + b))), (0, .ref si), (1, .int (nI k))] := hl
          refine lv_goto (tgt := 25) hx hb d_Si_image_74 (by decide) ?_
          exact ih25 ((b + 1), (wsum (imw S n k) (b + 1))) _ _ _ ⟨(by first | assumption | omega | (simp; done) | (simp_all; done)), (by first | rfl | (rw [wsum_z (imw_n (by omega))]; exact hXw)), hP, hD, hS, lv_sub hl [0, 1, 3, 4] rfl⟩ (by first | omega | (simp only; omega) | (dsimp only; omega))
    · skip
      rw [bw_le_nn (by omega) (by omega)] at hc15
      refine lv_lconst (v := lN 0) hx hb d_Si_image_18 (by decide) ?_
      have hP9 := hP.sub (ws' := [(si, .inr (4, [.ref dr, .int (nI d), .ref ta, .ref tr, .ref pl, .ref pa, .ref fs])), (ta, .inr (1, [.ref sy, .int (nI n), .ref fi, .ref ba, .int (lo), .int (hi)])), (sy, .inl (ky, 97, .inl (nA S)))]) [0, 1, 2] rfl
      have hD9 := hD.sub (ws' := [(si, .inr (4, [.ref dr, .int (nI d), .ref ta, .ref tr, .ref pl, .ref pa, .ref fs])), (ta, .inr (1, [.ref sy, .int (nI n), .ref fi, .ref ba, .int (lo), .int (hi)])), (sy, .inl (ky, 97, .inl (nA S)))]) [0, 1, 2] (by decide) rfl
      exact W.lret (v := lN 0) hx hb hr (fun t ht hW => ⟨⟨lN 0, (), rfl, (by first | exact Or.inr ⟨bw_neg hc1, rfl⟩ | (by_cases h13 : k < 13; exact Or.inl ⟨k, h13, hxk, by rw [wsum_0 (fun i _ => imw_n (by omega))]⟩; exact Or.inr ⟨fun k2 h2 e => by rw [hxk, nI_eq (by omega) (by omega)] at e; omega, rfl⟩)), by rw [ht]; exact hP9, hD9⟩, hS.F ht⟩) hS.2.2 d_Si_image_19

set_option maxHeartbeats 4000000 in
set_option maxRecDepth 100000 in
theorem c_Si_rank (l : Launch) (dC : Nat → ClassId) (dI : Nat → Nat → Nat) (ky : ClassId) (sz : Nat) (si : Nat) (dr : Nat) (d : Nat) (ta : Nat) (tr : Nat) (pl : Nat) (pa : Nat) (fs : Nat) (sy : Nat) (fi : Nat) (ba : Nat) (n : Nat) (lo : Int32) (hi : Int32) (S : Nat → Nat) (xs : Int32) (xi : Int32) (hs : ∀ k_, S k_ < 28) (hn : n ≤ 97) : Met l y_Si_rank (Cond.code y_Si_rank prog_1_method_8_code 4 (some .int) :: W0) ({ frames := 1, cells := 0, slots := 0, locals := 24 }) (va_Pc [.ref si, .int (xs), .int (xi)] (fun U => U.heap.size = sz ∧ va_P (dC, dI) cls_ [(si, .inr (4, [.ref dr, .int (nI d), .ref ta, .ref tr, .ref pl, .ref pa, .ref fs])), (ta, .inr (1, [.ref sy, .int (nI n), .ref fi, .ref ba, .int (lo), .int (hi)])), (sy, .inl (ky, 97, .inl (nA S)))] U.heap ∧ va_K (dC, dI) cls_ [(ky, .int)] U ∧ va_D (fun _ => True) [(si, .inr (4, [.ref dr, .int (nI d), .ref ta, .ref tr, .ref pl, .ref pa, .ref fs])), (ta, .inr (1, [.ref sy, .int (nI n), .ref fi, .ref ba, .int (lo), .int (hi)])), (sy, .inl (ky, 97, .inl (nA S)))])) (va_Qi (fun (r : Int32) (_ : Unit) => (∃ v i, isS v ∧ xs = nI v ∧ i ≤ n ∧ xi = nI i ∧ r = nI (num (fun j => S j = sno v) i)) ∨ ((∀ v i, isS v → xs = nI v → i ≤ n → xi ≠ nI i) ∧ r = nI 0 - 1)) (fun (_ : Unit) (t : State) => va_P (dC, dI) cls_ [(si, .inr (4, [.ref dr, .int (nI d), .ref ta, .ref tr, .ref pl, .ref pa, .ref fs])), (ta, .inr (1, [.ref sy, .int (nI n), .ref fi, .ref ba, .int (lo), .int (hi)])), (sy, .inl (ky, 97, .inl (nA S)))] t.heap ∧ va_D (va_A [(si, .inr (4, [.ref dr, .int (nI d), .ref ta, .ref tr, .ref pl, .ref pa, .ref fs])), (ta, .inr (1, [.ref sy, .int (nI n), .ref fi, .ref ba, .int (lo), .int (hi)])), (sy, .inl (ky, 97, .inl (nA S)))] sz) [(si, .inr (4, [.ref dr, .int (nI d), .ref ta, .ref tr, .ref pl, .ref pa, .ref fs])), (ta, .inr (1, [.ref sy, .int (nI n), .ref fi, .ref ba, .int (lo), .int (hi)])), (sy, .inl (ky, 97, .inl (nA S)))]) (va_A [(si, .inr (4, [.ref dr, .int (nI d), .ref ta, .ref tr, .ref pl, .ref pa, .ref fs])), (ta, .inr (1, [.ref sy, .int (nI n), .ref fi, .ref ba, .int (lo), .int (hi)])), (sy, .inl (ky, 97, .inl (nA S)))] sz)) 0 0 (va_A [(si, .inr (4, [.ref dr, .int (nI d), .ref ta, .ref tr, .ref pl, .ref pa, .ref fs])), (ta, .inr (1, [.ref sy, .int (nI n), .ref fi, .ref ba, .int (lo), .int (hi)])), (sy, .inl (ky, 97, .inl (nA S)))] sz) := by
  refine Met.ofW (cc := prog_1_method_8_code) (maxL := 4) (ret := (some .int)) (by decide) rfl ?_
  intro p e s m args below meth c s₁ B hml hv
  obtain ⟨rfl, hsz, hP, hK, hD0⟩ := hv
  have hx := B.exec
  have hb := B.bytes
  have hr := B.returns
  have hlocks := B.notSynchronized
  have hts := atoms_spec (ws := (Cond.code y_Si_rank prog_1_method_8_code 4 (some .int) :: W0)) B.pre
  have htb : ∀ w ∈ W0, w.before _ s = true := fun w h => hts w (List.mem_cons_of_mem _ h)
  have hown : s.vm.findClass "SelfIndexedSequences" = some m.cls := findClass_of_methodNamed B.named
  subst hsz
  have hD := hD0.self (sz := s.heap.size)
  generalize hAe : va_A [(si, .inr (4, [.ref dr, .int (nI d), .ref ta, .ref tr, .ref pl, .ref pa, .ref fs])), (ta, .inr (1, [.ref sy, .int (nI n), .ref fi, .ref ba, .int (lo), .int (hi)])), (sy, .inl (ky, 97, .inl (nA S)))] s.heap.size = A at hD ⊢
  have hA : ∀ q : Nat, s.heap.size ≤ q → A q := fun q h => by rw [← hAe]; exact Or.inr h
  have hS : va_S A s.heap s.heap [] := va_S.rf
  have hl := lv_entry ([.ref si, .int (xs), .int (xi)]) (n := 4) (Nat.le_of_ble_eq_true rfl)
  rw [lg_entry_eq]
  generalize (lg_sl ([.ref si, .int (xs), .int (xi)]) ++ List.replicate (4 - (lg_sl ([.ref si, .int (xs), .int (xi)])).length) Slot.unset).toArray = ls at hl ⊢
  have hl : lv_has ls 4 [(0, .ref si), (1, .int (xs)), (2, .int (xi))] := hl
  refine lv_iload_n hx hb d_Si_rank_0 rfl (lv_at hl 1 rfl) ?_
  have hPc := hP.sub (ws' := []) [] rfl
  have hDc := hD.sub (ws' := []) [] (by decide) rfl
  have hFc := va_free (wc := []) hD hS hA [] rfl
  refine va_calli (va_runS (As := [.int (xs)]) (rest := []) ⟨hx, hb, hml, hown, hts⟩ (c_Si_symbolOfI l dC dI ky s.heap.size xs ) ⟨callB_of 1 hts (W0_good tw_165) rfl rfl rfl (htb _ tw_23) (htb _ tw_163) ⟨by decide, by decide, by decide +kernel⟩ ⟨(Nat.le_of_ble_eq_true rfl), (Nat.le_of_ble_eq_true rfl)⟩, htb _ tw_164⟩ ⟨fun a U g mk q => by obtain ⟨q0, q1, qP, qK, qD⟩ := q; exact ⟨q0, q1, qP, va_K.moved (u := U) (U := U.calling g mk a) (Vm.Alike.refl U.vm) qK, qD⟩, fun U hU hW => ⟨rfl, by rw [hU], by rw [hU]; exact hPc, va_K.moved hW.alike hK, hDc.weaken (fun _ _ _ _ => trivial)⟩⟩ rfl rfl hl.1 rfl (lv_room (Nat.le_of_ble_eq_true rfl)) d_Si_rank_1 ⟨(Nat.le_of_ble_eq_true rfl), (Nat.le_of_ble_eq_true rfl)⟩) hS (fun q _ h => hFc q h) hFc (fun r1 u_ t H locs ht hvm hw1 hB hz1 hk1 hS => ?_)
  obtain ⟨hP1, hD1⟩ := hB
  rw [ht] at hP1
  obtain ⟨hP, hD⟩ := va_join (wr := [(si, .inr (4, [.ref dr, .int (nI d), .ref ta, .ref tr, .ref pl, .ref pa, .ref fs])), (ta, .inr (1, [.ref sy, .int (nI n), .ref fi, .ref ba, .int (lo), .int (hi)])), (sy, .inl (ky, 97, .inl (nA S)))]) (w1 := []) hP hD [] [0, 1, 2] rfl rfl (by decide) (by decide) hk1 hFc hP1 hD1
  have hP : va_P (dC, dI) cls_ [(si, .inr (4, [.ref dr, .int (nI d), .ref ta, .ref tr, .ref pl, .ref pa, .ref fs])), (ta, .inr (1, [.ref sy, .int (nI n), .ref fi, .ref ba, .int (lo), .int (hi)])), (sy, .inl (ky, 97, .inl (nA S)))] H := hP
  have hD : va_D A [(si, .inr (4, [.ref dr, .int (nI d), .ref ta, .ref tr, .ref pl, .ref pa, .ref fs])), (ta, .inr (1, [.ref sy, .int (nI n), .ref fi, .ref ba, .int (lo), .int (hi)])), (sy, .inl (ky, 97, .inl (nA S)))] := hD
  have hq1 : (∃ v, xs = nI v ∧ isS v ∧ r1 = nI (sno v)) ∨ ((∀ v, isS v → xs ≠ nI v) ∧ r1 = nI 0 - 1) := hw1
  rcases hq1 with ⟨v, hxv, hvS, rfl⟩ | ⟨hnS, rfl⟩
  · skip
    have hsn := (cod_sno hvS).1
    refine lv_istore_n hx hb d_Si_rank_4 rfl hl (by decide) rfl (fun ls hl => ?_)
    have hl : lv_has ls 4 [(3, .int (nI (sno v))), (0, .ref si), (1, .int (xs)), (2, .int (xi))] := hl
    refine lv_iload_n hx hb d_Si_rank_5 rfl (lv_at hl 0 rfl) ?_
    refine lv_iconst (v := nI 0 - 1) hx hb d_Si_rank_6 (by decide) ?_
    refine lv_icmp_eq (tgt := 25) hx hb d_Si_rank_7 (by decide) (fun hc7 => ?_) (fun hc7 => ?_)
    · skip
      rw [bw_eq_np (by omega) (by omega)] at hc7
      refine lv_iconst (v := nI 0 - 1) hx hb d_Si_rank_25 (by decide) ?_
      have hP9 := hP.sub (ws' := [(si, .inr (4, [.ref dr, .int (nI d), .ref ta, .ref tr, .ref pl, .ref pa, .ref fs])), (ta, .inr (1, [.ref sy, .int (nI n), .ref fi, .ref ba, .int (lo), .int (hi)])), (sy, .inl (ky, 97, .inl (nA S)))]) [0, 1, 2] rfl
      have hD9 := hD.sub (ws' := [(si, .inr (4, [.ref dr, .int (nI d), .ref ta, .ref tr, .ref pl, .ref pa, .ref fs])), (ta, .inr (1, [.ref sy, .int (nI n), .ref fi, .ref ba, .int (lo), .int (hi)])), (sy, .inl (ky, 97, .inl (nA S)))]) [0, 1, 2] (by decide) rfl
      exact W.iret (v := nI 0 - 1) hx hb hr (fun t ht hW => ⟨⟨nI 0 - 1, (), rfl, (by first | exact Or.inr ⟨fun v i hs e _ _ => hnS v hs e, rfl⟩ | (exfalso; omega) | exact Or.inr ⟨fun v i _ _ hi => bw_neg (n := n + 1) hc11 (by omega) i (by omega), rfl⟩ | exact Or.inr ⟨fun v i _ _ hi e => by rw [hxi, nI_eq (by omega) (by omega)] at e; omega, rfl⟩), by rw [ht]; exact hP9, hD9⟩, hS.F ht⟩) hS.2.2 d_Si_rank_26
    · skip
      rw [bw_eq_np (by omega) (by omega)] at hc7
      refine lv_iload_n hx hb d_Si_rank_10 rfl (lv_at hl 3 rfl) ?_
      refine lv_if_lt (tgt := 25) hx hb d_Si_rank_11 (by decide) (fun hc11 => ?_) (fun hc11 => ?_)
      · skip
        refine lv_iconst (v := nI 0 - 1) hx hb d_Si_rank_25 (by decide) ?_
        have hP9 := hP.sub (ws' := [(si, .inr (4, [.ref dr, .int (nI d), .ref ta, .ref tr, .ref pl, .ref pa, .ref fs])), (ta, .inr (1, [.ref sy, .int (nI n), .ref fi, .ref ba, .int (lo), .int (hi)])), (sy, .inl (ky, 97, .inl (nA S)))]) [0, 1, 2] rfl
        have hD9 := hD.sub (ws' := [(si, .inr (4, [.ref dr, .int (nI d), .ref ta, .ref tr, .ref pl, .ref pa, .ref fs])), (ta, .inr (1, [.ref sy, .int (nI n), .ref fi, .ref ba, .int (lo), .int (hi)])), (sy, .inl (ky, 97, .inl (nA S)))]) [0, 1, 2] (by decide) rfl
        exact W.iret (v := nI 0 - 1) hx hb hr (fun t ht hW => ⟨⟨nI 0 - 1, (), rfl, (by first | exact Or.inr ⟨fun v i hs e _ _ => hnS v hs e, rfl⟩ | (exfalso; omega) | exact Or.inr ⟨fun v i _ _ hi => bw_neg (n := n + 1) hc11 (by omega) i (by omega), rfl⟩ | exact Or.inr ⟨fun v i _ _ hi e => by rw [hxi, nI_eq (by omega) (by omega)] at e; omega, rfl⟩), by rw [ht]; exact hP9, hD9⟩, hS.F ht⟩) hS.2.2 d_Si_rank_26
      · skip
        obtain ⟨i0, hi1, hxi⟩ := bw_nn hc11
        have hv_ : xi = nI i0 := hxi
        rw [hv_] at hl
        have hl : lv_has ls 4 [(3, .int (nI (sno v))), (0, .ref si), (1, .int (xs)), (2, .int (nI i0))] := hl
        refine lv_iload_n hx hb d_Si_rank_14 rfl (lv_at hl 3 rfl) ?_
        refine lv_aload_n hx hb d_Si_rank_15 rfl (lv_at hl 1 rfl) ?_
        refine va_get (D := (dC, dI)) (ci := 4) (v := .ref ta) (C := R_Si) (T := F_Si) (N := 7) hx hb htb in_Si hown hK hP 0 rfl rfl 2 (by decide) (htb _ tw_136) (fun _ h9 => h9) rfl d_Si_rank_16 ?_
        refine va_get (D := (dC, dI)) (ci := 1) (v := .int (nI n)) (C := R_Im) (T := F_Im) (N := 6) hx hb htb in_Im hown hK hP 1 rfl rfl 1 (by decide) (htb _ tw_51) (fun _ h9 => h9) rfl d_Si_rank_19 ?_
        refine lv_icmp_le (tgt := 27) hx hb d_Si_rank_22 (by decide) (fun hc22 => ?_) (fun hc22 => ?_)
        · skip
          rw [bw_le_nn (by omega) (by omega)] at hc22
          refine lv_aload_n hx hb d_Si_rank_27 rfl (lv_at hl 1 rfl) ?_
          refine va_get (D := (dC, dI)) (ci := 4) (v := .ref ta) (C := R_Si) (T := F_Si) (N := 7) hx hb htb in_Si hown hK hP 0 rfl rfl 2 (by decide) (htb _ tw_136) (fun _ h9 => h9) rfl d_Si_rank_28 ?_
          refine lv_iload_n hx hb d_Si_rank_31 rfl (lv_at hl 0 rfl) ?_
          refine lv_iload_n hx hb d_Si_rank_32 rfl (lv_at hl 3 rfl) ?_
          have hPc := hP.sub (ws' := [(ta, .inr (1, [.ref sy, .int (nI n), .ref fi, .ref ba, .int (lo), .int (hi)])), (sy, .inl (ky, 97, .inl (nA S)))]) [1, 2] rfl
          have hDc := hD.sub (ws' := [(ta, .inr (1, [.ref sy, .int (nI n), .ref fi, .ref ba, .int (lo), .int (hi)])), (sy, .inl (ky, 97, .inl (nA S)))]) [1, 2] (by decide) rfl
          have hFc := va_free (wc := [(ta, .inr (1, [.ref sy, .int (nI n), .ref fi, .ref ba, .int (lo), .int (hi)])), (sy, .inl (ky, 97, .inl (nA S)))]) hD hS hA [1, 2] rfl
          refine va_calli (va_runV (C := "SelfIndexedSequences$Image") (As := [.int (nI (sno v)), .int (nI i0)]) (rest := []) ⟨hx, hb, hml, hown, hts⟩ (c_Im_among l dC dI ky H.size ta sy fi ba n lo hi S (sno v) i0 hs (by first | assumption | omega | (simp; done) | (simp_all; done)) (by first | assumption | omega | (simp; done) | (simp_all; done))) ⟨callB_of 2 hts (W0_good tw_193) rfl rfl rfl (htb _ tw_24) (htb _ tw_243) ⟨by decide, by decide, by decide +kernel⟩ ⟨(Nat.le_of_ble_eq_true rfl), (Nat.le_of_ble_eq_true rfl)⟩, htb _ tw_191, htb _ tw_192⟩ ⟨fun a U g mk q => by obtain ⟨q0, q1, qP, qK, qD⟩ := q; exact ⟨q0, q1, qP, va_K.moved (u := U) (U := U.calling g mk a) (Vm.Alike.refl U.vm) qK, qD⟩, va_recv hK hPc (q0 := 0) (q := (R_Im, F_Im, 6)) rfl rfl, fun U hU hW => ⟨rfl, by rw [hU], by rw [hU]; exact hPc, va_K.moved hW.alike hK, hDc.weaken (fun _ _ _ _ => trivial)⟩⟩ rfl rfl hl.1 rfl (lv_room (Nat.le_of_ble_eq_true rfl)) d_Si_rank_33 ⟨(Nat.le_of_ble_eq_true rfl), (Nat.le_of_ble_eq_true rfl)⟩) hS (fun q _ h => hFc q h) hFc (fun r33 u_ t H locs ht hvm hw33 hB hz1 hk1 hS => ?_)
          obtain ⟨hP1, hD1⟩ := hB
          rw [ht] at hP1
          obtain ⟨hP, hD⟩ := va_join (wr := [(si, .inr (4, [.ref dr, .int (nI d), .ref ta, .ref tr, .ref pl, .ref pa, .ref fs]))]) (w1 := [(ta, .inr (1, [.ref sy, .int (nI n), .ref fi, .ref ba, .int (lo), .int (hi)])), (sy, .inl (ky, 97, .inl (nA S)))]) hP hD [1, 2] [0] rfl rfl (by decide) (by decide) hk1 hFc hP1 hD1
          have hP : va_P (dC, dI) cls_ [(si, .inr (4, [.ref dr, .int (nI d), .ref ta, .ref tr, .ref pl, .ref pa, .ref fs])), (ta, .inr (1, [.ref sy, .int (nI n), .ref fi, .ref ba, .int (lo), .int (hi)])), (sy, .inl (ky, 97, .inl (nA S)))] H := hP
          have hD : va_D A [(si, .inr (4, [.ref dr, .int (nI d), .ref ta, .ref tr, .ref pl, .ref pa, .ref fs])), (ta, .inr (1, [.ref sy, .int (nI n), .ref fi, .ref ba, .int (lo), .int (hi)])), (sy, .inl (ky, 97, .inl (nA S)))] := hD
          have hw33 : r33 = nI (num (fun j => S j = (sno v)) i0) ∧ (True) := hw33
          obtain ⟨hre, hq33⟩ := hw33
          subst hre
          have hP9 := hP.sub (ws' := [(si, .inr (4, [.ref dr, .int (nI d), .ref ta, .ref tr, .ref pl, .ref pa, .ref fs])), (ta, .inr (1, [.ref sy, .int (nI n), .ref fi, .ref ba, .int (lo), .int (hi)])), (sy, .inl (ky, 97, .inl (nA S)))]) [0, 1, 2] rfl
          have hD9 := hD.sub (ws' := [(si, .inr (4, [.ref dr, .int (nI d), .ref ta, .ref tr, .ref pl, .ref pa, .ref fs])), (ta, .inr (1, [.ref sy, .int (nI n), .ref fi, .ref ba, .int (lo), .int (hi)])), (sy, .inl (ky, 97, .inl (nA S)))]) [0, 1, 2] (by decide) rfl
          exact W.iret (v := nI (num (fun j => S j = (sno v)) i0)) hx hb hr (fun t ht hW => ⟨⟨nI (num (fun j => S j = (sno v)) i0), (), rfl, (Or.inl ⟨v, i0, hvS, hxv, by omega, hxi, rfl⟩), by rw [ht]; exact hP9, hD9⟩, hS.F ht⟩) hS.2.2 d_Si_rank_36
        · skip
          rw [bw_le_nn (by omega) (by omega)] at hc22
          refine lv_iconst (v := nI 0 - 1) hx hb d_Si_rank_25 (by decide) ?_
          have hP9 := hP.sub (ws' := [(si, .inr (4, [.ref dr, .int (nI d), .ref ta, .ref tr, .ref pl, .ref pa, .ref fs])), (ta, .inr (1, [.ref sy, .int (nI n), .ref fi, .ref ba, .int (lo), .int (hi)])), (sy, .inl (ky, 97, .inl (nA S)))]) [0, 1, 2] rfl
          have hD9 := hD.sub (ws' := [(si, .inr (4, [.ref dr, .int (nI d), .ref ta, .ref tr, .ref pl, .ref pa, .ref fs])), (ta, .inr (1, [.ref sy, .int (nI n), .ref fi, .ref ba, .int (lo), .int (hi)])), (sy, .inl (ky, 97, .inl (nA S)))]) [0, 1, 2] (by decide) rfl
          exact W.iret (v := nI 0 - 1) hx hb hr (fun t ht hW => ⟨⟨nI 0 - 1, (), rfl, (by first | exact Or.inr ⟨fun v i hs e _ _ => hnS v hs e, rfl⟩ | (exfalso; omega) | exact Or.inr ⟨fun v i _ _ hi => bw_neg (n := n + 1) hc11 (by omega) i (by omega), rfl⟩ | exact Or.inr ⟨fun v i _ _ hi e => by rw [hxi, nI_eq (by omega) (by omega)] at e; omega, rfl⟩), by rw [ht]; exact hP9, hD9⟩, hS.F ht⟩) hS.2.2 d_Si_rank_26
  · skip
    refine lv_istore_n hx hb d_Si_rank_4 rfl hl (by decide) rfl (fun ls hl => ?_)
    have hl : lv_has ls 4 [(3, .int (nI 0 - 1)), (0, .ref si), (1, .int (xs)), (2, .int (xi))] := hl
    refine lv_iload_n hx hb d_Si_rank_5 rfl (lv_at hl 0 rfl) ?_
    refine lv_iconst (v := nI 0 - 1) hx hb d_Si_rank_6 (by decide) ?_
    refine lv_icmp_eq (tgt := 25) hx hb d_Si_rank_7 (by decide) (fun hc7 => ?_) (fun hc7 => ?_)
    · skip
      rw [bw_eq_pp (by omega) (by omega)] at hc7
      refine lv_iconst (v := nI 0 - 1) hx hb d_Si_rank_25 (by decide) ?_
      have hP9 := hP.sub (ws' := [(si, .inr (4, [.ref dr, .int (nI d), .ref ta, .ref tr, .ref pl, .ref pa, .ref fs])), (ta, .inr (1, [.ref sy, .int (nI n), .ref fi, .ref ba, .int (lo), .int (hi)])), (sy, .inl (ky, 97, .inl (nA S)))]) [0, 1, 2] rfl
      have hD9 := hD.sub (ws' := [(si, .inr (4, [.ref dr, .int (nI d), .ref ta, .ref tr, .ref pl, .ref pa, .ref fs])), (ta, .inr (1, [.ref sy, .int (nI n), .ref fi, .ref ba, .int (lo), .int (hi)])), (sy, .inl (ky, 97, .inl (nA S)))]) [0, 1, 2] (by decide) rfl
      exact W.iret (v := nI 0 - 1) hx hb hr (fun t ht hW => ⟨⟨nI 0 - 1, (), rfl, (by first | exact Or.inr ⟨fun v i hs e _ _ => hnS v hs e, rfl⟩ | (exfalso; omega) | exact Or.inr ⟨fun v i _ _ hi => bw_neg (n := n + 1) hc11 (by omega) i (by omega), rfl⟩ | exact Or.inr ⟨fun v i _ _ hi e => by rw [hxi, nI_eq (by omega) (by omega)] at e; omega, rfl⟩), by rw [ht]; exact hP9, hD9⟩, hS.F ht⟩) hS.2.2 d_Si_rank_26
    · exact absurd hc7 (by decide)

set_option maxHeartbeats 4000000 in
set_option maxRecDepth 100000 in
theorem c_Si_suffix (l : Launch) (dC : Nat → ClassId) (dI : Nat → Nat → Nat) (ky : ClassId) (sz : Nat) (si : Nat) (dr : Nat) (d : Nat) (ta : Nat) (tr : Nat) (pl : Nat) (pa : Nat) (fs : Nat) (sy : Nat) (fi : Nat) (ba : Nat) (n : Nat) (lo : Int32) (hi : Int32) (sp : Nat) (ah : Nat) (ke : Nat) (kr : Nat) (sa : Nat) (sq : Nat) (T : Nat → Nat) (O : Nat → Nat) (R : Nat → Nat) (S : Nat → Nat) (F : Nat → Nat) (B1 : Nat → Nat) (Ah : Nat → Nat) (Ke : Nat → Nat) (Kr : Nat → Nat) (Sa : Nat → Nat) (xk : Int32) (hsp : 2 ≤ sp ∧ sp ≤ 16) (hKe : ∀ k_, Ke k_ < 98) (hB1 : ∀ k_, B1 k_ < 97) (hn : n ≤ 97) (hX : XSt T O R n S F B1 sp Ah Ke Kr Sa sq) : Met l y_Si_suffix (Cond.code y_Si_suffix prog_1_method_9_code 2 (some .int) :: W0) ({ frames := 1, cells := 0, slots := 0, locals := 24 }) (va_Pc [.ref si, .int (xk)] (fun U => U.heap.size = sz ∧ va_P (dC, dI) cls_ [(si, .inr (4, [.ref dr, .int (nI d), .ref ta, .ref tr, .ref pl, .ref pa, .ref fs])), (ta, .inr (1, [.ref sy, .int (nI n), .ref fi, .ref ba, .int (lo), .int (hi)])), (pl, .inr (3, [.int (nI sp), .ref ah, .ref ke, .ref kr, .ref sa, .int (nI sq)])), (ke, .inl (ky, 97, .inl (pA Ke))), (ba, .inl (ky, 97, .inl (nA B1)))] U.heap ∧ va_K (dC, dI) cls_ [(ky, .int)] U ∧ va_D (fun _ => True) [(si, .inr (4, [.ref dr, .int (nI d), .ref ta, .ref tr, .ref pl, .ref pa, .ref fs])), (ta, .inr (1, [.ref sy, .int (nI n), .ref fi, .ref ba, .int (lo), .int (hi)])), (pl, .inr (3, [.int (nI sp), .ref ah, .ref ke, .ref kr, .ref sa, .int (nI sq)])), (ke, .inl (ky, 97, .inl (pA Ke))), (ba, .inl (ky, 97, .inl (nA B1)))])) (va_Qi (fun (r : Int32) (_ : Unit) => (∃ k, k < n ∧ xk = nI k ∧ r = nI (O k)) ∨ ((∀ k, k < n → xk ≠ nI k) ∧ r = nI 0 - 1)) (fun (_ : Unit) (t : State) => va_P (dC, dI) cls_ [(si, .inr (4, [.ref dr, .int (nI d), .ref ta, .ref tr, .ref pl, .ref pa, .ref fs])), (ta, .inr (1, [.ref sy, .int (nI n), .ref fi, .ref ba, .int (lo), .int (hi)])), (pl, .inr (3, [.int (nI sp), .ref ah, .ref ke, .ref kr, .ref sa, .int (nI sq)])), (ke, .inl (ky, 97, .inl (pA Ke))), (ba, .inl (ky, 97, .inl (nA B1)))] t.heap ∧ va_D (va_A [(si, .inr (4, [.ref dr, .int (nI d), .ref ta, .ref tr, .ref pl, .ref pa, .ref fs])), (ta, .inr (1, [.ref sy, .int (nI n), .ref fi, .ref ba, .int (lo), .int (hi)])), (pl, .inr (3, [.int (nI sp), .ref ah, .ref ke, .ref kr, .ref sa, .int (nI sq)])), (ke, .inl (ky, 97, .inl (pA Ke))), (ba, .inl (ky, 97, .inl (nA B1)))] sz) [(si, .inr (4, [.ref dr, .int (nI d), .ref ta, .ref tr, .ref pl, .ref pa, .ref fs])), (ta, .inr (1, [.ref sy, .int (nI n), .ref fi, .ref ba, .int (lo), .int (hi)])), (pl, .inr (3, [.int (nI sp), .ref ah, .ref ke, .ref kr, .ref sa, .int (nI sq)])), (ke, .inl (ky, 97, .inl (pA Ke))), (ba, .inl (ky, 97, .inl (nA B1)))]) (va_A [(si, .inr (4, [.ref dr, .int (nI d), .ref ta, .ref tr, .ref pl, .ref pa, .ref fs])), (ta, .inr (1, [.ref sy, .int (nI n), .ref fi, .ref ba, .int (lo), .int (hi)])), (pl, .inr (3, [.int (nI sp), .ref ah, .ref ke, .ref kr, .ref sa, .int (nI sq)])), (ke, .inl (ky, 97, .inl (pA Ke))), (ba, .inl (ky, 97, .inl (nA B1)))] sz)) 0 0 (va_A [(si, .inr (4, [.ref dr, .int (nI d), .ref ta, .ref tr, .ref pl, .ref pa, .ref fs])), (ta, .inr (1, [.ref sy, .int (nI n), .ref fi, .ref ba, .int (lo), .int (hi)])), (pl, .inr (3, [.int (nI sp), .ref ah, .ref ke, .ref kr, .ref sa, .int (nI sq)])), (ke, .inl (ky, 97, .inl (pA Ke))), (ba, .inl (ky, 97, .inl (nA B1)))] sz) := by
  refine Met.ofW (cc := prog_1_method_9_code) (maxL := 2) (ret := (some .int)) (by decide) rfl ?_
  intro p e s m args below meth c s₁ B hml hv
  obtain ⟨rfl, hsz, hP, hK, hD0⟩ := hv
  have hx := B.exec
  have hb := B.bytes
  have hr := B.returns
  have hlocks := B.notSynchronized
  have hts := atoms_spec (ws := (Cond.code y_Si_suffix prog_1_method_9_code 2 (some .int) :: W0)) B.pre
  have htb : ∀ w ∈ W0, w.before _ s = true := fun w h => hts w (List.mem_cons_of_mem _ h)
  have hown : s.vm.findClass "SelfIndexedSequences" = some m.cls := findClass_of_methodNamed B.named
  subst hsz
  have hD := hD0.self (sz := s.heap.size)
  generalize hAe : va_A [(si, .inr (4, [.ref dr, .int (nI d), .ref ta, .ref tr, .ref pl, .ref pa, .ref fs])), (ta, .inr (1, [.ref sy, .int (nI n), .ref fi, .ref ba, .int (lo), .int (hi)])), (pl, .inr (3, [.int (nI sp), .ref ah, .ref ke, .ref kr, .ref sa, .int (nI sq)])), (ke, .inl (ky, 97, .inl (pA Ke))), (ba, .inl (ky, 97, .inl (nA B1)))] s.heap.size = A at hD ⊢
  have hA : ∀ q : Nat, s.heap.size ≤ q → A q := fun q h => by rw [← hAe]; exact Or.inr h
  have hS : va_S A s.heap s.heap [] := va_S.rf
  have hl := lv_entry ([.ref si, .int (xk)]) (n := 2) (Nat.le_of_ble_eq_true rfl)
  rw [lg_entry_eq]
  generalize (lg_sl ([.ref si, .int (xk)]) ++ List.replicate (2 - (lg_sl ([.ref si, .int (xk)])).length) Slot.unset).toArray = ls at hl ⊢
  have hl : lv_has ls 2 [(0, .ref si), (1, .int (xk))] := hl
  refine lv_aload_n hx hb d_Si_suffix_0 rfl (lv_at hl 0 rfl) ?_
  refine lv_iload_n hx hb d_Si_suffix_1 rfl (lv_at hl 1 rfl) ?_
  have hPc := hP.sub (ws' := [(si, .inr (4, [.ref dr, .int (nI d), .ref ta, .ref tr, .ref pl, .ref pa, .ref fs])), (ta, .inr (1, [.ref sy, .int (nI n), .ref fi, .ref ba, .int (lo), .int (hi)]))]) [0, 1] rfl
  have hDc := hD.sub (ws' := [(si, .inr (4, [.ref dr, .int (nI d), .ref ta, .ref tr, .ref pl, .ref pa, .ref fs])), (ta, .inr (1, [.ref sy, .int (nI n), .ref fi, .ref ba, .int (lo), .int (hi)]))]) [0, 1] (by decide) rfl
  have hFc := va_free (wc := [(si, .inr (4, [.ref dr, .int (nI d), .ref ta, .ref tr, .ref pl, .ref pa, .ref fs])), (ta, .inr (1, [.ref sy, .int (nI n), .ref fi, .ref ba, .int (lo), .int (hi)]))]) hD hS hA [0, 1] rfl
  refine va_calli (va_runV (C := "SelfIndexedSequences") (As := [.int (xk)]) (rest := []) ⟨hx, hb, hml, hown, hts⟩ (c_Si_hasRow l dC dI ky s.heap.size si dr d ta tr pl pa fs sy fi ba n lo hi xk (by first | assumption | omega | (simp; done) | (simp_all; done))) ⟨callB_of 1 hts (W0_good tw_251) rfl rfl rfl (htb _ tw_23) (htb _ tw_248) ⟨by decide, by decide, by decide +kernel⟩ ⟨(Nat.le_of_ble_eq_true rfl), (Nat.le_of_ble_eq_true rfl)⟩, htb _ tw_250, htb _ tw_6⟩ ⟨fun a U g mk q => by obtain ⟨q0, q1, qP, qK, qD⟩ := q; exact ⟨q0, q1, qP, va_K.moved (u := U) (U := U.calling g mk a) (Vm.Alike.refl U.vm) qK, qD⟩, va_recv hK hPc (q0 := 0) (q := (R_Si, F_Si, 7)) rfl rfl, fun U hU hW => ⟨rfl, by rw [hU], by rw [hU]; exact hPc, va_K.moved hW.alike hK, hDc.weaken (fun _ _ _ _ => trivial)⟩⟩ rfl rfl hl.1 rfl (lv_room (Nat.le_of_ble_eq_true rfl)) d_Si_suffix_2 ⟨(Nat.le_of_ble_eq_true rfl), (Nat.le_of_ble_eq_true rfl)⟩) hS (fun q _ h => hFc q h) hFc (fun r2 u_ t H locs ht hvm hw2 hB hz1 hk1 hS => ?_)
  obtain ⟨hP1, hD1⟩ := hB
  rw [ht] at hP1
  obtain ⟨hP, hD⟩ := va_join (wr := [(pl, .inr (3, [.int (nI sp), .ref ah, .ref ke, .ref kr, .ref sa, .int (nI sq)])), (ke, .inl (ky, 97, .inl (pA Ke))), (ba, .inl (ky, 97, .inl (nA B1)))]) (w1 := [(si, .inr (4, [.ref dr, .int (nI d), .ref ta, .ref tr, .ref pl, .ref pa, .ref fs])), (ta, .inr (1, [.ref sy, .int (nI n), .ref fi, .ref ba, .int (lo), .int (hi)]))]) hP hD [0, 1] [2, 3, 4] rfl rfl (by decide) (by decide) hk1 hFc hP1 hD1
  have hP : va_P (dC, dI) cls_ [(pl, .inr (3, [.int (nI sp), .ref ah, .ref ke, .ref kr, .ref sa, .int (nI sq)])), (ke, .inl (ky, 97, .inl (pA Ke))), (ba, .inl (ky, 97, .inl (nA B1))), (si, .inr (4, [.ref dr, .int (nI d), .ref ta, .ref tr, .ref pl, .ref pa, .ref fs])), (ta, .inr (1, [.ref sy, .int (nI n), .ref fi, .ref ba, .int (lo), .int (hi)]))] H := hP
  have hD : va_D A [(pl, .inr (3, [.int (nI sp), .ref ah, .ref ke, .ref kr, .ref sa, .int (nI sq)])), (ke, .inl (ky, 97, .inl (pA Ke))), (ba, .inl (ky, 97, .inl (nA B1))), (si, .inr (4, [.ref dr, .int (nI d), .ref ta, .ref tr, .ref pl, .ref pa, .ref fs])), (ta, .inr (1, [.ref sy, .int (nI n), .ref fi, .ref ba, .int (lo), .int (hi)]))] := hD
  have hq2 : ((∃ k, k < n ∧ xk = nI k) ∧ r2 = nI 1) ∨ ((∀ k, k < n → xk ≠ nI k) ∧ r2 = nI 0) := hw2
  rcases hq2 with ⟨⟨k, hk, hxk⟩, rfl⟩ | ⟨hno, rfl⟩
  · skip
    have hx9 := hX.2.2 (n - 1) (by omega)
    have hO9 := (hx9.2.1.1 k (by omega)).1
    have hv_ : xk = nI k := hxk
    rw [hv_] at hl
    have hl : lv_has ls 2 [(0, .ref si), (1, .int (nI k))] := hl
    refine lv_if_eq (tgt := 23) hx hb d_Si_suffix_5 (by decide) (fun hc5 => ?_) (fun hc5 => ?_)
    · exact absurd hc5 (by decide)
    · skip
      rw [← nI_0, bw_eq_nn (by omega) (by omega)] at hc5
      refine lv_aload_n hx hb d_Si_suffix_8 rfl (lv_at hl 0 rfl) ?_
      refine va_get (D := (dC, dI)) (ci := 4) (v := .ref pl) (C := R_Si) (T := F_Si) (N := 7) hx hb htb in_Si hown hK hP 3 rfl rfl 4 (by decide) (htb _ tw_138) (fun _ h9 => h9) rfl d_Si_suffix_9 ?_
      refine lv_aload_n hx hb d_Si_suffix_12 rfl (lv_at hl 0 rfl) ?_
      refine va_get (D := (dC, dI)) (ci := 4) (v := .ref ta) (C := R_Si) (T := F_Si) (N := 7) hx hb htb in_Si hown hK hP 3 rfl rfl 2 (by decide) (htb _ tw_136) (fun _ h9 => h9) rfl d_Si_suffix_13 ?_
      refine lv_iload_n hx hb d_Si_suffix_16 rfl (lv_at hl 1 rfl) ?_
      have hPc := hP.sub (ws' := [(pl, .inr (3, [.int (nI sp), .ref ah, .ref ke, .ref kr, .ref sa, .int (nI sq)])), (ke, .inl (ky, 97, .inl (pA Ke))), (ta, .inr (1, [.ref sy, .int (nI n), .ref fi, .ref ba, .int (lo), .int (hi)])), (ba, .inl (ky, 97, .inl (nA B1)))]) [0, 1, 4, 2] rfl
      have hDc := hD.sub (ws' := [(pl, .inr (3, [.int (nI sp), .ref ah, .ref ke, .ref kr, .ref sa, .int (nI sq)])), (ke, .inl (ky, 97, .inl (pA Ke))), (ta, .inr (1, [.ref sy, .int (nI n), .ref fi, .ref ba, .int (lo), .int (hi)])), (ba, .inl (ky, 97, .inl (nA B1)))]) [0, 1, 4, 2] (by decide) rfl
      have hFc := va_free (wc := [(pl, .inr (3, [.int (nI sp), .ref ah, .ref ke, .ref kr, .ref sa, .int (nI sq)])), (ke, .inl (ky, 97, .inl (pA Ke))), (ta, .inr (1, [.ref sy, .int (nI n), .ref fi, .ref ba, .int (lo), .int (hi)])), (ba, .inl (ky, 97, .inl (nA B1)))]) hD hS hA [0, 1, 4, 2] rfl
      refine va_calli (va_runV (C := "SelfIndexedSequences$Places") (As := [.ref ta, .int (nI k)]) (rest := []) ⟨hx, hb, hml, hown, hts⟩ (c_Pl_ofRow l dC dI ky H.size pl sp ah ke kr sa sq Ke ta sy fi ba n lo hi S F B1 Ah Kr T O R (n - 1) k (by first | assumption | omega | (simp; done) | (simp_all; done)) hKe hB1 (by omega) hx9.1 hx9.2.1 hx9.2.2.1 (by first | assumption | omega | (simp; done) | (simp_all; done)) hX.1 hx9.2.2.2.1 (by first | assumption | omega | (simp; done) | (simp_all; done))) ⟨callB_of 2 hts (W0_good tw_255) rfl rfl rfl (htb _ tw_27) (htb _ tw_252) ⟨by decide, by decide, by decide +kernel⟩ ⟨(Nat.le_of_ble_eq_true rfl), (Nat.le_of_ble_eq_true rfl)⟩, htb _ tw_253, htb _ tw_254⟩ ⟨fun a U g mk q => by obtain ⟨q0, q1, qP, qK, qD⟩ := q; exact ⟨q0, q1, qP, va_K.moved (u := U) (U := U.calling g mk a) (Vm.Alike.refl U.vm) qK, qD⟩, va_recv hK hPc (q0 := 0) (q := (R_Pl, F_Pl, 6)) rfl rfl, fun U hU hW => ⟨rfl, by rw [hU], by rw [hU]; exact hPc, va_K.moved hW.alike hK, hDc.weaken (fun _ _ _ _ => trivial)⟩⟩ rfl rfl hl.1 rfl (lv_room (Nat.le_of_ble_eq_true rfl)) d_Si_suffix_17 ⟨(Nat.le_of_ble_eq_true rfl), (Nat.le_of_ble_eq_true rfl)⟩) hS (fun q _ h => hFc q h) hFc (fun r17 u_ t H locs ht hvm hw17 hB hz1 hk1 hS => ?_)
      obtain ⟨hP1, hD1⟩ := hB
      rw [ht] at hP1
      obtain ⟨hP, hD⟩ := va_join (wr := [(si, .inr (4, [.ref dr, .int (nI d), .ref ta, .ref tr, .ref pl, .ref pa, .ref fs]))]) (w1 := [(pl, .inr (3, [.int (nI sp), .ref ah, .ref ke, .ref kr, .ref sa, .int (nI sq)])), (ke, .inl (ky, 97, .inl (pA Ke))), (ta, .inr (1, [.ref sy, .int (nI n), .ref fi, .ref ba, .int (lo), .int (hi)])), (ba, .inl (ky, 97, .inl (nA B1)))]) hP hD [0, 1, 4, 2] [3] rfl rfl (by decide) (by decide) hk1 hFc hP1 hD1
      have hP : va_P (dC, dI) cls_ [(si, .inr (4, [.ref dr, .int (nI d), .ref ta, .ref tr, .ref pl, .ref pa, .ref fs])), (pl, .inr (3, [.int (nI sp), .ref ah, .ref ke, .ref kr, .ref sa, .int (nI sq)])), (ke, .inl (ky, 97, .inl (pA Ke))), (ta, .inr (1, [.ref sy, .int (nI n), .ref fi, .ref ba, .int (lo), .int (hi)])), (ba, .inl (ky, 97, .inl (nA B1)))] H := hP
      have hD : va_D A [(si, .inr (4, [.ref dr, .int (nI d), .ref ta, .ref tr, .ref pl, .ref pa, .ref fs])), (pl, .inr (3, [.int (nI sp), .ref ah, .ref ke, .ref kr, .ref sa, .int (nI sq)])), (ke, .inl (ky, 97, .inl (pA Ke))), (ta, .inr (1, [.ref sy, .int (nI n), .ref fi, .ref ba, .int (lo), .int (hi)])), (ba, .inl (ky, 97, .inl (nA B1)))] := hD
      have hw17 : r17 = nI (O k) ∧ (True) := hw17
      obtain ⟨hre, hq17⟩ := hw17
      subst hre
      refine lv_goto (tgt := 24) hx hb d_Si_suffix_20 (by decide) ?_
      have hP9 := hP.sub (ws' := [(si, .inr (4, [.ref dr, .int (nI d), .ref ta, .ref tr, .ref pl, .ref pa, .ref fs])), (ta, .inr (1, [.ref sy, .int (nI n), .ref fi, .ref ba, .int (lo), .int (hi)])), (pl, .inr (3, [.int (nI sp), .ref ah, .ref ke, .ref kr, .ref sa, .int (nI sq)])), (ke, .inl (ky, 97, .inl (pA Ke))), (ba, .inl (ky, 97, .inl (nA B1)))]) [0, 3, 1, 2, 4] rfl
      have hD9 := hD.sub (ws' := [(si, .inr (4, [.ref dr, .int (nI d), .ref ta, .ref tr, .ref pl, .ref pa, .ref fs])), (ta, .inr (1, [.ref sy, .int (nI n), .ref fi, .ref ba, .int (lo), .int (hi)])), (pl, .inr (3, [.int (nI sp), .ref ah, .ref ke, .ref kr, .ref sa, .int (nI sq)])), (ke, .inl (ky, 97, .inl (pA Ke))), (ba, .inl (ky, 97, .inl (nA B1)))]) [0, 3, 1, 2, 4] (by decide) rfl
      exact W.iret (v := nI (O k)) hx hb hr (fun t ht hW => ⟨⟨nI (O k), (), rfl, (by first | exact Or.inl ⟨k, hk, hxk, rfl⟩ | exact Or.inr ⟨hno, rfl⟩), by rw [ht]; exact hP9, hD9⟩, hS.F ht⟩) hS.2.2 d_Si_suffix_24
  · skip
    refine lv_if_eq (tgt := 23) hx hb d_Si_suffix_5 (by decide) (fun hc5 => ?_) (fun hc5 => ?_)
    · skip
      rw [← nI_0, bw_eq_nn (by omega) (by omega)] at hc5
      refine lv_iconst (v := nI 0 - 1) hx hb d_Si_suffix_23 (by decide) ?_
      have hP9 := hP.sub (ws' := [(si, .inr (4, [.ref dr, .int (nI d), .ref ta, .ref tr, .ref pl, .ref pa, .ref fs])), (ta, .inr (1, [.ref sy, .int (nI n), .ref fi, .ref ba, .int (lo), .int (hi)])), (pl, .inr (3, [.int (nI sp), .ref ah, .ref ke, .ref kr, .ref sa, .int (nI sq)])), (ke, .inl (ky, 97, .inl (pA Ke))), (ba, .inl (ky, 97, .inl (nA B1)))]) [3, 4, 0, 1, 2] rfl
      have hD9 := hD.sub (ws' := [(si, .inr (4, [.ref dr, .int (nI d), .ref ta, .ref tr, .ref pl, .ref pa, .ref fs])), (ta, .inr (1, [.ref sy, .int (nI n), .ref fi, .ref ba, .int (lo), .int (hi)])), (pl, .inr (3, [.int (nI sp), .ref ah, .ref ke, .ref kr, .ref sa, .int (nI sq)])), (ke, .inl (ky, 97, .inl (pA Ke))), (ba, .inl (ky, 97, .inl (nA B1)))]) [3, 4, 0, 1, 2] (by decide) rfl
      exact W.iret (v := nI 0 - 1) hx hb hr (fun t ht hW => ⟨⟨nI 0 - 1, (), rfl, (by first | exact Or.inl ⟨k, hk, hxk, rfl⟩ | exact Or.inr ⟨hno, rfl⟩), by rw [ht]; exact hP9, hD9⟩, hS.F ht⟩) hS.2.2 d_Si_suffix_24
    · exact absurd hc5 (by decide)

set_option maxHeartbeats 4000000 in
set_option maxRecDepth 100000 in
theorem c_Si_walk (l : Launch) (dC : Nat → ClassId) (dI : Nat → Nat → Nat) (ky : ClassId) (sz : Nat) (si : Nat) (dr : Nat) (d : Nat) (ta : Nat) (tr : Nat) (pl : Nat) (pa : Nat) (fs : Nat) (sy : Nat) (fi : Nat) (ba : Nat) (n : Nat) (lo : Int32) (hi : Int32) (sp : Nat) (ah : Nat) (ke : Nat) (kr : Nat) (sa : Nat) (sq : Nat) (T : Nat → Nat) (O : Nat → Nat) (R : Nat → Nat) (S : Nat → Nat) (F : Nat → Nat) (B1 : Nat → Nat) (Ah : Nat → Nat) (Ke : Nat → Nat) (Kr : Nat → Nat) (Sa : Nat → Nat) (xk : Int32) (hsp : 2 ≤ sp ∧ sp ≤ 16) (hKe : ∀ k_, Ke k_ < 98) (hB1 : ∀ k_, B1 k_ < 97) (hn : n ≤ 97) (hX : XSt T O R n S F B1 sp Ah Ke Kr Sa sq) : Met l y_Si_walk (Cond.code y_Si_walk prog_1_method_10_code 2 (some .int) :: W0) ({ frames := 1, cells := 0, slots := 0, locals := 24 }) (va_Pc [.ref si, .int (xk)] (fun U => U.heap.size = sz ∧ va_P (dC, dI) cls_ [(si, .inr (4, [.ref dr, .int (nI d), .ref ta, .ref tr, .ref pl, .ref pa, .ref fs])), (ta, .inr (1, [.ref sy, .int (nI n), .ref fi, .ref ba, .int (lo), .int (hi)])), (pl, .inr (3, [.int (nI sp), .ref ah, .ref ke, .ref kr, .ref sa, .int (nI sq)])), (ke, .inl (ky, 97, .inl (pA Ke))), (ba, .inl (ky, 97, .inl (nA B1)))] U.heap ∧ va_K (dC, dI) cls_ [(ky, .int)] U ∧ va_D (fun _ => True) [(si, .inr (4, [.ref dr, .int (nI d), .ref ta, .ref tr, .ref pl, .ref pa, .ref fs])), (ta, .inr (1, [.ref sy, .int (nI n), .ref fi, .ref ba, .int (lo), .int (hi)])), (pl, .inr (3, [.int (nI sp), .ref ah, .ref ke, .ref kr, .ref sa, .int (nI sq)])), (ke, .inl (ky, 97, .inl (pA Ke))), (ba, .inl (ky, 97, .inl (nA B1)))])) (va_Qi (fun (r : Int32) (_ : Unit) => (∃ k, k < n ∧ xk = nI k ∧ r = nI (O k % sp)) ∨ ((∀ k, k < n → xk ≠ nI k) ∧ r = nI 0 - 1)) (fun (_ : Unit) (t : State) => va_P (dC, dI) cls_ [(si, .inr (4, [.ref dr, .int (nI d), .ref ta, .ref tr, .ref pl, .ref pa, .ref fs])), (ta, .inr (1, [.ref sy, .int (nI n), .ref fi, .ref ba, .int (lo), .int (hi)])), (pl, .inr (3, [.int (nI sp), .ref ah, .ref ke, .ref kr, .ref sa, .int (nI sq)])), (ke, .inl (ky, 97, .inl (pA Ke))), (ba, .inl (ky, 97, .inl (nA B1)))] t.heap ∧ va_D (va_A [(si, .inr (4, [.ref dr, .int (nI d), .ref ta, .ref tr, .ref pl, .ref pa, .ref fs])), (ta, .inr (1, [.ref sy, .int (nI n), .ref fi, .ref ba, .int (lo), .int (hi)])), (pl, .inr (3, [.int (nI sp), .ref ah, .ref ke, .ref kr, .ref sa, .int (nI sq)])), (ke, .inl (ky, 97, .inl (pA Ke))), (ba, .inl (ky, 97, .inl (nA B1)))] sz) [(si, .inr (4, [.ref dr, .int (nI d), .ref ta, .ref tr, .ref pl, .ref pa, .ref fs])), (ta, .inr (1, [.ref sy, .int (nI n), .ref fi, .ref ba, .int (lo), .int (hi)])), (pl, .inr (3, [.int (nI sp), .ref ah, .ref ke, .ref kr, .ref sa, .int (nI sq)])), (ke, .inl (ky, 97, .inl (pA Ke))), (ba, .inl (ky, 97, .inl (nA B1)))]) (va_A [(si, .inr (4, [.ref dr, .int (nI d), .ref ta, .ref tr, .ref pl, .ref pa, .ref fs])), (ta, .inr (1, [.ref sy, .int (nI n), .ref fi, .ref ba, .int (lo), .int (hi)])), (pl, .inr (3, [.int (nI sp), .ref ah, .ref ke, .ref kr, .ref sa, .int (nI sq)])), (ke, .inl (ky, 97, .inl (pA Ke))), (ba, .inl (ky, 97, .inl (nA B1)))] sz)) 0 0 (va_A [(si, .inr (4, [.ref dr, .int (nI d), .ref ta, .ref tr, .ref pl, .ref pa, .ref fs])), (ta, .inr (1, [.ref sy, .int (nI n), .ref fi, .ref ba, .int (lo), .int (hi)])), (pl, .inr (3, [.int (nI sp), .ref ah, .ref ke, .ref kr, .ref sa, .int (nI sq)])), (ke, .inl (ky, 97, .inl (pA Ke))), (ba, .inl (ky, 97, .inl (nA B1)))] sz) := by
  refine Met.ofW (cc := prog_1_method_10_code) (maxL := 2) (ret := (some .int)) (by decide) rfl ?_
  intro p e s m args below meth c s₁ B hml hv
  obtain ⟨rfl, hsz, hP, hK, hD0⟩ := hv
  have hx := B.exec
  have hb := B.bytes
  have hr := B.returns
  have hlocks := B.notSynchronized
  have hts := atoms_spec (ws := (Cond.code y_Si_walk prog_1_method_10_code 2 (some .int) :: W0)) B.pre
  have htb : ∀ w ∈ W0, w.before _ s = true := fun w h => hts w (List.mem_cons_of_mem _ h)
  have hown : s.vm.findClass "SelfIndexedSequences" = some m.cls := findClass_of_methodNamed B.named
  subst hsz
  have hD := hD0.self (sz := s.heap.size)
  generalize hAe : va_A [(si, .inr (4, [.ref dr, .int (nI d), .ref ta, .ref tr, .ref pl, .ref pa, .ref fs])), (ta, .inr (1, [.ref sy, .int (nI n), .ref fi, .ref ba, .int (lo), .int (hi)])), (pl, .inr (3, [.int (nI sp), .ref ah, .ref ke, .ref kr, .ref sa, .int (nI sq)])), (ke, .inl (ky, 97, .inl (pA Ke))), (ba, .inl (ky, 97, .inl (nA B1)))] s.heap.size = A at hD ⊢
  have hA : ∀ q : Nat, s.heap.size ≤ q → A q := fun q h => by rw [← hAe]; exact Or.inr h
  have hS : va_S A s.heap s.heap [] := va_S.rf
  have hl := lv_entry ([.ref si, .int (xk)]) (n := 2) (Nat.le_of_ble_eq_true rfl)
  rw [lg_entry_eq]
  generalize (lg_sl ([.ref si, .int (xk)]) ++ List.replicate (2 - (lg_sl ([.ref si, .int (xk)])).length) Slot.unset).toArray = ls at hl ⊢
  have hl : lv_has ls 2 [(0, .ref si), (1, .int (xk))] := hl
  refine lv_aload_n hx hb d_Si_walk_0 rfl (lv_at hl 0 rfl) ?_
  refine lv_iload_n hx hb d_Si_walk_1 rfl (lv_at hl 1 rfl) ?_
  have hPc := hP.sub (ws' := [(si, .inr (4, [.ref dr, .int (nI d), .ref ta, .ref tr, .ref pl, .ref pa, .ref fs])), (ta, .inr (1, [.ref sy, .int (nI n), .ref fi, .ref ba, .int (lo), .int (hi)]))]) [0, 1] rfl
  have hDc := hD.sub (ws' := [(si, .inr (4, [.ref dr, .int (nI d), .ref ta, .ref tr, .ref pl, .ref pa, .ref fs])), (ta, .inr (1, [.ref sy, .int (nI n), .ref fi, .ref ba, .int (lo), .int (hi)]))]) [0, 1] (by decide) rfl
  have hFc := va_free (wc := [(si, .inr (4, [.ref dr, .int (nI d), .ref ta, .ref tr, .ref pl, .ref pa, .ref fs])), (ta, .inr (1, [.ref sy, .int (nI n), .ref fi, .ref ba, .int (lo), .int (hi)]))]) hD hS hA [0, 1] rfl
  refine va_calli (va_runV (C := "SelfIndexedSequences") (As := [.int (xk)]) (rest := []) ⟨hx, hb, hml, hown, hts⟩ (c_Si_hasRow l dC dI ky s.heap.size si dr d ta tr pl pa fs sy fi ba n lo hi xk (by first | assumption | omega | (simp; done) | (simp_all; done))) ⟨callB_of 1 hts (W0_good tw_251) rfl rfl rfl (htb _ tw_23) (htb _ tw_248) ⟨by decide, by decide, by decide +kernel⟩ ⟨(Nat.le_of_ble_eq_true rfl), (Nat.le_of_ble_eq_true rfl)⟩, htb _ tw_250, htb _ tw_6⟩ ⟨fun a U g mk q => by obtain ⟨q0, q1, qP, qK, qD⟩ := q; exact ⟨q0, q1, qP, va_K.moved (u := U) (U := U.calling g mk a) (Vm.Alike.refl U.vm) qK, qD⟩, va_recv hK hPc (q0 := 0) (q := (R_Si, F_Si, 7)) rfl rfl, fun U hU hW => ⟨rfl, by rw [hU], by rw [hU]; exact hPc, va_K.moved hW.alike hK, hDc.weaken (fun _ _ _ _ => trivial)⟩⟩ rfl rfl hl.1 rfl (lv_room (Nat.le_of_ble_eq_true rfl)) d_Si_walk_2 ⟨(Nat.le_of_ble_eq_true rfl), (Nat.le_of_ble_eq_true rfl)⟩) hS (fun q _ h => hFc q h) hFc (fun r2 u_ t H locs ht hvm hw2 hB hz1 hk1 hS => ?_)
  obtain ⟨hP1, hD1⟩ := hB
  rw [ht] at hP1
  obtain ⟨hP, hD⟩ := va_join (wr := [(pl, .inr (3, [.int (nI sp), .ref ah, .ref ke, .ref kr, .ref sa, .int (nI sq)])), (ke, .inl (ky, 97, .inl (pA Ke))), (ba, .inl (ky, 97, .inl (nA B1)))]) (w1 := [(si, .inr (4, [.ref dr, .int (nI d), .ref ta, .ref tr, .ref pl, .ref pa, .ref fs])), (ta, .inr (1, [.ref sy, .int (nI n), .ref fi, .ref ba, .int (lo), .int (hi)]))]) hP hD [0, 1] [2, 3, 4] rfl rfl (by decide) (by decide) hk1 hFc hP1 hD1
  have hP : va_P (dC, dI) cls_ [(pl, .inr (3, [.int (nI sp), .ref ah, .ref ke, .ref kr, .ref sa, .int (nI sq)])), (ke, .inl (ky, 97, .inl (pA Ke))), (ba, .inl (ky, 97, .inl (nA B1))), (si, .inr (4, [.ref dr, .int (nI d), .ref ta, .ref tr, .ref pl, .ref pa, .ref fs])), (ta, .inr (1, [.ref sy, .int (nI n), .ref fi, .ref ba, .int (lo), .int (hi)]))] H := hP
  have hD : va_D A [(pl, .inr (3, [.int (nI sp), .ref ah, .ref ke, .ref kr, .ref sa, .int (nI sq)])), (ke, .inl (ky, 97, .inl (pA Ke))), (ba, .inl (ky, 97, .inl (nA B1))), (si, .inr (4, [.ref dr, .int (nI d), .ref ta, .ref tr, .ref pl, .ref pa, .ref fs])), (ta, .inr (1, [.ref sy, .int (nI n), .ref fi, .ref ba, .int (lo), .int (hi)]))] := hD
  have hq2 : ((∃ k, k < n ∧ xk = nI k) ∧ r2 = nI 1) ∨ ((∀ k, k < n → xk ≠ nI k) ∧ r2 = nI 0) := hw2
  rcases hq2 with ⟨⟨k, hk, hxk⟩, rfl⟩ | ⟨hno, rfl⟩
  · skip
    have hx9 := hX.2.2 (n - 1) (by omega)
    have hO9 := (hx9.2.1.1 k (by omega)).1
    have hv_ : xk = nI k := hxk
    rw [hv_] at hl
    have hl : lv_has ls 2 [(0, .ref si), (1, .int (nI k))] := hl
    refine lv_if_eq (tgt := 31) hx hb d_Si_walk_5 (by decide) (fun hc5 => ?_) (fun hc5 => ?_)
    · exact absurd hc5 (by decide)
    · skip
      rw [← nI_0, bw_eq_nn (by omega) (by omega)] at hc5
      refine lv_aload_n hx hb d_Si_walk_8 rfl (lv_at hl 0 rfl) ?_
      refine va_get (D := (dC, dI)) (ci := 4) (v := .ref pl) (C := R_Si) (T := F_Si) (N := 7) hx hb htb in_Si hown hK hP 3 rfl rfl 4 (by decide) (htb _ tw_138) (fun _ h9 => h9) rfl d_Si_walk_9 ?_
      refine lv_aload_n hx hb d_Si_walk_12 rfl (lv_at hl 0 rfl) ?_
      refine va_get (D := (dC, dI)) (ci := 4) (v := .ref ta) (C := R_Si) (T := F_Si) (N := 7) hx hb htb in_Si hown hK hP 3 rfl rfl 2 (by decide) (htb _ tw_136) (fun _ h9 => h9) rfl d_Si_walk_13 ?_
      refine lv_iload_n hx hb d_Si_walk_16 rfl (lv_at hl 1 rfl) ?_
      have hPc := hP.sub (ws' := [(pl, .inr (3, [.int (nI sp), .ref ah, .ref ke, .ref kr, .ref sa, .int (nI sq)])), (ke, .inl (ky, 97, .inl (pA Ke))), (ta, .inr (1, [.ref sy, .int (nI n), .ref fi, .ref ba, .int (lo), .int (hi)])), (ba, .inl (ky, 97, .inl (nA B1)))]) [0, 1, 4, 2] rfl
      have hDc := hD.sub (ws' := [(pl, .inr (3, [.int (nI sp), .ref ah, .ref ke, .ref kr, .ref sa, .int (nI sq)])), (ke, .inl (ky, 97, .inl (pA Ke))), (ta, .inr (1, [.ref sy, .int (nI n), .ref fi, .ref ba, .int (lo), .int (hi)])), (ba, .inl (ky, 97, .inl (nA B1)))]) [0, 1, 4, 2] (by decide) rfl
      have hFc := va_free (wc := [(pl, .inr (3, [.int (nI sp), .ref ah, .ref ke, .ref kr, .ref sa, .int (nI sq)])), (ke, .inl (ky, 97, .inl (pA Ke))), (ta, .inr (1, [.ref sy, .int (nI n), .ref fi, .ref ba, .int (lo), .int (hi)])), (ba, .inl (ky, 97, .inl (nA B1)))]) hD hS hA [0, 1, 4, 2] rfl
      refine va_calli (va_runV (C := "SelfIndexedSequences$Places") (As := [.ref ta, .int (nI k)]) (rest := []) ⟨hx, hb, hml, hown, hts⟩ (c_Pl_ofRow l dC dI ky H.size pl sp ah ke kr sa sq Ke ta sy fi ba n lo hi S F B1 Ah Kr T O R (n - 1) k (by first | assumption | omega | (simp; done) | (simp_all; done)) hKe hB1 (by omega) hx9.1 hx9.2.1 hx9.2.2.1 (by first | assumption | omega | (simp; done) | (simp_all; done)) hX.1 hx9.2.2.2.1 (by first | assumption | omega | (simp; done) | (simp_all; done))) ⟨callB_of 2 hts (W0_good tw_255) rfl rfl rfl (htb _ tw_27) (htb _ tw_252) ⟨by decide, by decide, by decide +kernel⟩ ⟨(Nat.le_of_ble_eq_true rfl), (Nat.le_of_ble_eq_true rfl)⟩, htb _ tw_253, htb _ tw_254⟩ ⟨fun a U g mk q => by obtain ⟨q0, q1, qP, qK, qD⟩ := q; exact ⟨q0, q1, qP, va_K.moved (u := U) (U := U.calling g mk a) (Vm.Alike.refl U.vm) qK, qD⟩, va_recv hK hPc (q0 := 0) (q := (R_Pl, F_Pl, 6)) rfl rfl, fun U hU hW => ⟨rfl, by rw [hU], by rw [hU]; exact hPc, va_K.moved hW.alike hK, hDc.weaken (fun _ _ _ _ => trivial)⟩⟩ rfl rfl hl.1 rfl (lv_room (Nat.le_of_ble_eq_true rfl)) d_Si_walk_17 ⟨(Nat.le_of_ble_eq_true rfl), (Nat.le_of_ble_eq_true rfl)⟩) hS (fun q _ h => hFc q h) hFc (fun r17 u_ t H locs ht hvm hw17 hB hz1 hk1 hS => ?_)
      obtain ⟨hP1, hD1⟩ := hB
      rw [ht] at hP1
      obtain ⟨hP, hD⟩ := va_join (wr := [(si, .inr (4, [.ref dr, .int (nI d), .ref ta, .ref tr, .ref pl, .ref pa, .ref fs]))]) (w1 := [(pl, .inr (3, [.int (nI sp), .ref ah, .ref ke, .ref kr, .ref sa, .int (nI sq)])), (ke, .inl (ky, 97, .inl (pA Ke))), (ta, .inr (1, [.ref sy, .int (nI n), .ref fi, .ref ba, .int (lo), .int (hi)])), (ba, .inl (ky, 97, .inl (nA B1)))]) hP hD [0, 1, 4, 2] [3] rfl rfl (by decide) (by decide) hk1 hFc hP1 hD1
      have hP : va_P (dC, dI) cls_ [(si, .inr (4, [.ref dr, .int (nI d), .ref ta, .ref tr, .ref pl, .ref pa, .ref fs])), (pl, .inr (3, [.int (nI sp), .ref ah, .ref ke, .ref kr, .ref sa, .int (nI sq)])), (ke, .inl (ky, 97, .inl (pA Ke))), (ta, .inr (1, [.ref sy, .int (nI n), .ref fi, .ref ba, .int (lo), .int (hi)])), (ba, .inl (ky, 97, .inl (nA B1)))] H := hP
      have hD : va_D A [(si, .inr (4, [.ref dr, .int (nI d), .ref ta, .ref tr, .ref pl, .ref pa, .ref fs])), (pl, .inr (3, [.int (nI sp), .ref ah, .ref ke, .ref kr, .ref sa, .int (nI sq)])), (ke, .inl (ky, 97, .inl (pA Ke))), (ta, .inr (1, [.ref sy, .int (nI n), .ref fi, .ref ba, .int (lo), .int (hi)])), (ba, .inl (ky, 97, .inl (nA B1)))] := hD
      have hw17 : r17 = nI (O k) ∧ (True) := hw17
      obtain ⟨hre, hq17⟩ := hw17
      subst hre
      refine lv_aload_n hx hb d_Si_walk_20 rfl (lv_at hl 0 rfl) ?_
      refine va_get (D := (dC, dI)) (ci := 4) (v := .ref pl) (C := R_Si) (T := F_Si) (N := 7) hx hb htb in_Si hown hK hP 0 rfl rfl 4 (by decide) (htb _ tw_138) (fun _ h9 => h9) rfl d_Si_walk_21 ?_
      refine va_get (D := (dC, dI)) (ci := 3) (v := .int (nI sp)) (C := R_Pl) (T := F_Pl) (N := 6) hx hb htb in_Pl hown hK hP 1 rfl rfl 0 (by decide) (htb _ tw_112) (fun _ h9 => h9) rfl d_Si_walk_24 ?_
      refine lv_irem hx hb d_Si_walk_27 (bw_ne0 (by omega) (by omega)) ?_
      rw [pk_rem (by omega) (by omega) (by omega)]
      refine lv_goto (tgt := 32) hx hb d_Si_walk_28 (by decide) ?_
      have hP9 := hP.sub (ws' := [(si, .inr (4, [.ref dr, .int (nI d), .ref ta, .ref tr, .ref pl, .ref pa, .ref fs])), (ta, .inr (1, [.ref sy, .int (nI n), .ref fi, .ref ba, .int (lo), .int (hi)])), (pl, .inr (3, [.int (nI sp), .ref ah, .ref ke, .ref kr, .ref sa, .int (nI sq)])), (ke, .inl (ky, 97, .inl (pA Ke))), (ba, .inl (ky, 97, .inl (nA B1)))]) [0, 3, 1, 2, 4] rfl
      have hD9 := hD.sub (ws' := [(si, .inr (4, [.ref dr, .int (nI d), .ref ta, .ref tr, .ref pl, .ref pa, .ref fs])), (ta, .inr (1, [.ref sy, .int (nI n), .ref fi, .ref ba, .int (lo), .int (hi)])), (pl, .inr (3, [.int (nI sp), .ref ah, .ref ke, .ref kr, .ref sa, .int (nI sq)])), (ke, .inl (ky, 97, .inl (pA Ke))), (ba, .inl (ky, 97, .inl (nA B1)))]) [0, 3, 1, 2, 4] (by decide) rfl
      exact W.iret (v := nI ((O k) % sp)) hx hb hr (fun t ht hW => ⟨⟨nI ((O k) % sp), (), rfl, (by first | exact Or.inl ⟨k, hk, hxk, rfl⟩ | exact Or.inr ⟨hno, rfl⟩), by rw [ht]; exact hP9, hD9⟩, hS.F ht⟩) hS.2.2 d_Si_walk_32
  · skip
    refine lv_if_eq (tgt := 31) hx hb d_Si_walk_5 (by decide) (fun hc5 => ?_) (fun hc5 => ?_)
    · skip
      rw [← nI_0, bw_eq_nn (by omega) (by omega)] at hc5
      refine lv_iconst (v := nI 0 - 1) hx hb d_Si_walk_31 (by decide) ?_
      have hP9 := hP.sub (ws' := [(si, .inr (4, [.ref dr, .int (nI d), .ref ta, .ref tr, .ref pl, .ref pa, .ref fs])), (ta, .inr (1, [.ref sy, .int (nI n), .ref fi, .ref ba, .int (lo), .int (hi)])), (pl, .inr (3, [.int (nI sp), .ref ah, .ref ke, .ref kr, .ref sa, .int (nI sq)])), (ke, .inl (ky, 97, .inl (pA Ke))), (ba, .inl (ky, 97, .inl (nA B1)))]) [3, 4, 0, 1, 2] rfl
      have hD9 := hD.sub (ws' := [(si, .inr (4, [.ref dr, .int (nI d), .ref ta, .ref tr, .ref pl, .ref pa, .ref fs])), (ta, .inr (1, [.ref sy, .int (nI n), .ref fi, .ref ba, .int (lo), .int (hi)])), (pl, .inr (3, [.int (nI sp), .ref ah, .ref ke, .ref kr, .ref sa, .int (nI sq)])), (ke, .inl (ky, 97, .inl (pA Ke))), (ba, .inl (ky, 97, .inl (nA B1)))]) [3, 4, 0, 1, 2] (by decide) rfl
      exact W.iret (v := nI 0 - 1) hx hb hr (fun t ht hW => ⟨⟨nI 0 - 1, (), rfl, (by first | exact Or.inl ⟨k, hk, hxk, rfl⟩ | exact Or.inr ⟨hno, rfl⟩), by rw [ht]; exact hP9, hD9⟩, hS.F ht⟩) hS.2.2 d_Si_walk_32
    · exact absurd hc5 (by decide)

set_option maxHeartbeats 4000000 in
set_option maxRecDepth 100000 in
theorem c_Si_length (l : Launch) (dC : Nat → ClassId) (dI : Nat → Nat → Nat) (ky : ClassId) (sz : Nat) (si : Nat) (dr : Nat) (d : Nat) (ta : Nat) (tr : Nat) (pl : Nat) (pa : Nat) (fs : Nat) (sp : Nat) (ah : Nat) (ke : Nat) (kr : Nat) (sa : Nat) (sq : Nat) (n : Nat) (T : Nat → Nat) (O : Nat → Nat) (R : Nat → Nat) (S : Nat → Nat) (F : Nat → Nat) (B1 : Nat → Nat) (Ah : Nat → Nat) (Ke : Nat → Nat) (Kr : Nat → Nat) (Sa : Nat → Nat) (xs : Int32) (hSa : ∀ k_, Sa k_ < 98) (hn : n ≤ 97) (hX : XSt T O R n S F B1 sp Ah Ke Kr Sa sq) : Met l y_Si_length (Cond.code y_Si_length prog_1_method_12_code 2 (some .int) :: W0) ({ frames := 1, cells := 0, slots := 0, locals := 21 }) (va_Pc [.ref si, .int (xs)] (fun U => U.heap.size = sz ∧ va_P (dC, dI) cls_ [(si, .inr (4, [.ref dr, .int (nI d), .ref ta, .ref tr, .ref pl, .ref pa, .ref fs])), (pl, .inr (3, [.int (nI sp), .ref ah, .ref ke, .ref kr, .ref sa, .int (nI sq)])), (sa, .inl (ky, 98, .inl (nA Sa)))] U.heap ∧ va_K (dC, dI) cls_ [(ky, .int)] U ∧ va_D (fun _ => True) [(si, .inr (4, [.ref dr, .int (nI d), .ref ta, .ref tr, .ref pl, .ref pa, .ref fs])), (pl, .inr (3, [.int (nI sp), .ref ah, .ref ke, .ref kr, .ref sa, .int (nI sq)])), (sa, .inl (ky, 98, .inl (nA Sa)))])) (va_Qi (fun (r : Int32) (_ : Unit) => (∃ v, v < sqs T n ∧ xs = nI v ∧ r = nI (lns T n v)) ∨ ((∀ v, v < sqs T n → xs ≠ nI v) ∧ r = nI 0 - 1)) (fun (_ : Unit) (t : State) => va_P (dC, dI) cls_ [(si, .inr (4, [.ref dr, .int (nI d), .ref ta, .ref tr, .ref pl, .ref pa, .ref fs])), (pl, .inr (3, [.int (nI sp), .ref ah, .ref ke, .ref kr, .ref sa, .int (nI sq)])), (sa, .inl (ky, 98, .inl (nA Sa)))] t.heap ∧ va_D (va_A [(si, .inr (4, [.ref dr, .int (nI d), .ref ta, .ref tr, .ref pl, .ref pa, .ref fs])), (pl, .inr (3, [.int (nI sp), .ref ah, .ref ke, .ref kr, .ref sa, .int (nI sq)])), (sa, .inl (ky, 98, .inl (nA Sa)))] sz) [(si, .inr (4, [.ref dr, .int (nI d), .ref ta, .ref tr, .ref pl, .ref pa, .ref fs])), (pl, .inr (3, [.int (nI sp), .ref ah, .ref ke, .ref kr, .ref sa, .int (nI sq)])), (sa, .inl (ky, 98, .inl (nA Sa)))]) (va_A [(si, .inr (4, [.ref dr, .int (nI d), .ref ta, .ref tr, .ref pl, .ref pa, .ref fs])), (pl, .inr (3, [.int (nI sp), .ref ah, .ref ke, .ref kr, .ref sa, .int (nI sq)])), (sa, .inl (ky, 98, .inl (nA Sa)))] sz)) 0 0 (va_A [(si, .inr (4, [.ref dr, .int (nI d), .ref ta, .ref tr, .ref pl, .ref pa, .ref fs])), (pl, .inr (3, [.int (nI sp), .ref ah, .ref ke, .ref kr, .ref sa, .int (nI sq)])), (sa, .inl (ky, 98, .inl (nA Sa)))] sz) := by
  refine Met.ofW (cc := prog_1_method_12_code) (maxL := 2) (ret := (some .int)) (by decide) rfl ?_
  intro p e s m args below meth c s₁ B hml hv
  obtain ⟨rfl, hsz, hP, hK, hD0⟩ := hv
  have hx := B.exec
  have hb := B.bytes
  have hr := B.returns
  have hlocks := B.notSynchronized
  have hts := atoms_spec (ws := (Cond.code y_Si_length prog_1_method_12_code 2 (some .int) :: W0)) B.pre
  have htb : ∀ w ∈ W0, w.before _ s = true := fun w h => hts w (List.mem_cons_of_mem _ h)
  have hown : s.vm.findClass "SelfIndexedSequences" = some m.cls := findClass_of_methodNamed B.named
  subst hsz
  have hD := hD0.self (sz := s.heap.size)
  generalize hAe : va_A [(si, .inr (4, [.ref dr, .int (nI d), .ref ta, .ref tr, .ref pl, .ref pa, .ref fs])), (pl, .inr (3, [.int (nI sp), .ref ah, .ref ke, .ref kr, .ref sa, .int (nI sq)])), (sa, .inl (ky, 98, .inl (nA Sa)))] s.heap.size = A at hD ⊢
  have hA : ∀ q : Nat, s.heap.size ≤ q → A q := fun q h => by rw [← hAe]; exact Or.inr h
  have hS : va_S A s.heap s.heap [] := va_S.rf
  have hl := lv_entry ([.ref si, .int (xs)]) (n := 2) (Nat.le_of_ble_eq_true rfl)
  rw [lg_entry_eq]
  generalize (lg_sl ([.ref si, .int (xs)]) ++ List.replicate (2 - (lg_sl ([.ref si, .int (xs)])).length) Slot.unset).toArray = ls at hl ⊢
  have hl : lv_has ls 2 [(0, .ref si), (1, .int (xs))] := hl
  have hsq := hX.sq
  have hsl := sqs_le T n
  refine lv_aload_n hx hb d_Si_length_0 rfl (lv_at hl 0 rfl) ?_
  refine va_get (D := (dC, dI)) (ci := 4) (v := .ref pl) (C := R_Si) (T := F_Si) (N := 7) hx hb htb in_Si hown hK hP 0 rfl rfl 4 (by decide) (htb _ tw_138) (fun _ h9 => h9) rfl d_Si_length_1 ?_
  refine lv_iload_n hx hb d_Si_length_4 rfl (lv_at hl 1 rfl) ?_
  have hPc := hP.sub (ws' := [(pl, .inr (3, [.int (nI sp), .ref ah, .ref ke, .ref kr, .ref sa, .int (nI sq)])), (sa, .inl (ky, 98, .inl (nA Sa)))]) [1, 2] rfl
  have hDc := hD.sub (ws' := [(pl, .inr (3, [.int (nI sp), .ref ah, .ref ke, .ref kr, .ref sa, .int (nI sq)])), (sa, .inl (ky, 98, .inl (nA Sa)))]) [1, 2] (by decide) rfl
  have hFc := va_free (wc := [(pl, .inr (3, [.int (nI sp), .ref ah, .ref ke, .ref kr, .ref sa, .int (nI sq)])), (sa, .inl (ky, 98, .inl (nA Sa)))]) hD hS hA [1, 2] rfl
  refine va_calli (va_runV (C := "SelfIndexedSequences$Places") (As := [.int (xs)]) (rest := []) ⟨hx, hb, hml, hown, hts⟩ (c_Pl_lettersOf l dC dI ky s.heap.size pl sp ah ke kr sa sq Sa xs hSa (by first | assumption | omega | (simp; done) | (simp_all; done)) (fun v hv => hX.lt (by omega))) ⟨callB_of 1 hts (W0_good tw_271) rfl rfl rfl (htb _ tw_27) (htb _ tw_268) ⟨by decide, by decide, by decide +kernel⟩ ⟨(Nat.le_of_ble_eq_true rfl), (Nat.le_of_ble_eq_true rfl)⟩, htb _ tw_269, htb _ tw_270⟩ ⟨fun a U g mk q => by obtain ⟨q0, q1, qP, qK, qD⟩ := q; exact ⟨q0, q1, qP, va_K.moved (u := U) (U := U.calling g mk a) (Vm.Alike.refl U.vm) qK, qD⟩, va_recv hK hPc (q0 := 0) (q := (R_Pl, F_Pl, 6)) rfl rfl, fun U hU hW => ⟨rfl, by rw [hU], by rw [hU]; exact hPc, va_K.moved hW.alike hK, hDc.weaken (fun _ _ _ _ => trivial)⟩⟩ rfl rfl hl.1 rfl (lv_room (Nat.le_of_ble_eq_true rfl)) d_Si_length_5 ⟨(Nat.le_of_ble_eq_true rfl), (Nat.le_of_ble_eq_true rfl)⟩) hS (fun q _ h => hFc q h) hFc (fun r5 u_ t H locs ht hvm hw5 hB hz1 hk1 hS => ?_)
  obtain ⟨hP1, hD1⟩ := hB
  rw [ht] at hP1
  obtain ⟨hP, hD⟩ := va_join (wr := [(si, .inr (4, [.ref dr, .int (nI d), .ref ta, .ref tr, .ref pl, .ref pa, .ref fs]))]) (w1 := [(pl, .inr (3, [.int (nI sp), .ref ah, .ref ke, .ref kr, .ref sa, .int (nI sq)])), (sa, .inl (ky, 98, .inl (nA Sa)))]) hP hD [1, 2] [0] rfl rfl (by decide) (by decide) hk1 hFc hP1 hD1
  have hP : va_P (dC, dI) cls_ [(si, .inr (4, [.ref dr, .int (nI d), .ref ta, .ref tr, .ref pl, .ref pa, .ref fs])), (pl, .inr (3, [.int (nI sp), .ref ah, .ref ke, .ref kr, .ref sa, .int (nI sq)])), (sa, .inl (ky, 98, .inl (nA Sa)))] H := hP
  have hD : va_D A [(si, .inr (4, [.ref dr, .int (nI d), .ref ta, .ref tr, .ref pl, .ref pa, .ref fs])), (pl, .inr (3, [.int (nI sp), .ref ah, .ref ke, .ref kr, .ref sa, .int (nI sq)])), (sa, .inl (ky, 98, .inl (nA Sa)))] := hD
  have hq5 : (∃ v, v < sq ∧ xs = nI v ∧ r5 = nI (Sa (v + 1) - 1 - Sa v)) ∨ ((∀ v, v < sq → xs ≠ nI v) ∧ r5 = nI 0 - 1) := hw5
  rcases hq5 with ⟨v, hv, hxv, rfl⟩ | ⟨hnv, rfl⟩
  · skip
    have hP9 := hP.sub (ws' := [(si, .inr (4, [.ref dr, .int (nI d), .ref ta, .ref tr, .ref pl, .ref pa, .ref fs])), (pl, .inr (3, [.int (nI sp), .ref ah, .ref ke, .ref kr, .ref sa, .int (nI sq)])), (sa, .inl (ky, 98, .inl (nA Sa)))]) [0, 1, 2] rfl
    have hD9 := hD.sub (ws' := [(si, .inr (4, [.ref dr, .int (nI d), .ref ta, .ref tr, .ref pl, .ref pa, .ref fs])), (pl, .inr (3, [.int (nI sp), .ref ah, .ref ke, .ref kr, .ref sa, .int (nI sq)])), (sa, .inl (ky, 98, .inl (nA Sa)))]) [0, 1, 2] (by decide) rfl
    exact W.iret (v := nI (Sa (v + 1) - 1 - Sa v)) hx hb hr (fun t ht hW => ⟨⟨nI (Sa (v + 1) - 1 - Sa v), (), rfl, (by first | exact Or.inl ⟨v, by omega, hxv, by rw [hX.ln (by omega)]⟩ | exact Or.inr ⟨fun v hv => hnv v (by omega), rfl⟩), by rw [ht]; exact hP9, hD9⟩, hS.F ht⟩) hS.2.2 d_Si_length_8
  · skip
    have hP9 := hP.sub (ws' := [(si, .inr (4, [.ref dr, .int (nI d), .ref ta, .ref tr, .ref pl, .ref pa, .ref fs])), (pl, .inr (3, [.int (nI sp), .ref ah, .ref ke, .ref kr, .ref sa, .int (nI sq)])), (sa, .inl (ky, 98, .inl (nA Sa)))]) [0, 1, 2] rfl
    have hD9 := hD.sub (ws' := [(si, .inr (4, [.ref dr, .int (nI d), .ref ta, .ref tr, .ref pl, .ref pa, .ref fs])), (pl, .inr (3, [.int (nI sp), .ref ah, .ref ke, .ref kr, .ref sa, .int (nI sq)])), (sa, .inl (ky, 98, .inl (nA Sa)))]) [0, 1, 2] (by decide) rfl
    exact W.iret (v := nI 0 - 1) hx hb hr (fun t ht hW => ⟨⟨nI 0 - 1, (), rfl, (by first | exact Or.inl ⟨v, by omega, hxv, by rw [hX.ln (by omega)]⟩ | exact Or.inr ⟨fun v hv => hnv v (by omega), rfl⟩), by rw [ht]; exact hP9, hD9⟩, hS.F ht⟩) hS.2.2 d_Si_length_8
