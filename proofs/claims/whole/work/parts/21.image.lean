set_option maxHeartbeats 4000000 in
set_option maxRecDepth 100000 in
/-- how many of the first i symbols are cs -/
theorem c_Im_among (l : Launch) (dC : Nat → ClassId) (dI : Nat → Nat → Nat) (ky : ClassId) (sz : Nat) (h0 : Nat) (sy : Nat) (fi : Nat) (ba : Nat) (n : Nat) (lo : Int32) (hi : Int32) (S : Nat → Nat) (cs : Nat) (i : Nat) (hs : ∀ k_, S k_ < 28) (hc : cs < 28) (hi9 : i ≤ 97) : Met l y_Im_among (Cond.code y_Im_among prog_3_method_6_code 5 (some .int) :: W0) ({ frames := 0, cells := 0, slots := 0, locals := 0 }) (va_Pc [.ref h0, .int (nI cs), .int (nI i)] (fun U => U.heap.size = sz ∧ va_P (dC, dI) cls_ [(h0, .inr (1, [.ref sy, .int (nI n), .ref fi, .ref ba, .int (lo), .int (hi)])), (sy, .inl (ky, 97, .inl (nA S)))] U.heap ∧ va_K (dC, dI) cls_ [(ky, .int)] U ∧ va_D (fun _ => True) [(h0, .inr (1, [.ref sy, .int (nI n), .ref fi, .ref ba, .int (lo), .int (hi)])), (sy, .inl (ky, 97, .inl (nA S)))])) (va_Qi (fun (r : Int32) (_ : Unit) => r = nI (num (fun j => S j = cs) i) ∧ (True)) (fun (_ : Unit) (t : State) => va_P (dC, dI) cls_ [(h0, .inr (1, [.ref sy, .int (nI n), .ref fi, .ref ba, .int (lo), .int (hi)])), (sy, .inl (ky, 97, .inl (nA S)))] t.heap ∧ va_D (va_A [(h0, .inr (1, [.ref sy, .int (nI n), .ref fi, .ref ba, .int (lo), .int (hi)])), (sy, .inl (ky, 97, .inl (nA S)))] sz) [(h0, .inr (1, [.ref sy, .int (nI n), .ref fi, .ref ba, .int (lo), .int (hi)])), (sy, .inl (ky, 97, .inl (nA S)))]) (va_A [(h0, .inr (1, [.ref sy, .int (nI n), .ref fi, .ref ba, .int (lo), .int (hi)])), (sy, .inl (ky, 97, .inl (nA S)))] sz)) 0 0 (va_A [(h0, .inr (1, [.ref sy, .int (nI n), .ref fi, .ref ba, .int (lo), .int (hi)])), (sy, .inl (ky, 97, .inl (nA S)))] sz) := by
  refine Met.ofW (cc := prog_3_method_6_code) (maxL := 5) (ret := (some .int)) (by decide) rfl ?_
  intro p e s m args below meth c s₁ B hml hv
  obtain ⟨rfl, hsz, hP, hK, hD0⟩ := hv
  have hx := B.exec
  have hb := B.bytes
  have hr := B.returns
  have hlocks := B.notSynchronized
  have hts := atoms_spec (ws := (Cond.code y_Im_among prog_3_method_6_code 5 (some .int) :: W0)) B.pre
  have htb : ∀ w ∈ W0, w.before _ s = true := fun w h => hts w (List.mem_cons_of_mem _ h)
  have hown : s.vm.findClass "SelfIndexedSequences$Image" = some m.cls := findClass_of_methodNamed B.named
  subst hsz
  have hD := hD0.self (sz := s.heap.size)
  generalize hAe : va_A [(h0, .inr (1, [.ref sy, .int (nI n), .ref fi, .ref ba, .int (lo), .int (hi)])), (sy, .inl (ky, 97, .inl (nA S)))] s.heap.size = A at hD ⊢
  have hA : ∀ q : Nat, s.heap.size ≤ q → A q := fun q h => by rw [← hAe]; exact Or.inr h
  have hS : va_S A s.heap s.heap [] := va_S.rf
  have hl := lv_entry ([.ref h0, .int (nI cs), .int (nI i)]) (n := 5) (Nat.le_of_ble_eq_true rfl)
  rw [lg_entry_eq]
  generalize (lg_sl ([.ref h0, .int (nI cs), .int (nI i)]) ++ List.replicate (5 - (lg_sl ([.ref h0, .int (nI cs), .int (nI i)])).length) Slot.unset).toArray = ls at hl ⊢
  have hl : lv_has ls 5 [(0, .ref h0), (1, .int (nI cs)), (2, .int (nI i))] := hl
  refine lv_iconst (v := nI 0) hx hb d_Im_among_0 (by decide) ?_
  refine lv_istore_n hx hb d_Im_among_1 rfl hl (by decide) rfl (fun ls hl => ?_)
  have hl : lv_has ls 5 [(3, .int (nI 0)), (0, .ref h0), (1, .int (nI cs)), (2, .int (nI i))] := hl
  refine lv_iconst (v := nI 0) hx hb d_Im_among_2 (by decide) ?_
  refine lv_istore hx hb d_Im_among_3 hl (by decide) rfl (fun ls hl => ?_)
  have hl : lv_has ls 5 [(4, .int (nI 0)), (3, .int (nI 0)), (0, .ref h0), (1, .int (nI cs)), (2, .int (nI i))] := hl
  refine wl_loop (σ := Nat × Nat) 5 [] (fun (a_ : Nat × Nat) => match a_ with | (k, f) => i - k) (fun (a_ : Nat × Nat) (H : Heap) (locs : List Loc) (ls : Array Slot) => match a_ with | (k, f) => (k ≤ i) ∧ (f = num (fun j => S j = cs) k) ∧ (f ≤ k) ∧ va_P (dC, dI) cls_ [(h0, .inr (1, [.ref sy, .int (nI n), .ref fi, .ref ba, .int (lo), .int (hi)])), (sy, .inl (ky, 97, .inl (nA S)))] H ∧ va_D A [(h0, .inr (1, [.ref sy, .int (nI n), .ref fi, .ref ba, .int (lo), .int (hi)])), (sy, .inl (ky, 97, .inl (nA S)))] ∧ va_S A s.heap H locs ∧ lv_has ls 5 [(4, .int (nI k)), (3, .int (nI f)), (0, .ref h0), (1, .int (nI cs)), (2, .int (nI i))]) ?_ (0, 0) ⟨(by first | assumption | omega | (simp; done) | (simp_all; done)), rfl, (by first | assumption | omega | (simp; done) | (simp_all; done)), hP, hD, hS, lv_sub hl [0, 1, 2, 3, 4] rfl⟩
  clear hP hD hS hl
  intro a_ H locs ls hI ih5
  obtain ⟨k, f⟩ := a_
  obtain ⟨hk, hf, hfk, hP, hD, hS, hl⟩ := hI
  have hl : lv_has ls 5 [(4, .int (nI k)), (3, .int (nI f)), (0, .ref h0), (1, .int (nI cs)), (2, .int (nI i))] := hl
  have hP : va_P (dC, dI) cls_ [(h0, .inr (1, [.ref sy, .int (nI n), .ref fi, .ref ba, .int (lo), .int (hi)])), (sy, .inl (ky, 97, .inl (nA S)))] H := hP
  have hD : va_D A [(h0, .inr (1, [.ref sy, .int (nI n), .ref fi, .ref ba, .int (lo), .int (hi)])), (sy, .inl (ky, 97, .inl (nA S)))] := hD
  have hk : k ≤ i := hk
  have hf : f = num (fun j => S j = cs) k := hf
  have hfk : f ≤ k := hfk
  refine lv_iload hx hb d_Im_among_5 (lv_at hl 0 rfl) ?_
  refine lv_iload_n hx hb d_Im_among_7 rfl (lv_at hl 4 rfl) ?_
  refine lv_icmp_ge (tgt := 31) hx hb d_Im_among_8 (by decide) (fun hc8 => ?_) (fun hc8 => ?_)
  · skip
    rw [bw_le_nn (by omega) (by omega)] at hc8
    refine lv_iload_n hx hb d_Im_among_31 rfl (lv_at hl 1 rfl) ?_
    have hP9 := hP.sub (ws' := [(h0, .inr (1, [.ref sy, .int (nI n), .ref fi, .ref ba, .int (lo), .int (hi)])), (sy, .inl (ky, 97, .inl (nA S)))]) [0, 1] rfl
    have hD9 := hD.sub (ws' := [(h0, .inr (1, [.ref sy, .int (nI n), .ref fi, .ref ba, .int (lo), .int (hi)])), (sy, .inl (ky, 97, .inl (nA S)))]) [0, 1] (by decide) rfl
    exact W.iret (v := nI f) hx hb hr (fun t ht hW => ⟨⟨nI f, (), rfl, ⟨(by rw [hf, show k = i by omega]), (by first | trivial | assumption | omega)⟩, by rw [ht]; exact hP9, hD9⟩, hS.F ht⟩) hS.2.2 d_Im_among_32
  · skip
    rw [bw_le_nn (by omega) (by omega)] at hc8
    refine lv_aload_n hx hb d_Im_among_11 rfl (lv_at hl 2 rfl) ?_
    refine va_get (D := (dC, dI)) (ci := 1) (v := .ref sy) (C := R_Im) (T := F_Im) (N := 6) hx hb htb in_Im hown hK hP 0 rfl rfl 0 (by decide) (htb _ tw_46) (fun _ h9 => h9) rfl d_Im_among_12 ?_
    refine lv_iload hx hb d_Im_among_15 (lv_at hl 0 rfl) ?_
    refine va_iald hx hb hK hP 1 0 rfl rfl (vp_in_nI (by omega) (by decide)) d_Im_among_17 ?_
    rw [nI_clamp (by omega)]
    have hb17 := hs k
    rw [nA_at]
    refine lv_iload_n hx hb d_Im_among_18 rfl (lv_at hl 3 rfl) ?_
    refine lv_icmp_ne (tgt := 25) hx hb d_Im_among_19 (by decide) (fun hc19 => ?_) (fun hc19 => ?_)
    · skip
      rw [bw_eq_nn (by omega) (by omega)] at hc19
      refine lv_iinc (v := nI (k + 1)) (k := 0) hx hb d_Im_among_25 hl rfl (bw_inc k 1) (by decide) rfl (fun ls hl => ?_)
      have hl : lv_has ls 5 [(4, .int (nI (k + 1))), (3, .int (nI f)), (0, .ref h0), (1, .int (nI cs)), (2, .int (nI i))] := hl
      refine lv_goto (tgt := 5) hx hb d_Im_among_28 (by decide) ?_
      exact ih5 ((k + 1), f) _ _ _ ⟨(by first | assumption | omega | (simp; done) | (simp_all; done)), (by first | exact num_sy (by assumption) hf | exact num_sn (by assumption) hf), (by first | assumption | omega | (simp; done) | (simp_all; done)), hP, hD, hS, lv_sub hl [0, 1, 2, 3, 4] rfl⟩ (by first | omega | (simp only; omega) | (dsimp only; omega))
    · skip
      rw [bw_eq_nn (by omega) (by omega)] at hc19
      refine lv_iinc (v := nI (f + 1)) (k := 1) hx hb d_Im_among_22 hl rfl (bw_inc f 1) (by decide) rfl (fun ls hl => ?_)
      have hl : lv_has ls 5 [(3, .int (nI (f + 1))), (4, .int (nI k)), (0, .ref h0), (1, .int (nI cs)), (2, .int (nI i))] := hl
      refine lv_iinc (v := nI (k + 1)) (k := 1) hx hb d_Im_among_25 hl rfl (bw_inc k 1) (by decide) rfl (fun ls hl => ?_)
      have hl : lv_has ls 5 [(4, .int (nI (k + 1))), (3, .int (nI (f + 1))), (0, .ref h0), (1, .int (nI cs)), (2, .int (nI i))] := hl
      refine lv_goto (tgt := 5) hx hb d_Im_among_28 (by decide) ?_
      exact ih5 ((k + 1), (f + 1)) _ _ _ ⟨(by first | assumption | omega | (simp; done) | (simp_all; done)), (by first | exact num_sy (by assumption) hf | exact num_sn (by assumption) hf), (by first | assumption | omega | (simp; done) | (simp_all; done)), hP, hD, hS, lv_sub hl [0, 1, 2, 3, 4] rfl⟩ (by first | omega | (simp only; omega) | (dsimp only; omega))

set_option maxHeartbeats 4000000 in
set_option maxRecDepth 100000 in
/-- how many symbols are less than cs -/
theorem c_Im_lesserThan (l : Launch) (dC : Nat → ClassId) (dI : Nat → Nat → Nat) (ky : ClassId) (sz : Nat) (h0 : Nat) (sy : Nat) (fi : Nat) (ba : Nat) (n : Nat) (lo : Int32) (hi : Int32) (S : Nat → Nat) (cs : Nat) (hs : ∀ k_, S k_ < 28) (hc : cs < 28) (hn : n ≤ 97) : Met l y_Im_lesserThan (Cond.code y_Im_lesserThan prog_3_method_5_code 4 (some .int) :: W0) ({ frames := 0, cells := 0, slots := 0, locals := 0 }) (va_Pc [.ref h0, .int (nI cs)] (fun U => U.heap.size = sz ∧ va_P (dC, dI) cls_ [(h0, .inr (1, [.ref sy, .int (nI n), .ref fi, .ref ba, .int (lo), .int (hi)])), (sy, .inl (ky, 97, .inl (nA S)))] U.heap ∧ va_K (dC, dI) cls_ [(ky, .int)] U ∧ va_D (fun _ => True) [(h0, .inr (1, [.ref sy, .int (nI n), .ref fi, .ref ba, .int (lo), .int (hi)])), (sy, .inl (ky, 97, .inl (nA S)))])) (va_Qi (fun (r : Int32) (_ : Unit) => r = nI (num (fun j => S j < cs) n) ∧ (True)) (fun (_ : Unit) (t : State) => va_P (dC, dI) cls_ [(h0, .inr (1, [.ref sy, .int (nI n), .ref fi, .ref ba, .int (lo), .int (hi)])), (sy, .inl (ky, 97, .inl (nA S)))] t.heap ∧ va_D (va_A [(h0, .inr (1, [.ref sy, .int (nI n), .ref fi, .ref ba, .int (lo), .int (hi)])), (sy, .inl (ky, 97, .inl (nA S)))] sz) [(h0, .inr (1, [.ref sy, .int (nI n), .ref fi, .ref ba, .int (lo), .int (hi)])), (sy, .inl (ky, 97, .inl (nA S)))]) (va_A [(h0, .inr (1, [.ref sy, .int (nI n), .ref fi, .ref ba, .int (lo), .int (hi)])), (sy, .inl (ky, 97, .inl (nA S)))] sz)) 0 0 (va_A [(h0, .inr (1, [.ref sy, .int (nI n), .ref fi, .ref ba, .int (lo), .int (hi)])), (sy, .inl (ky, 97, .inl (nA S)))] sz) := by
  refine Met.ofW (cc := prog_3_method_5_code) (maxL := 4) (ret := (some .int)) (by decide) rfl ?_
  intro p e s m args below meth c s₁ B hml hv
  obtain ⟨rfl, hsz, hP, hK, hD0⟩ := hv
  have hx := B.exec
  have hb := B.bytes
  have hr := B.returns
  have hlocks := B.notSynchronized
  have hts := atoms_spec (ws := (Cond.code y_Im_lesserThan prog_3_method_5_code 4 (some .int) :: W0)) B.pre
  have htb : ∀ w ∈ W0, w.before _ s = true := fun w h => hts w (List.mem_cons_of_mem _ h)
  have hown : s.vm.findClass "SelfIndexedSequences$Image" = some m.cls := findClass_of_methodNamed B.named
  subst hsz
  have hD := hD0.self (sz := s.heap.size)
  generalize hAe : va_A [(h0, .inr (1, [.ref sy, .int (nI n), .ref fi, .ref ba, .int (lo), .int (hi)])), (sy, .inl (ky, 97, .inl (nA S)))] s.heap.size = A at hD ⊢
  have hA : ∀ q : Nat, s.heap.size ≤ q → A q := fun q h => by rw [← hAe]; exact Or.inr h
  have hS : va_S A s.heap s.heap [] := va_S.rf
  have hl := lv_entry ([.ref h0, .int (nI cs)]) (n := 4) (Nat.le_of_ble_eq_true rfl)
  rw [lg_entry_eq]
  generalize (lg_sl ([.ref h0, .int (nI cs)]) ++ List.replicate (4 - (lg_sl ([.ref h0, .int (nI cs)])).length) Slot.unset).toArray = ls at hl ⊢
  have hl : lv_has ls 4 [(0, .ref h0), (1, .int (nI cs))] := hl
  refine lv_iconst (v := nI 0) hx hb d_Im_lesserThan_0 (by decide) ?_
  refine lv_istore_n hx hb d_Im_lesserThan_1 rfl hl (by decide) rfl (fun ls hl => ?_)
  have hl : lv_has ls 4 [(2, .int (nI 0)), (0, .ref h0), (1, .int (nI cs))] := hl
  refine lv_iconst (v := nI 0) hx hb d_Im_lesserThan_2 (by decide) ?_
  refine lv_istore_n hx hb d_Im_lesserThan_3 rfl hl (by decide) rfl (fun ls hl => ?_)
  have hl : lv_has ls 4 [(3, .int (nI 0)), (2, .int (nI 0)), (0, .ref h0), (1, .int (nI cs))] := hl
  refine wl_loop (σ := Nat × Nat) 4 [] (fun (a_ : Nat × Nat) => match a_ with | (k, f) => n - k) (fun (a_ : Nat × Nat) (H : Heap) (locs : List Loc) (ls : Array Slot) => match a_ with | (k, f) => (k ≤ n) ∧ (f = num (fun j => S j < cs) k) ∧ (f ≤ k) ∧ va_P (dC, dI) cls_ [(h0, .inr (1, [.ref sy, .int (nI n), .ref fi, .ref ba, .int (lo), .int (hi)])), (sy, .inl (ky, 97, .inl (nA S)))] H ∧ va_D A [(h0, .inr (1, [.ref sy, .int (nI n), .ref fi, .ref ba, .int (lo), .int (hi)])), (sy, .inl (ky, 97, .inl (nA S)))] ∧ va_S A s.heap H locs ∧ lv_has ls 4 [(3, .int (nI k)), (2, .int (nI f)), (0, .ref h0), (1, .int (nI cs))]) ?_ (0, 0) ⟨(by first | assumption | omega | (simp; done) | (simp_all; done)), rfl, (by first | assumption | omega | (simp; done) | (simp_all; done)), hP, hD, hS, lv_sub hl [0, 1, 2, 3] rfl⟩
  clear hP hD hS hl
  intro a_ H locs ls hI ih4
  obtain ⟨k, f⟩ := a_
  obtain ⟨hk, hf, hfk, hP, hD, hS, hl⟩ := hI
  have hl : lv_has ls 4 [(3, .int (nI k)), (2, .int (nI f)), (0, .ref h0), (1, .int (nI cs))] := hl
  have hP : va_P (dC, dI) cls_ [(h0, .inr (1, [.ref sy, .int (nI n), .ref fi, .ref ba, .int (lo), .int (hi)])), (sy, .inl (ky, 97, .inl (nA S)))] H := hP
  have hD : va_D A [(h0, .inr (1, [.ref sy, .int (nI n), .ref fi, .ref ba, .int (lo), .int (hi)])), (sy, .inl (ky, 97, .inl (nA S)))] := hD
  have hk : k ≤ n := hk
  have hf : f = num (fun j => S j < cs) k := hf
  have hfk : f ≤ k := hfk
  refine lv_iload_n hx hb d_Im_lesserThan_4 rfl (lv_at hl 0 rfl) ?_
  refine lv_aload_n hx hb d_Im_lesserThan_5 rfl (lv_at hl 2 rfl) ?_
  refine va_get (D := (dC, dI)) (ci := 1) (v := .int (nI n)) (C := R_Im) (T := F_Im) (N := 6) hx hb htb in_Im hown hK hP 0 rfl rfl 1 (by decide) (htb _ tw_50) (fun _ h9 => h9) rfl d_Im_lesserThan_6 ?_
  refine lv_icmp_ge (tgt := 31) hx hb d_Im_lesserThan_9 (by decide) (fun hc9 => ?_) (fun hc9 => ?_)
  · skip
    rw [bw_le_nn (by omega) (by omega)] at hc9
    refine lv_iload_n hx hb d_Im_lesserThan_31 rfl (lv_at hl 1 rfl) ?_
    have hP9 := hP.sub (ws' := [(h0, .inr (1, [.ref sy, .int (nI n), .ref fi, .ref ba, .int (lo), .int (hi)])), (sy, .inl (ky, 97, .inl (nA S)))]) [0, 1] rfl
    have hD9 := hD.sub (ws' := [(h0, .inr (1, [.ref sy, .int (nI n), .ref fi, .ref ba, .int (lo), .int (hi)])), (sy, .inl (ky, 97, .inl (nA S)))]) [0, 1] (by decide) rfl
    exact W.iret (v := nI f) hx hb hr (fun t ht hW => ⟨⟨nI f, (), rfl, ⟨(by rw [hf, show k = n by omega]), (by first | trivial | assumption | omega)⟩, by rw [ht]; exact hP9, hD9⟩, hS.F ht⟩) hS.2.2 d_Im_lesserThan_32
  · skip
    rw [bw_le_nn (by omega) (by omega)] at hc9
    refine lv_aload_n hx hb d_Im_lesserThan_12 rfl (lv_at hl 2 rfl) ?_
    refine va_get (D := (dC, dI)) (ci := 1) (v := .ref sy) (C := R_Im) (T := F_Im) (N := 6) hx hb htb in_Im hown hK hP 0 rfl rfl 0 (by decide) (htb _ tw_46) (fun _ h9 => h9) rfl d_Im_lesserThan_13 ?_
    refine lv_iload_n hx hb d_Im_lesserThan_16 rfl (lv_at hl 0 rfl) ?_
    refine va_iald hx hb hK hP 1 0 rfl rfl (vp_in_nI (by omega) (by decide)) d_Im_lesserThan_17 ?_
    rw [nI_clamp (by omega)]
    have hb17 := hs k
    rw [nA_at]
    refine lv_iload_n hx hb d_Im_lesserThan_18 rfl (lv_at hl 3 rfl) ?_
    refine lv_icmp_ge (tgt := 25) hx hb d_Im_lesserThan_19 (by decide) (fun hc19 => ?_) (fun hc19 => ?_)
    · skip
      rw [bw_le_nn (by omega) (by omega)] at hc19
      refine lv_iinc (v := nI (k + 1)) (k := 0) hx hb d_Im_lesserThan_25 hl rfl (bw_inc k 1) (by decide) rfl (fun ls hl => ?_)
      have hl : lv_has ls 4 [(3, .int (nI (k + 1))), (2, .int (nI f)), (0, .ref h0), (1, .int (nI cs))] := hl
      refine lv_goto (tgt := 4) hx hb d_Im_lesserThan_28 (by decide) ?_
      exact ih4 ((k + 1), f) _ _ _ ⟨(by first | assumption | omega | (simp; done) | (simp_all; done)), (by first | exact num_sy (by (try dsimp only); omega) hf | exact num_sn (by (try dsimp only); omega) hf), (by first | assumption | omega | (simp; done) | (simp_all; done)), hP, hD, hS, lv_sub hl [0, 1, 2, 3] rfl⟩ (by first | omega | (simp only; omega) | (dsimp only; omega))
    · skip
      rw [bw_le_nn (by omega) (by omega)] at hc19
      refine lv_iinc (v := nI (f + 1)) (k := 1) hx hb d_Im_lesserThan_22 hl rfl (bw_inc f 1) (by decide) rfl (fun ls hl => ?_)
      have hl : lv_has ls 4 [(2, .int (nI (f + 1))), (3, .int (nI k)), (0, .ref h0), (1, .int (nI cs))] := hl
      refine lv_iinc (v := nI (k + 1)) (k := 1) hx hb d_Im_lesserThan_25 hl rfl (bw_inc k 1) (by decide) rfl (fun ls hl => ?_)
      have hl : lv_has ls 4 [(3, .int (nI (k + 1))), (2, .int (nI (f + 1))), (0, .ref h0), (1, .int (nI cs))] := hl
      refine lv_goto (tgt := 4) hx hb d_Im_lesserThan_28 (by decide) ?_
      exact ih4 ((k + 1), (f + 1)) _ _ _ ⟨(by first | assumption | omega | (simp; done) | (simp_all; done)), (by first | exact num_sy (by (try dsimp only); omega) hf | exact num_sn (by (try dsimp only); omega) hf), (by first | assumption | omega | (simp; done) | (simp_all; done)), hP, hD, hS, lv_sub hl [0, 1, 2, 3] rfl⟩ (by first | omega | (simp only; omega) | (dsimp only; omega))

set_option maxHeartbeats 4000000 in
set_option maxRecDepth 100000 in
/-- firsts and back -/
theorem c_Im_link (l : Launch) (dC : Nat → ClassId) (dI : Nat → Nat → Nat) (ky : ClassId) (sz : Nat) (h0 : Nat) (sy : Nat) (fi : Nat) (ba : Nat) (n : Nat) (lo : Int32) (hi : Int32) (S : Nat → Nat) (F : Nat → Nat) (B1 : Nat → Nat) (hs : ∀ k_, S k_ < 28) (hF : ∀ k_, F k_ < 98) (hB1 : ∀ k_, B1 k_ < 97) (hn : n ≤ 97) : Met l y_Im_link (Cond.code y_Im_link prog_3_method_7_code 4 none :: W0) ({ frames := 0, cells := 0, slots := 0, locals := 0 }) (va_Pc [.ref h0] (fun U => U.heap.size = sz ∧ va_P (dC, dI) cls_ [(h0, .inr (1, [.ref sy, .int (nI n), .ref fi, .ref ba, .int (lo), .int (hi)])), (sy, .inl (ky, 97, .inl (nA S))), (fi, .inl (ky, 28, .inl (nA F))), (ba, .inl (ky, 97, .inl (nA B1)))] U.heap ∧ va_K (dC, dI) cls_ [(ky, .int)] U ∧ va_D (fun _ => True) [(h0, .inr (1, [.ref sy, .int (nI n), .ref fi, .ref ba, .int (lo), .int (hi)])), (sy, .inl (ky, 97, .inl (nA S))), (fi, .inl (ky, 28, .inl (nA F))), (ba, .inl (ky, 97, .inl (nA B1)))])) (va_Qv (fun (u : (Nat → Nat) × (Nat → Nat)) => match u with | (Fn, Bn) => Lnk S Fn Bn n ∧ (∀ k_, Fn k_ < 98) ∧ (∀ k_, Bn k_ < 97)) (fun (u : (Nat → Nat) × (Nat → Nat)) (t : State) => match u with | (Fn, Bn) => va_P (dC, dI) cls_ [(h0, .inr (1, [.ref sy, .int (nI n), .ref fi, .ref ba, .int (lo), .int (hi)])), (sy, .inl (ky, 97, .inl (nA S))), (fi, .inl (ky, 28, .inl (nA Fn))), (ba, .inl (ky, 97, .inl (nA Bn)))] t.heap ∧ va_D (va_A [(h0, .inr (1, [.ref sy, .int (nI n), .ref fi, .ref ba, .int (lo), .int (hi)])), (sy, .inl (ky, 97, .inl (nA S))), (fi, .inl (ky, 28, .inl (nA F))), (ba, .inl (ky, 97, .inl (nA B1)))] sz) [(h0, .inr (1, [.ref sy, .int (nI n), .ref fi, .ref ba, .int (lo), .int (hi)])), (sy, .inl (ky, 97, .inl (nA S))), (fi, .inl (ky, 28, .inl (nA Fn))), (ba, .inl (ky, 97, .inl (nA Bn)))]) (va_A [(h0, .inr (1, [.ref sy, .int (nI n), .ref fi, .ref ba, .int (lo), .int (hi)])), (sy, .inl (ky, 97, .inl (nA S))), (fi, .inl (ky, 28, .inl (nA F))), (ba, .inl (ky, 97, .inl (nA B1)))] sz)) 0 0 (va_A [(h0, .inr (1, [.ref sy, .int (nI n), .ref fi, .ref ba, .int (lo), .int (hi)])), (sy, .inl (ky, 97, .inl (nA S))), (fi, .inl (ky, 28, .inl (nA F))), (ba, .inl (ky, 97, .inl (nA B1)))] sz) := by
  refine Met.ofW (cc := prog_3_method_7_code) (maxL := 4) (ret := none) (by decide) rfl ?_
  intro p e s m args below meth c s₁ B hml hv
  obtain ⟨rfl, hsz, hP, hK, hD0⟩ := hv
  have hx := B.exec
  have hb := B.bytes
  have hr := B.returns
  have hlocks := B.notSynchronized
  have hts := atoms_spec (ws := (Cond.code y_Im_link prog_3_method_7_code 4 none :: W0)) B.pre
  have htb : ∀ w ∈ W0, w.before _ s = true := fun w h => hts w (List.mem_cons_of_mem _ h)
  have hown : s.vm.findClass "SelfIndexedSequences$Image" = some m.cls := findClass_of_methodNamed B.named
  subst hsz
  have hD := hD0.self (sz := s.heap.size)
  generalize hAe : va_A [(h0, .inr (1, [.ref sy, .int (nI n), .ref fi, .ref ba, .int (lo), .int (hi)])), (sy, .inl (ky, 97, .inl (nA S))), (fi, .inl (ky, 28, .inl (nA F))), (ba, .inl (ky, 97, .inl (nA B1)))] s.heap.size = A at hD ⊢
  have hA : ∀ q : Nat, s.heap.size ≤ q → A q := fun q h => by rw [← hAe]; exact Or.inr h
  have hS : va_S A s.heap s.heap [] := va_S.rf
  have hl := lv_entry ([.ref h0]) (n := 4) (Nat.le_of_ble_eq_true rfl)
  rw [lg_entry_eq]
  generalize (lg_sl ([.ref h0]) ++ List.replicate (4 - (lg_sl ([.ref h0])).length) Slot.unset).toArray = ls at hl ⊢
  have hl : lv_has ls 4 [(0, .ref h0)] := hl
  refine lv_iconst (v := nI 0) hx hb d_Im_link_0 (by decide) ?_
  refine lv_istore_n hx hb d_Im_link_1 rfl hl (by decide) rfl (fun ls hl => ?_)
  have hl : lv_has ls 4 [(1, .int (nI 0)), (0, .ref h0)] := hl
  refine lv_iconst (v := nI 0) hx hb d_Im_link_2 (by decide) ?_
  refine lv_istore_n hx hb d_Im_link_3 rfl hl (by decide) rfl (fun ls hl => ?_)
  have hl : lv_has ls 4 [(2, .int (nI 0)), (1, .int (nI 0)), (0, .ref h0)] := hl
  refine wl_loop (σ := Nat × Nat × (Nat → Nat) × (Nat → Nat)) 4 [] (fun (a_ : Nat × Nat × (Nat → Nat) × (Nat → Nat)) => match a_ with | (sb, r1, Fq, Bq) => 28 - sb) (fun (a_ : Nat × Nat × (Nat → Nat) × (Nat → Nat)) (H : Heap) (locs : List Loc) (ls : Array Slot) => match a_ with | (sb, r1, Fq, Bq) => (sb ≤ 28) ∧ (r1 = num (fun j => S j < sb) n) ∧ (∀ d, d < sb → Fq d = num (fun j => S j < d) n) ∧ (∀ x, x < n → S x < sb → Bq x = bk S n x) ∧ (∀ k_, Fq k_ < 98) ∧ (∀ k_, Bq k_ < 97) ∧ va_P (dC, dI) cls_ [(h0, .inr (1, [.ref sy, .int (nI n), .ref fi, .ref ba, .int (lo), .int (hi)])), (sy, .inl (ky, 97, .inl (nA S))), (fi, .inl (ky, 28, .inl (nA Fq))), (ba, .inl (ky, 97, .inl (nA Bq)))] H ∧ va_D A [(h0, .inr (1, [.ref sy, .int (nI n), .ref fi, .ref ba, .int (lo), .int (hi)])), (sy, .inl (ky, 97, .inl (nA S))), (fi, .inl (ky, 28, .inl (nA Fq))), (ba, .inl (ky, 97, .inl (nA Bq)))] ∧ va_S A s.heap H locs ∧ lv_has ls 4 [(2, .int (nI sb)), (1, .int (nI r1)), (0, .ref h0)]) ?_ (0, 0, F, B1) ⟨(by first | assumption | omega | (simp; done) | (simp_all; done)), (num_none (fun j _ x => by omega)).symm, (fun d hd => by omega), (fun x _ hx => by omega), hF, hB1, hP, hD, hS, lv_sub hl [0, 1, 2] rfl⟩
  clear hP hD hS hl
  intro a_ H locs ls hI ih4
  obtain ⟨sb, r1, Fq, Bq⟩ := a_
  obtain ⟨hsb, hr0, hFi, hBi, hFb, hBb, hP, hD, hS, hl⟩ := hI
  have hl : lv_has ls 4 [(2, .int (nI sb)), (1, .int (nI r1)), (0, .ref h0)] := hl
  have hP : va_P (dC, dI) cls_ [(h0, .inr (1, [.ref sy, .int (nI n), .ref fi, .ref ba, .int (lo), .int (hi)])), (sy, .inl (ky, 97, .inl (nA S))), (fi, .inl (ky, 28, .inl (nA Fq))), (ba, .inl (ky, 97, .inl (nA Bq)))] H := hP
  have hD : va_D A [(h0, .inr (1, [.ref sy, .int (nI n), .ref fi, .ref ba, .int (lo), .int (hi)])), (sy, .inl (ky, 97, .inl (nA S))), (fi, .inl (ky, 28, .inl (nA Fq))), (ba, .inl (ky, 97, .inl (nA Bq)))] := hD
  have hsb : sb ≤ 28 := hsb
  have hr0 : r1 = num (fun j => S j < sb) n := hr0
  have hFi : ∀ d, d < sb → Fq d = num (fun j => S j < d) n := hFi
  have hBi : ∀ x, x < n → S x < sb → Bq x = bk S n x := hBi
  have hFb : ∀ k_, Fq k_ < 98 := hFb
  have hBb : ∀ k_, Bq k_ < 97 := hBb
  refine lv_iload_n hx hb d_Im_link_4 rfl (lv_at hl 0 rfl) ?_
  refine lv_bipush (v := nI 28) hx hb d_Im_link_5 (by decide) ?_
  refine lv_icmp_ge (tgt := 59) hx hb d_Im_link_7 (by decide) (fun hc7 => ?_) (fun hc7 => ?_)
  · skip
    rw [bw_le_nn (by omega) (by omega)] at hc7
    have hP9 := hP.sub (ws' := [(h0, .inr (1, [.ref sy, .int (nI n), .ref fi, .ref ba, .int (lo), .int (hi)])), (sy, .inl (ky, 97, .inl (nA S))), (fi, .inl (ky, 28, .inl (nA Fq))), (ba, .inl (ky, 97, .inl (nA Bq)))]) [0, 1, 2, 3] rfl
    have hD9 := hD.sub (ws' := [(h0, .inr (1, [.ref sy, .int (nI n), .ref fi, .ref ba, .int (lo), .int (hi)])), (sy, .inl (ky, 97, .inl (nA S))), (fi, .inl (ky, 28, .inl (nA Fq))), (ba, .inl (ky, 97, .inl (nA Bq)))]) [0, 1, 2, 3] (by decide) rfl
    exact W.vret hx hb hr (fun t ht hW => ⟨⟨(Fq, Bq), rfl, ⟨⟨fun d hd => hFi d (by omega), fun k hk => hBi k hk (by have := hs k; omega)⟩, hFb, hBb⟩, by rw [ht]; exact hP9, hD9⟩, hS.F ht⟩) hS.2.2 d_Im_link_59
  · skip
    rw [bw_le_nn (by omega) (by omega)] at hc7
    refine lv_aload_n hx hb d_Im_link_10 rfl (lv_at hl 2 rfl) ?_
    refine va_get (D := (dC, dI)) (ci := 1) (v := .ref fi) (C := R_Im) (T := F_Im) (N := 6) hx hb htb in_Im hown hK hP 0 rfl rfl 2 (by decide) (htb _ tw_52) (fun _ h9 => h9) rfl d_Im_link_11 ?_
    refine lv_iload_n hx hb d_Im_link_14 rfl (lv_at hl 0 rfl) ?_
    refine lv_iload_n hx hb d_Im_link_15 rfl (lv_at hl 1 rfl) ?_
    have hrn : r1 ≤ n := by rw [hr0]; exact num_le _ _
    refine va_iast hx hb hK hP hD hS 2 0 rfl rfl (vp_in_nI (by omega) (by decide)) d_Im_link_16 (fun H locs hP hD hS => ?_)
    rw [nI_clamp (by omega)] at hP hD
    rw [nA_upd] at hP hD
    have hu1 : ∀ k_, (upN Fq sb r1) k_ < 98 := upN_lt hFb (by omega)
    have hP : va_P (dC, dI) cls_ [(h0, .inr (1, [.ref sy, .int (nI n), .ref fi, .ref ba, .int (lo), .int (hi)])), (sy, .inl (ky, 97, .inl (nA S))), (fi, .inl (ky, 28, .inl (nA (upN Fq sb r1)))), (ba, .inl (ky, 97, .inl (nA Bq)))] H := hP
    have hD : va_D A [(h0, .inr (1, [.ref sy, .int (nI n), .ref fi, .ref ba, .int (lo), .int (hi)])), (sy, .inl (ky, 97, .inl (nA S))), (fi, .inl (ky, 28, .inl (nA (upN Fq sb r1)))), (ba, .inl (ky, 97, .inl (nA Bq)))] := hD
    refine lv_iconst (v := nI 0) hx hb d_Im_link_17 (by decide) ?_
    refine lv_istore_n hx hb d_Im_link_18 rfl hl (by decide) rfl (fun ls hl => ?_)
    have hl : lv_has ls 4 [(3, .int (nI 0)), (2, .int (nI sb)), (1, .int (nI r1)), (0, .ref h0)] := hl
    refine wl_loop (σ := Nat × Nat × (Nat → Nat)) 19 [] (fun (a_ : Nat × Nat × (Nat → Nat)) => match a_ with | (k, r2, Bp) => n - k) (fun (a_ : Nat × Nat × (Nat → Nat)) (H : Heap) (locs : List Loc) (ls : Array Slot) => match a_ with | (k, r2, Bp) => (k ≤ n) ∧ (r2 = num (fun j => S j < sb) n + num (fun j => S j = sb) k) ∧ (∀ x, x < n → (S x < sb ∨ (S x = sb ∧ x < k)) → Bp x = bk S n x) ∧ (∀ k_, Bp k_ < 97) ∧ va_P (dC, dI) cls_ [(h0, .inr (1, [.ref sy, .int (nI n), .ref fi, .ref ba, .int (lo), .int (hi)])), (sy, .inl (ky, 97, .inl (nA S))), (fi, .inl (ky, 28, .inl (nA (upN Fq sb r1)))), (ba, .inl (ky, 97, .inl (nA Bp)))] H ∧ va_D A [(h0, .inr (1, [.ref sy, .int (nI n), .ref fi, .ref ba, .int (lo), .int (hi)])), (sy, .inl (ky, 97, .inl (nA S))), (fi, .inl (ky, 28, .inl (nA (upN Fq sb r1)))), (ba, .inl (ky, 97, .inl (nA Bp)))] ∧ va_S A s.heap H locs ∧ lv_has ls 4 [(3, .int (nI k)), (1, .int (nI r2)), (2, .int (nI sb)), (0, .ref h0)]) ?_ (0, r1, Bq) ⟨(by first | assumption | omega | (simp; done) | (simp_all; done)), (by rw [num_0]; omega), (fun x hx h => hBi x hx (by omega)), hBb, hP, hD, hS, lv_sub hl [0, 2, 1, 3] rfl⟩
    clear hP hD hS hl
    intro a_ H locs ls hI ih19
    obtain ⟨k, r2, Bp⟩ := a_
    obtain ⟨hk, hr2, hBj, hBp, hP, hD, hS, hl⟩ := hI
    have hl : lv_has ls 4 [(3, .int (nI k)), (1, .int (nI r2)), (2, .int (nI sb)), (0, .ref h0)] := hl
    have hP : va_P (dC, dI) cls_ [(h0, .inr (1, [.ref sy, .int (nI n), .ref fi, .ref ba, .int (lo), .int (hi)])), (sy, .inl (ky, 97, .inl (nA S))), (fi, .inl (ky, 28, .inl (nA (upN Fq sb r1)))), (ba, .inl (ky, 97, .inl (nA Bp)))] H := hP
    have hD : va_D A [(h0, .inr (1, [.ref sy, .int (nI n), .ref fi, .ref ba, .int (lo), .int (hi)])), (sy, .inl (ky, 97, .inl (nA S))), (fi, .inl (ky, 28, .inl (nA (upN Fq sb r1)))), (ba, .inl (ky, 97, .inl (nA Bp)))] := hD
    have hk : k ≤ n := hk
    have hr2 : r2 = num (fun j => S j < sb) n + num (fun j => S j = sb) k := hr2
    have hBj : ∀ x, x < n → (S x < sb ∨ (S x = sb ∧ x < k)) → Bp x = bk S n x := hBj
    have hBp : ∀ k_, Bp k_ < 97 := hBp
    refine lv_iload_n hx hb d_Im_link_19 rfl (lv_at hl 0 rfl) ?_
    refine lv_aload_n hx hb d_Im_link_20 rfl (lv_at hl 3 rfl) ?_
    refine va_get (D := (dC, dI)) (ci := 1) (v := .int (nI n)) (C := R_Im) (T := F_Im) (N := 6) hx hb htb in_Im hown hK hP 0 rfl rfl 1 (by decide) (htb _ tw_50) (fun _ h9 => h9) rfl d_Im_link_21 ?_
    have hr2n := num_ls_le S sb n k hk
    refine lv_icmp_ge (tgt := 53) hx hb d_Im_link_24 (by decide) (fun hc24 => ?_) (fun hc24 => ?_)
    · skip
      rw [bw_le_nn (by omega) (by omega)] at hc24
      refine lv_iinc (v := nI (sb + 1)) (k := 2) hx hb d_Im_link_53 hl rfl (bw_inc sb 1) (by decide) rfl (fun ls hl => ?_)
      have hl : lv_has ls 4 [(2, .int (nI (sb + 1))), (3, .int (nI k)), (1, .int (nI r2)), (0, .ref h0)] := hl
      refine lv_goto (tgt := 4) hx hb d_Im_link_56 (by decide) ?_
      have hkn : k = n := by omega
      subst hkn
      exact ih4 ((sb + 1), r2, (upN Fq sb r1), Bp) _ _ _ ⟨(by first | assumption | omega | (simp; done) | (simp_all; done)), lk_r hr2, lk_F hFi hr0, (fun x hx h => hBj x hx (by omega)), hu1, hBp, hP, hD, hS, lv_sub hl [0, 2, 3] rfl⟩ (by first | omega | (simp only; omega) | (dsimp only; omega))
    · skip
      rw [bw_le_nn (by omega) (by omega)] at hc24
      refine lv_aload_n hx hb d_Im_link_27 rfl (lv_at hl 3 rfl) ?_
      refine va_get (D := (dC, dI)) (ci := 1) (v := .ref sy) (C := R_Im) (T := F_Im) (N := 6) hx hb htb in_Im hown hK hP 0 rfl rfl 0 (by decide) (htb _ tw_46) (fun _ h9 => h9) rfl d_Im_link_28 ?_
      refine lv_iload_n hx hb d_Im_link_31 rfl (lv_at hl 0 rfl) ?_
      refine va_iald hx hb hK hP 1 0 rfl rfl (vp_in_nI (by omega) (by decide)) d_Im_link_32 ?_
      rw [nI_clamp (by omega)]
      have hb32 := hs k
      rw [nA_at]
      refine lv_iload_n hx hb d_Im_link_33 rfl (lv_at hl 2 rfl) ?_
      refine lv_icmp_ne (tgt := 47) hx hb d_Im_link_34 (by decide) (fun hc34 => ?_) (fun hc34 => ?_)
      · skip
        rw [bw_eq_nn (by omega) (by omega)] at hc34
        refine lv_iinc (v := nI (k + 1)) (k := 0) hx hb d_Im_link_47 hl rfl (bw_inc k 1) (by decide) rfl (fun ls hl => ?_)
        have hl : lv_has ls 4 [(3, .int (nI (k + 1))), (1, .int (nI r2)), (2, .int (nI sb)), (0, .ref h0)] := hl
        refine lv_goto (tgt := 19) hx hb d_Im_link_50 (by decide) ?_
        exact ih19 ((k + 1), r2, Bp) _ _ _ ⟨(by first | assumption | omega | (simp; done) | (simp_all; done)), (by first | (rw [num_y (P := fun j => S j = sb) (by assumption)]; omega) | (rw [num_n (P := fun j => S j = sb) (by assumption)]; omega)), (by first | exact lk_B hBj (by assumption) hr2 | exact lk_Bn hBj (by assumption)), (by first | assumption | exact hu2), hP, hD, hS, lv_sub hl [0, 1, 2, 3] rfl⟩ (by first | omega | (simp only; omega) | (dsimp only; omega))
      · skip
        rw [bw_eq_nn (by omega) (by omega)] at hc34
        refine lv_aload_n hx hb d_Im_link_37 rfl (lv_at hl 3 rfl) ?_
        refine va_get (D := (dC, dI)) (ci := 1) (v := .ref ba) (C := R_Im) (T := F_Im) (N := 6) hx hb htb in_Im hown hK hP 0 rfl rfl 3 (by decide) (htb _ tw_53) (fun _ h9 => h9) rfl d_Im_link_38 ?_
        refine lv_iload_n hx hb d_Im_link_41 rfl (lv_at hl 0 rfl) ?_
        refine lv_iload_n hx hb d_Im_link_42 rfl (lv_at hl 1 rfl) ?_
        have hrn : r2 < n := by rw [hr2, ← hc34]; exact bk_lt (show k < n by omega)
        refine va_iast hx hb hK hP hD hS 3 0 rfl rfl (vp_in_nI (by omega) (by decide)) d_Im_link_43 (fun H locs hP hD hS => ?_)
        rw [nI_clamp (by omega)] at hP hD
        rw [nA_upd] at hP hD
        have hu2 : ∀ k_, (upN Bp k r2) k_ < 97 := upN_lt hBp (by omega)
        have hP : va_P (dC, dI) cls_ [(h0, .inr (1, [.ref sy, .int (nI n), .ref fi, .ref ba, .int (lo), .int (hi)])), (sy, .inl (ky, 97, .inl (nA S))), (fi, .inl (ky, 28, .inl (nA (upN Fq sb r1)))), (ba, .inl (ky, 97, .inl (nA (upN Bp k r2))))] H := hP
        have hD : va_D A [(h0, .inr (1, [.ref sy, .int (nI n), .ref fi, .ref ba, .int (lo), .int (hi)])), (sy, .inl (ky, 97, .inl (nA S))), (fi, .inl (ky, 28, .inl (nA (upN Fq sb r1)))), (ba, .inl (ky, 97, .inl (nA (upN Bp k r2))))] := hD
        refine lv_iinc (v := nI (r2 + 1)) (k := 1) hx hb d_Im_link_44 hl rfl (bw_inc r2 1) (by decide) rfl (fun ls hl => ?_)
        have hl : lv_has ls 4 [(1, .int (nI (r2 + 1))), (3, .int (nI k)), (2, .int (nI sb)), (0, .ref h0)] := hl
        refine lv_iinc (v := nI (k + 1)) (k := 1) hx hb d_Im_link_47 hl rfl (bw_inc k 1) (by decide) rfl (fun ls hl => ?_)
        have hl : lv_has ls 4 [(3, .int (nI (k + 1))), (1, .int (nI (r2 + 1))), (2, .int (nI sb)), (0, .ref h0)] := hl
        refine lv_goto (tgt := 19) hx hb d_Im_link_50 (by decide) ?_
        exact ih19 ((k + 1), (r2 + 1), (upN Bp k r2)) _ _ _ ⟨(by first | assumption | omega | (simp; done) | (simp_all; done)), (by first | (rw [num_y (P := fun j => S j = sb) (by assumption)]; omega) | (rw [num_n (P := fun j => S j = sb) (by assumption)]; omega)), (by first | exact lk_B hBj (by assumption) hr2 | exact lk_Bn hBj (by assumption)), (by first | assumption | exact hu2), hP, hD, hS, lv_sub hl [0, 1, 2, 3] rfl⟩ (by first | omega | (simp only; omega) | (dsimp only; omega))

set_option maxHeartbeats 4000000 in
set_option maxRecDepth 100000 in
/-- a symbol put before the text -/
theorem c_Im_putBefore (l : Launch) (dC : Nat → ClassId) (dI : Nat → Nat → Nat) (ky : ClassId) (sz : Nat) (h0 : Nat) (sy : Nat) (fi : Nat) (ba : Nat) (n : Nat) (lo : Int32) (hi : Int32) (S : Nat → Nat) (cs : Nat) (er : Nat) (hs : ∀ k_, S k_ < 28) (hc : cs < 28) (hn : n ≤ 96) (her : er < n) : Met l y_Im_putBefore (Cond.code y_Im_putBefore prog_3_method_4_code 4 (some .int) :: W0) ({ frames := 1, cells := 0, slots := 0, locals := 37 }) (va_Pc [.ref h0, .int (nI cs), .int (nI er)] (fun U => U.heap.size = sz ∧ va_P (dC, dI) cls_ [(h0, .inr (1, [.ref sy, .int (nI n), .ref fi, .ref ba, .int (lo), .int (hi)])), (sy, .inl (ky, 97, .inl (nA S)))] U.heap ∧ va_K (dC, dI) cls_ [(ky, .int)] U ∧ va_D (fun _ => True) [(h0, .inr (1, [.ref sy, .int (nI n), .ref fi, .ref ba, .int (lo), .int (hi)])), (sy, .inl (ky, 97, .inl (nA S)))])) (va_Qi (fun (r : Int32) (u : (Nat) × (Nat → Nat)) => match u with | (ro, S2) => r = nI ro ∧ (ro = 1 + num (fun j => upN S er cs j < cs) n + num (fun j => upN S er cs j = cs) er ∧ S2 = upN (va_cpy (upN S er cs) (upN S er cs) ro (ro + 1) (n - ro)) ro 0 ∧ (∀ k_, S2 k_ < 28))) (fun (u : (Nat) × (Nat → Nat)) (t : State) => match u with | (ro, S2) => va_P (dC, dI) cls_ [(h0, .inr (1, [.ref sy, .int (nI (n + 1)), .ref fi, .ref ba, .int (lo), .int (hi)])), (sy, .inl (ky, 97, .inl (nA S2)))] t.heap ∧ va_D (va_A [(h0, .inr (1, [.ref sy, .int (nI n), .ref fi, .ref ba, .int (lo), .int (hi)])), (sy, .inl (ky, 97, .inl (nA S)))] sz) [(h0, .inr (1, [.ref sy, .int (nI (n + 1)), .ref fi, .ref ba, .int (lo), .int (hi)])), (sy, .inl (ky, 97, .inl (nA S2)))]) (va_A [(h0, .inr (1, [.ref sy, .int (nI n), .ref fi, .ref ba, .int (lo), .int (hi)])), (sy, .inl (ky, 97, .inl (nA S)))] sz)) 0 0 (va_A [(h0, .inr (1, [.ref sy, .int (nI n), .ref fi, .ref ba, .int (lo), .int (hi)])), (sy, .inl (ky, 97, .inl (nA S)))] sz) := by
  refine Met.ofW (cc := prog_3_method_4_code) (maxL := 4) (ret := (some .int)) (by decide) rfl ?_
  intro p e s m args below meth c s₁ B hml hv
  obtain ⟨rfl, hsz, hP, hK, hD0⟩ := hv
  have hx := B.exec
  have hb := B.bytes
  have hr := B.returns
  have hlocks := B.notSynchronized
  have hts := atoms_spec (ws := (Cond.code y_Im_putBefore prog_3_method_4_code 4 (some .int) :: W0)) B.pre
  have htb : ∀ w ∈ W0, w.before _ s = true := fun w h => hts w (List.mem_cons_of_mem _ h)
  have hown : s.vm.findClass "SelfIndexedSequences$Image" = some m.cls := findClass_of_methodNamed B.named
  subst hsz
  have hD := hD0.self (sz := s.heap.size)
  generalize hAe : va_A [(h0, .inr (1, [.ref sy, .int (nI n), .ref fi, .ref ba, .int (lo), .int (hi)])), (sy, .inl (ky, 97, .inl (nA S)))] s.heap.size = A at hD ⊢
  have hA : ∀ q : Nat, s.heap.size ≤ q → A q := fun q h => by rw [← hAe]; exact Or.inr h
  have hS : va_S A s.heap s.heap [] := va_S.rf
  have hl := lv_entry ([.ref h0, .int (nI cs), .int (nI er)]) (n := 4) (Nat.le_of_ble_eq_true rfl)
  rw [lg_entry_eq]
  generalize (lg_sl ([.ref h0, .int (nI cs), .int (nI er)]) ++ List.replicate (4 - (lg_sl ([.ref h0, .int (nI cs), .int (nI er)])).length) Slot.unset).toArray = ls at hl ⊢
  have hl : lv_has ls 4 [(0, .ref h0), (1, .int (nI cs)), (2, .int (nI er))] := hl
  refine lv_aload_n hx hb d_Im_putBefore_0 rfl (lv_at hl 0 rfl) ?_
  refine va_get (D := (dC, dI)) (ci := 1) (v := .ref sy) (C := R_Im) (T := F_Im) (N := 6) hx hb htb in_Im hown hK hP 0 rfl rfl 0 (by decide) (htb _ tw_46) (fun _ h9 => h9) rfl d_Im_putBefore_1 ?_
  refine lv_iload_n hx hb d_Im_putBefore_4 rfl (lv_at hl 2 rfl) ?_
  refine lv_iload_n hx hb d_Im_putBefore_5 rfl (lv_at hl 1 rfl) ?_
  refine va_iast hx hb hK hP hD hS 1 0 rfl rfl (vp_in_nI (by omega) (by decide)) d_Im_putBefore_6 (fun H locs hP hD hS => ?_)
  rw [nI_clamp (by omega)] at hP hD
  rw [nA_upd] at hP hD
  have hu1 : ∀ k_, (upN S er cs) k_ < 28 := upN_lt hs (by omega)
  have hP : va_P (dC, dI) cls_ [(h0, .inr (1, [.ref sy, .int (nI n), .ref fi, .ref ba, .int (lo), .int (hi)])), (sy, .inl (ky, 97, .inl (nA (upN S er cs))))] H := hP
  have hD : va_D A [(h0, .inr (1, [.ref sy, .int (nI n), .ref fi, .ref ba, .int (lo), .int (hi)])), (sy, .inl (ky, 97, .inl (nA (upN S er cs))))] := hD
  refine lv_iconst (v := nI 1) hx hb d_Im_putBefore_7 (by decide) ?_
  refine lv_aload_n hx hb d_Im_putBefore_8 rfl (lv_at hl 0 rfl) ?_
  refine lv_iload_n hx hb d_Im_putBefore_9 rfl (lv_at hl 1 rfl) ?_
  have hPc := hP.sub (ws' := [(h0, .inr (1, [.ref sy, .int (nI n), .ref fi, .ref ba, .int (lo), .int (hi)])), (sy, .inl (ky, 97, .inl (nA (upN S er cs))))]) [0, 1] rfl
  have hDc := hD.sub (ws' := [(h0, .inr (1, [.ref sy, .int (nI n), .ref fi, .ref ba, .int (lo), .int (hi)])), (sy, .inl (ky, 97, .inl (nA (upN S er cs))))]) [0, 1] (by decide) rfl
  have hFc := va_free (wc := [(h0, .inr (1, [.ref sy, .int (nI n), .ref fi, .ref ba, .int (lo), .int (hi)])), (sy, .inl (ky, 97, .inl (nA (upN S er cs))))]) hD hS hA [0, 1] rfl
  refine va_calli (va_runV (C := "SelfIndexedSequences$Image") (As := [.int (nI cs)]) (rest := [.int (nI 1)]) ⟨hx, hb, hml, hown, hts⟩ (c_Im_lesserThan l dC dI ky H.size h0 sy fi ba n lo hi (upN S er cs) cs hu1 (by first | assumption | omega | (simp; done) | (simp_all; done)) (by first | assumption | omega | (simp; done) | (simp_all; done))) ⟨callB_of 1 hts (W0_good tw_189) rfl rfl rfl (htb _ tw_24) (htb _ tw_186) ⟨by decide, by decide, by decide +kernel⟩ ⟨(Nat.le_of_ble_eq_true rfl), (Nat.le_of_ble_eq_true rfl)⟩, htb _ tw_188, htb _ tw_2⟩ ⟨fun a U g mk q => by obtain ⟨q0, q1, qP, qK, qD⟩ := q; exact ⟨q0, q1, qP, va_K.moved (u := U) (U := U.calling g mk a) (Vm.Alike.refl U.vm) qK, qD⟩, va_recv hK hPc (q0 := 0) (q := (R_Im, F_Im, 6)) rfl rfl, fun U hU hW => ⟨rfl, by rw [hU], by rw [hU]; exact hPc, va_K.moved hW.alike hK, hDc.weaken (fun _ _ _ _ => trivial)⟩⟩ rfl rfl hl.1 rfl (lv_room (Nat.le_of_ble_eq_true rfl)) d_Im_putBefore_10 ⟨(Nat.le_of_ble_eq_true rfl), (Nat.le_of_ble_eq_true rfl)⟩) hS (fun q _ h => hFc q h) hFc (fun r10 u_ t H locs ht hvm hw10 hB hz1 hk1 hS => ?_)
  obtain ⟨hP1, hD1⟩ := hB
  rw [ht] at hP1
  obtain ⟨hP, hD⟩ := va_join (wr := []) (w1 := [(h0, .inr (1, [.ref sy, .int (nI n), .ref fi, .ref ba, .int (lo), .int (hi)])), (sy, .inl (ky, 97, .inl (nA (upN S er cs))))]) hP hD [0, 1] [] rfl rfl (by decide) (by decide) hk1 hFc hP1 hD1
  have hP : va_P (dC, dI) cls_ [(h0, .inr (1, [.ref sy, .int (nI n), .ref fi, .ref ba, .int (lo), .int (hi)])), (sy, .inl (ky, 97, .inl (nA (upN S er cs))))] H := hP
  have hD : va_D A [(h0, .inr (1, [.ref sy, .int (nI n), .ref fi, .ref ba, .int (lo), .int (hi)])), (sy, .inl (ky, 97, .inl (nA (upN S er cs))))] := hD
  have hw10 : r10 = nI (num (fun j => (upN S er cs) j < cs) n) ∧ (True) := hw10
  obtain ⟨hre, hq10⟩ := hw10
  subst hre
  refine lv_iadd hx hb d_Im_putBefore_13 ?_
  rw [nI_add]
  refine lv_aload_n hx hb d_Im_putBefore_14 rfl (lv_at hl 0 rfl) ?_
  refine lv_iload_n hx hb d_Im_putBefore_15 rfl (lv_at hl 1 rfl) ?_
  refine lv_iload_n hx hb d_Im_putBefore_16 rfl (lv_at hl 2 rfl) ?_
  have hPc := hP.sub (ws' := [(h0, .inr (1, [.ref sy, .int (nI n), .ref fi, .ref ba, .int (lo), .int (hi)])), (sy, .inl (ky, 97, .inl (nA (upN S er cs))))]) [0, 1] rfl
  have hDc := hD.sub (ws' := [(h0, .inr (1, [.ref sy, .int (nI n), .ref fi, .ref ba, .int (lo), .int (hi)])), (sy, .inl (ky, 97, .inl (nA (upN S er cs))))]) [0, 1] (by decide) rfl
  have hFc := va_free (wc := [(h0, .inr (1, [.ref sy, .int (nI n), .ref fi, .ref ba, .int (lo), .int (hi)])), (sy, .inl (ky, 97, .inl (nA (upN S er cs))))]) hD hS hA [0, 1] rfl
  refine va_calli (va_runV (C := "SelfIndexedSequences$Image") (As := [.int (nI cs), .int (nI er)]) (rest := [.int (nI (1 + (num (fun j => (upN S er cs) j < cs) n)))]) ⟨hx, hb, hml, hown, hts⟩ (c_Im_among l dC dI ky H.size h0 sy fi ba n lo hi (upN S er cs) cs er hu1 (by first | assumption | omega | (simp; done) | (simp_all; done)) (by first | assumption | omega | (simp; done) | (simp_all; done))) ⟨callB_of 2 hts (W0_good tw_193) rfl rfl rfl (htb _ tw_24) (htb _ tw_190) ⟨by decide, by decide, by decide +kernel⟩ ⟨(Nat.le_of_ble_eq_true rfl), (Nat.le_of_ble_eq_true rfl)⟩, htb _ tw_191, htb _ tw_192⟩ ⟨fun a U g mk q => by obtain ⟨q0, q1, qP, qK, qD⟩ := q; exact ⟨q0, q1, qP, va_K.moved (u := U) (U := U.calling g mk a) (Vm.Alike.refl U.vm) qK, qD⟩, va_recv hK hPc (q0 := 0) (q := (R_Im, F_Im, 6)) rfl rfl, fun U hU hW => ⟨rfl, by rw [hU], by rw [hU]; exact hPc, va_K.moved hW.alike hK, hDc.weaken (fun _ _ _ _ => trivial)⟩⟩ rfl rfl hl.1 rfl (lv_room (Nat.le_of_ble_eq_true rfl)) d_Im_putBefore_17 ⟨(Nat.le_of_ble_eq_true rfl), (Nat.le_of_ble_eq_true rfl)⟩) hS (fun q _ h => hFc q h) hFc (fun r17 u_ t H locs ht hvm hw17 hB hz1 hk1 hS => ?_)
  obtain ⟨hP1, hD1⟩ := hB
  rw [ht] at hP1
  obtain ⟨hP, hD⟩ := va_join (wr := []) (w1 := [(h0, .inr (1, [.ref sy, .int (nI n), .ref fi, .ref ba, .int (lo), .int (hi)])), (sy, .inl (ky, 97, .inl (nA (upN S er cs))))]) hP hD [0, 1] [] rfl rfl (by decide) (by decide) hk1 hFc hP1 hD1
  have hP : va_P (dC, dI) cls_ [(h0, .inr (1, [.ref sy, .int (nI n), .ref fi, .ref ba, .int (lo), .int (hi)])), (sy, .inl (ky, 97, .inl (nA (upN S er cs))))] H := hP
  have hD : va_D A [(h0, .inr (1, [.ref sy, .int (nI n), .ref fi, .ref ba, .int (lo), .int (hi)])), (sy, .inl (ky, 97, .inl (nA (upN S er cs))))] := hD
  have hw17 : r17 = nI (num (fun j => (upN S er cs) j = cs) er) ∧ (True) := hw17
  obtain ⟨hre, hq17⟩ := hw17
  subst hre
  obtain ⟨ro, hro⟩ : ∃ ro, ro = 1 + num (fun j => upN S er cs j < cs) n + num (fun j => upN S er cs j = cs) er := ⟨_, rfl⟩
  have hrn : ro ≤ n := by rw [hro]; exact mk_row her
  refine lv_iadd hx hb d_Im_putBefore_20 ?_
  rw [nI_add]
  rw [show nI ((1 + (num (fun j => (upN S er cs) j < cs) n)) + (num (fun j => (upN S er cs) j = cs) er)) = nI ro from (by rw [hro])]
  refine lv_istore_n hx hb d_Im_putBefore_21 rfl hl (by decide) rfl (fun ls hl => ?_)
  have hl : lv_has ls 4 [(3, .int (nI ro)), (0, .ref h0), (1, .int (nI cs)), (2, .int (nI er))] := hl
  refine lv_aload_n hx hb d_Im_putBefore_22 rfl (lv_at hl 1 rfl) ?_
  refine va_get (D := (dC, dI)) (ci := 1) (v := .ref sy) (C := R_Im) (T := F_Im) (N := 6) hx hb htb in_Im hown hK hP 0 rfl rfl 0 (by decide) (htb _ tw_46) (fun _ h9 => h9) rfl d_Im_putBefore_23 ?_
  refine lv_iload_n hx hb d_Im_putBefore_26 rfl (lv_at hl 0 rfl) ?_
  refine lv_aload_n hx hb d_Im_putBefore_27 rfl (lv_at hl 1 rfl) ?_
  refine va_get (D := (dC, dI)) (ci := 1) (v := .ref sy) (C := R_Im) (T := F_Im) (N := 6) hx hb htb in_Im hown hK hP 0 rfl rfl 0 (by decide) (htb _ tw_46) (fun _ h9 => h9) rfl d_Im_putBefore_28 ?_
  refine lv_iload_n hx hb d_Im_putBefore_31 rfl (lv_at hl 0 rfl) ?_
  refine lv_iconst (v := nI 1) hx hb d_Im_putBefore_32 (by decide) ?_
  refine lv_iadd hx hb d_Im_putBefore_33 ?_
  rw [nI_add]
  refine lv_aload_n hx hb d_Im_putBefore_34 rfl (lv_at hl 1 rfl) ?_
  refine va_get (D := (dC, dI)) (ci := 1) (v := .int (nI n)) (C := R_Im) (T := F_Im) (N := 6) hx hb htb in_Im hown hK hP 0 rfl rfl 1 (by decide) (htb _ tw_50) (fun _ h9 => h9) rfl d_Im_putBefore_35 ?_
  refine lv_iload_n hx hb d_Im_putBefore_38 rfl (lv_at hl 0 rfl) ?_
  refine lv_isub hx hb d_Im_putBefore_39 ?_
  rw [pk_sub (show ro ≤ n by omega)]
  refine va_copyi hx hb (by rw [hml]; exact hl.1.symm) hown (htb _ tw_194) (htb _ tw_196) (htb _ tw_195) (htb _ tw_29) hK hP hD hS 1 1 0 0 rfl rfl rfl rfl rfl (nI_pos (by omega)) (nI_pos (by omega)) (nI_pos (by omega)) (by rw [nI_clamp (by omega), nI_clamp (by omega)]; omega) (by rw [nI_clamp (by omega), nI_clamp (by omega)]; omega) (fun _ _ => rfl) (Nat.le_of_ble_eq_true rfl) (Nat.le_of_ble_eq_true rfl) d_Im_putBefore_40 (fun H locs hP hD hS => ?_)
  rw [nI_clamp (show ro < 2 ^ 31 by omega), nI_clamp (show ro + 1 < 2 ^ 31 by omega), nI_clamp (show n - ro < 2 ^ 31 by omega), nA_cpy] at hP hD
  have hu2 : ∀ k_, (va_cpy (upN S er cs) (upN S er cs) ro (ro + 1) (n - ro)) k_ < 28 := cpy_lt hu1 hu1
  have hP : va_P (dC, dI) cls_ [(h0, .inr (1, [.ref sy, .int (nI n), .ref fi, .ref ba, .int (lo), .int (hi)])), (sy, .inl (ky, 97, .inl (nA (va_cpy (upN S er cs) (upN S er cs) ro (ro + 1) (n - ro)))))] H := hP
  have hD : va_D A [(h0, .inr (1, [.ref sy, .int (nI n), .ref fi, .ref ba, .int (lo), .int (hi)])), (sy, .inl (ky, 97, .inl (nA (va_cpy (upN S er cs) (upN S er cs) ro (ro + 1) (n - ro)))))] := hD
  refine lv_aload_n hx hb d_Im_putBefore_43 rfl (lv_at hl 1 rfl) ?_
  refine va_get (D := (dC, dI)) (ci := 1) (v := .ref sy) (C := R_Im) (T := F_Im) (N := 6) hx hb htb in_Im hown hK hP 0 rfl rfl 0 (by decide) (htb _ tw_46) (fun _ h9 => h9) rfl d_Im_putBefore_44 ?_
  refine lv_iload_n hx hb d_Im_putBefore_47 rfl (lv_at hl 0 rfl) ?_
  refine lv_iconst (v := nI 0) hx hb d_Im_putBefore_48 (by decide) ?_
  refine va_iast hx hb hK hP hD hS 1 0 rfl rfl (vp_in_nI (by omega) (by decide)) d_Im_putBefore_49 (fun H locs hP hD hS => ?_)
  rw [nI_clamp (by omega)] at hP hD
  rw [nA_upd] at hP hD
  have hu3 : ∀ k_, (upN (va_cpy (upN S er cs) (upN S er cs) ro (ro + 1) (n - ro)) ro 0) k_ < 28 := upN_lt hu2 (by omega)
  have hP : va_P (dC, dI) cls_ [(h0, .inr (1, [.ref sy, .int (nI n), .ref fi, .ref ba, .int (lo), .int (hi)])), (sy, .inl (ky, 97, .inl (nA (upN (va_cpy (upN S er cs) (upN S er cs) ro (ro + 1) (n - ro)) ro 0))))] H := hP
  have hD : va_D A [(h0, .inr (1, [.ref sy, .int (nI n), .ref fi, .ref ba, .int (lo), .int (hi)])), (sy, .inl (ky, 97, .inl (nA (upN (va_cpy (upN S er cs) (upN S er cs) ro (ro + 1) (n - ro)) ro 0))))] := hD
  refine lv_aload_n hx hb d_Im_putBefore_50 rfl (lv_at hl 1 rfl) ?_
  refine lv_dup hx hb d_Im_putBefore_51 rfl ?_
  refine va_get (D := (dC, dI)) (ci := 1) (v := .int (nI n)) (C := R_Im) (T := F_Im) (N := 6) hx hb htb in_Im hown hK hP 0 rfl rfl 1 (by decide) (htb _ tw_50) (fun _ h9 => h9) rfl d_Im_putBefore_52 ?_
  refine lv_iconst (v := nI 1) hx hb d_Im_putBefore_55 (by decide) ?_
  refine lv_iadd hx hb d_Im_putBefore_56 ?_
  rw [nI_add]
  refine va_put (D := (dC, dI)) (ci := 1) (v := .int (nI (n + 1))) (ty := .int) (C := R_Im) (T := F_Im) (N := 6) hx hb htb in_Im t_Im tk_Im nm_Im hown hK hP hD hS 0 rfl rfl 1 (by decide) (htb _ tw_50) (fun _ h9 => h9) rfl (by decide +kernel) rfl rfl (Nat.le_of_ble_eq_true rfl) d_Im_putBefore_57 (fun H locs hP hD hS => ?_)
  have hP : va_P (dC, dI) cls_ [(h0, .inr (1, [.ref sy, .int (nI (n + 1)), .ref fi, .ref ba, .int (lo), .int (hi)])), (sy, .inl (ky, 97, .inl (nA (upN (va_cpy (upN S er cs) (upN S er cs) ro (ro + 1) (n - ro)) ro 0))))] H := hP
  have hD : va_D A [(h0, .inr (1, [.ref sy, .int (nI (n + 1)), .ref fi, .ref ba, .int (lo), .int (hi)])), (sy, .inl (ky, 97, .inl (nA (upN (va_cpy (upN S er cs) (upN S er cs) ro (ro + 1) (n - ro)) ro 0))))] := hD
  refine lv_iload_n hx hb d_Im_putBefore_60 rfl (lv_at hl 0 rfl) ?_
  have hP9 := hP.sub (ws' := [(h0, .inr (1, [.ref sy, .int (nI (n + 1)), .ref fi, .ref ba, .int (lo), .int (hi)])), (sy, .inl (ky, 97, .inl (nA (upN (va_cpy (upN S er cs) (upN S er cs) ro (ro + 1) (n - ro)) ro 0))))]) [0, 1] rfl
  have hD9 := hD.sub (ws' := [(h0, .inr (1, [.ref sy, .int (nI (n + 1)), .ref fi, .ref ba, .int (lo), .int (hi)])), (sy, .inl (ky, 97, .inl (nA (upN (va_cpy (upN S er cs) (upN S er cs) ro (ro + 1) (n - ro)) ro 0))))]) [0, 1] (by decide) rfl
  exact W.iret (v := nI ro) hx hb hr (fun t ht hW => ⟨⟨nI ro, (ro, (upN (va_cpy (upN S er cs) (upN S er cs) ro (ro + 1) (n - ro)) ro 0)), rfl, ⟨rfl, ⟨hro, rfl, hu3⟩⟩, by rw [ht]; exact hP9, hD9⟩, hS.F ht⟩) hS.2.2 d_Im_putBefore_61

set_option maxHeartbeats 4000000 in
set_option maxRecDepth 100000 in
/-- the image of a text -/
theorem c_Im_makeFromText (l : Launch) (dC : Nat → ClassId) (dI : Nat → Nat → Nat) (ky : ClassId) (sz : Nat) (h0 : Nat) (sy : Nat) (fi : Nat) (ba : Nat) (n : Nat) (lo : Int32) (hi : Int32) (S : Nat → Nat) (F : Nat → Nat) (B1 : Nat → Nat) (dr : Nat) (d : Nat) (Dd : Nat → Nat) (hs : ∀ k_, S k_ < 28) (hF : ∀ k_, F k_ < 98) (hB1 : ∀ k_, B1 k_ < 97) (hd : ∀ k_, Dd k_ < 28) (hdl : d ≤ 96) (hne : ∀ q, q < d → Dd q ≠ 0) : Met l y_Im_makeFromText (Cond.code y_Im_makeFromText prog_3_method_3_code 5 none :: W0) ({ frames := 2, cells := 0, slots := 0, locals := 60 }) (va_Pc [.ref h0, .ref dr, .int (nI d)] (fun U => U.heap.size = sz ∧ va_P (dC, dI) cls_ [(h0, .inr (1, [.ref sy, .int (nI n), .ref fi, .ref ba, .int (lo), .int (hi)])), (sy, .inl (ky, 97, .inl (nA S))), (fi, .inl (ky, 28, .inl (nA F))), (ba, .inl (ky, 97, .inl (nA B1))), (dr, .inl (ky, 97, .inl (nA Dd)))] U.heap ∧ va_K (dC, dI) cls_ [(ky, .int)] U ∧ va_D (fun _ => True) [(h0, .inr (1, [.ref sy, .int (nI n), .ref fi, .ref ba, .int (lo), .int (hi)])), (sy, .inl (ky, 97, .inl (nA S))), (fi, .inl (ky, 28, .inl (nA F))), (ba, .inl (ky, 97, .inl (nA B1))), (dr, .inl (ky, 97, .inl (nA Dd)))])) (va_Qv (fun (u : (Nat → Nat) × (Nat → Nat) × (Nat → Nat)) => match u with | (Sn, Fn, Bn) => (∃ O R, Srt (txd Dd d) d O R ∧ Img Sn (txd Dd d) O d) ∧ Lnk Sn Fn Bn (d + 1) ∧ (∀ k_, Sn k_ < 28) ∧ (∀ k_, Fn k_ < 98) ∧ (∀ k_, Bn k_ < 97)) (fun (u : (Nat → Nat) × (Nat → Nat) × (Nat → Nat)) (t : State) => match u with | (Sn, Fn, Bn) => va_P (dC, dI) cls_ [(h0, .inr (1, [.ref sy, .int (nI (d + 1)), .ref fi, .ref ba, .int (lo), .int (hi)])), (sy, .inl (ky, 97, .inl (nA Sn))), (fi, .inl (ky, 28, .inl (nA Fn))), (ba, .inl (ky, 97, .inl (nA Bn))), (dr, .inl (ky, 97, .inl (nA Dd)))] t.heap ∧ va_D (va_A [(h0, .inr (1, [.ref sy, .int (nI n), .ref fi, .ref ba, .int (lo), .int (hi)])), (sy, .inl (ky, 97, .inl (nA S))), (fi, .inl (ky, 28, .inl (nA F))), (ba, .inl (ky, 97, .inl (nA B1))), (dr, .inl (ky, 97, .inl (nA Dd)))] sz) [(h0, .inr (1, [.ref sy, .int (nI (d + 1)), .ref fi, .ref ba, .int (lo), .int (hi)])), (sy, .inl (ky, 97, .inl (nA Sn))), (fi, .inl (ky, 28, .inl (nA Fn))), (ba, .inl (ky, 97, .inl (nA Bn))), (dr, .inl (ky, 97, .inl (nA Dd)))]) (va_A [(h0, .inr (1, [.ref sy, .int (nI n), .ref fi, .ref ba, .int (lo), .int (hi)])), (sy, .inl (ky, 97, .inl (nA S))), (fi, .inl (ky, 28, .inl (nA F))), (ba, .inl (ky, 97, .inl (nA B1))), (dr, .inl (ky, 97, .inl (nA Dd)))] sz)) 0 0 (va_A [(h0, .inr (1, [.ref sy, .int (nI n), .ref fi, .ref ba, .int (lo), .int (hi)])), (sy, .inl (ky, 97, .inl (nA S))), (fi, .inl (ky, 28, .inl (nA F))), (ba, .inl (ky, 97, .inl (nA B1))), (dr, .inl (ky, 97, .inl (nA Dd)))] sz) := by
  refine Met.ofW (cc := prog_3_method_3_code) (maxL := 5) (ret := none) (by decide) rfl ?_
  intro p e s m args below meth c s₁ B hml hv
  obtain ⟨rfl, hsz, hP, hK, hD0⟩ := hv
  have hx := B.exec
  have hb := B.bytes
  have hr := B.returns
  have hlocks := B.notSynchronized
  have hts := atoms_spec (ws := (Cond.code y_Im_makeFromText prog_3_method_3_code 5 none :: W0)) B.pre
  have htb : ∀ w ∈ W0, w.before _ s = true := fun w h => hts w (List.mem_cons_of_mem _ h)
  have hown : s.vm.findClass "SelfIndexedSequences$Image" = some m.cls := findClass_of_methodNamed B.named
  subst hsz
  have hD := hD0.self (sz := s.heap.size)
  generalize hAe : va_A [(h0, .inr (1, [.ref sy, .int (nI n), .ref fi, .ref ba, .int (lo), .int (hi)])), (sy, .inl (ky, 97, .inl (nA S))), (fi, .inl (ky, 28, .inl (nA F))), (ba, .inl (ky, 97, .inl (nA B1))), (dr, .inl (ky, 97, .inl (nA Dd)))] s.heap.size = A at hD ⊢
  have hA : ∀ q : Nat, s.heap.size ≤ q → A q := fun q h => by rw [← hAe]; exact Or.inr h
  have hS : va_S A s.heap s.heap [] := va_S.rf
  have hl := lv_entry ([.ref h0, .ref dr, .int (nI d)]) (n := 5) (Nat.le_of_ble_eq_true rfl)
  rw [lg_entry_eq]
  generalize (lg_sl ([.ref h0, .ref dr, .int (nI d)]) ++ List.replicate (5 - (lg_sl ([.ref h0, .ref dr, .int (nI d)])).length) Slot.unset).toArray = ls at hl ⊢
  have hl : lv_has ls 5 [(0, .ref h0), (1, .ref dr), (2, .int (nI d))] := hl
  refine lv_aload_n hx hb d_Im_makeFromText_0 rfl (lv_at hl 0 rfl) ?_
  refine va_get (D := (dC, dI)) (ci := 1) (v := .ref sy) (C := R_Im) (T := F_Im) (N := 6) hx hb htb in_Im hown hK hP 0 rfl rfl 0 (by decide) (htb _ tw_46) (fun _ h9 => h9) rfl d_Im_makeFromText_1 ?_
  refine lv_iconst (v := nI 0) hx hb d_Im_makeFromText_4 (by decide) ?_
  refine lv_iconst (v := nI 0) hx hb d_Im_makeFromText_5 (by decide) ?_
  refine va_iast hx hb hK hP hD hS 1 0 rfl rfl (vp_in_nI (by omega) (by decide)) d_Im_makeFromText_6 (fun H locs hP hD hS => ?_)
  rw [nI_clamp (by omega)] at hP hD
  rw [nA_upd] at hP hD
  have hu1 : ∀ k_, (upN S 0 0) k_ < 28 := upN_lt hs (by omega)
  have hP : va_P (dC, dI) cls_ [(h0, .inr (1, [.ref sy, .int (nI n), .ref fi, .ref ba, .int (lo), .int (hi)])), (sy, .inl (ky, 97, .inl (nA (upN S 0 0)))), (fi, .inl (ky, 28, .inl (nA F))), (ba, .inl (ky, 97, .inl (nA B1))), (dr, .inl (ky, 97, .inl (nA Dd)))] H := hP
  have hD : va_D A [(h0, .inr (1, [.ref sy, .int (nI n), .ref fi, .ref ba, .int (lo), .int (hi)])), (sy, .inl (ky, 97, .inl (nA (upN S 0 0)))), (fi, .inl (ky, 28, .inl (nA F))), (ba, .inl (ky, 97, .inl (nA B1))), (dr, .inl (ky, 97, .inl (nA Dd)))] := hD
  refine lv_aload_n hx hb d_Im_makeFromText_7 rfl (lv_at hl 0 rfl) ?_
  refine lv_iconst (v := nI 1) hx hb d_Im_makeFromText_8 (by decide) ?_
  refine va_put (D := (dC, dI)) (ci := 1) (v := .int (nI 1)) (ty := .int) (C := R_Im) (T := F_Im) (N := 6) hx hb htb in_Im t_Im tk_Im nm_Im hown hK hP hD hS 0 rfl rfl 1 (by decide) (htb _ tw_50) (fun _ h9 => h9) rfl (by decide +kernel) rfl rfl (Nat.le_of_ble_eq_true rfl) d_Im_makeFromText_9 (fun H locs hP hD hS => ?_)
  have hP : va_P (dC, dI) cls_ [(h0, .inr (1, [.ref sy, .int (nI 1), .ref fi, .ref ba, .int (lo), .int (hi)])), (sy, .inl (ky, 97, .inl (nA (upN S 0 0)))), (fi, .inl (ky, 28, .inl (nA F))), (ba, .inl (ky, 97, .inl (nA B1))), (dr, .inl (ky, 97, .inl (nA Dd)))] H := hP
  have hD : va_D A [(h0, .inr (1, [.ref sy, .int (nI 1), .ref fi, .ref ba, .int (lo), .int (hi)])), (sy, .inl (ky, 97, .inl (nA (upN S 0 0)))), (fi, .inl (ky, 28, .inl (nA F))), (ba, .inl (ky, 97, .inl (nA B1))), (dr, .inl (ky, 97, .inl (nA Dd)))] := hD
  refine lv_iconst (v := nI 0) hx hb d_Im_makeFromText_12 (by decide) ?_
  refine lv_istore_n hx hb d_Im_makeFromText_13 rfl hl (by decide) rfl (fun ls hl => ?_)
  have hl : lv_has ls 5 [(3, .int (nI 0)), (0, .ref h0), (1, .ref dr), (2, .int (nI d))] := hl
  refine lv_iload_n hx hb d_Im_makeFromText_14 rfl (lv_at hl 3 rfl) ?_
  refine lv_iconst (v := nI 1) hx hb d_Im_makeFromText_15 (by decide) ?_
  refine lv_isub hx hb d_Im_makeFromText_16 ?_
  rw [bw_n1 d]
  refine lv_istore hx hb d_Im_makeFromText_17 hl (by decide) rfl (fun ls hl => ?_)
  have hl : lv_has ls 5 [(4, .int (nI d - 1)), (3, .int (nI 0)), (0, .ref h0), (1, .ref dr), (2, .int (nI d))] := hl
  refine wl_loop (σ := Nat × Nat × Nat × (Nat → Nat)) 19 [] (fun (a_ : Nat × Nat × Nat × (Nat → Nat)) => match a_ with | (k, er, nq, Sq) => k) (fun (a_ : Nat × Nat × Nat × (Nat → Nat)) (H : Heap) (locs : List Loc) (ls : Array Slot) => match a_ with | (k, er, nq, Sq) => (k ≤ d) ∧ (nq = d - k + 1) ∧ (Bwt Sq (fun q => txd Dd d (k + q)) (d - k) er) ∧ (er < nq) ∧ (∀ k_, Sq k_ < 28) ∧ va_P (dC, dI) cls_ [(h0, .inr (1, [.ref sy, .int (nI nq), .ref fi, .ref ba, .int (lo), .int (hi)])), (sy, .inl (ky, 97, .inl (nA Sq))), (fi, .inl (ky, 28, .inl (nA F))), (ba, .inl (ky, 97, .inl (nA B1))), (dr, .inl (ky, 97, .inl (nA Dd)))] H ∧ va_D A [(h0, .inr (1, [.ref sy, .int (nI nq), .ref fi, .ref ba, .int (lo), .int (hi)])), (sy, .inl (ky, 97, .inl (nA Sq))), (fi, .inl (ky, 28, .inl (nA F))), (ba, .inl (ky, 97, .inl (nA B1))), (dr, .inl (ky, 97, .inl (nA Dd)))] ∧ va_S A s.heap H locs ∧ lv_has ls 5 [(4, .int (nI k - 1)), (3, .int (nI er)), (0, .ref h0), (1, .ref dr), (2, .int (nI d))]) ?_ (d, 0, 1, (upN S 0 0)) ⟨(by first | assumption | omega | (simp; done) | (simp_all; done)), (by first | assumption | omega | (simp; done) | (simp_all; done)), (mk_0 (txd_txt hne) (upN_s S 0 0)), (by first | assumption | omega | (simp; done) | (simp_all; done)), hu1, hP, hD, hS, lv_sub hl [0, 1, 2, 3, 4] rfl⟩
  clear hP hD hS hl
  intro a_ H locs ls hI ih19
  obtain ⟨k, er, nq, Sq⟩ := a_
  obtain ⟨hk, hnq, hBw, her, hSq, hP, hD, hS, hl⟩ := hI
  have hl : lv_has ls 5 [(4, .int (nI k - 1)), (3, .int (nI er)), (0, .ref h0), (1, .ref dr), (2, .int (nI d))] := hl
  have hP : va_P (dC, dI) cls_ [(h0, .inr (1, [.ref sy, .int (nI nq), .ref fi, .ref ba, .int (lo), .int (hi)])), (sy, .inl (ky, 97, .inl (nA Sq))), (fi, .inl (ky, 28, .inl (nA F))), (ba, .inl (ky, 97, .inl (nA B1))), (dr, .inl (ky, 97, .inl (nA Dd)))] H := hP
  have hD : va_D A [(h0, .inr (1, [.ref sy, .int (nI nq), .ref fi, .ref ba, .int (lo), .int (hi)])), (sy, .inl (ky, 97, .inl (nA Sq))), (fi, .inl (ky, 28, .inl (nA F))), (ba, .inl (ky, 97, .inl (nA B1))), (dr, .inl (ky, 97, .inl (nA Dd)))] := hD
  have hk : k ≤ d := hk
  have hnq : nq = d - k + 1 := hnq
  have hBw : Bwt Sq (fun q => txd Dd d (k + q)) (d - k) er := hBw
  have her : er < nq := her
  have hSq : ∀ k_, Sq k_ < 28 := hSq
  refine lv_iload hx hb d_Im_makeFromText_19 (lv_at hl 0 rfl) ?_
  refine lv_if_lt (tgt := 40) hx hb d_Im_makeFromText_21 (by decide) (fun hc21 => ?_) (fun hc21 => ?_)
  · skip
    rw [← nI_0, bw_lt_pn (by omega) (by omega)] at hc21
    obtain rfl : k = 0 := by omega
    obtain rfl : nq = d + 1 := by omega
    have hl : lv_has ls 5 [(4, .int (nI 0 - 1)), (3, .int (nI er)), (0, .ref h0), (1, .ref dr), (2, .int (nI d))] := hl
    have hP : va_P (dC, dI) cls_ [(h0, .inr (1, [.ref sy, .int (nI (d + 1)), .ref fi, .ref ba, .int (lo), .int (hi)])), (sy, .inl (ky, 97, .inl (nA Sq))), (fi, .inl (ky, 28, .inl (nA F))), (ba, .inl (ky, 97, .inl (nA B1))), (dr, .inl (ky, 97, .inl (nA Dd)))] H := hP
    have hD : va_D A [(h0, .inr (1, [.ref sy, .int (nI (d + 1)), .ref fi, .ref ba, .int (lo), .int (hi)])), (sy, .inl (ky, 97, .inl (nA Sq))), (fi, .inl (ky, 28, .inl (nA F))), (ba, .inl (ky, 97, .inl (nA B1))), (dr, .inl (ky, 97, .inl (nA Dd)))] := hD
    refine lv_aload_n hx hb d_Im_makeFromText_40 rfl (lv_at hl 2 rfl) ?_
    have hPc := hP.sub (ws' := [(h0, .inr (1, [.ref sy, .int (nI (d + 1)), .ref fi, .ref ba, .int (lo), .int (hi)])), (sy, .inl (ky, 97, .inl (nA Sq))), (fi, .inl (ky, 28, .inl (nA F))), (ba, .inl (ky, 97, .inl (nA B1)))]) [0, 1, 2, 3] rfl
    have hDc := hD.sub (ws' := [(h0, .inr (1, [.ref sy, .int (nI (d + 1)), .ref fi, .ref ba, .int (lo), .int (hi)])), (sy, .inl (ky, 97, .inl (nA Sq))), (fi, .inl (ky, 28, .inl (nA F))), (ba, .inl (ky, 97, .inl (nA B1)))]) [0, 1, 2, 3] (by decide) rfl
    have hFc := va_free (wc := [(h0, .inr (1, [.ref sy, .int (nI (d + 1)), .ref fi, .ref ba, .int (lo), .int (hi)])), (sy, .inl (ky, 97, .inl (nA Sq))), (fi, .inl (ky, 28, .inl (nA F))), (ba, .inl (ky, 97, .inl (nA B1)))]) hD hS hA [0, 1, 2, 3] rfl
    refine va_callv (va_runV (C := "SelfIndexedSequences$Image") (As := []) (rest := []) ⟨hx, hb, hml, hown, hts⟩ (c_Im_link l dC dI ky H.size h0 sy fi ba (d + 1) lo hi Sq F B1 hSq hF hB1 (by first | assumption | omega | (simp; done) | (simp_all; done))) ⟨callB_of 0 hts (W0_good tw_200) rfl rfl rfl (htb _ tw_24) (htb _ tw_197) ⟨by decide, by decide, by decide +kernel⟩ ⟨(Nat.le_of_ble_eq_true rfl), (Nat.le_of_ble_eq_true rfl)⟩, htb _ tw_199, htb _ tw_3⟩ ⟨fun a U g mk q => by obtain ⟨q0, q1, qP, qK, qD⟩ := q; exact ⟨q0, q1, qP, va_K.moved (u := U) (U := U.calling g mk a) (Vm.Alike.refl U.vm) qK, qD⟩, va_recv hK hPc (q0 := 0) (q := (R_Im, F_Im, 6)) rfl rfl, fun U hU hW => ⟨rfl, by rw [hU], by rw [hU]; exact hPc, va_K.moved hW.alike hK, hDc.weaken (fun _ _ _ _ => trivial)⟩⟩ rfl rfl hl.1 rfl (lv_room (Nat.le_of_ble_eq_true rfl)) d_Im_makeFromText_41 ⟨(Nat.le_of_ble_eq_true rfl), (Nat.le_of_ble_eq_true rfl)⟩) hS (fun q _ h => hFc q h) hFc (fun u_ t H locs ht hvm hw41 hB hz1 hk1 hS => ?_)
    obtain ⟨Fn_41, Bn_41⟩ := u_
    obtain ⟨hP1, hD1⟩ := hB
    rw [ht] at hP1
    obtain ⟨hP, hD⟩ := va_join (wr := [(dr, .inl (ky, 97, .inl (nA Dd)))]) (w1 := [(h0, .inr (1, [.ref sy, .int (nI (d + 1)), .ref fi, .ref ba, .int (lo), .int (hi)])), (sy, .inl (ky, 97, .inl (nA Sq))), (fi, .inl (ky, 28, .inl (nA Fn_41))), (ba, .inl (ky, 97, .inl (nA Bn_41)))]) hP hD [0, 1, 2, 3] [4] rfl rfl (by decide) (by decide) hk1 hFc hP1 hD1
    have hP : va_P (dC, dI) cls_ [(dr, .inl (ky, 97, .inl (nA Dd))), (h0, .inr (1, [.ref sy, .int (nI (d + 1)), .ref fi, .ref ba, .int (lo), .int (hi)])), (sy, .inl (ky, 97, .inl (nA Sq))), (fi, .inl (ky, 28, .inl (nA Fn_41))), (ba, .inl (ky, 97, .inl (nA Bn_41)))] H := hP
    have hD : va_D A [(dr, .inl (ky, 97, .inl (nA Dd))), (h0, .inr (1, [.ref sy, .int (nI (d + 1)), .ref fi, .ref ba, .int (lo), .int (hi)])), (sy, .inl (ky, 97, .inl (nA Sq))), (fi, .inl (ky, 28, .inl (nA Fn_41))), (ba, .inl (ky, 97, .inl (nA Bn_41)))] := hD
    have hq41 : Lnk Sq Fn_41 Bn_41 (d + 1) ∧ (∀ k_, Fn_41 k_ < 98) ∧ (∀ k_, Bn_41 k_ < 97) := hw41
    have hP9 := hP.sub (ws' := [(h0, .inr (1, [.ref sy, .int (nI (d + 1)), .ref fi, .ref ba, .int (lo), .int (hi)])), (sy, .inl (ky, 97, .inl (nA Sq))), (fi, .inl (ky, 28, .inl (nA Fn_41))), (ba, .inl (ky, 97, .inl (nA Bn_41))), (dr, .inl (ky, 97, .inl (nA Dd)))]) [1, 2, 3, 4, 0] rfl
    have hD9 := hD.sub (ws' := [(h0, .inr (1, [.ref sy, .int (nI (d + 1)), .ref fi, .ref ba, .int (lo), .int (hi)])), (sy, .inl (ky, 97, .inl (nA Sq))), (fi, .inl (ky, 28, .inl (nA Fn_41))), (ba, .inl (ky, 97, .inl (nA Bn_41))), (dr, .inl (ky, 97, .inl (nA Dd)))]) [1, 2, 3, 4, 0] (by decide) rfl
    exact W.vret hx hb hr (fun t ht hW => ⟨⟨(Sq, Fn_41, Bn_41), rfl, ⟨mk_end hBw, hq41.1, hSq, hq41.2.1, hq41.2.2⟩, by rw [ht]; exact hP9, hD9⟩, hS.F ht⟩) hS.2.2 d_Im_makeFromText_44
  · skip
    rw [← nI_0, bw_lt_pn (by omega) (by omega)] at hc21
    rw [bw_pn (show 0 < k by omega)] at hl
    have hl : lv_has ls 5 [(4, .int (nI (k - 1))), (3, .int (nI er)), (0, .ref h0), (1, .ref dr), (2, .int (nI d))] := hl
    refine lv_aload_n hx hb d_Im_makeFromText_24 rfl (lv_at hl 2 rfl) ?_
    refine lv_aload_n hx hb d_Im_makeFromText_25 rfl (lv_at hl 3 rfl) ?_
    refine lv_iload hx hb d_Im_makeFromText_26 (lv_at hl 0 rfl) ?_
    refine va_iald hx hb hK hP 4 0 rfl rfl (vp_in_nI (by omega) (by decide)) d_Im_makeFromText_28 ?_
    rw [nI_clamp (by omega)]
    have hb28 := hd (k - 1)
    rw [nA_at]
    refine lv_iload_n hx hb d_Im_makeFromText_29 rfl (lv_at hl 1 rfl) ?_
    have hPc := hP.sub (ws' := [(h0, .inr (1, [.ref sy, .int (nI nq), .ref fi, .ref ba, .int (lo), .int (hi)])), (sy, .inl (ky, 97, .inl (nA Sq)))]) [0, 1] rfl
    have hDc := hD.sub (ws' := [(h0, .inr (1, [.ref sy, .int (nI nq), .ref fi, .ref ba, .int (lo), .int (hi)])), (sy, .inl (ky, 97, .inl (nA Sq)))]) [0, 1] (by decide) rfl
    have hFc := va_free (wc := [(h0, .inr (1, [.ref sy, .int (nI nq), .ref fi, .ref ba, .int (lo), .int (hi)])), (sy, .inl (ky, 97, .inl (nA Sq)))]) hD hS hA [0, 1] rfl
    refine va_calli (va_runV (C := "SelfIndexedSequences$Image") (As := [.int (nI (Dd (k - 1))), .int (nI er)]) (rest := []) ⟨hx, hb, hml, hown, hts⟩ (c_Im_putBefore l dC dI ky H.size h0 sy fi ba nq lo hi Sq (Dd (k - 1)) er hSq (by first | assumption | omega | (simp; done) | (simp_all; done)) (by first | assumption | omega | (simp; done) | (simp_all; done)) her) ⟨callB_of 2 hts (W0_good tw_185) rfl rfl rfl (htb _ tw_24) (htb _ tw_182) ⟨by decide, by decide, by decide +kernel⟩ ⟨(Nat.le_of_ble_eq_true rfl), (Nat.le_of_ble_eq_true rfl)⟩, htb _ tw_184, htb _ tw_1⟩ ⟨fun a U g mk q => by obtain ⟨q0, q1, qP, qK, qD⟩ := q; exact ⟨q0, q1, qP, va_K.moved (u := U) (U := U.calling g mk a) (Vm.Alike.refl U.vm) qK, qD⟩, va_recv hK hPc (q0 := 0) (q := (R_Im, F_Im, 6)) rfl rfl, fun U hU hW => ⟨rfl, by rw [hU], by rw [hU]; exact hPc, va_K.moved hW.alike hK, hDc.weaken (fun _ _ _ _ => trivial)⟩⟩ rfl rfl hl.1 rfl (lv_room (Nat.le_of_ble_eq_true rfl)) d_Im_makeFromText_30 ⟨(Nat.le_of_ble_eq_true rfl), (Nat.le_of_ble_eq_true rfl)⟩) hS (fun q _ h => hFc q h) hFc (fun r30 u_ t H locs ht hvm hw30 hB hz1 hk1 hS => ?_)
    obtain ⟨ro_30, S2_30⟩ := u_
    obtain ⟨hP1, hD1⟩ := hB
    rw [ht] at hP1
    obtain ⟨hP, hD⟩ := va_join (wr := [(fi, .inl (ky, 28, .inl (nA F))), (ba, .inl (ky, 97, .inl (nA B1))), (dr, .inl (ky, 97, .inl (nA Dd)))]) (w1 := [(h0, .inr (1, [.ref sy, .int (nI (nq + 1)), .ref fi, .ref ba, .int (lo), .int (hi)])), (sy, .inl (ky, 97, .inl (nA S2_30)))]) hP hD [0, 1] [2, 3, 4] rfl rfl (by decide) (by decide) hk1 hFc hP1 hD1
    have hP : va_P (dC, dI) cls_ [(fi, .inl (ky, 28, .inl (nA F))), (ba, .inl (ky, 97, .inl (nA B1))), (dr, .inl (ky, 97, .inl (nA Dd))), (h0, .inr (1, [.ref sy, .int (nI (nq + 1)), .ref fi, .ref ba, .int (lo), .int (hi)])), (sy, .inl (ky, 97, .inl (nA S2_30)))] H := hP
    have hD : va_D A [(fi, .inl (ky, 28, .inl (nA F))), (ba, .inl (ky, 97, .inl (nA B1))), (dr, .inl (ky, 97, .inl (nA Dd))), (h0, .inr (1, [.ref sy, .int (nI (nq + 1)), .ref fi, .ref ba, .int (lo), .int (hi)])), (sy, .inl (ky, 97, .inl (nA S2_30)))] := hD
    have hw30 : r30 = nI ro_30 ∧ (ro_30 = 1 + num (fun j => upN Sq er (Dd (k - 1)) j < (Dd (k - 1))) nq + num (fun j => upN Sq er (Dd (k - 1)) j = (Dd (k - 1))) er ∧ S2_30 = upN (va_cpy (upN Sq er (Dd (k - 1))) (upN Sq er (Dd (k - 1))) ro_30 (ro_30 + 1) (nq - ro_30)) ro_30 0 ∧ (∀ k_, S2_30 k_ < 28)) := hw30
    obtain ⟨hre, hq30⟩ := hw30
    subst hre
    refine lv_istore_n hx hb d_Im_makeFromText_33 rfl hl (by decide) rfl (fun ls hl => ?_)
    have hl : lv_has ls 5 [(3, .int (nI ro_30)), (4, .int (nI (k - 1))), (0, .ref h0), (1, .ref dr), (2, .int (nI d))] := hl
    refine lv_iinc (v := nI (k - 1) - 1) (k := 1) hx hb d_Im_makeFromText_34 hl rfl (bw_dec (k - 1)) (by decide) rfl (fun ls hl => ?_)
    have hl : lv_has ls 5 [(4, .int (nI (k - 1) - 1)), (3, .int (nI ro_30)), (0, .ref h0), (1, .ref dr), (2, .int (nI d))] := hl
    refine lv_goto (tgt := 19) hx hb d_Im_makeFromText_37 (by decide) ?_
    exact ih19 ((k - 1), ro_30, (nq + 1), S2_30) _ _ _ ⟨(by first | assumption | omega | (simp; done) | (simp_all; done)), (by first | assumption | omega | (simp; done) | (simp_all; done)), (mk_step (txd_txt hne) (by omega) hk hnq (show txd Dd d (k - 1) = Dd (k - 1) from if_pos (by omega)) hBw hq30.1 hq30.2.1), (by have := mk_row (S := Sq) (c := Dd (k - 1)) her; have := hq30.1; omega), hq30.2.2, (hP.sub [3, 4, 0, 1, 2] rfl), (hD.sub [3, 4, 0, 1, 2] (by decide) rfl), hS, lv_sub hl [0, 1, 2, 3, 4] rfl⟩ (by first | omega | (simp only; omega) | (dsimp only; omega))

set_option maxHeartbeats 4000000 in
set_option maxRecDepth 100000 in
/-- a list as an image -/
theorem c_Im_copyFrom (l : Launch) (dC : Nat → ClassId) (dI : Nat → Nat → Nat) (ky : ClassId) (sz : Nat) (h0 : Nat) (sy : Nat) (fi : Nat) (ba : Nat) (n : Nat) (lo : Int32) (hi : Int32) (S : Nat → Nat) (F : Nat → Nat) (B1 : Nat → Nat) (dr : Nat) (d : Nat) (Dd : Nat → Nat) (hs : ∀ k_, S k_ < 28) (hF : ∀ k_, F k_ < 98) (hB1 : ∀ k_, B1 k_ < 97) (hd : ∀ k_, Dd k_ < 28) (hdl : d ≤ 97) : Met l y_Im_copyFrom (Cond.code y_Im_copyFrom prog_3_method_2_code 3 none :: W0) ({ frames := 1, cells := 0, slots := 0, locals := 37 }) (va_Pc [.ref h0, .ref dr, .int (nI d)] (fun U => U.heap.size = sz ∧ va_P (dC, dI) cls_ [(h0, .inr (1, [.ref sy, .int (nI n), .ref fi, .ref ba, .int (lo), .int (hi)])), (sy, .inl (ky, 97, .inl (nA S))), (fi, .inl (ky, 28, .inl (nA F))), (ba, .inl (ky, 97, .inl (nA B1))), (dr, .inl (ky, 97, .inl (nA Dd)))] U.heap ∧ va_K (dC, dI) cls_ [(ky, .int)] U ∧ va_D (fun _ => True) [(h0, .inr (1, [.ref sy, .int (nI n), .ref fi, .ref ba, .int (lo), .int (hi)])), (sy, .inl (ky, 97, .inl (nA S))), (fi, .inl (ky, 28, .inl (nA F))), (ba, .inl (ky, 97, .inl (nA B1))), (dr, .inl (ky, 97, .inl (nA Dd)))])) (va_Qv (fun (u : (Nat → Nat) × (Nat → Nat) × (Nat → Nat)) => match u with | (Sn, Fn, Bn) => (∀ k, k < d → Sn k = Dd k) ∧ Lnk Sn Fn Bn d ∧ (∀ k_, Sn k_ < 28) ∧ (∀ k_, Fn k_ < 98) ∧ (∀ k_, Bn k_ < 97)) (fun (u : (Nat → Nat) × (Nat → Nat) × (Nat → Nat)) (t : State) => match u with | (Sn, Fn, Bn) => va_P (dC, dI) cls_ [(h0, .inr (1, [.ref sy, .int (nI d), .ref fi, .ref ba, .int (lo), .int (hi)])), (sy, .inl (ky, 97, .inl (nA Sn))), (fi, .inl (ky, 28, .inl (nA Fn))), (ba, .inl (ky, 97, .inl (nA Bn))), (dr, .inl (ky, 97, .inl (nA Dd)))] t.heap ∧ va_D (va_A [(h0, .inr (1, [.ref sy, .int (nI n), .ref fi, .ref ba, .int (lo), .int (hi)])), (sy, .inl (ky, 97, .inl (nA S))), (fi, .inl (ky, 28, .inl (nA F))), (ba, .inl (ky, 97, .inl (nA B1))), (dr, .inl (ky, 97, .inl (nA Dd)))] sz) [(h0, .inr (1, [.ref sy, .int (nI d), .ref fi, .ref ba, .int (lo), .int (hi)])), (sy, .inl (ky, 97, .inl (nA Sn))), (fi, .inl (ky, 28, .inl (nA Fn))), (ba, .inl (ky, 97, .inl (nA Bn))), (dr, .inl (ky, 97, .inl (nA Dd)))]) (va_A [(h0, .inr (1, [.ref sy, .int (nI n), .ref fi, .ref ba, .int (lo), .int (hi)])), (sy, .inl (ky, 97, .inl (nA S))), (fi, .inl (ky, 28, .inl (nA F))), (ba, .inl (ky, 97, .inl (nA B1))), (dr, .inl (ky, 97, .inl (nA Dd)))] sz)) 0 0 (va_A [(h0, .inr (1, [.ref sy, .int (nI n), .ref fi, .ref ba, .int (lo), .int (hi)])), (sy, .inl (ky, 97, .inl (nA S))), (fi, .inl (ky, 28, .inl (nA F))), (ba, .inl (ky, 97, .inl (nA B1))), (dr, .inl (ky, 97, .inl (nA Dd)))] sz) := by
  refine Met.ofW (cc := prog_3_method_2_code) (maxL := 3) (ret := none) (by decide) rfl ?_
  intro p e s m args below meth c s₁ B hml hv
  obtain ⟨rfl, hsz, hP, hK, hD0⟩ := hv
  have hx := B.exec
  have hb := B.bytes
  have hr := B.returns
  have hlocks := B.notSynchronized
  have hts := atoms_spec (ws := (Cond.code y_Im_copyFrom prog_3_method_2_code 3 none :: W0)) B.pre
  have htb : ∀ w ∈ W0, w.before _ s = true := fun w h => hts w (List.mem_cons_of_mem _ h)
  have hown : s.vm.findClass "SelfIndexedSequences$Image" = some m.cls := findClass_of_methodNamed B.named
  subst hsz
  have hD := hD0.self (sz := s.heap.size)
  generalize hAe : va_A [(h0, .inr (1, [.ref sy, .int (nI n), .ref fi, .ref ba, .int (lo), .int (hi)])), (sy, .inl (ky, 97, .inl (nA S))), (fi, .inl (ky, 28, .inl (nA F))), (ba, .inl (ky, 97, .inl (nA B1))), (dr, .inl (ky, 97, .inl (nA Dd)))] s.heap.size = A at hD ⊢
  have hA : ∀ q : Nat, s.heap.size ≤ q → A q := fun q h => by rw [← hAe]; exact Or.inr h
  have hS : va_S A s.heap s.heap [] := va_S.rf
  have hl := lv_entry ([.ref h0, .ref dr, .int (nI d)]) (n := 3) (Nat.le_of_ble_eq_true rfl)
  rw [lg_entry_eq]
  generalize (lg_sl ([.ref h0, .ref dr, .int (nI d)]) ++ List.replicate (3 - (lg_sl ([.ref h0, .ref dr, .int (nI d)])).length) Slot.unset).toArray = ls at hl ⊢
  have hl : lv_has ls 3 [(0, .ref h0), (1, .ref dr), (2, .int (nI d))] := hl
  refine lv_aload_n hx hb d_Im_copyFrom_0 rfl (lv_at hl 1 rfl) ?_
  refine lv_iconst (v := nI 0) hx hb d_Im_copyFrom_1 (by decide) ?_
  refine lv_aload_n hx hb d_Im_copyFrom_2 rfl (lv_at hl 0 rfl) ?_
  refine va_get (D := (dC, dI)) (ci := 1) (v := .ref sy) (C := R_Im) (T := F_Im) (N := 6) hx hb htb in_Im hown hK hP 0 rfl rfl 0 (by decide) (htb _ tw_46) (fun _ h9 => h9) rfl d_Im_copyFrom_3 ?_
  refine lv_iconst (v := nI 0) hx hb d_Im_copyFrom_6 (by decide) ?_
  refine lv_iload_n hx hb d_Im_copyFrom_7 rfl (lv_at hl 2 rfl) ?_
  refine va_copyi hx hb (by rw [hml]; exact hl.1.symm) hown (htb _ tw_194) (htb _ tw_196) (htb _ tw_195) (htb _ tw_29) hK hP hD hS 4 1 0 0 rfl rfl rfl rfl rfl (nI_pos (by omega)) (nI_pos (by omega)) (nI_pos (by omega)) (by rw [nI_clamp (by omega), nI_clamp (by omega)]; omega) (by rw [nI_clamp (by omega), nI_clamp (by omega)]; omega) (fun _ _ => rfl) (Nat.le_of_ble_eq_true rfl) (Nat.le_of_ble_eq_true rfl) d_Im_copyFrom_8 (fun H locs hP hD hS => ?_)
  simp only [nI_clamp (show 0 < 2 ^ 31 by omega), nI_clamp (show 0 < 2 ^ 31 by omega), nI_clamp (show d < 2 ^ 31 by omega), nA_cpy] at hP hD
  have hu1 : ∀ k_, (va_cpy Dd S 0 0 d) k_ < 28 := cpy_lt hd hs
  have hP : va_P (dC, dI) cls_ [(h0, .inr (1, [.ref sy, .int (nI n), .ref fi, .ref ba, .int (lo), .int (hi)])), (sy, .inl (ky, 97, .inl (nA (va_cpy Dd S 0 0 d)))), (fi, .inl (ky, 28, .inl (nA F))), (ba, .inl (ky, 97, .inl (nA B1))), (dr, .inl (ky, 97, .inl (nA Dd)))] H := hP
  have hD : va_D A [(h0, .inr (1, [.ref sy, .int (nI n), .ref fi, .ref ba, .int (lo), .int (hi)])), (sy, .inl (ky, 97, .inl (nA (va_cpy Dd S 0 0 d)))), (fi, .inl (ky, 28, .inl (nA F))), (ba, .inl (ky, 97, .inl (nA B1))), (dr, .inl (ky, 97, .inl (nA Dd)))] := hD
  refine lv_aload_n hx hb d_Im_copyFrom_11 rfl (lv_at hl 0 rfl) ?_
  refine lv_iload_n hx hb d_Im_copyFrom_12 rfl (lv_at hl 2 rfl) ?_
  refine va_put (D := (dC, dI)) (ci := 1) (v := .int (nI d)) (ty := .int) (C := R_Im) (T := F_Im) (N := 6) hx hb htb in_Im t_Im tk_Im nm_Im hown hK hP hD hS 0 rfl rfl 1 (by decide) (htb _ tw_50) (fun _ h9 => h9) rfl (by decide +kernel) rfl rfl (Nat.le_of_ble_eq_true rfl) d_Im_copyFrom_13 (fun H locs hP hD hS => ?_)
  have hP : va_P (dC, dI) cls_ [(h0, .inr (1, [.ref sy, .int (nI d), .ref fi, .ref ba, .int (lo), .int (hi)])), (sy, .inl (ky, 97, .inl (nA (va_cpy Dd S 0 0 d)))), (fi, .inl (ky, 28, .inl (nA F))), (ba, .inl (ky, 97, .inl (nA B1))), (dr, .inl (ky, 97, .inl (nA Dd)))] H := hP
  have hD : va_D A [(h0, .inr (1, [.ref sy, .int (nI d), .ref fi, .ref ba, .int (lo), .int (hi)])), (sy, .inl (ky, 97, .inl (nA (va_cpy Dd S 0 0 d)))), (fi, .inl (ky, 28, .inl (nA F))), (ba, .inl (ky, 97, .inl (nA B1))), (dr, .inl (ky, 97, .inl (nA Dd)))] := hD
  refine lv_aload_n hx hb d_Im_copyFrom_16 rfl (lv_at hl 0 rfl) ?_
  have hPc := hP.sub (ws' := [(h0, .inr (1, [.ref sy, .int (nI d), .ref fi, .ref ba, .int (lo), .int (hi)])), (sy, .inl (ky, 97, .inl (nA (va_cpy Dd S 0 0 d)))), (fi, .inl (ky, 28, .inl (nA F))), (ba, .inl (ky, 97, .inl (nA B1)))]) [0, 1, 2, 3] rfl
  have hDc := hD.sub (ws' := [(h0, .inr (1, [.ref sy, .int (nI d), .ref fi, .ref ba, .int (lo), .int (hi)])), (sy, .inl (ky, 97, .inl (nA (va_cpy Dd S 0 0 d)))), (fi, .inl (ky, 28, .inl (nA F))), (ba, .inl (ky, 97, .inl (nA B1)))]) [0, 1, 2, 3] (by decide) rfl
  have hFc := va_free (wc := [(h0, .inr (1, [.ref sy, .int (nI d), .ref fi, .ref ba, .int (lo), .int (hi)])), (sy, .inl (ky, 97, .inl (nA (va_cpy Dd S 0 0 d)))), (fi, .inl (ky, 28, .inl (nA F))), (ba, .inl (ky, 97, .inl (nA B1)))]) hD hS hA [0, 1, 2, 3] rfl
  refine va_callv (va_runV (C := "SelfIndexedSequences$Image") (As := []) (rest := []) ⟨hx, hb, hml, hown, hts⟩ (c_Im_link l dC dI ky H.size h0 sy fi ba d lo hi (va_cpy Dd S 0 0 d) F B1 hu1 hF hB1 (by first | assumption | omega | (simp; done) | (simp_all; done))) ⟨callB_of 0 hts (W0_good tw_200) rfl rfl rfl (htb _ tw_24) (htb _ tw_197) ⟨by decide, by decide, by decide +kernel⟩ ⟨(Nat.le_of_ble_eq_true rfl), (Nat.le_of_ble_eq_true rfl)⟩, htb _ tw_199, htb _ tw_3⟩ ⟨fun a U g mk q => by obtain ⟨q0, q1, qP, qK, qD⟩ := q; exact ⟨q0, q1, qP, va_K.moved (u := U) (U := U.calling g mk a) (Vm.Alike.refl U.vm) qK, qD⟩, va_recv hK hPc (q0 := 0) (q := (R_Im, F_Im, 6)) rfl rfl, fun U hU hW => ⟨rfl, by rw [hU], by rw [hU]; exact hPc, va_K.moved hW.alike hK, hDc.weaken (fun _ _ _ _ => trivial)⟩⟩ rfl rfl hl.1 rfl (lv_room (Nat.le_of_ble_eq_true rfl)) d_Im_copyFrom_17 ⟨(Nat.le_of_ble_eq_true rfl), (Nat.le_of_ble_eq_true rfl)⟩) hS (fun q _ h => hFc q h) hFc (fun u_ t H locs ht hvm hw17 hB hz1 hk1 hS => ?_)
  obtain ⟨Fn_17, Bn_17⟩ := u_
  obtain ⟨hP1, hD1⟩ := hB
  rw [ht] at hP1
  obtain ⟨hP, hD⟩ := va_join (wr := [(dr, .inl (ky, 97, .inl (nA Dd)))]) (w1 := [(h0, .inr (1, [.ref sy, .int (nI d), .ref fi, .ref ba, .int (lo), .int (hi)])), (sy, .inl (ky, 97, .inl (nA (va_cpy Dd S 0 0 d)))), (fi, .inl (ky, 28, .inl (nA Fn_17))), (ba, .inl (ky, 97, .inl (nA Bn_17)))]) hP hD [0, 1, 2, 3] [4] rfl rfl (by decide) (by decide) hk1 hFc hP1 hD1
  have hP : va_P (dC, dI) cls_ [(dr, .inl (ky, 97, .inl (nA Dd))), (h0, .inr (1, [.ref sy, .int (nI d), .ref fi, .ref ba, .int (lo), .int (hi)])), (sy, .inl (ky, 97, .inl (nA (va_cpy Dd S 0 0 d)))), (fi, .inl (ky, 28, .inl (nA Fn_17))), (ba, .inl (ky, 97, .inl (nA Bn_17)))] H := hP
  have hD : va_D A [(dr, .inl (ky, 97, .inl (nA Dd))), (h0, .inr (1, [.ref sy, .int (nI d), .ref fi, .ref ba, .int (lo), .int (hi)])), (sy, .inl (ky, 97, .inl (nA (va_cpy Dd S 0 0 d)))), (fi, .inl (ky, 28, .inl (nA Fn_17))), (ba, .inl (ky, 97, .inl (nA Bn_17)))] := hD
  have hq17 : Lnk (va_cpy Dd S 0 0 d) Fn_17 Bn_17 d ∧ (∀ k_, Fn_17 k_ < 98) ∧ (∀ k_, Bn_17 k_ < 97) := hw17
  have hP9 := hP.sub (ws' := [(h0, .inr (1, [.ref sy, .int (nI d), .ref fi, .ref ba, .int (lo), .int (hi)])), (sy, .inl (ky, 97, .inl (nA (va_cpy Dd S 0 0 d)))), (fi, .inl (ky, 28, .inl (nA Fn_17))), (ba, .inl (ky, 97, .inl (nA Bn_17))), (dr, .inl (ky, 97, .inl (nA Dd)))]) [1, 2, 3, 4, 0] rfl
  have hD9 := hD.sub (ws' := [(h0, .inr (1, [.ref sy, .int (nI d), .ref fi, .ref ba, .int (lo), .int (hi)])), (sy, .inl (ky, 97, .inl (nA (va_cpy Dd S 0 0 d)))), (fi, .inl (ky, 28, .inl (nA Fn_17))), (ba, .inl (ky, 97, .inl (nA Bn_17))), (dr, .inl (ky, 97, .inl (nA Dd)))]) [1, 2, 3, 4, 0] (by decide) rfl
  exact W.vret hx hb hr (fun t ht hW => ⟨⟨((va_cpy Dd S 0 0 d), Fn_17, Bn_17), rfl, ⟨fun k hk => by rw [pk_cpy_in (by omega) (by omega)]; congr 1; omega, hq17.1, hu1, hq17.2.1, hq17.2.2⟩, by rw [ht]; exact hP9, hD9⟩, hS.F ht⟩) hS.2.2 d_Im_copyFrom_20

set_option maxHeartbeats 4000000 in
set_option maxRecDepth 100000 in
/-- whether it is an image -/
theorem c_Im_isOfText (l : Launch) (dC : Nat → ClassId) (dI : Nat → Nat → Nat) (ky : ClassId) (sz : Nat) (h0 : Nat) (sy : Nat) (fi : Nat) (ba : Nat) (n : Nat) (lo : Int32) (hi : Int32) (S : Nat → Nat) (F : Nat → Nat) (B1 : Nat → Nat) (hs : ∀ k_, S k_ < 28) (hB1 : ∀ k_, B1 k_ < 97) (hn : n ≤ 97) (hL : Lnk S F B1 n) : Met l y_Im_isOfText (Cond.code y_Im_isOfText prog_3_method_8_code 3 (some .boolean) :: W0) ({ frames := 1, cells := 0, slots := 0, locals := 24 }) (va_Pc [.ref h0] (fun U => U.heap.size = sz ∧ va_P (dC, dI) cls_ [(h0, .inr (1, [.ref sy, .int (nI n), .ref fi, .ref ba, .int (lo), .int (hi)])), (sy, .inl (ky, 97, .inl (nA S))), (ba, .inl (ky, 97, .inl (nA B1)))] U.heap ∧ va_K (dC, dI) cls_ [(ky, .int)] U ∧ va_D (fun _ => True) [(h0, .inr (1, [.ref sy, .int (nI n), .ref fi, .ref ba, .int (lo), .int (hi)])), (sy, .inl (ky, 97, .inl (nA S))), (ba, .inl (ky, 97, .inl (nA B1)))])) (va_Qi (fun (r : Int32) (_ : Unit) => (Ac S n ∧ r = nI 1) ∨ (¬ Ac S n ∧ r = nI 0)) (fun (_ : Unit) (t : State) => va_P (dC, dI) cls_ [(h0, .inr (1, [.ref sy, .int (nI n), .ref fi, .ref ba, .int (lo), .int (hi)])), (sy, .inl (ky, 97, .inl (nA S))), (ba, .inl (ky, 97, .inl (nA B1)))] t.heap ∧ va_D (va_A [(h0, .inr (1, [.ref sy, .int (nI n), .ref fi, .ref ba, .int (lo), .int (hi)])), (sy, .inl (ky, 97, .inl (nA S))), (ba, .inl (ky, 97, .inl (nA B1)))] sz) [(h0, .inr (1, [.ref sy, .int (nI n), .ref fi, .ref ba, .int (lo), .int (hi)])), (sy, .inl (ky, 97, .inl (nA S))), (ba, .inl (ky, 97, .inl (nA B1)))]) (va_A [(h0, .inr (1, [.ref sy, .int (nI n), .ref fi, .ref ba, .int (lo), .int (hi)])), (sy, .inl (ky, 97, .inl (nA S))), (ba, .inl (ky, 97, .inl (nA B1)))] sz)) 0 0 (va_A [(h0, .inr (1, [.ref sy, .int (nI n), .ref fi, .ref ba, .int (lo), .int (hi)])), (sy, .inl (ky, 97, .inl (nA S))), (ba, .inl (ky, 97, .inl (nA B1)))] sz) := by
  refine Met.ofW (cc := prog_3_method_8_code) (maxL := 3) (ret := (some .boolean)) (by decide) rfl ?_
  intro p e s m args below meth c s₁ B hml hv
  obtain ⟨rfl, hsz, hP, hK, hD0⟩ := hv
  have hx := B.exec
  have hb := B.bytes
  have hr := B.returns
  have hlocks := B.notSynchronized
  have hts := atoms_spec (ws := (Cond.code y_Im_isOfText prog_3_method_8_code 3 (some .boolean) :: W0)) B.pre
  have htb : ∀ w ∈ W0, w.before _ s = true := fun w h => hts w (List.mem_cons_of_mem _ h)
  have hown : s.vm.findClass "SelfIndexedSequences$Image" = some m.cls := findClass_of_methodNamed B.named
  subst hsz
  have hD := hD0.self (sz := s.heap.size)
  generalize hAe : va_A [(h0, .inr (1, [.ref sy, .int (nI n), .ref fi, .ref ba, .int (lo), .int (hi)])), (sy, .inl (ky, 97, .inl (nA S))), (ba, .inl (ky, 97, .inl (nA B1)))] s.heap.size = A at hD ⊢
  have hA : ∀ q : Nat, s.heap.size ≤ q → A q := fun q h => by rw [← hAe]; exact Or.inr h
  have hS : va_S A s.heap s.heap [] := va_S.rf
  have hl := lv_entry ([.ref h0]) (n := 3) (Nat.le_of_ble_eq_true rfl)
  rw [lg_entry_eq]
  generalize (lg_sl ([.ref h0]) ++ List.replicate (3 - (lg_sl ([.ref h0])).length) Slot.unset).toArray = ls at hl ⊢
  have hl : lv_has ls 3 [(0, .ref h0)] := hl
  refine lv_aload_n hx hb d_Im_isOfText_0 rfl (lv_at hl 0 rfl) ?_
  refine lv_iconst (v := nI 0) hx hb d_Im_isOfText_1 (by decide) ?_
  refine lv_aload_n hx hb d_Im_isOfText_2 rfl (lv_at hl 0 rfl) ?_
  refine va_get (D := (dC, dI)) (ci := 1) (v := .int (nI n)) (C := R_Im) (T := F_Im) (N := 6) hx hb htb in_Im hown hK hP 0 rfl rfl 1 (by decide) (htb _ tw_50) (fun _ h9 => h9) rfl d_Im_isOfText_3 ?_
  have hPc := hP.sub (ws' := [(h0, .inr (1, [.ref sy, .int (nI n), .ref fi, .ref ba, .int (lo), .int (hi)])), (sy, .inl (ky, 97, .inl (nA S)))]) [0, 1] rfl
  have hDc := hD.sub (ws' := [(h0, .inr (1, [.ref sy, .int (nI n), .ref fi, .ref ba, .int (lo), .int (hi)])), (sy, .inl (ky, 97, .inl (nA S)))]) [0, 1] (by decide) rfl
  have hFc := va_free (wc := [(h0, .inr (1, [.ref sy, .int (nI n), .ref fi, .ref ba, .int (lo), .int (hi)])), (sy, .inl (ky, 97, .inl (nA S)))]) hD hS hA [0, 1] rfl
  refine va_calli (va_runV (C := "SelfIndexedSequences$Image") (As := [.int (nI 0), .int (nI n)]) (rest := []) ⟨hx, hb, hml, hown, hts⟩ (c_Im_among l dC dI ky s.heap.size h0 sy fi ba n lo hi S 0 n hs (by first | assumption | omega | (simp; done) | (simp_all; done)) (by first | assumption | omega | (simp; done) | (simp_all; done))) ⟨callB_of 2 hts (W0_good tw_193) rfl rfl rfl (htb _ tw_24) (htb _ tw_190) ⟨by decide, by decide, by decide +kernel⟩ ⟨(Nat.le_of_ble_eq_true rfl), (Nat.le_of_ble_eq_true rfl)⟩, htb _ tw_191, htb _ tw_192⟩ ⟨fun a U g mk q => by obtain ⟨q0, q1, qP, qK, qD⟩ := q; exact ⟨q0, q1, qP, va_K.moved (u := U) (U := U.calling g mk a) (Vm.Alike.refl U.vm) qK, qD⟩, va_recv hK hPc (q0 := 0) (q := (R_Im, F_Im, 6)) rfl rfl, fun U hU hW => ⟨rfl, by rw [hU], by rw [hU]; exact hPc, va_K.moved hW.alike hK, hDc.weaken (fun _ _ _ _ => trivial)⟩⟩ rfl rfl hl.1 rfl (lv_room (Nat.le_of_ble_eq_true rfl)) d_Im_isOfText_6 ⟨(Nat.le_of_ble_eq_true rfl), (Nat.le_of_ble_eq_true rfl)⟩) hS (fun q _ h => hFc q h) hFc (fun r6 u_ t H locs ht hvm hw6 hB hz1 hk1 hS => ?_)
  obtain ⟨hP1, hD1⟩ := hB
  rw [ht] at hP1
  obtain ⟨hP, hD⟩ := va_join (wr := [(ba, .inl (ky, 97, .inl (nA B1)))]) (w1 := [(h0, .inr (1, [.ref sy, .int (nI n), .ref fi, .ref ba, .int (lo), .int (hi)])), (sy, .inl (ky, 97, .inl (nA S)))]) hP hD [0, 1] [2] rfl rfl (by decide) (by decide) hk1 hFc hP1 hD1
  have hP : va_P (dC, dI) cls_ [(ba, .inl (ky, 97, .inl (nA B1))), (h0, .inr (1, [.ref sy, .int (nI n), .ref fi, .ref ba, .int (lo), .int (hi)])), (sy, .inl (ky, 97, .inl (nA S)))] H := hP
  have hD : va_D A [(ba, .inl (ky, 97, .inl (nA B1))), (h0, .inr (1, [.ref sy, .int (nI n), .ref fi, .ref ba, .int (lo), .int (hi)])), (sy, .inl (ky, 97, .inl (nA S)))] := hD
  have hw6 : r6 = nI (num (fun j => S j = 0) n) ∧ (True) := hw6
  obtain ⟨hre, hq6⟩ := hw6
  subst hre
  refine lv_iconst (v := nI 1) hx hb d_Im_isOfText_9 (by decide) ?_
  have h98 := num_le (fun j => S j = 0) n
  refine lv_icmp_eq (tgt := 15) hx hb d_Im_isOfText_10 (by decide) (fun hc10 => ?_) (fun hc10 => ?_)
  · skip
    rw [bw_eq_nn (by omega) (by omega)] at hc10
    refine lv_iconst (v := nI 0) hx hb d_Im_isOfText_15 (by decide) ?_
    refine lv_istore_n hx hb d_Im_isOfText_16 rfl hl (by decide) rfl (fun ls hl => ?_)
    have hl : lv_has ls 3 [(1, .int (nI 0)), (0, .ref h0)] := hl
    refine lv_iconst (v := nI 1) hx hb d_Im_isOfText_17 (by decide) ?_
    refine lv_istore_n hx hb d_Im_isOfText_18 rfl hl (by decide) rfl (fun ls hl => ?_)
    have hl : lv_has ls 3 [(2, .int (nI 1)), (1, .int (nI 0)), (0, .ref h0)] := hl
    refine wl_loop (σ := Nat × Nat) 19 [] (fun (a_ : Nat × Nat) => match a_ with | (mt, rw) => n - mt) (fun (a_ : Nat × Nat) (H : Heap) (locs : List Loc) (ls : Array Slot) => match a_ with | (mt, rw) => (1 ≤ mt) ∧ (mt ≤ n) ∧ (rw = gob S n (mt - 1)) ∧ (rw < n) ∧ (∀ i, i + 1 < mt → S (gob S n i) ≠ 0) ∧ va_P (dC, dI) cls_ [(h0, .inr (1, [.ref sy, .int (nI n), .ref fi, .ref ba, .int (lo), .int (hi)])), (sy, .inl (ky, 97, .inl (nA S))), (ba, .inl (ky, 97, .inl (nA B1)))] H ∧ va_D A [(h0, .inr (1, [.ref sy, .int (nI n), .ref fi, .ref ba, .int (lo), .int (hi)])), (sy, .inl (ky, 97, .inl (nA S))), (ba, .inl (ky, 97, .inl (nA B1)))] ∧ va_S A s.heap H locs ∧ lv_has ls 3 [(2, .int (nI mt)), (1, .int (nI rw)), (0, .ref h0)]) ?_ (1, 0) ⟨(by first | assumption | omega | (simp; done) | (simp_all; done)), (by have := num_le (fun j => S j = 0) n; omega), rfl, (by have := num_le (fun j => S j = 0) n; omega), (fun i hi => by omega), (hP.sub [1, 2, 0] rfl), (hD.sub [1, 2, 0] (by decide) rfl), hS, lv_sub hl [0, 1, 2] rfl⟩
    clear hP hD hS hl
    intro a_ H locs ls hI ih19
    obtain ⟨mt, rw⟩ := a_
    obtain ⟨hm1, hm2, hrw, hrn, hno, hP, hD, hS, hl⟩ := hI
    have hl : lv_has ls 3 [(2, .int (nI mt)), (1, .int (nI rw)), (0, .ref h0)] := hl
    have hP : va_P (dC, dI) cls_ [(h0, .inr (1, [.ref sy, .int (nI n), .ref fi, .ref ba, .int (lo), .int (hi)])), (sy, .inl (ky, 97, .inl (nA S))), (ba, .inl (ky, 97, .inl (nA B1)))] H := hP
    have hD : va_D A [(h0, .inr (1, [.ref sy, .int (nI n), .ref fi, .ref ba, .int (lo), .int (hi)])), (sy, .inl (ky, 97, .inl (nA S))), (ba, .inl (ky, 97, .inl (nA B1)))] := hD
    have hm1 : 1 ≤ mt := hm1
    have hm2 : mt ≤ n := hm2
    have hrw : rw = gob S n (mt - 1) := hrw
    have hrn : rw < n := hrn
    have hno : ∀ i, i + 1 < mt → S (gob S n i) ≠ 0 := hno
    refine lv_iload_n hx hb d_Im_isOfText_19 rfl (lv_at hl 0 rfl) ?_
    refine lv_aload_n hx hb d_Im_isOfText_20 rfl (lv_at hl 2 rfl) ?_
    refine va_get (D := (dC, dI)) (ci := 1) (v := .int (nI n)) (C := R_Im) (T := F_Im) (N := 6) hx hb htb in_Im hown hK hP 0 rfl rfl 1 (by decide) (htb _ tw_50) (fun _ h9 => h9) rfl d_Im_isOfText_21 ?_
    refine lv_icmp_ge (tgt := 51) hx hb d_Im_isOfText_24 (by decide) (fun hc24 => ?_) (fun hc24 => ?_)
    · skip
      rw [bw_le_nn (by omega) (by omega)] at hc24
      refine lv_iconst (v := nI 1) hx hb d_Im_isOfText_51 (by decide) ?_
      have hP9 := hP.sub (ws' := [(h0, .inr (1, [.ref sy, .int (nI n), .ref fi, .ref ba, .int (lo), .int (hi)])), (sy, .inl (ky, 97, .inl (nA S))), (ba, .inl (ky, 97, .inl (nA B1)))]) [0, 1, 2] rfl
      have hD9 := hD.sub (ws' := [(h0, .inr (1, [.ref sy, .int (nI n), .ref fi, .ref ba, .int (lo), .int (hi)])), (sy, .inl (ky, 97, .inl (nA S))), (ba, .inl (ky, 97, .inl (nA B1)))]) [0, 1, 2] (by decide) rfl
      exact W.zret (v := nI 1) hx hb hr (by first | rfl | decide) (fun t ht hW => ⟨⟨nI 1, (), rfl, (Or.inl ⟨⟨by omega, fun i hi => hno i (by omega)⟩, rfl⟩), by rw [ht]; exact hP9, hD9⟩, hS.F ht⟩) hS.2.2 d_Im_isOfText_52
    · skip
      rw [bw_le_nn (by omega) (by omega)] at hc24
      refine lv_aload_n hx hb d_Im_isOfText_27 rfl (lv_at hl 2 rfl) ?_
      refine va_get (D := (dC, dI)) (ci := 1) (v := .ref sy) (C := R_Im) (T := F_Im) (N := 6) hx hb htb in_Im hown hK hP 0 rfl rfl 0 (by decide) (htb _ tw_46) (fun _ h9 => h9) rfl d_Im_isOfText_28 ?_
      refine lv_iload_n hx hb d_Im_isOfText_31 rfl (lv_at hl 1 rfl) ?_
      refine va_iald hx hb hK hP 1 0 rfl rfl (vp_in_nI (by omega) (by decide)) d_Im_isOfText_32 ?_
      rw [nI_clamp (by omega)]
      have hb32 := hs rw
      rw [nA_at]
      refine lv_if_ne (tgt := 38) hx hb d_Im_isOfText_33 (by decide) (fun hc33 => ?_) (fun hc33 => ?_)
      · skip
        rw [← nI_0, bw_eq_nn (by omega) (by omega)] at hc33
        refine lv_aload_n hx hb d_Im_isOfText_38 rfl (lv_at hl 2 rfl) ?_
        refine va_get (D := (dC, dI)) (ci := 1) (v := .ref ba) (C := R_Im) (T := F_Im) (N := 6) hx hb htb in_Im hown hK hP 0 rfl rfl 3 (by decide) (htb _ tw_53) (fun _ h9 => h9) rfl d_Im_isOfText_39 ?_
        refine lv_iload_n hx hb d_Im_isOfText_42 rfl (lv_at hl 1 rfl) ?_
        refine va_iald hx hb hK hP 2 0 rfl rfl (vp_in_nI (by omega) (by decide)) d_Im_isOfText_43 ?_
        rw [nI_clamp (by omega)]
        have hb43 := hB1 rw
        rw [nA_at]
        refine lv_istore_n hx hb d_Im_isOfText_44 rfl hl (by decide) rfl (fun ls hl => ?_)
        have hl : lv_has ls 3 [(1, .int (nI (B1 rw))), (2, .int (nI mt)), (0, .ref h0)] := hl
        refine lv_iinc (v := nI (mt + 1)) (k := 1) hx hb d_Im_isOfText_45 hl rfl (bw_inc mt 1) (by decide) rfl (fun ls hl => ?_)
        have hl : lv_has ls 3 [(2, .int (nI (mt + 1))), (1, .int (nI (B1 rw))), (0, .ref h0)] := hl
        refine lv_goto (tgt := 19) hx hb d_Im_isOfText_48 (by decide) ?_
        exact ih19 ((mt + 1), (B1 rw)) _ _ _ ⟨(by first | assumption | omega | (simp; done) | (simp_all; done)), (by first | assumption | omega | (simp; done) | (simp_all; done)), (by rw [hL.2 rw hrn, hrw, show mt + 1 - 1 = mt - 1 + 1 by omega]; rfl), (by rw [hL.2 rw hrn]; exact bk_lt hrn), (fun i hi => if e : i + 1 < mt then (by exact hno i e) else (by rw [show i = mt - 1 by omega, ← hrw]; assumption)), hP, hD, hS, lv_sub hl [0, 1, 2] rfl⟩ (by first | omega | (simp only; omega) | (dsimp only; omega))
      · skip
        rw [← nI_0, bw_eq_nn (by omega) (by omega)] at hc33
        refine lv_iconst (v := nI 0) hx hb d_Im_isOfText_36 (by decide) ?_
        have hP9 := hP.sub (ws' := [(h0, .inr (1, [.ref sy, .int (nI n), .ref fi, .ref ba, .int (lo), .int (hi)])), (sy, .inl (ky, 97, .inl (nA S))), (ba, .inl (ky, 97, .inl (nA B1)))]) [0, 1, 2] rfl
        have hD9 := hD.sub (ws' := [(h0, .inr (1, [.ref sy, .int (nI n), .ref fi, .ref ba, .int (lo), .int (hi)])), (sy, .inl (ky, 97, .inl (nA S))), (ba, .inl (ky, 97, .inl (nA B1)))]) [0, 1, 2] (by decide) rfl
        exact W.zret (v := nI 0) hx hb hr (by first | rfl | decide) (fun t ht hW => ⟨⟨nI 0, (), rfl, (Or.inr ⟨fun a => a.2 (mt - 1) (by omega) (by rw [← hrw]; assumption), rfl⟩), by rw [ht]; exact hP9, hD9⟩, hS.F ht⟩) hS.2.2 d_Im_isOfText_37
  · skip
    rw [bw_eq_nn (by omega) (by omega)] at hc10
    refine lv_iconst (v := nI 0) hx hb d_Im_isOfText_13 (by decide) ?_
    have hP9 := hP.sub (ws' := [(h0, .inr (1, [.ref sy, .int (nI n), .ref fi, .ref ba, .int (lo), .int (hi)])), (sy, .inl (ky, 97, .inl (nA S))), (ba, .inl (ky, 97, .inl (nA B1)))]) [1, 2, 0] rfl
    have hD9 := hD.sub (ws' := [(h0, .inr (1, [.ref sy, .int (nI n), .ref fi, .ref ba, .int (lo), .int (hi)])), (sy, .inl (ky, 97, .inl (nA S))), (ba, .inl (ky, 97, .inl (nA B1)))]) [1, 2, 0] (by decide) rfl
    exact W.zret (v := nI 0) hx hb hr (by first | rfl | decide) (fun t ht hW => ⟨⟨nI 0, (), rfl, (Or.inr ⟨fun a => by have := a.1; omega, rfl⟩), by rw [ht]; exact hP9, hD9⟩, hS.F ht⟩) hS.2.2 d_Im_isOfText_14

set_option maxHeartbeats 4000000 in
set_option maxRecDepth 100000 in
/-- the backward search -/
theorem c_Im_search (l : Launch) (dC : Nat → ClassId) (dI : Nat → Nat → Nat) (ky : ClassId) (sz : Nat) (h0 : Nat) (sy : Nat) (fi : Nat) (ba : Nat) (n : Nat) (lo : Int32) (hi : Int32) (S : Nat → Nat) (F : Nat → Nat) (pa : Nat) (le : Nat) (di : Nat) (pk : Nat) (Wl : Nat → Nat) (T : Nat → Nat) (O : Nat → Nat) (R : Nat → Nat) (hs : ∀ k_, S k_ < 28) (hF : ∀ k_, F k_ < 98) (hWl : ∀ k_, Wl k_ < 28) (hn : n ≤ 97) (hpk : pk ≤ 8) (hF2 : ∀ d, d < 28 → F d = num (fun j => S j < d) n) (hH : Held S T O R n) (hW2 : ∀ i, i < pk → Wl i ≠ 0) : Met l y_Im_search (Cond.code y_Im_search prog_3_method_9_code 4 none :: W0) ({ frames := 1, cells := 0, slots := 0, locals := 24 }) (va_Pc [.ref h0, .ref pa] (fun U => U.heap.size = sz ∧ va_P (dC, dI) cls_ [(h0, .inr (1, [.ref sy, .int (nI n), .ref fi, .ref ba, .int (lo), .int (hi)])), (sy, .inl (ky, 97, .inl (nA S))), (fi, .inl (ky, 28, .inl (nA F))), (pa, .inr (2, [.ref le, .int (nI pk), .ref di])), (le, .inl (ky, 8, .inl (nA Wl)))] U.heap ∧ va_K (dC, dI) cls_ [(ky, .int)] U ∧ va_D (fun _ => True) [(h0, .inr (1, [.ref sy, .int (nI n), .ref fi, .ref ba, .int (lo), .int (hi)])), (sy, .inl (ky, 97, .inl (nA S))), (fi, .inl (ky, 28, .inl (nA F))), (pa, .inr (2, [.ref le, .int (nI pk), .ref di])), (le, .inl (ky, 8, .inl (nA Wl)))])) (va_Qv (fun (u : (Nat) × (Nat)) => match u with | (a1, b1) => Bg T Wl O n pk 0 a1 b1) (fun (u : (Nat) × (Nat)) (t : State) => match u with | (a1, b1) => va_P (dC, dI) cls_ [(h0, .inr (1, [.ref sy, .int (nI n), .ref fi, .ref ba, .int (nI a1), .int (nI b1)])), (sy, .inl (ky, 97, .inl (nA S))), (fi, .inl (ky, 28, .inl (nA F))), (pa, .inr (2, [.ref le, .int (nI pk), .ref di])), (le, .inl (ky, 8, .inl (nA Wl)))] t.heap ∧ va_D (va_A [(h0, .inr (1, [.ref sy, .int (nI n), .ref fi, .ref ba, .int (lo), .int (hi)])), (sy, .inl (ky, 97, .inl (nA S))), (fi, .inl (ky, 28, .inl (nA F))), (pa, .inr (2, [.ref le, .int (nI pk), .ref di])), (le, .inl (ky, 8, .inl (nA Wl)))] sz) [(h0, .inr (1, [.ref sy, .int (nI n), .ref fi, .ref ba, .int (nI a1), .int (nI b1)])), (sy, .inl (ky, 97, .inl (nA S))), (fi, .inl (ky, 28, .inl (nA F))), (pa, .inr (2, [.ref le, .int (nI pk), .ref di])), (le, .inl (ky, 8, .inl (nA Wl)))]) (va_A [(h0, .inr (1, [.ref sy, .int (nI n), .ref fi, .ref ba, .int (lo), .int (hi)])), (sy, .inl (ky, 97, .inl (nA S))), (fi, .inl (ky, 28, .inl (nA F))), (pa, .inr (2, [.ref le, .int (nI pk), .ref di])), (le, .inl (ky, 8, .inl (nA Wl)))] sz)) 0 0 (va_A [(h0, .inr (1, [.ref sy, .int (nI n), .ref fi, .ref ba, .int (lo), .int (hi)])), (sy, .inl (ky, 97, .inl (nA S))), (fi, .inl (ky, 28, .inl (nA F))), (pa, .inr (2, [.ref le, .int (nI pk), .ref di])), (le, .inl (ky, 8, .inl (nA Wl)))] sz) := by
  refine Met.ofW (cc := prog_3_method_9_code) (maxL := 4) (ret := none) (by decide) rfl ?_
  intro p e s m args below meth c s₁ B hml hv
  obtain ⟨rfl, hsz, hP, hK, hD0⟩ := hv
  have hx := B.exec
  have hb := B.bytes
  have hr := B.returns
  have hlocks := B.notSynchronized
  have hts := atoms_spec (ws := (Cond.code y_Im_search prog_3_method_9_code 4 none :: W0)) B.pre
  have htb : ∀ w ∈ W0, w.before _ s = true := fun w h => hts w (List.mem_cons_of_mem _ h)
  have hown : s.vm.findClass "SelfIndexedSequences$Image" = some m.cls := findClass_of_methodNamed B.named
  subst hsz
  have hD := hD0.self (sz := s.heap.size)
  generalize hAe : va_A [(h0, .inr (1, [.ref sy, .int (nI n), .ref fi, .ref ba, .int (lo), .int (hi)])), (sy, .inl (ky, 97, .inl (nA S))), (fi, .inl (ky, 28, .inl (nA F))), (pa, .inr (2, [.ref le, .int (nI pk), .ref di])), (le, .inl (ky, 8, .inl (nA Wl)))] s.heap.size = A at hD ⊢
  have hA : ∀ q : Nat, s.heap.size ≤ q → A q := fun q h => by rw [← hAe]; exact Or.inr h
  have hS : va_S A s.heap s.heap [] := va_S.rf
  have hl := lv_entry ([.ref h0, .ref pa]) (n := 4) (Nat.le_of_ble_eq_true rfl)
  rw [lg_entry_eq]
  generalize (lg_sl ([.ref h0, .ref pa]) ++ List.replicate (4 - (lg_sl ([.ref h0, .ref pa])).length) Slot.unset).toArray = ls at hl ⊢
  have hl : lv_has ls 4 [(0, .ref h0), (1, .ref pa)] := hl
  refine lv_aload_n hx hb d_Im_search_0 rfl (lv_at hl 0 rfl) ?_
  refine lv_iconst (v := nI 0) hx hb d_Im_search_1 (by decide) ?_
  refine va_put (D := (dC, dI)) (ci := 1) (v := .int (nI 0)) (ty := .int) (C := R_Im) (T := F_Im) (N := 6) hx hb htb in_Im t_Im tk_Im nm_Im hown hK hP hD hS 0 rfl rfl 4 (by decide) (htb _ tw_55) (fun _ h9 => h9) rfl (by decide +kernel) rfl rfl (Nat.le_of_ble_eq_true rfl) d_Im_search_2 (fun H locs hP hD hS => ?_)
  have hP : va_P (dC, dI) cls_ [(h0, .inr (1, [.ref sy, .int (nI n), .ref fi, .ref ba, .int (nI 0), .int (hi)])), (sy, .inl (ky, 97, .inl (nA S))), (fi, .inl (ky, 28, .inl (nA F))), (pa, .inr (2, [.ref le, .int (nI pk), .ref di])), (le, .inl (ky, 8, .inl (nA Wl)))] H := hP
  have hD : va_D A [(h0, .inr (1, [.ref sy, .int (nI n), .ref fi, .ref ba, .int (nI 0), .int (hi)])), (sy, .inl (ky, 97, .inl (nA S))), (fi, .inl (ky, 28, .inl (nA F))), (pa, .inr (2, [.ref le, .int (nI pk), .ref di])), (le, .inl (ky, 8, .inl (nA Wl)))] := hD
  refine lv_aload_n hx hb d_Im_search_5 rfl (lv_at hl 0 rfl) ?_
  refine lv_aload_n hx hb d_Im_search_6 rfl (lv_at hl 0 rfl) ?_
  refine va_get (D := (dC, dI)) (ci := 1) (v := .int (nI n)) (C := R_Im) (T := F_Im) (N := 6) hx hb htb in_Im hown hK hP 0 rfl rfl 1 (by decide) (htb _ tw_50) (fun _ h9 => h9) rfl d_Im_search_7 ?_
  refine va_put (D := (dC, dI)) (ci := 1) (v := .int (nI n)) (ty := .int) (C := R_Im) (T := F_Im) (N := 6) hx hb htb in_Im t_Im tk_Im nm_Im hown hK hP hD hS 0 rfl rfl 5 (by decide) (htb _ tw_57) (fun _ h9 => h9) rfl (by decide +kernel) rfl rfl (Nat.le_of_ble_eq_true rfl) d_Im_search_10 (fun H locs hP hD hS => ?_)
  have hP : va_P (dC, dI) cls_ [(h0, .inr (1, [.ref sy, .int (nI n), .ref fi, .ref ba, .int (nI 0), .int (nI n)])), (sy, .inl (ky, 97, .inl (nA S))), (fi, .inl (ky, 28, .inl (nA F))), (pa, .inr (2, [.ref le, .int (nI pk), .ref di])), (le, .inl (ky, 8, .inl (nA Wl)))] H := hP
  have hD : va_D A [(h0, .inr (1, [.ref sy, .int (nI n), .ref fi, .ref ba, .int (nI 0), .int (nI n)])), (sy, .inl (ky, 97, .inl (nA S))), (fi, .inl (ky, 28, .inl (nA F))), (pa, .inr (2, [.ref le, .int (nI pk), .ref di])), (le, .inl (ky, 8, .inl (nA Wl)))] := hD
  refine lv_aload_n hx hb d_Im_search_13 rfl (lv_at hl 1 rfl) ?_
  refine va_get (D := (dC, dI)) (ci := 2) (v := .int (nI pk)) (C := R_Pa) (T := F_Pa) (N := 3) hx hb htb in_Pa hown hK hP 3 rfl rfl 1 (by decide) (htb _ tw_82) (fun _ h9 => h9) rfl d_Im_search_14 ?_
  refine lv_iconst (v := nI 1) hx hb d_Im_search_17 (by decide) ?_
  refine lv_isub hx hb d_Im_search_18 ?_
  rw [bw_n1 pk]
  refine lv_istore_n hx hb d_Im_search_19 rfl hl (by decide) rfl (fun ls hl => ?_)
  have hl : lv_has ls 4 [(2, .int (nI pk - 1)), (0, .ref h0), (1, .ref pa)] := hl
  refine wl_loop (σ := Nat × Nat × Nat) 20 [] (fun (a_ : Nat × Nat × Nat) => match a_ with | (k, a1, b1) => k) (fun (a_ : Nat × Nat × Nat) (H : Heap) (locs : List Loc) (ls : Array Slot) => match a_ with | (k, a1, b1) => (k ≤ pk) ∧ (Bg T Wl O n pk k a1 b1) ∧ va_P (dC, dI) cls_ [(h0, .inr (1, [.ref sy, .int (nI n), .ref fi, .ref ba, .int (nI a1), .int (nI b1)])), (sy, .inl (ky, 97, .inl (nA S))), (fi, .inl (ky, 28, .inl (nA F))), (pa, .inr (2, [.ref le, .int (nI pk), .ref di])), (le, .inl (ky, 8, .inl (nA Wl)))] H ∧ va_D A [(h0, .inr (1, [.ref sy, .int (nI n), .ref fi, .ref ba, .int (nI a1), .int (nI b1)])), (sy, .inl (ky, 97, .inl (nA S))), (fi, .inl (ky, 28, .inl (nA F))), (pa, .inr (2, [.ref le, .int (nI pk), .ref di])), (le, .inl (ky, 8, .inl (nA Wl)))] ∧ va_S A s.heap H locs ∧ lv_has ls 4 [(2, .int (nI k - 1)), (0, .ref h0), (1, .ref pa)]) ?_ (pk, 0, n) ⟨(by first | assumption | omega | (simp; done) | (simp_all; done)), (Bg_0 T Wl O n pk), hP, hD, hS, lv_sub hl [0, 1, 2] rfl⟩
  clear hP hD hS hl
  intro a_ H locs ls hI ih20
  obtain ⟨k, a1, b1⟩ := a_
  obtain ⟨hk, hbg, hP, hD, hS, hl⟩ := hI
  have hl : lv_has ls 4 [(2, .int (nI k - 1)), (0, .ref h0), (1, .ref pa)] := hl
  have hP : va_P (dC, dI) cls_ [(h0, .inr (1, [.ref sy, .int (nI n), .ref fi, .ref ba, .int (nI a1), .int (nI b1)])), (sy, .inl (ky, 97, .inl (nA S))), (fi, .inl (ky, 28, .inl (nA F))), (pa, .inr (2, [.ref le, .int (nI pk), .ref di])), (le, .inl (ky, 8, .inl (nA Wl)))] H := hP
  have hD : va_D A [(h0, .inr (1, [.ref sy, .int (nI n), .ref fi, .ref ba, .int (nI a1), .int (nI b1)])), (sy, .inl (ky, 97, .inl (nA S))), (fi, .inl (ky, 28, .inl (nA F))), (pa, .inr (2, [.ref le, .int (nI pk), .ref di])), (le, .inl (ky, 8, .inl (nA Wl)))] := hD
  have hk : k ≤ pk := hk
  have hbg : Bg T Wl O n pk k a1 b1 := hbg
  refine lv_iload_n hx hb d_Im_search_20 rfl (lv_at hl 0 rfl) ?_
  refine lv_if_lt (tgt := 77) hx hb d_Im_search_21 (by decide) (fun hc21 => ?_) (fun hc21 => ?_)
  · skip
    rw [← nI_0, bw_lt_pn (by omega) (by omega)] at hc21
    obtain rfl : k = 0 := by omega
    have hl : lv_has ls 4 [(2, .int (nI 0 - 1)), (0, .ref h0), (1, .ref pa)] := hl
    have hP : va_P (dC, dI) cls_ [(h0, .inr (1, [.ref sy, .int (nI n), .ref fi, .ref ba, .int (nI a1), .int (nI b1)])), (sy, .inl (ky, 97, .inl (nA S))), (fi, .inl (ky, 28, .inl (nA F))), (pa, .inr (2, [.ref le, .int (nI pk), .ref di])), (le, .inl (ky, 8, .inl (nA Wl)))] H := hP
    have hD : va_D A [(h0, .inr (1, [.ref sy, .int (nI n), .ref fi, .ref ba, .int (nI a1), .int (nI b1)])), (sy, .inl (ky, 97, .inl (nA S))), (fi, .inl (ky, 28, .inl (nA F))), (pa, .inr (2, [.ref le, .int (nI pk), .ref di])), (le, .inl (ky, 8, .inl (nA Wl)))] := hD
    have hP9 := hP.sub (ws' := [(h0, .inr (1, [.ref sy, .int (nI n), .ref fi, .ref ba, .int (nI a1), .int (nI b1)])), (sy, .inl (ky, 97, .inl (nA S))), (fi, .inl (ky, 28, .inl (nA F))), (pa, .inr (2, [.ref le, .int (nI pk), .ref di])), (le, .inl (ky, 8, .inl (nA Wl)))]) [0, 1, 2, 3, 4] rfl
    have hD9 := hD.sub (ws' := [(h0, .inr (1, [.ref sy, .int (nI n), .ref fi, .ref ba, .int (nI a1), .int (nI b1)])), (sy, .inl (ky, 97, .inl (nA S))), (fi, .inl (ky, 28, .inl (nA F))), (pa, .inr (2, [.ref le, .int (nI pk), .ref di])), (le, .inl (ky, 8, .inl (nA Wl)))]) [0, 1, 2, 3, 4] (by decide) rfl
    exact W.vret hx hb hr (fun t ht hW => ⟨⟨(a1, b1), rfl, hbg, by rw [ht]; exact hP9, hD9⟩, hS.F ht⟩) hS.2.2 d_Im_search_77
  · skip
    rw [← nI_0, bw_lt_pn (by omega) (by omega)] at hc21
    rw [bw_pn (show 0 < k by omega)] at hl
    have hl : lv_has ls 4 [(2, .int (nI (k - 1))), (0, .ref h0), (1, .ref pa)] := hl
    refine lv_aload_n hx hb d_Im_search_24 rfl (lv_at hl 2 rfl) ?_
    refine va_get (D := (dC, dI)) (ci := 2) (v := .ref le) (C := R_Pa) (T := F_Pa) (N := 3) hx hb htb in_Pa hown hK hP 3 rfl rfl 0 (by decide) (htb _ tw_80) (fun _ h9 => h9) rfl d_Im_search_25 ?_
    refine lv_iload_n hx hb d_Im_search_28 rfl (lv_at hl 0 rfl) ?_
    refine va_iald hx hb hK hP 4 0 rfl rfl (vp_in_nI (by omega) (by decide)) d_Im_search_29 ?_
    rw [nI_clamp (by omega)]
    have hb29 := hWl (k - 1)
    rw [nA_at]
    have hba := hbg.1
    have hbb := hbg.2.1
    refine lv_istore_n hx hb d_Im_search_30 rfl hl (by decide) rfl (fun ls hl => ?_)
    have hl : lv_has ls 4 [(3, .int (nI (Wl (k - 1)))), (2, .int (nI (k - 1))), (0, .ref h0), (1, .ref pa)] := hl
    refine lv_aload_n hx hb d_Im_search_31 rfl (lv_at hl 2 rfl) ?_
    refine lv_aload_n hx hb d_Im_search_32 rfl (lv_at hl 2 rfl) ?_
    refine va_get (D := (dC, dI)) (ci := 1) (v := .ref fi) (C := R_Im) (T := F_Im) (N := 6) hx hb htb in_Im hown hK hP 0 rfl rfl 2 (by decide) (htb _ tw_52) (fun _ h9 => h9) rfl d_Im_search_33 ?_
    refine lv_iload_n hx hb d_Im_search_36 rfl (lv_at hl 0 rfl) ?_
    refine va_iald hx hb hK hP 2 0 rfl rfl (vp_in_nI (by omega) (by decide)) d_Im_search_37 ?_
    rw [nI_clamp (by omega)]
    have hb37 := hF (Wl (k - 1))
    rw [nA_at]
    refine lv_aload_n hx hb d_Im_search_38 rfl (lv_at hl 2 rfl) ?_
    refine lv_iload_n hx hb d_Im_search_39 rfl (lv_at hl 0 rfl) ?_
    refine lv_aload_n hx hb d_Im_search_40 rfl (lv_at hl 2 rfl) ?_
    refine va_get (D := (dC, dI)) (ci := 1) (v := .int (nI a1)) (C := R_Im) (T := F_Im) (N := 6) hx hb htb in_Im hown hK hP 0 rfl rfl 4 (by decide) (htb _ tw_55) (fun _ h9 => h9) rfl d_Im_search_41 ?_
    have hFw := hF (Wl (k - 1))
    have hPc := hP.sub (ws' := [(h0, .inr (1, [.ref sy, .int (nI n), .ref fi, .ref ba, .int (nI a1), .int (nI b1)])), (sy, .inl (ky, 97, .inl (nA S)))]) [0, 1] rfl
    have hDc := hD.sub (ws' := [(h0, .inr (1, [.ref sy, .int (nI n), .ref fi, .ref ba, .int (nI a1), .int (nI b1)])), (sy, .inl (ky, 97, .inl (nA S)))]) [0, 1] (by decide) rfl
    have hFc := va_free (wc := [(h0, .inr (1, [.ref sy, .int (nI n), .ref fi, .ref ba, .int (nI a1), .int (nI b1)])), (sy, .inl (ky, 97, .inl (nA S)))]) hD hS hA [0, 1] rfl
    refine va_calli (va_runV (C := "SelfIndexedSequences$Image") (As := [.int (nI (Wl (k - 1))), .int (nI a1)]) (rest := [.int (nI (F (Wl (k - 1)))), .ref h0]) ⟨hx, hb, hml, hown, hts⟩ (c_Im_among l dC dI ky H.size h0 sy fi ba n (nI a1) (nI b1) S (Wl (k - 1)) a1 hs (by first | assumption | omega | (simp; done) | (simp_all; done)) (by first | assumption | omega | (simp; done) | (simp_all; done))) ⟨callB_of 2 hts (W0_good tw_193) rfl rfl rfl (htb _ tw_24) (htb _ tw_190) ⟨by decide, by decide, by decide +kernel⟩ ⟨(Nat.le_of_ble_eq_true rfl), (Nat.le_of_ble_eq_true rfl)⟩, htb _ tw_191, htb _ tw_192⟩ ⟨fun a U g mk q => by obtain ⟨q0, q1, qP, qK, qD⟩ := q; exact ⟨q0, q1, qP, va_K.moved (u := U) (U := U.calling g mk a) (Vm.Alike.refl U.vm) qK, qD⟩, va_recv hK hPc (q0 := 0) (q := (R_Im, F_Im, 6)) rfl rfl, fun U hU hW => ⟨rfl, by rw [hU], by rw [hU]; exact hPc, va_K.moved hW.alike hK, hDc.weaken (fun _ _ _ _ => trivial)⟩⟩ rfl rfl hl.1 rfl (lv_room (Nat.le_of_ble_eq_true rfl)) d_Im_search_44 ⟨(Nat.le_of_ble_eq_true rfl), (Nat.le_of_ble_eq_true rfl)⟩) hS (fun q _ h => hFc q h) hFc (fun r44 u_ t H locs ht hvm hw44 hB hz1 hk1 hS => ?_)
    obtain ⟨hP1, hD1⟩ := hB
    rw [ht] at hP1
    obtain ⟨hP, hD⟩ := va_join (wr := [(fi, .inl (ky, 28, .inl (nA F))), (pa, .inr (2, [.ref le, .int (nI pk), .ref di])), (le, .inl (ky, 8, .inl (nA Wl)))]) (w1 := [(h0, .inr (1, [.ref sy, .int (nI n), .ref fi, .ref ba, .int (nI a1), .int (nI b1)])), (sy, .inl (ky, 97, .inl (nA S)))]) hP hD [0, 1] [2, 3, 4] rfl rfl (by decide) (by decide) hk1 hFc hP1 hD1
    have hP : va_P (dC, dI) cls_ [(fi, .inl (ky, 28, .inl (nA F))), (pa, .inr (2, [.ref le, .int (nI pk), .ref di])), (le, .inl (ky, 8, .inl (nA Wl))), (h0, .inr (1, [.ref sy, .int (nI n), .ref fi, .ref ba, .int (nI a1), .int (nI b1)])), (sy, .inl (ky, 97, .inl (nA S)))] H := hP
    have hD : va_D A [(fi, .inl (ky, 28, .inl (nA F))), (pa, .inr (2, [.ref le, .int (nI pk), .ref di])), (le, .inl (ky, 8, .inl (nA Wl))), (h0, .inr (1, [.ref sy, .int (nI n), .ref fi, .ref ba, .int (nI a1), .int (nI b1)])), (sy, .inl (ky, 97, .inl (nA S)))] := hD
    have hw44 : r44 = nI (num (fun j => S j = (Wl (k - 1))) a1) ∧ (True) := hw44
    obtain ⟨hre, hq44⟩ := hw44
    subst hre
    refine lv_iadd hx hb d_Im_search_47 ?_
    rw [nI_add]
    refine va_put (D := (dC, dI)) (ci := 1) (v := .int (nI ((F (Wl (k - 1))) + (num (fun j => S j = (Wl (k - 1))) a1)))) (ty := .int) (C := R_Im) (T := F_Im) (N := 6) hx hb htb in_Im t_Im tk_Im nm_Im hown hK hP hD hS 3 rfl rfl 4 (by decide) (htb _ tw_55) (fun _ h9 => h9) rfl (by decide +kernel) rfl rfl (Nat.le_of_ble_eq_true rfl) d_Im_search_48 (fun H locs hP hD hS => ?_)
    have hP : va_P (dC, dI) cls_ [(fi, .inl (ky, 28, .inl (nA F))), (pa, .inr (2, [.ref le, .int (nI pk), .ref di])), (le, .inl (ky, 8, .inl (nA Wl))), (h0, .inr (1, [.ref sy, .int (nI n), .ref fi, .ref ba, .int (nI ((F (Wl (k - 1))) + (num (fun j => S j = (Wl (k - 1))) a1))), .int (nI b1)])), (sy, .inl (ky, 97, .inl (nA S)))] H := hP
    have hD : va_D A [(fi, .inl (ky, 28, .inl (nA F))), (pa, .inr (2, [.ref le, .int (nI pk), .ref di])), (le, .inl (ky, 8, .inl (nA Wl))), (h0, .inr (1, [.ref sy, .int (nI n), .ref fi, .ref ba, .int (nI ((F (Wl (k - 1))) + (num (fun j => S j = (Wl (k - 1))) a1))), .int (nI b1)])), (sy, .inl (ky, 97, .inl (nA S)))] := hD
    refine lv_aload_n hx hb d_Im_search_51 rfl (lv_at hl 2 rfl) ?_
    refine lv_aload_n hx hb d_Im_search_52 rfl (lv_at hl 2 rfl) ?_
    refine va_get (D := (dC, dI)) (ci := 1) (v := .ref fi) (C := R_Im) (T := F_Im) (N := 6) hx hb htb in_Im hown hK hP 3 rfl rfl 2 (by decide) (htb _ tw_52) (fun _ h9 => h9) rfl d_Im_search_53 ?_
    refine lv_iload_n hx hb d_Im_search_56 rfl (lv_at hl 0 rfl) ?_
    refine va_iald hx hb hK hP 0 0 rfl rfl (vp_in_nI (by omega) (by decide)) d_Im_search_57 ?_
    rw [nI_clamp (by omega)]
    have hb57 := hF (Wl (k - 1))
    rw [nA_at]
    refine lv_aload_n hx hb d_Im_search_58 rfl (lv_at hl 2 rfl) ?_
    refine lv_iload_n hx hb d_Im_search_59 rfl (lv_at hl 0 rfl) ?_
    refine lv_aload_n hx hb d_Im_search_60 rfl (lv_at hl 2 rfl) ?_
    refine va_get (D := (dC, dI)) (ci := 1) (v := .int (nI b1)) (C := R_Im) (T := F_Im) (N := 6) hx hb htb in_Im hown hK hP 3 rfl rfl 5 (by decide) (htb _ tw_57) (fun _ h9 => h9) rfl d_Im_search_61 ?_
    have hPc := hP.sub (ws' := [(h0, .inr (1, [.ref sy, .int (nI n), .ref fi, .ref ba, .int (nI ((F (Wl (k - 1))) + (num (fun j => S j = (Wl (k - 1))) a1))), .int (nI b1)])), (sy, .inl (ky, 97, .inl (nA S)))]) [3, 4] rfl
    have hDc := hD.sub (ws' := [(h0, .inr (1, [.ref sy, .int (nI n), .ref fi, .ref ba, .int (nI ((F (Wl (k - 1))) + (num (fun j => S j = (Wl (k - 1))) a1))), .int (nI b1)])), (sy, .inl (ky, 97, .inl (nA S)))]) [3, 4] (by decide) rfl
    have hFc := va_free (wc := [(h0, .inr (1, [.ref sy, .int (nI n), .ref fi, .ref ba, .int (nI ((F (Wl (k - 1))) + (num (fun j => S j = (Wl (k - 1))) a1))), .int (nI b1)])), (sy, .inl (ky, 97, .inl (nA S)))]) hD hS hA [3, 4] rfl
    refine va_calli (va_runV (C := "SelfIndexedSequences$Image") (As := [.int (nI (Wl (k - 1))), .int (nI b1)]) (rest := [.int (nI (F (Wl (k - 1)))), .ref h0]) ⟨hx, hb, hml, hown, hts⟩ (c_Im_among l dC dI ky H.size h0 sy fi ba n (nI ((F (Wl (k - 1))) + (num (fun j => S j = (Wl (k - 1))) a1))) (nI b1) S (Wl (k - 1)) b1 hs (by first | assumption | omega | (simp; done) | (simp_all; done)) (by first | assumption | omega | (simp; done) | (simp_all; done))) ⟨callB_of 2 hts (W0_good tw_193) rfl rfl rfl (htb _ tw_24) (htb _ tw_190) ⟨by decide, by decide, by decide +kernel⟩ ⟨(Nat.le_of_ble_eq_true rfl), (Nat.le_of_ble_eq_true rfl)⟩, htb _ tw_191, htb _ tw_192⟩ ⟨fun a U g mk q => by obtain ⟨q0, q1, qP, qK, qD⟩ := q; exact ⟨q0, q1, qP, va_K.moved (u := U) (U := U.calling g mk a) (Vm.Alike.refl U.vm) qK, qD⟩, va_recv hK hPc (q0 := 0) (q := (R_Im, F_Im, 6)) rfl rfl, fun U hU hW => ⟨rfl, by rw [hU], by rw [hU]; exact hPc, va_K.moved hW.alike hK, hDc.weaken (fun _ _ _ _ => trivial)⟩⟩ rfl rfl hl.1 rfl (lv_room (Nat.le_of_ble_eq_true rfl)) d_Im_search_64 ⟨(Nat.le_of_ble_eq_true rfl), (Nat.le_of_ble_eq_true rfl)⟩) hS (fun q _ h => hFc q h) hFc (fun r64 u_ t H locs ht hvm hw64 hB hz1 hk1 hS => ?_)
    obtain ⟨hP1, hD1⟩ := hB
    rw [ht] at hP1
    obtain ⟨hP, hD⟩ := va_join (wr := [(fi, .inl (ky, 28, .inl (nA F))), (pa, .inr (2, [.ref le, .int (nI pk), .ref di])), (le, .inl (ky, 8, .inl (nA Wl)))]) (w1 := [(h0, .inr (1, [.ref sy, .int (nI n), .ref fi, .ref ba, .int (nI ((F (Wl (k - 1))) + (num (fun j => S j = (Wl (k - 1))) a1))), .int (nI b1)])), (sy, .inl (ky, 97, .inl (nA S)))]) hP hD [3, 4] [0, 1, 2] rfl rfl (by decide) (by decide) hk1 hFc hP1 hD1
    have hP : va_P (dC, dI) cls_ [(fi, .inl (ky, 28, .inl (nA F))), (pa, .inr (2, [.ref le, .int (nI pk), .ref di])), (le, .inl (ky, 8, .inl (nA Wl))), (h0, .inr (1, [.ref sy, .int (nI n), .ref fi, .ref ba, .int (nI ((F (Wl (k - 1))) + (num (fun j => S j = (Wl (k - 1))) a1))), .int (nI b1)])), (sy, .inl (ky, 97, .inl (nA S)))] H := hP
    have hD : va_D A [(fi, .inl (ky, 28, .inl (nA F))), (pa, .inr (2, [.ref le, .int (nI pk), .ref di])), (le, .inl (ky, 8, .inl (nA Wl))), (h0, .inr (1, [.ref sy, .int (nI n), .ref fi, .ref ba, .int (nI ((F (Wl (k - 1))) + (num (fun j => S j = (Wl (k - 1))) a1))), .int (nI b1)])), (sy, .inl (ky, 97, .inl (nA S)))] := hD
    have hw64 : r64 = nI (num (fun j => S j = (Wl (k - 1))) b1) ∧ (True) := hw64
    obtain ⟨hre, hq64⟩ := hw64
    subst hre
    refine lv_iadd hx hb d_Im_search_67 ?_
    rw [nI_add]
    refine va_put (D := (dC, dI)) (ci := 1) (v := .int (nI ((F (Wl (k - 1))) + (num (fun j => S j = (Wl (k - 1))) b1)))) (ty := .int) (C := R_Im) (T := F_Im) (N := 6) hx hb htb in_Im t_Im tk_Im nm_Im hown hK hP hD hS 3 rfl rfl 5 (by decide) (htb _ tw_57) (fun _ h9 => h9) rfl (by decide +kernel) rfl rfl (Nat.le_of_ble_eq_true rfl) d_Im_search_68 (fun H locs hP hD hS => ?_)
    have hP : va_P (dC, dI) cls_ [(fi, .inl (ky, 28, .inl (nA F))), (pa, .inr (2, [.ref le, .int (nI pk), .ref di])), (le, .inl (ky, 8, .inl (nA Wl))), (h0, .inr (1, [.ref sy, .int (nI n), .ref fi, .ref ba, .int (nI ((F (Wl (k - 1))) + (num (fun j => S j = (Wl (k - 1))) a1))), .int (nI ((F (Wl (k - 1))) + (num (fun j => S j = (Wl (k - 1))) b1)))])), (sy, .inl (ky, 97, .inl (nA S)))] H := hP
    have hD : va_D A [(fi, .inl (ky, 28, .inl (nA F))), (pa, .inr (2, [.ref le, .int (nI pk), .ref di])), (le, .inl (ky, 8, .inl (nA Wl))), (h0, .inr (1, [.ref sy, .int (nI n), .ref fi, .ref ba, .int (nI ((F (Wl (k - 1))) + (num (fun j => S j = (Wl (k - 1))) a1))), .int (nI ((F (Wl (k - 1))) + (num (fun j => S j = (Wl (k - 1))) b1)))])), (sy, .inl (ky, 97, .inl (nA S)))] := hD
    refine lv_iinc (v := nI (k - 1) - 1) (k := 1) hx hb d_Im_search_71 hl rfl (bw_dec (k - 1)) (by decide) rfl (fun ls hl => ?_)
    have hl : lv_has ls 4 [(2, .int (nI (k - 1) - 1)), (3, .int (nI (Wl (k - 1)))), (0, .ref h0), (1, .ref pa)] := hl
    refine lv_goto (tgt := 20) hx hb d_Im_search_74 (by decide) ?_
    exact ih20 ((k - 1), ((F (Wl (k - 1))) + (num (fun j => S j = (Wl (k - 1))) a1)), ((F (Wl (k - 1))) + (num (fun j => S j = (Wl (k - 1))) b1))) _ _ _ ⟨(by first | assumption | omega | (simp; done) | (simp_all; done)), (by rw [hF2 _ (hWl (k - 1))]; exact Bg_step hH (j := k - 1) (by omega) (hW2 _ (by omega)) (by rw [show k - 1 + 1 = k by omega]; exact hbg)), (hP.sub [3, 4, 0, 1, 2] rfl), (hD.sub [3, 4, 0, 1, 2] (by decide) rfl), hS, lv_sub hl [0, 2, 3] rfl⟩ (by first | omega | (simp only; omega) | (dsimp only; omega))
