set_option maxHeartbeats 4000000 in
set_option maxRecDepth 100000 in
theorem c_La_cell (l : Launch) (dC : Nat → ClassId) (dI : Nat → Nat → Nat) (ky : ClassId) (sz : Nat) (b : Nat) (L : Nat) (k0 : Nat) (xs : Nat → Int32) (hL : L ≤ 2561) (hk0 : k0 ≤ 2561) : Met l y_La_cell (Cond.code y_La_cell method_2_code 2 (some .int) :: W0) ({ frames := 0, cells := 0, slots := 0, locals := 0 }) (va_Pc [.ref b, .int (nI k0)] (fun U => U.heap.size = sz ∧ va_P (dC, dI) cls_ [] U.heap ∧ va_K (dC, dI) cls_ [(ky, .int)] U ∧ va_D (fun _ => True) [] ∧ va_X b L xs U U.heap ∧ b < U.heap.size)) (va_Qi (fun (r : Int32) (_ : Unit) => r = (if k0 < L then xs k0 else nI 0) ∧ (True)) (fun (_ : Unit) (t : State) => va_P (dC, dI) cls_ [] t.heap ∧ va_D (va_A [] sz) []) (va_A [] sz)) 0 0 (va_A [] sz) := by
  refine Met.ofW (cc := method_2_code) (maxL := 2) (ret := (some .int)) (by decide) rfl ?_
  intro p e s m args below meth c s₁ B hml hv
  obtain ⟨rfl, hsz, hP, hK, hD0, hX0, hbl⟩ := hv
  have hx := B.exec
  have hb := B.bytes
  have hr := B.returns
  have hlocks := B.notSynchronized
  have hts := atoms_spec (ws := (Cond.code y_La_cell method_2_code 2 (some .int) :: W0)) B.pre
  have htb : ∀ w ∈ W0, w.before _ s = true := fun w h => hts w (List.mem_cons_of_mem _ h)
  have hown : s.vm.findClass "SelfIndexedSequencesLaw" = some m.cls := findClass_of_methodNamed B.named
  subst hsz
  have hD := hD0.self (sz := s.heap.size)
  generalize hAe : va_A [] s.heap.size = A at hD ⊢
  have hA : ∀ q : Nat, s.heap.size ≤ q → A q := fun q h => by rw [← hAe]; exact Or.inr h
  have hS : va_S A s.heap s.heap [] := va_S.rf
  have hbA : ¬ A b := fun q => by rw [← hAe] at q; exact q.elim (fun ⟨k, x, h⟩ => by simp at h) (fun h => absurd h (by omega))
  have hl := lv_entry ([.ref b, .int (nI k0)]) (n := 2) (Nat.le_of_ble_eq_true rfl)
  rw [lg_entry_eq]
  generalize (lg_sl ([.ref b, .int (nI k0)]) ++ List.replicate (2 - (lg_sl ([.ref b, .int (nI k0)])).length) Slot.unset).toArray = ls at hl ⊢
  have hl : lv_has ls 2 [(0, .ref b), (1, .int (nI k0))] := hl
  refine lv_iload_n hx hb d_La_cell_0 rfl (lv_at hl 1 rfl) ?_
  refine lv_aload_n hx hb d_La_cell_1 rfl (lv_at hl 0 rfl) ?_
  refine va_slen hx hb hX0 hbl hbA hS d_La_cell_2 ?_
  refine W.eq (g2 := F0 m 3 ls [.int (nI L), .int (nI k0)]) rfl ?_
  refine lv_icmp_ge (tgt := 12) hx hb d_La_cell_3 (by decide) (fun hc3 => ?_) (fun hc3 => ?_)
  · skip
    rw [bw_le_nn (by omega) (by omega)] at hc3
    refine lv_iconst (v := nI 0) hx hb d_La_cell_12 (by decide) ?_
    have hP9 := hP.sub (ws' := []) [] rfl
    have hD9 := hD.sub (ws' := []) [] (by decide) rfl
    exact W.iret (v := nI 0) hx hb hr (fun t ht hW => ⟨⟨nI 0, (), rfl, ⟨(by first | rw [if_pos (by omega)] | rw [if_neg (by omega)]), (by first | trivial | assumption | omega)⟩, by rw [ht]; exact hP9, hD9⟩, hS.F ht⟩) hS.2.2 d_La_cell_13
  · skip
    rw [bw_le_nn (by omega) (by omega)] at hc3
    refine lv_aload_n hx hb d_La_cell_6 rfl (lv_at hl 0 rfl) ?_
    refine lv_iload_n hx hb d_La_cell_7 rfl (lv_at hl 1 rfl) ?_
    refine va_sld hx hb hX0 hbl hbA hS (vp_in_nI (by omega) (by omega)) d_La_cell_8 ?_
    rw [nI_clamp (by omega)]
    refine lv_goto (tgt := 13) hx hb d_La_cell_9 (by decide) ?_
    have hP9 := hP.sub (ws' := []) [] rfl
    have hD9 := hD.sub (ws' := []) [] (by decide) rfl
    exact W.iret (v := xs k0) hx hb hr (fun t ht hW => ⟨⟨xs k0, (), rfl, ⟨(by first | rw [if_pos (by omega)] | rw [if_neg (by omega)]), (by first | trivial | assumption | omega)⟩, by rw [ht]; exact hP9, hD9⟩, hS.F ht⟩) hS.2.2 d_La_cell_13
