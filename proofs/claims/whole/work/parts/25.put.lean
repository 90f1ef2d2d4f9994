set_option maxHeartbeats 4000000 in
set_option maxRecDepth 100000 in
/-- put -/
theorem c_Si_put (l : Launch) (dC : Nat → ClassId) (dI : Nat → Nat → Nat) (ky : ClassId) (sz : Nat) (si : Nat) (dr : Nat) (d : Nat) (ta : Nat) (tr : Nat) (pl : Nat) (pa : Nat) (fs : Nat) (Dd : Nat → Nat) (w : Nat) (hd : ∀ k_, Dd k_ < 28) (hd97 : d ≤ 97) (hw : w < 2 ^ 64) : Met l y_Si_put (Cond.code y_Si_put prog_1_method_2_code 6 (some .boolean) :: W0) ({ frames := 1, cells := 0, slots := 0, locals := 22 }) (va_Pc [.ref si, .long (lN w)] (fun U => U.heap.size = sz ∧ va_P (dC, dI) cls_ [(si, .inr (4, [.ref dr, .int (nI d), .ref ta, .ref tr, .ref pl, .ref pa, .ref fs])), (dr, .inl (ky, 97, .inl (nA Dd)))] U.heap ∧ va_K (dC, dI) cls_ [(ky, .int)] U ∧ va_D (fun _ => True) [(si, .inr (4, [.ref dr, .int (nI d), .ref ta, .ref tr, .ref pl, .ref pa, .ref fs])), (dr, .inl (ky, 97, .inl (nA Dd)))])) (va_Qi (fun (r : Int32) (u : (Nat) × (Nat → Nat)) => match u with | (dn, Dn) => ((r = nI 1 ∧ PutOk w d ∧ dn = d + pns w 8 ∧ Dn = pds w sno Dd d 8) ∨ (r = nI 0 ∧ ¬ PutOk w d ∧ dn = d ∧ Dn = Dd)) ∧ (∀ k_, Dn k_ < 28)) (fun (u : (Nat) × (Nat → Nat)) (t : State) => match u with | (dn, Dn) => va_P (dC, dI) cls_ [(si, .inr (4, [.ref dr, .int (nI dn), .ref ta, .ref tr, .ref pl, .ref pa, .ref fs])), (dr, .inl (ky, 97, .inl (nA Dn)))] t.heap ∧ va_D (va_A [(si, .inr (4, [.ref dr, .int (nI d), .ref ta, .ref tr, .ref pl, .ref pa, .ref fs])), (dr, .inl (ky, 97, .inl (nA Dd)))] sz) [(si, .inr (4, [.ref dr, .int (nI dn), .ref ta, .ref tr, .ref pl, .ref pa, .ref fs])), (dr, .inl (ky, 97, .inl (nA Dn)))]) (va_A [(si, .inr (4, [.ref dr, .int (nI d), .ref ta, .ref tr, .ref pl, .ref pa, .ref fs])), (dr, .inl (ky, 97, .inl (nA Dd)))] sz)) 0 0 (va_A [(si, .inr (4, [.ref dr, .int (nI d), .ref ta, .ref tr, .ref pl, .ref pa, .ref fs])), (dr, .inl (ky, 97, .inl (nA Dd)))] sz) := by
  refine Met.ofW (cc := prog_1_method_2_code) (maxL := 6) (ret := (some .boolean)) (by decide) rfl ?_
  intro p e s m args below meth c s₁ B hml hv
  obtain ⟨rfl, hsz, hP, hK, hD0⟩ := hv
  have hx := B.exec
  have hb := B.bytes
  have hr := B.returns
  have hlocks := B.notSynchronized
  have hts := atoms_spec (ws := (Cond.code y_Si_put prog_1_method_2_code 6 (some .boolean) :: W0)) B.pre
  have htb : ∀ w ∈ W0, w.before _ s = true := fun w h => hts w (List.mem_cons_of_mem _ h)
  have hown : s.vm.findClass "SelfIndexedSequences" = some m.cls := findClass_of_methodNamed B.named
  subst hsz
  have hD := hD0.self (sz := s.heap.size)
  generalize hAe : va_A [(si, .inr (4, [.ref dr, .int (nI d), .ref ta, .ref tr, .ref pl, .ref pa, .ref fs])), (dr, .inl (ky, 97, .inl (nA Dd)))] s.heap.size = A at hD ⊢
  have hA : ∀ q : Nat, s.heap.size ≤ q → A q := fun q h => by rw [← hAe]; exact Or.inr h
  have hS : va_S A s.heap s.heap [] := va_S.rf
  have hl := lv_entry ([.ref si, .long (lN w)]) (n := 6) (Nat.le_of_ble_eq_true rfl)
  rw [lg_entry_eq]
  generalize (lg_sl ([.ref si, .long (lN w)]) ++ List.replicate (6 - (lg_sl ([.ref si, .long (lN w)])).length) Slot.unset).toArray = ls at hl ⊢
  have hl : lv_has ls 6 [(0, .ref si), (1, .long (lN w))] := hl
  refine lv_iconst (v := nI 0) hx hb d_Si_put_0 (by decide) ?_
  refine lv_istore_n hx hb d_Si_put_1 rfl hl (by decide) rfl (fun ls hl => ?_)
  have hl : lv_has ls 6 [(3, .int (nI 0)), (0, .ref si), (1, .long (lN w))] := hl
  refine lv_iconst (v := nI 0) hx hb d_Si_put_2 (by decide) ?_
  refine lv_istore hx hb d_Si_put_3 hl (by decide) rfl (fun ls hl => ?_)
  have hl : lv_has ls 6 [(4, .int (nI 0)), (3, .int (nI 0)), (0, .ref si), (1, .long (lN w))] := hl
  refine wl_loop (σ := Nat × Nat) 5 [] (fun (a_ : Nat × Nat) => match a_ with | (b, mr) => 8 - b) (fun (a_ : Nat × Nat) (H : Heap) (locs : List Loc) (ls : Array Slot) => match a_ with | (b, mr) => (b ≤ 8) ∧ (mr = pns w b) ∧ (mr ≤ b) ∧ (PutB w b) ∧ va_P (dC, dI) cls_ [(si, .inr (4, [.ref dr, .int (nI d), .ref ta, .ref tr, .ref pl, .ref pa, .ref fs])), (dr, .inl (ky, 97, .inl (nA Dd)))] H ∧ va_D A [(si, .inr (4, [.ref dr, .int (nI d), .ref ta, .ref tr, .ref pl, .ref pa, .ref fs])), (dr, .inl (ky, 97, .inl (nA Dd)))] ∧ va_S A s.heap H locs ∧ lv_has ls 6 [(4, .int (nI b)), (3, .int (nI mr)), (0, .ref si), (1, .long (lN w))]) ?_ (0, 0) ⟨(by first | assumption | omega | (simp; done) | (simp_all; done)), (pns_0 w).symm, (by first | assumption | omega | (simp; done) | (simp_all; done)), (PutB_0 w), hP, hD, hS, lv_sub hl [0, 1, 2, 3] rfl⟩
  clear hP hD hS hl
  intro a_ H locs ls hI ih5
  obtain ⟨b, mr⟩ := a_
  obtain ⟨hb8, hmr, hmb, hPB, hP, hD, hS, hl⟩ := hI
  have hl : lv_has ls 6 [(4, .int (nI b)), (3, .int (nI mr)), (0, .ref si), (1, .long (lN w))] := hl
  have hP : va_P (dC, dI) cls_ [(si, .inr (4, [.ref dr, .int (nI d), .ref ta, .ref tr, .ref pl, .ref pa, .ref fs])), (dr, .inl (ky, 97, .inl (nA Dd)))] H := hP
  have hD : va_D A [(si, .inr (4, [.ref dr, .int (nI d), .ref ta, .ref tr, .ref pl, .ref pa, .ref fs])), (dr, .inl (ky, 97, .inl (nA Dd)))] := hD
  have hb8 : b ≤ 8 := hb8
  have hmr : mr = pns w b := hmr
  have hmb : mr ≤ b := hmb
  have hPB : PutB w b := hPB
  refine lv_iload hx hb d_Si_put_5 (lv_at hl 0 rfl) ?_
  refine lv_bipush (v := nI 8) hx hb d_Si_put_7 (by decide) ?_
  refine lv_icmp_ge (tgt := 45) hx hb d_Si_put_9 (by decide) (fun hc9 => ?_) (fun hc9 => ?_)
  · skip
    rw [bw_le_nn (by omega) (by omega)] at hc9
    have hb88 : b = 8 := by omega
    subst hb88
    refine lv_aload_n hx hb d_Si_put_45 rfl (lv_at hl 2 rfl) ?_
    refine va_get (D := (dC, dI)) (ci := 4) (v := .int (nI d)) (C := R_Si) (T := F_Si) (N := 7) hx hb htb in_Si hown hK hP 0 rfl rfl 1 (by decide) (htb _ tw_135) (fun _ h9 => h9) rfl d_Si_put_46 ?_
    refine lv_iload_n hx hb d_Si_put_49 rfl (lv_at hl 1 rfl) ?_
    refine lv_iadd hx hb d_Si_put_50 ?_
    rw [nI_add]
    refine lv_bipush (v := nI 97) hx hb d_Si_put_51 (by decide) ?_
    refine lv_icmp_le (tgt := 58) hx hb d_Si_put_53 (by decide) (fun hc53 => ?_) (fun hc53 => ?_)
    · skip
      rw [bw_le_nn (by omega) (by omega)] at hc53
      refine lv_iconst (v := nI 0) hx hb d_Si_put_58 (by decide) ?_
      refine lv_istore hx hb d_Si_put_59 hl (by decide) rfl (fun ls hl => ?_)
      have hl : lv_has ls 6 [(4, .int (nI 0)), (3, .int (nI mr)), (0, .ref si), (1, .long (lN w))] := hl
      refine wl_loop (σ := Nat × Nat × (Nat → Nat)) 61 [] (fun (a_ : Nat × Nat × (Nat → Nat)) => match a_ with | (b, dq, Dq) => 8 - b) (fun (a_ : Nat × Nat × (Nat → Nat)) (H : Heap) (locs : List Loc) (ls : Array Slot) => match a_ with | (b, dq, Dq) => (b ≤ 8) ∧ (dq = d + pns w b) ∧ (Dq = pds w sno Dd d b) ∧ (∀ k_, Dq k_ < 28) ∧ va_P (dC, dI) cls_ [(si, .inr (4, [.ref dr, .int (nI dq), .ref ta, .ref tr, .ref pl, .ref pa, .ref fs])), (dr, .inl (ky, 97, .inl (nA Dq)))] H ∧ va_D A [(si, .inr (4, [.ref dr, .int (nI dq), .ref ta, .ref tr, .ref pl, .ref pa, .ref fs])), (dr, .inl (ky, 97, .inl (nA Dq)))] ∧ va_S A s.heap H locs ∧ lv_has ls 6 [(4, .int (nI b)), (0, .ref si), (1, .long (lN w))]) ?_ (0, d, Dd) ⟨(by first | assumption | omega | (simp; done) | (simp_all; done)), (by rw [pns_0]; omega), rfl, hd, hP, hD, hS, lv_sub hl [0, 2, 3] rfl⟩
      clear hP hD hS hl
      intro a_ H locs ls hI ih61
      obtain ⟨b, dq, Dq⟩ := a_
      obtain ⟨hb8, hdq, hDq, hDb, hP, hD, hS, hl⟩ := hI
      have hl : lv_has ls 6 [(4, .int (nI b)), (0, .ref si), (1, .long (lN w))] := hl
      have hP : va_P (dC, dI) cls_ [(si, .inr (4, [.ref dr, .int (nI dq), .ref ta, .ref tr, .ref pl, .ref pa, .ref fs])), (dr, .inl (ky, 97, .inl (nA Dq)))] H := hP
      have hD : va_D A [(si, .inr (4, [.ref dr, .int (nI dq), .ref ta, .ref tr, .ref pl, .ref pa, .ref fs])), (dr, .inl (ky, 97, .inl (nA Dq)))] := hD
      have hb8 : b ≤ 8 := hb8
      have hdq : dq = d + pns w b := hdq
      have hDq : Dq = pds w sno Dd d b := hDq
      have hDb : ∀ k_, Dq k_ < 28 := hDb
      refine lv_iload hx hb d_Si_put_61 (lv_at hl 0 rfl) ?_
      refine lv_bipush (v := nI 8) hx hb d_Si_put_63 (by decide) ?_
      refine lv_icmp_ge (tgt := 111) hx hb d_Si_put_65 (by decide) (fun hc65 => ?_) (fun hc65 => ?_)
      · skip
        rw [bw_le_nn (by omega) (by omega)] at hc65
        have hb88 : b = 8 := by omega
        subst hb88
        refine lv_iconst (v := nI 1) hx hb d_Si_put_111 (by decide) ?_
        have hP9 := hP.sub (ws' := [(si, .inr (4, [.ref dr, .int (nI dq), .ref ta, .ref tr, .ref pl, .ref pa, .ref fs])), (dr, .inl (ky, 97, .inl (nA Dq)))]) [0, 1] rfl
        have hD9 := hD.sub (ws' := [(si, .inr (4, [.ref dr, .int (nI dq), .ref ta, .ref tr, .ref pl, .ref pa, .ref fs])), (dr, .inl (ky, 97, .inl (nA Dq)))]) [0, 1] (by decide) rfl
        exact W.zret (v := nI 1) hx hb hr (by first | rfl | decide) (fun t ht hW => ⟨⟨nI 1, (dq, Dq), rfl, ⟨Or.inl ⟨rfl, ⟨hPB, by omega⟩, hdq, hDq⟩, hDb⟩, by rw [ht]; exact hP9, hD9⟩, hS.F ht⟩) hS.2.2 d_Si_put_112
      · skip
        rw [bw_le_nn (by omega) (by omega)] at hc65
        have hpm := pns_mono w (show b + 1 ≤ 8 by omega)
        have hpm0 := pns_mono w (show b ≤ 8 by omega)
        refine lv_lload_n hx hb d_Si_put_68 rfl (lv_at hl 2 rfl) ?_
        refine lv_iload hx hb d_Si_put_69 (lv_at hl 0 rfl) ?_
        have hPc := hP.sub (ws' := []) [] rfl
        have hDc := hD.sub (ws' := []) [] (by decide) rfl
        have hFc := va_free (wc := []) hD hS hA [] rfl
        refine va_calli (va_runS (As := [.long (lN w), .int (nI b)]) (rest := []) ⟨hx, hb, hml, hown, hts⟩ (c_Si_codeAt l dC dI ky H.size w b (by first | assumption | omega | (simp; done) | (simp_all; done)) (by first | assumption | omega | (simp; done) | (simp_all; done))) ⟨callB_of 2 hts (W0_good tw_162) rfl rfl rfl (htb _ tw_23) (htb _ tw_160) ⟨by decide, by decide, by decide +kernel⟩ ⟨(Nat.le_of_ble_eq_true rfl), (Nat.le_of_ble_eq_true rfl)⟩, htb _ tw_161⟩ ⟨fun a U g mk q => by obtain ⟨q0, q1, qP, qK, qD⟩ := q; exact ⟨q0, q1, qP, va_K.moved (u := U) (U := U.calling g mk a) (Vm.Alike.refl U.vm) qK, qD⟩, fun U hU hW => ⟨rfl, by rw [hU], by rw [hU]; exact hPc, va_K.moved hW.alike hK, hDc.weaken (fun _ _ _ _ => trivial)⟩⟩ rfl rfl hl.1 rfl (lv_room (Nat.le_of_ble_eq_true rfl)) d_Si_put_71 ⟨(Nat.le_of_ble_eq_true rfl), (Nat.le_of_ble_eq_true rfl)⟩) hS (fun q _ h => hFc q h) hFc (fun r71 u_ t H locs ht hvm hw71 hB hz1 hk1 hS => ?_)
        obtain ⟨hP1, hD1⟩ := hB
        rw [ht] at hP1
        obtain ⟨hP, hD⟩ := va_join (wr := [(si, .inr (4, [.ref dr, .int (nI dq), .ref ta, .ref tr, .ref pl, .ref pa, .ref fs])), (dr, .inl (ky, 97, .inl (nA Dq)))]) (w1 := []) hP hD [] [0, 1] rfl rfl (by decide) (by decide) hk1 hFc hP1 hD1
        have hP : va_P (dC, dI) cls_ [(si, .inr (4, [.ref dr, .int (nI dq), .ref ta, .ref tr, .ref pl, .ref pa, .ref fs])), (dr, .inl (ky, 97, .inl (nA Dq)))] H := hP
        have hD : va_D A [(si, .inr (4, [.ref dr, .int (nI dq), .ref ta, .ref tr, .ref pl, .ref pa, .ref fs])), (dr, .inl (ky, 97, .inl (nA Dq)))] := hD
        have hw71 : r71 = nI (by8 w b) ∧ (True) := hw71
        obtain ⟨hre, hq71⟩ := hw71
        subst hre
        refine lv_istore hx hb d_Si_put_74 hl (by decide) rfl (fun ls hl => ?_)
        have hl : lv_has ls 6 [(5, .int (nI (by8 w b))), (4, .int (nI b)), (0, .ref si), (1, .long (lN w))] := hl
        refine lv_iload hx hb d_Si_put_76 (lv_at hl 0 rfl) ?_
        have hb256 := by8_lt w b
        refine lv_if_eq (tgt := 105) hx hb d_Si_put_78 (by decide) (fun hc78 => ?_) (fun hc78 => ?_)
        · skip
          rw [← nI_0, bw_eq_nn (by omega) (by omega)] at hc78
          refine lv_iinc (v := nI (b + 1)) (k := 1) hx hb d_Si_put_105 hl rfl (bw_inc b 1) (by decide) rfl (fun ls hl => ?_)
          have hl : lv_has ls 6 [(4, .int (nI (b + 1))), (5, .int (nI (by8 w b))), (0, .ref si), (1, .long (lN w))] := hl
          refine lv_goto (tgt := 61) hx hb d_Si_put_108 (by decide) ?_
          exact ih61 ((b + 1), dq, Dq) _ _ _ ⟨(by first | assumption | omega | (simp; done) | (simp_all; done)), (by first | (rw [pns_z (by assumption)]; exact hdq) | (rw [pns_y (by assumption)]; omega)), (by first | (rw [pds_z (by assumption)]; exact hDq) | (rw [pds_y (by assumption), hDq, hdq])), (by assumption), hP, hD, hS, lv_sub hl [0, 2, 3] rfl⟩ (by first | omega | (simp only; omega) | (dsimp only; omega))
        · skip
          rw [← nI_0, bw_eq_nn (by omega) (by omega)] at hc78
          refine lv_aload_n hx hb d_Si_put_81 rfl (lv_at hl 2 rfl) ?_
          refine va_get (D := (dC, dI)) (ci := 4) (v := .ref dr) (C := R_Si) (T := F_Si) (N := 7) hx hb htb in_Si hown hK hP 0 rfl rfl 0 (by decide) (htb _ tw_134) (fun _ h9 => h9) rfl d_Si_put_82 ?_
          refine lv_aload_n hx hb d_Si_put_85 rfl (lv_at hl 2 rfl) ?_
          refine va_get (D := (dC, dI)) (ci := 4) (v := .int (nI dq)) (C := R_Si) (T := F_Si) (N := 7) hx hb htb in_Si hown hK hP 0 rfl rfl 1 (by decide) (htb _ tw_135) (fun _ h9 => h9) rfl d_Si_put_86 ?_
          refine lv_iload hx hb d_Si_put_89 (lv_at hl 0 rfl) ?_
          have hPc := hP.sub (ws' := []) [] rfl
          have hDc := hD.sub (ws' := []) [] (by decide) rfl
          have hFc := va_free (wc := []) hD hS hA [] rfl
          refine va_calli (va_runS (As := [.int (nI (by8 w b))]) (rest := [.int (nI dq), .ref dr]) ⟨hx, hb, hml, hown, hts⟩ (c_Si_symbolOf l dC dI ky H.size (by8 w b) (by first | assumption | omega | (simp; done) | (simp_all; done))) ⟨callB_of 1 hts (W0_good tw_165) rfl rfl rfl (htb _ tw_23) (htb _ tw_163) ⟨by decide, by decide, by decide +kernel⟩ ⟨(Nat.le_of_ble_eq_true rfl), (Nat.le_of_ble_eq_true rfl)⟩, htb _ tw_164⟩ ⟨fun a U g mk q => by obtain ⟨q0, q1, qP, qK, qD⟩ := q; exact ⟨q0, q1, qP, va_K.moved (u := U) (U := U.calling g mk a) (Vm.Alike.refl U.vm) qK, qD⟩, fun U hU hW => ⟨rfl, by rw [hU], by rw [hU]; exact hPc, va_K.moved hW.alike hK, hDc.weaken (fun _ _ _ _ => trivial)⟩⟩ rfl rfl hl.1 rfl (lv_room (Nat.le_of_ble_eq_true rfl)) d_Si_put_91 ⟨(Nat.le_of_ble_eq_true rfl), (Nat.le_of_ble_eq_true rfl)⟩) hS (fun q _ h => hFc q h) hFc (fun r91 u_ t H locs ht hvm hw91 hB hz1 hk1 hS => ?_)
          obtain ⟨hP1, hD1⟩ := hB
          rw [ht] at hP1
          obtain ⟨hP, hD⟩ := va_join (wr := [(si, .inr (4, [.ref dr, .int (nI dq), .ref ta, .ref tr, .ref pl, .ref pa, .ref fs])), (dr, .inl (ky, 97, .inl (nA Dq)))]) (w1 := []) hP hD [] [0, 1] rfl rfl (by decide) (by decide) hk1 hFc hP1 hD1
          have hP : va_P (dC, dI) cls_ [(si, .inr (4, [.ref dr, .int (nI dq), .ref ta, .ref tr, .ref pl, .ref pa, .ref fs])), (dr, .inl (ky, 97, .inl (nA Dq)))] H := hP
          have hD : va_D A [(si, .inr (4, [.ref dr, .int (nI dq), .ref ta, .ref tr, .ref pl, .ref pa, .ref fs])), (dr, .inl (ky, 97, .inl (nA Dq)))] := hD
          have hq91 : (isS (by8 w b) ∧ r91 = nI (sno (by8 w b))) ∨ (¬ isS (by8 w b) ∧ r91 = nI 0 - 1) := hw91
          rcases hq91 with ⟨hyS, rfl⟩ | ⟨hnS, rfl⟩
          · skip
            have hsn := (cod_sno hyS).1
            have hpy := pns_y (w := w) hc78
            have hsn := (cod_sno hyS).1
            refine va_iast hx hb hK hP hD hS 1 0 rfl rfl (vp_in_nI (by omega) (by decide)) d_Si_put_94 (fun H locs hP hD hS => ?_)
            rw [nI_clamp (by omega)] at hP hD
            rw [nA_upd] at hP hD
            have hu1 : ∀ k_, (upN Dq dq (sno (by8 w b))) k_ < 28 := upN_lt hDb (by omega)
            have hP : va_P (dC, dI) cls_ [(si, .inr (4, [.ref dr, .int (nI dq), .ref ta, .ref tr, .ref pl, .ref pa, .ref fs])), (dr, .inl (ky, 97, .inl (nA (upN Dq dq (sno (by8 w b))))))] H := hP
            have hD : va_D A [(si, .inr (4, [.ref dr, .int (nI dq), .ref ta, .ref tr, .ref pl, .ref pa, .ref fs])), (dr, .inl (ky, 97, .inl (nA (upN Dq dq (sno (by8 w b))))))] := hD
            refine lv_aload_n hx hb d_Si_put_95 rfl (lv_at hl 2 rfl) ?_
            refine lv_dup hx hb d_Si_put_96 rfl ?_
            refine va_get (D := (dC, dI)) (ci := 4) (v := .int (nI dq)) (C := R_Si) (T := F_Si) (N := 7) hx hb htb in_Si hown hK hP 0 rfl rfl 1 (by decide) (htb _ tw_135) (fun _ h9 => h9) rfl d_Si_put_97 ?_
            refine lv_iconst (v := nI 1) hx hb d_Si_put_100 (by decide) ?_
            refine lv_iadd hx hb d_Si_put_101 ?_
            rw [nI_add]
            refine va_put (D := (dC, dI)) (ci := 4) (v := .int (nI (dq + 1))) (ty := .int) (C := R_Si) (T := F_Si) (N := 7) hx hb htb in_Si t_Si tk_Si nm_Si hown hK hP hD hS 0 rfl rfl 1 (by decide) (htb _ tw_135) (fun _ h9 => h9) rfl (by decide +kernel) rfl rfl (Nat.le_of_ble_eq_true rfl) d_Si_put_102 (fun H locs hP hD hS => ?_)
            have hP : va_P (dC, dI) cls_ [(si, .inr (4, [.ref dr, .int (nI (dq + 1)), .ref ta, .ref tr, .ref pl, .ref pa, .ref fs])), (dr, .inl (ky, 97, .inl (nA (upN Dq dq (sno (by8 w b))))))] H := hP
            have hD : va_D A [(si, .inr (4, [.ref dr, .int (nI (dq + 1)), .ref ta, .ref tr, .ref pl, .ref pa, .ref fs])), (dr, .inl (ky, 97, .inl (nA (upN Dq dq (sno (by8 w b))))))] := hD
            refine lv_iinc (v := nI (b + 1)) (k := 1) hx hb d_Si_put_105 hl rfl (bw_inc b 1) (by decide) rfl (fun ls hl => ?_)
            have hl : lv_has ls 6 [(4, .int (nI (b + 1))), (5, .int (nI (by8 w b))), (0, .ref si), (1, .long (lN w))] := hl
            refine lv_goto (tgt := 61) hx hb d_Si_put_108 (by decide) ?_
            exact ih61 ((b + 1), (dq + 1), (upN Dq dq (sno (by8 w b)))) _ _ _ ⟨(by first | assumption | omega | (simp; done) | (simp_all; done)), (by first | (rw [pns_z (by assumption)]; exact hdq) | (rw [pns_y (by assumption)]; omega)), (by first | (rw [pds_z (by assumption)]; exact hDq) | (rw [pds_y (by assumption), hDq, hdq])), (by assumption), hP, hD, hS, lv_sub hl [0, 2, 3] rfl⟩ (by first | omega | (simp only; omega) | (dsimp only; omega))
          · exact absurd ((hPB b (by omega)).resolve_left hc78) hnS
    · skip
      rw [bw_le_nn (by omega) (by omega)] at hc53
      refine lv_iconst (v := nI 0) hx hb d_Si_put_56 (by decide) ?_
      have hP9 := hP.sub (ws' := [(si, .inr (4, [.ref dr, .int (nI d), .ref ta, .ref tr, .ref pl, .ref pa, .ref fs])), (dr, .inl (ky, 97, .inl (nA Dd)))]) [0, 1] rfl
      have hD9 := hD.sub (ws' := [(si, .inr (4, [.ref dr, .int (nI d), .ref ta, .ref tr, .ref pl, .ref pa, .ref fs])), (dr, .inl (ky, 97, .inl (nA Dd)))]) [0, 1] (by decide) rfl
      exact W.zret (v := nI 0) hx hb hr (by first | rfl | decide) (fun t ht hW => ⟨⟨nI 0, (d, Dd), rfl, ⟨Or.inr ⟨rfl, fun q => by have := q.2; omega, rfl, rfl⟩, hd⟩, by rw [ht]; exact hP9, hD9⟩, hS.F ht⟩) hS.2.2 d_Si_put_57
  · skip
    rw [bw_le_nn (by omega) (by omega)] at hc9
    refine lv_lload_n hx hb d_Si_put_12 rfl (lv_at hl 3 rfl) ?_
    refine lv_iload hx hb d_Si_put_13 (lv_at hl 0 rfl) ?_
    have hPc := hP.sub (ws' := []) [] rfl
    have hDc := hD.sub (ws' := []) [] (by decide) rfl
    have hFc := va_free (wc := []) hD hS hA [] rfl
    refine va_calli (va_runS (As := [.long (lN w), .int (nI b)]) (rest := []) ⟨hx, hb, hml, hown, hts⟩ (c_Si_codeAt l dC dI ky H.size w b (by first | assumption | omega | (simp; done) | (simp_all; done)) (by first | assumption | omega | (simp; done) | (simp_all; done))) ⟨callB_of 2 hts (W0_good tw_162) rfl rfl rfl (htb _ tw_23) (htb _ tw_160) ⟨by decide, by decide, by decide +kernel⟩ ⟨(Nat.le_of_ble_eq_true rfl), (Nat.le_of_ble_eq_true rfl)⟩, htb _ tw_161⟩ ⟨fun a U g mk q => by obtain ⟨q0, q1, qP, qK, qD⟩ := q; exact ⟨q0, q1, qP, va_K.moved (u := U) (U := U.calling g mk a) (Vm.Alike.refl U.vm) qK, qD⟩, fun U hU hW => ⟨rfl, by rw [hU], by rw [hU]; exact hPc, va_K.moved hW.alike hK, hDc.weaken (fun _ _ _ _ => trivial)⟩⟩ rfl rfl hl.1 rfl (lv_room (Nat.le_of_ble_eq_true rfl)) d_Si_put_15 ⟨(Nat.le_of_ble_eq_true rfl), (Nat.le_of_ble_eq_true rfl)⟩) hS (fun q _ h => hFc q h) hFc (fun r15 u_ t H locs ht hvm hw15 hB hz1 hk1 hS => ?_)
    obtain ⟨hP1, hD1⟩ := hB
    rw [ht] at hP1
    obtain ⟨hP, hD⟩ := va_join (wr := [(si, .inr (4, [.ref dr, .int (nI d), .ref ta, .ref tr, .ref pl, .ref pa, .ref fs])), (dr, .inl (ky, 97, .inl (nA Dd)))]) (w1 := []) hP hD [] [0, 1] rfl rfl (by decide) (by decide) hk1 hFc hP1 hD1
    have hP : va_P (dC, dI) cls_ [(si, .inr (4, [.ref dr, .int (nI d), .ref ta, .ref tr, .ref pl, .ref pa, .ref fs])), (dr, .inl (ky, 97, .inl (nA Dd)))] H := hP
    have hD : va_D A [(si, .inr (4, [.ref dr, .int (nI d), .ref ta, .ref tr, .ref pl, .ref pa, .ref fs])), (dr, .inl (ky, 97, .inl (nA Dd)))] := hD
    have hw15 : r15 = nI (by8 w b) ∧ (True) := hw15
    obtain ⟨hre, hq15⟩ := hw15
    subst hre
    refine lv_istore hx hb d_Si_put_18 hl (by decide) rfl (fun ls hl => ?_)
    have hl : lv_has ls 6 [(5, .int (nI (by8 w b))), (4, .int (nI b)), (3, .int (nI mr)), (0, .ref si), (1, .long (lN w))] := hl
    refine lv_iload hx hb d_Si_put_20 (lv_at hl 0 rfl) ?_
    have hb256 := by8_lt w b
    refine lv_if_eq (tgt := 39) hx hb d_Si_put_22 (by decide) (fun hc22 => ?_) (fun hc22 => ?_)
    · skip
      rw [← nI_0, bw_eq_nn (by omega) (by omega)] at hc22
      refine lv_iinc (v := nI (b + 1)) (k := 1) hx hb d_Si_put_39 hl rfl (bw_inc b 1) (by decide) rfl (fun ls hl => ?_)
      have hl : lv_has ls 6 [(4, .int (nI (b + 1))), (5, .int (nI (by8 w b))), (3, .int (nI mr)), (0, .ref si), (1, .long (lN w))] := hl
      refine lv_goto (tgt := 5) hx hb d_Si_put_42 (by decide) ?_
      exact ih5 ((b + 1), mr) _ _ _ ⟨(by first | assumption | omega | (simp; done) | (simp_all; done)), (by first | (rw [pns_z (by assumption)]; exact hmr) | (rw [pns_y (by assumption)]; omega)), (by first | assumption | omega | (simp; done) | (simp_all; done)), (by first | exact PutB_s hPB (Or.inr hyS) | exact PutB_s hPB (Or.inl (by assumption))), hP, hD, hS, lv_sub hl [0, 2, 3, 4] rfl⟩ (by first | omega | (simp only; omega) | (dsimp only; omega))
    · skip
      rw [← nI_0, bw_eq_nn (by omega) (by omega)] at hc22
      refine lv_iload hx hb d_Si_put_25 (lv_at hl 0 rfl) ?_
      have hPc := hP.sub (ws' := []) [] rfl
      have hDc := hD.sub (ws' := []) [] (by decide) rfl
      have hFc := va_free (wc := []) hD hS hA [] rfl
      refine va_calli (va_runS (As := [.int (nI (by8 w b))]) (rest := []) ⟨hx, hb, hml, hown, hts⟩ (c_Si_symbolOf l dC dI ky H.size (by8 w b) (by first | assumption | omega | (simp; done) | (simp_all; done))) ⟨callB_of 1 hts (W0_good tw_165) rfl rfl rfl (htb _ tw_23) (htb _ tw_163) ⟨by decide, by decide, by decide +kernel⟩ ⟨(Nat.le_of_ble_eq_true rfl), (Nat.le_of_ble_eq_true rfl)⟩, htb _ tw_164⟩ ⟨fun a U g mk q => by obtain ⟨q0, q1, qP, qK, qD⟩ := q; exact ⟨q0, q1, qP, va_K.moved (u := U) (U := U.calling g mk a) (Vm.Alike.refl U.vm) qK, qD⟩, fun U hU hW => ⟨rfl, by rw [hU], by rw [hU]; exact hPc, va_K.moved hW.alike hK, hDc.weaken (fun _ _ _ _ => trivial)⟩⟩ rfl rfl hl.1 rfl (lv_room (Nat.le_of_ble_eq_true rfl)) d_Si_put_27 ⟨(Nat.le_of_ble_eq_true rfl), (Nat.le_of_ble_eq_true rfl)⟩) hS (fun q _ h => hFc q h) hFc (fun r27 u_ t H locs ht hvm hw27 hB hz1 hk1 hS => ?_)
      obtain ⟨hP1, hD1⟩ := hB
      rw [ht] at hP1
      obtain ⟨hP, hD⟩ := va_join (wr := [(si, .inr (4, [.ref dr, .int (nI d), .ref ta, .ref tr, .ref pl, .ref pa, .ref fs])), (dr, .inl (ky, 97, .inl (nA Dd)))]) (w1 := []) hP hD [] [0, 1] rfl rfl (by decide) (by decide) hk1 hFc hP1 hD1
      have hP : va_P (dC, dI) cls_ [(si, .inr (4, [.ref dr, .int (nI d), .ref ta, .ref tr, .ref pl, .ref pa, .ref fs])), (dr, .inl (ky, 97, .inl (nA Dd)))] H := hP
      have hD : va_D A [(si, .inr (4, [.ref dr, .int (nI d), .ref ta, .ref tr, .ref pl, .ref pa, .ref fs])), (dr, .inl (ky, 97, .inl (nA Dd)))] := hD
      have hq27 : (isS (by8 w b) ∧ r27 = nI (sno (by8 w b))) ∨ (¬ isS (by8 w b) ∧ r27 = nI 0 - 1) := hw27
      have hsn : isS (by8 w b) → sno (by8 w b) < 28 := fun q => (cod_sno q).1
      rcases hq27 with ⟨hyS, rfl⟩ | ⟨hnS, rfl⟩
      · skip
        have hsn := (cod_sno hyS).1
        refine lv_iconst (v := nI 0 - 1) hx hb d_Si_put_30 (by decide) ?_
        refine lv_icmp_ne (tgt := 36) hx hb d_Si_put_31 (by decide) (fun hc31 => ?_) (fun hc31 => ?_)
        · skip
          rw [bw_eq_np (by omega) (by omega)] at hc31
          refine lv_iinc (v := nI (mr + 1)) (k := 2) hx hb d_Si_put_36 hl rfl (bw_inc mr 1) (by decide) rfl (fun ls hl => ?_)
          have hl : lv_has ls 6 [(3, .int (nI (mr + 1))), (5, .int (nI (by8 w b))), (4, .int (nI b)), (0, .ref si), (1, .long (lN w))] := hl
          refine lv_iinc (v := nI (b + 1)) (k := 2) hx hb d_Si_put_39 hl rfl (bw_inc b 1) (by decide) rfl (fun ls hl => ?_)
          have hl : lv_has ls 6 [(4, .int (nI (b + 1))), (3, .int (nI (mr + 1))), (5, .int (nI (by8 w b))), (0, .ref si), (1, .long (lN w))] := hl
          refine lv_goto (tgt := 5) hx hb d_Si_put_42 (by decide) ?_
          exact ih5 ((b + 1), (mr + 1)) _ _ _ ⟨(by first | assumption | omega | (simp; done) | (simp_all; done)), (by first | (rw [pns_z (by assumption)]; exact hmr) | (rw [pns_y (by assumption)]; omega)), (by first | assumption | omega | (simp; done) | (simp_all; done)), (by first | exact PutB_s hPB (Or.inr hyS) | exact PutB_s hPB (Or.inl (by assumption))), hP, hD, hS, lv_sub hl [0, 1, 3, 4] rfl⟩ (by first | omega | (simp only; omega) | (dsimp only; omega))
        · skip
          rw [bw_eq_np (by omega) (by omega)] at hc31
          refine lv_iconst (v := nI 0) hx hb d_Si_put_34 (by decide) ?_
          have hP9 := hP.sub (ws' := [(si, .inr (4, [.ref dr, .int (nI d), .ref ta, .ref tr, .ref pl, .ref pa, .ref fs])), (dr, .inl (ky, 97, .inl (nA Dd)))]) [0, 1] rfl
          have hD9 := hD.sub (ws' := [(si, .inr (4, [.ref dr, .int (nI d), .ref ta, .ref tr, .ref pl, .ref pa, .ref fs])), (dr, .inl (ky, 97, .inl (nA Dd)))]) [0, 1] (by decide) rfl
          exact W.zret (v := nI 0) hx hb hr (by first | rfl | decide) (fun t ht hW => ⟨⟨nI 0, (d, Dd), rfl, (by first | exact ⟨Or.inr ⟨rfl, fun q => absurd ((q.1 b (by omega)).resolve_left hc22) hnS, rfl, rfl⟩, hd⟩ | (exfalso; omega)), by rw [ht]; exact hP9, hD9⟩, hS.F ht⟩) hS.2.2 d_Si_put_35
      · skip
        refine lv_iconst (v := nI 0 - 1) hx hb d_Si_put_30 (by decide) ?_
        refine lv_icmp_ne (tgt := 36) hx hb d_Si_put_31 (by decide) (fun hc31 => ?_) (fun hc31 => ?_)
        · exact absurd hc31 (by decide)
        · skip
          rw [bw_eq_pp (by omega) (by omega)] at hc31
          refine lv_iconst (v := nI 0) hx hb d_Si_put_34 (by decide) ?_
          have hP9 := hP.sub (ws' := [(si, .inr (4, [.ref dr, .int (nI d), .ref ta, .ref tr, .ref pl, .ref pa, .ref fs])), (dr, .inl (ky, 97, .inl (nA Dd)))]) [0, 1] rfl
          have hD9 := hD.sub (ws' := [(si, .inr (4, [.ref dr, .int (nI d), .ref ta, .ref tr, .ref pl, .ref pa, .ref fs])), (dr, .inl (ky, 97, .inl (nA Dd)))]) [0, 1] (by decide) rfl
          exact W.zret (v := nI 0) hx hb hr (by first | rfl | decide) (fun t ht hW => ⟨⟨nI 0, (d, Dd), rfl, (by first | exact ⟨Or.inr ⟨rfl, fun q => absurd ((q.1 b (by omega)).resolve_left hc22) hnS, rfl, rfl⟩, hd⟩ | (exfalso; omega)), by rw [ht]; exact hP9, hD9⟩, hS.F ht⟩) hS.2.2 d_Si_put_35

set_option maxHeartbeats 4000000 in
set_option maxRecDepth 100000 in
/-- put -/
theorem c_Mo_put (l : Launch) (dC : Nat → ClassId) (dI : Nat → Nat → Nat) (ky : ClassId) (sz : Nat) (mo : Nat) (sp : Nat) (d : Nat) (mdr : Nat) (mm : Nat) (mtx : Nat) (mod : Nat) (mia : Nat) (mus : Nat) (mol : Nat) (mle : Nat) (my : Nat) (mrw : Nat) (mls : Nat) (Md : Nat → Nat) (w : Nat) (hMd : ∀ k_, Md k_ < 125) (hd97 : d ≤ 97) (hw : w < 2 ^ 64) : Met l y_Mo_put (Cond.code y_Mo_put prog_7_method_5_code 6 (some .boolean) :: W0) ({ frames := 2, cells := 0, slots := 0, locals := 40 }) (va_Pc [.ref mo, .long (lN w)] (fun U => U.heap.size = sz ∧ va_P (dC, dI) cls_ [(mo, .inr (5, [.int (nI sp), .int (nI d), .ref mdr, .int (nI mm - 1), .ref mtx, .ref mod, .ref mia, .ref mus, .ref mol, .ref mle, .int (nI my), .ref mrw, .ref mls])), (mdr, .inl (ky, 97, .inl (nA Md)))] U.heap ∧ va_K (dC, dI) cls_ [(ky, .int)] U ∧ va_D (fun _ => True) [(mo, .inr (5, [.int (nI sp), .int (nI d), .ref mdr, .int (nI mm - 1), .ref mtx, .ref mod, .ref mia, .ref mus, .ref mol, .ref mle, .int (nI my), .ref mrw, .ref mls])), (mdr, .inl (ky, 97, .inl (nA Md)))])) (va_Qi (fun (r : Int32) (u : (Nat) × (Nat → Nat)) => match u with | (dn, Dn) => ((r = nI 1 ∧ PutOk w d ∧ dn = d + pns w 8 ∧ Dn = pds w (fun x => x) Md d 8) ∨ (r = nI 0 ∧ ¬ PutOk w d ∧ dn = d ∧ Dn = Md)) ∧ (∀ k_, Dn k_ < 125)) (fun (u : (Nat) × (Nat → Nat)) (t : State) => match u with | (dn, Dn) => va_P (dC, dI) cls_ [(mo, .inr (5, [.int (nI sp), .int (nI dn), .ref mdr, .int (nI mm - 1), .ref mtx, .ref mod, .ref mia, .ref mus, .ref mol, .ref mle, .int (nI my), .ref mrw, .ref mls])), (mdr, .inl (ky, 97, .inl (nA Dn)))] t.heap ∧ va_D (va_A [(mo, .inr (5, [.int (nI sp), .int (nI d), .ref mdr, .int (nI mm - 1), .ref mtx, .ref mod, .ref mia, .ref mus, .ref mol, .ref mle, .int (nI my), .ref mrw, .ref mls])), (mdr, .inl (ky, 97, .inl (nA Md)))] sz) [(mo, .inr (5, [.int (nI sp), .int (nI dn), .ref mdr, .int (nI mm - 1), .ref mtx, .ref mod, .ref mia, .ref mus, .ref mol, .ref mle, .int (nI my), .ref mrw, .ref mls])), (mdr, .inl (ky, 97, .inl (nA Dn)))]) (va_A [(mo, .inr (5, [.int (nI sp), .int (nI d), .ref mdr, .int (nI mm - 1), .ref mtx, .ref mod, .ref mia, .ref mus, .ref mol, .ref mle, .int (nI my), .ref mrw, .ref mls])), (mdr, .inl (ky, 97, .inl (nA Md)))] sz)) 0 0 (va_A [(mo, .inr (5, [.int (nI sp), .int (nI d), .ref mdr, .int (nI mm - 1), .ref mtx, .ref mod, .ref mia, .ref mus, .ref mol, .ref mle, .int (nI my), .ref mrw, .ref mls])), (mdr, .inl (ky, 97, .inl (nA Md)))] sz) := by
  refine Met.ofW (cc := prog_7_method_5_code) (maxL := 6) (ret := (some .boolean)) (by decide) rfl ?_
  intro p e s m args below meth c s₁ B hml hv
  obtain ⟨rfl, hsz, hP, hK, hD0⟩ := hv
  have hx := B.exec
  have hb := B.bytes
  have hr := B.returns
  have hlocks := B.notSynchronized
  have hts := atoms_spec (ws := (Cond.code y_Mo_put prog_7_method_5_code 6 (some .boolean) :: W0)) B.pre
  have htb : ∀ w ∈ W0, w.before _ s = true := fun w h => hts w (List.mem_cons_of_mem _ h)
  have hown : s.vm.findClass "SelfIndexedSequencesModel" = some m.cls := findClass_of_methodNamed B.named
  subst hsz
  have hD := hD0.self (sz := s.heap.size)
  generalize hAe : va_A [(mo, .inr (5, [.int (nI sp), .int (nI d), .ref mdr, .int (nI mm - 1), .ref mtx, .ref mod, .ref mia, .ref mus, .ref mol, .ref mle, .int (nI my), .ref mrw, .ref mls])), (mdr, .inl (ky, 97, .inl (nA Md)))] s.heap.size = A at hD ⊢
  have hA : ∀ q : Nat, s.heap.size ≤ q → A q := fun q h => by rw [← hAe]; exact Or.inr h
  have hS : va_S A s.heap s.heap [] := va_S.rf
  have hl := lv_entry ([.ref mo, .long (lN w)]) (n := 6) (Nat.le_of_ble_eq_true rfl)
  rw [lg_entry_eq]
  generalize (lg_sl ([.ref mo, .long (lN w)]) ++ List.replicate (6 - (lg_sl ([.ref mo, .long (lN w)])).length) Slot.unset).toArray = ls at hl ⊢
  have hl : lv_has ls 6 [(0, .ref mo), (1, .long (lN w))] := hl
  refine lv_iconst (v := nI 0) hx hb d_Mo_put_0 (by decide) ?_
  refine lv_istore_n hx hb d_Mo_put_1 rfl hl (by decide) rfl (fun ls hl => ?_)
  have hl : lv_has ls 6 [(3, .int (nI 0)), (0, .ref mo), (1, .long (lN w))] := hl
  refine lv_iconst (v := nI 0) hx hb d_Mo_put_2 (by decide) ?_
  refine lv_istore hx hb d_Mo_put_3 hl (by decide) rfl (fun ls hl => ?_)
  have hl : lv_has ls 6 [(4, .int (nI 0)), (3, .int (nI 0)), (0, .ref mo), (1, .long (lN w))] := hl
  refine wl_loop (σ := Nat × Nat) 5 [] (fun (a_ : Nat × Nat) => match a_ with | (b, mr) => 8 - b) (fun (a_ : Nat × Nat) (H : Heap) (locs : List Loc) (ls : Array Slot) => match a_ with | (b, mr) => (b ≤ 8) ∧ (mr = pns w b) ∧ (mr ≤ b) ∧ (PutB w b) ∧ va_P (dC, dI) cls_ [(mo, .inr (5, [.int (nI sp), .int (nI d), .ref mdr, .int (nI mm - 1), .ref mtx, .ref mod, .ref mia, .ref mus, .ref mol, .ref mle, .int (nI my), .ref mrw, .ref mls])), (mdr, .inl (ky, 97, .inl (nA Md)))] H ∧ va_D A [(mo, .inr (5, [.int (nI sp), .int (nI d), .ref mdr, .int (nI mm - 1), .ref mtx, .ref mod, .ref mia, .ref mus, .ref mol, .ref mle, .int (nI my), .ref mrw, .ref mls])), (mdr, .inl (ky, 97, .inl (nA Md)))] ∧ va_S A s.heap H locs ∧ lv_has ls 6 [(4, .int (nI b)), (3, .int (nI mr)), (0, .ref mo), (1, .long (lN w))]) ?_ (0, 0) ⟨(by first | assumption | omega | (simp; done) | (simp_all; done)), (pns_0 w).symm, (by first | assumption | omega | (simp; done) | (simp_all; done)), (PutB_0 w), hP, hD, hS, lv_sub hl [0, 1, 2, 3] rfl⟩
  clear hP hD hS hl
  intro a_ H locs ls hI ih5
  obtain ⟨b, mr⟩ := a_
  obtain ⟨hb8, hmr, hmb, hPB, hP, hD, hS, hl⟩ := hI
  have hl : lv_has ls 6 [(4, .int (nI b)), (3, .int (nI mr)), (0, .ref mo), (1, .long (lN w))] := hl
  have hP : va_P (dC, dI) cls_ [(mo, .inr (5, [.int (nI sp), .int (nI d), .ref mdr, .int (nI mm - 1), .ref mtx, .ref mod, .ref mia, .ref mus, .ref mol, .ref mle, .int (nI my), .ref mrw, .ref mls])), (mdr, .inl (ky, 97, .inl (nA Md)))] H := hP
  have hD : va_D A [(mo, .inr (5, [.int (nI sp), .int (nI d), .ref mdr, .int (nI mm - 1), .ref mtx, .ref mod, .ref mia, .ref mus, .ref mol, .ref mle, .int (nI my), .ref mrw, .ref mls])), (mdr, .inl (ky, 97, .inl (nA Md)))] := hD
  have hb8 : b ≤ 8 := hb8
  have hmr : mr = pns w b := hmr
  have hmb : mr ≤ b := hmb
  have hPB : PutB w b := hPB
  refine lv_iload hx hb d_Mo_put_5 (lv_at hl 0 rfl) ?_
  refine lv_bipush (v := nI 8) hx hb d_Mo_put_7 (by decide) ?_
  refine lv_icmp_ge (tgt := 54) hx hb d_Mo_put_9 (by decide) (fun hc9 => ?_) (fun hc9 => ?_)
  · skip
    rw [bw_le_nn (by omega) (by omega)] at hc9
    have hb88 : b = 8 := by omega
    subst hb88
    refine lv_aload_n hx hb d_Mo_put_54 rfl (lv_at hl 2 rfl) ?_
    refine va_get (D := (dC, dI)) (ci := 5) (v := .int (nI d)) (C := R_Mo) (T := F_Mo) (N := 13) hx hb htb in_Mo hown hK hP 0 rfl rfl 1 (by decide) (htb _ tw_362) (fun _ h9 => h9) rfl d_Mo_put_55 ?_
    refine lv_iload_n hx hb d_Mo_put_58 rfl (lv_at hl 1 rfl) ?_
    refine lv_iadd hx hb d_Mo_put_59 ?_
    rw [nI_add]
    refine lv_bipush (v := nI 97) hx hb d_Mo_put_60 (by decide) ?_
    refine lv_icmp_le (tgt := 67) hx hb d_Mo_put_62 (by decide) (fun hc62 => ?_) (fun hc62 => ?_)
    · skip
      rw [bw_le_nn (by omega) (by omega)] at hc62
      refine lv_iconst (v := nI 0) hx hb d_Mo_put_67 (by decide) ?_
      refine lv_istore hx hb d_Mo_put_68 hl (by decide) rfl (fun ls hl => ?_)
      have hl : lv_has ls 6 [(4, .int (nI 0)), (3, .int (nI mr)), (0, .ref mo), (1, .long (lN w))] := hl
      refine wl_loop (σ := Nat × Nat × (Nat → Nat)) 70 [] (fun (a_ : Nat × Nat × (Nat → Nat)) => match a_ with | (b, dq, Dq) => 8 - b) (fun (a_ : Nat × Nat × (Nat → Nat)) (H : Heap) (locs : List Loc) (ls : Array Slot) => match a_ with | (b, dq, Dq) => (b ≤ 8) ∧ (dq = d + pns w b) ∧ (Dq = pds w (fun x => x) Md d b) ∧ (∀ k_, Dq k_ < 125) ∧ va_P (dC, dI) cls_ [(mo, .inr (5, [.int (nI sp), .int (nI dq), .ref mdr, .int (nI mm - 1), .ref mtx, .ref mod, .ref mia, .ref mus, .ref mol, .ref mle, .int (nI my), .ref mrw, .ref mls])), (mdr, .inl (ky, 97, .inl (nA Dq)))] H ∧ va_D A [(mo, .inr (5, [.int (nI sp), .int (nI dq), .ref mdr, .int (nI mm - 1), .ref mtx, .ref mod, .ref mia, .ref mus, .ref mol, .ref mle, .int (nI my), .ref mrw, .ref mls])), (mdr, .inl (ky, 97, .inl (nA Dq)))] ∧ va_S A s.heap H locs ∧ lv_has ls 6 [(4, .int (nI b)), (0, .ref mo), (1, .long (lN w))]) ?_ (0, d, Md) ⟨(by first | assumption | omega | (simp; done) | (simp_all; done)), (by rw [pns_0]; omega), rfl, hMd, hP, hD, hS, lv_sub hl [0, 2, 3] rfl⟩
      clear hP hD hS hl
      intro a_ H locs ls hI ih70
      obtain ⟨b, dq, Dq⟩ := a_
      obtain ⟨hb8, hdq, hDq, hDb, hP, hD, hS, hl⟩ := hI
      have hl : lv_has ls 6 [(4, .int (nI b)), (0, .ref mo), (1, .long (lN w))] := hl
      have hP : va_P (dC, dI) cls_ [(mo, .inr (5, [.int (nI sp), .int (nI dq), .ref mdr, .int (nI mm - 1), .ref mtx, .ref mod, .ref mia, .ref mus, .ref mol, .ref mle, .int (nI my), .ref mrw, .ref mls])), (mdr, .inl (ky, 97, .inl (nA Dq)))] H := hP
      have hD : va_D A [(mo, .inr (5, [.int (nI sp), .int (nI dq), .ref mdr, .int (nI mm - 1), .ref mtx, .ref mod, .ref mia, .ref mus, .ref mol, .ref mle, .int (nI my), .ref mrw, .ref mls])), (mdr, .inl (ky, 97, .inl (nA Dq)))] := hD
      have hb8 : b ≤ 8 := hb8
      have hdq : dq = d + pns w b := hdq
      have hDq : Dq = pds w (fun x => x) Md d b := hDq
      have hDb : ∀ k_, Dq k_ < 125 := hDb
      refine lv_iload hx hb d_Mo_put_70 (lv_at hl 0 rfl) ?_
      refine lv_bipush (v := nI 8) hx hb d_Mo_put_72 (by decide) ?_
      refine lv_icmp_ge (tgt := 117) hx hb d_Mo_put_74 (by decide) (fun hc74 => ?_) (fun hc74 => ?_)
      · skip
        rw [bw_le_nn (by omega) (by omega)] at hc74
        have hb88 : b = 8 := by omega
        subst hb88
        refine lv_iconst (v := nI 1) hx hb d_Mo_put_117 (by decide) ?_
        have hP9 := hP.sub (ws' := [(mo, .inr (5, [.int (nI sp), .int (nI dq), .ref mdr, .int (nI mm - 1), .ref mtx, .ref mod, .ref mia, .ref mus, .ref mol, .ref mle, .int (nI my), .ref mrw, .ref mls])), (mdr, .inl (ky, 97, .inl (nA Dq)))]) [0, 1] rfl
        have hD9 := hD.sub (ws' := [(mo, .inr (5, [.int (nI sp), .int (nI dq), .ref mdr, .int (nI mm - 1), .ref mtx, .ref mod, .ref mia, .ref mus, .ref mol, .ref mle, .int (nI my), .ref mrw, .ref mls])), (mdr, .inl (ky, 97, .inl (nA Dq)))]) [0, 1] (by decide) rfl
        exact W.zret (v := nI 1) hx hb hr (by first | rfl | decide) (fun t ht hW => ⟨⟨nI 1, (dq, Dq), rfl, ⟨Or.inl ⟨rfl, ⟨hPB, by omega⟩, hdq, hDq⟩, hDb⟩, by rw [ht]; exact hP9, hD9⟩, hS.F ht⟩) hS.2.2 d_Mo_put_118
      · skip
        rw [bw_le_nn (by omega) (by omega)] at hc74
        have hpm := pns_mono w (show b + 1 ≤ 8 by omega)
        have hpm0 := pns_mono w (show b ≤ 8 by omega)
        refine lv_lload_n hx hb d_Mo_put_77 rfl (lv_at hl 2 rfl) ?_
        refine lv_iload hx hb d_Mo_put_78 (lv_at hl 0 rfl) ?_
        have hPc := hP.sub (ws' := []) [] rfl
        have hDc := hD.sub (ws' := []) [] (by decide) rfl
        have hFc := va_free (wc := []) hD hS hA [] rfl
        refine va_calli (va_runS (As := [.long (lN w), .int (nI b)]) (rest := []) ⟨hx, hb, hml, hown, hts⟩ (c_Mo_byteOf l dC dI ky H.size w b (by first | assumption | omega | (simp; done) | (simp_all; done)) (by first | assumption | omega | (simp; done) | (simp_all; done))) ⟨callB_of 2 hts (W0_good tw_408) rfl rfl rfl (htb _ tw_28) (htb _ tw_406) ⟨by decide, by decide, by decide +kernel⟩ ⟨(Nat.le_of_ble_eq_true rfl), (Nat.le_of_ble_eq_true rfl)⟩, htb _ tw_407⟩ ⟨fun a U g mk q => by obtain ⟨q0, q1, qP, qK, qD⟩ := q; exact ⟨q0, q1, qP, va_K.moved (u := U) (U := U.calling g mk a) (Vm.Alike.refl U.vm) qK, qD⟩, fun U hU hW => ⟨rfl, by rw [hU], by rw [hU]; exact hPc, va_K.moved hW.alike hK, hDc.weaken (fun _ _ _ _ => trivial)⟩⟩ rfl rfl hl.1 rfl (lv_room (Nat.le_of_ble_eq_true rfl)) d_Mo_put_80 ⟨(Nat.le_of_ble_eq_true rfl), (Nat.le_of_ble_eq_true rfl)⟩) hS (fun q _ h => hFc q h) hFc (fun r80 u_ t H locs ht hvm hw80 hB hz1 hk1 hS => ?_)
        obtain ⟨hP1, hD1⟩ := hB
        rw [ht] at hP1
        obtain ⟨hP, hD⟩ := va_join (wr := [(mo, .inr (5, [.int (nI sp), .int (nI dq), .ref mdr, .int (nI mm - 1), .ref mtx, .ref mod, .ref mia, .ref mus, .ref mol, .ref mle, .int (nI my), .ref mrw, .ref mls])), (mdr, .inl (ky, 97, .inl (nA Dq)))]) (w1 := []) hP hD [] [0, 1] rfl rfl (by decide) (by decide) hk1 hFc hP1 hD1
        have hP : va_P (dC, dI) cls_ [(mo, .inr (5, [.int (nI sp), .int (nI dq), .ref mdr, .int (nI mm - 1), .ref mtx, .ref mod, .ref mia, .ref mus, .ref mol, .ref mle, .int (nI my), .ref mrw, .ref mls])), (mdr, .inl (ky, 97, .inl (nA Dq)))] H := hP
        have hD : va_D A [(mo, .inr (5, [.int (nI sp), .int (nI dq), .ref mdr, .int (nI mm - 1), .ref mtx, .ref mod, .ref mia, .ref mus, .ref mol, .ref mle, .int (nI my), .ref mrw, .ref mls])), (mdr, .inl (ky, 97, .inl (nA Dq)))] := hD
        have hw80 : r80 = nI (by8 w b) ∧ (True) := hw80
        obtain ⟨hre, hq80⟩ := hw80
        subst hre
        refine lv_istore hx hb d_Mo_put_83 hl (by decide) rfl (fun ls hl => ?_)
        have hl : lv_has ls 6 [(5, .int (nI (by8 w b))), (4, .int (nI b)), (0, .ref mo), (1, .long (lN w))] := hl
        refine lv_iload hx hb d_Mo_put_85 (lv_at hl 0 rfl) ?_
        have hb256 := by8_lt w b
        refine lv_if_eq (tgt := 111) hx hb d_Mo_put_87 (by decide) (fun hc87 => ?_) (fun hc87 => ?_)
        · skip
          rw [← nI_0, bw_eq_nn (by omega) (by omega)] at hc87
          refine lv_iinc (v := nI (b + 1)) (k := 1) hx hb d_Mo_put_111 hl rfl (bw_inc b 1) (by decide) rfl (fun ls hl => ?_)
          have hl : lv_has ls 6 [(4, .int (nI (b + 1))), (5, .int (nI (by8 w b))), (0, .ref mo), (1, .long (lN w))] := hl
          refine lv_goto (tgt := 70) hx hb d_Mo_put_114 (by decide) ?_
          exact ih70 ((b + 1), dq, Dq) _ _ _ ⟨(by first | assumption | omega | (simp; done) | (simp_all; done)), (by first | (rw [pns_z (by assumption)]; exact hdq) | (rw [pns_y (by assumption)]; omega)), (by first | (rw [pds_z (by assumption)]; exact hDq) | (rw [pds_y (by assumption), hDq, hdq])), (by assumption), hP, hD, hS, lv_sub hl [0, 2, 3] rfl⟩ (by first | omega | (simp only; omega) | (dsimp only; omega))
        · skip
          rw [← nI_0, bw_eq_nn (by omega) (by omega)] at hc87
          refine lv_aload_n hx hb d_Mo_put_90 rfl (lv_at hl 2 rfl) ?_
          refine va_get (D := (dC, dI)) (ci := 5) (v := .ref mdr) (C := R_Mo) (T := F_Mo) (N := 13) hx hb htb in_Mo hown hK hP 0 rfl rfl 2 (by decide) (htb _ tw_363) (fun _ h9 => h9) rfl d_Mo_put_91 ?_
          refine lv_aload_n hx hb d_Mo_put_94 rfl (lv_at hl 2 rfl) ?_
          refine va_get (D := (dC, dI)) (ci := 5) (v := .int (nI dq)) (C := R_Mo) (T := F_Mo) (N := 13) hx hb htb in_Mo hown hK hP 0 rfl rfl 1 (by decide) (htb _ tw_362) (fun _ h9 => h9) rfl d_Mo_put_95 ?_
          refine lv_iload hx hb d_Mo_put_98 (lv_at hl 0 rfl) ?_
          have hpy := pns_y (w := w) hc87
          have hsn : by8 w b < 125 := by rw [← (cod_sno ((hPB b (by omega)).resolve_left hc87)).2]; exact cod_lt (cod_sno ((hPB b (by omega)).resolve_left hc87)).1
          refine va_iast hx hb hK hP hD hS 1 0 rfl rfl (vp_in_nI (by omega) (by decide)) d_Mo_put_100 (fun H locs hP hD hS => ?_)
          rw [nI_clamp (by omega)] at hP hD
          rw [nA_upd] at hP hD
          have hu1 : ∀ k_, (upN Dq dq (by8 w b)) k_ < 125 := upN_lt hDb (by omega)
          have hP : va_P (dC, dI) cls_ [(mo, .inr (5, [.int (nI sp), .int (nI dq), .ref mdr, .int (nI mm - 1), .ref mtx, .ref mod, .ref mia, .ref mus, .ref mol, .ref mle, .int (nI my), .ref mrw, .ref mls])), (mdr, .inl (ky, 97, .inl (nA (upN Dq dq (by8 w b)))))] H := hP
          have hD : va_D A [(mo, .inr (5, [.int (nI sp), .int (nI dq), .ref mdr, .int (nI mm - 1), .ref mtx, .ref mod, .ref mia, .ref mus, .ref mol, .ref mle, .int (nI my), .ref mrw, .ref mls])), (mdr, .inl (ky, 97, .inl (nA (upN Dq dq (by8 w b)))))] := hD
          refine lv_aload_n hx hb d_Mo_put_101 rfl (lv_at hl 2 rfl) ?_
          refine lv_dup hx hb d_Mo_put_102 rfl ?_
          refine va_get (D := (dC, dI)) (ci := 5) (v := .int (nI dq)) (C := R_Mo) (T := F_Mo) (N := 13) hx hb htb in_Mo hown hK hP 0 rfl rfl 1 (by decide) (htb _ tw_362) (fun _ h9 => h9) rfl d_Mo_put_103 ?_
          refine lv_iconst (v := nI 1) hx hb d_Mo_put_106 (by decide) ?_
          refine lv_iadd hx hb d_Mo_put_107 ?_
          rw [nI_add]
          refine va_put (D := (dC, dI)) (ci := 5) (v := .int (nI (dq + 1))) (ty := .int) (C := R_Mo) (T := F_Mo) (N := 13) hx hb htb in_Mo t_Mo tk_Mo nm_Mo hown hK hP hD hS 0 rfl rfl 1 (by decide) (htb _ tw_362) (fun _ h9 => h9) rfl (by decide +kernel) rfl rfl (Nat.le_of_ble_eq_true rfl) d_Mo_put_108 (fun H locs hP hD hS => ?_)
          have hP : va_P (dC, dI) cls_ [(mo, .inr (5, [.int (nI sp), .int (nI (dq + 1)), .ref mdr, .int (nI mm - 1), .ref mtx, .ref mod, .ref mia, .ref mus, .ref mol, .ref mle, .int (nI my), .ref mrw, .ref mls])), (mdr, .inl (ky, 97, .inl (nA (upN Dq dq (by8 w b)))))] H := hP
          have hD : va_D A [(mo, .inr (5, [.int (nI sp), .int (nI (dq + 1)), .ref mdr, .int (nI mm - 1), .ref mtx, .ref mod, .ref mia, .ref mus, .ref mol, .ref mle, .int (nI my), .ref mrw, .ref mls])), (mdr, .inl (ky, 97, .inl (nA (upN Dq dq (by8 w b)))))] := hD
          refine lv_iinc (v := nI (b + 1)) (k := 1) hx hb d_Mo_put_111 hl rfl (bw_inc b 1) (by decide) rfl (fun ls hl => ?_)
          have hl : lv_has ls 6 [(4, .int (nI (b + 1))), (5, .int (nI (by8 w b))), (0, .ref mo), (1, .long (lN w))] := hl
          refine lv_goto (tgt := 70) hx hb d_Mo_put_114 (by decide) ?_
          exact ih70 ((b + 1), (dq + 1), (upN Dq dq (by8 w b))) _ _ _ ⟨(by first | assumption | omega | (simp; done) | (simp_all; done)), (by first | (rw [pns_z (by assumption)]; exact hdq) | (rw [pns_y (by assumption)]; omega)), (by first | (rw [pds_z (by assumption)]; exact hDq) | (rw [pds_y (by assumption), hDq, hdq])), (by assumption), hP, hD, hS, lv_sub hl [0, 2, 3] rfl⟩ (by first | omega | (simp only; omega) | (dsimp only; omega))
    · skip
      rw [bw_le_nn (by omega) (by omega)] at hc62
      refine lv_iconst (v := nI 0) hx hb d_Mo_put_65 (by decide) ?_
      have hP9 := hP.sub (ws' := [(mo, .inr (5, [.int (nI sp), .int (nI d), .ref mdr, .int (nI mm - 1), .ref mtx, .ref mod, .ref mia, .ref mus, .ref mol, .ref mle, .int (nI my), .ref mrw, .ref mls])), (mdr, .inl (ky, 97, .inl (nA Md)))]) [0, 1] rfl
      have hD9 := hD.sub (ws' := [(mo, .inr (5, [.int (nI sp), .int (nI d), .ref mdr, .int (nI mm - 1), .ref mtx, .ref mod, .ref mia, .ref mus, .ref mol, .ref mle, .int (nI my), .ref mrw, .ref mls])), (mdr, .inl (ky, 97, .inl (nA Md)))]) [0, 1] (by decide) rfl
      exact W.zret (v := nI 0) hx hb hr (by first | rfl | decide) (fun t ht hW => ⟨⟨nI 0, (d, Md), rfl, ⟨Or.inr ⟨rfl, fun q => by have := q.2; omega, rfl, rfl⟩, hMd⟩, by rw [ht]; exact hP9, hD9⟩, hS.F ht⟩) hS.2.2 d_Mo_put_66
  · skip
    rw [bw_le_nn (by omega) (by omega)] at hc9
    refine lv_lload_n hx hb d_Mo_put_12 rfl (lv_at hl 3 rfl) ?_
    refine lv_iload hx hb d_Mo_put_13 (lv_at hl 0 rfl) ?_
    have hPc := hP.sub (ws' := []) [] rfl
    have hDc := hD.sub (ws' := []) [] (by decide) rfl
    have hFc := va_free (wc := []) hD hS hA [] rfl
    refine va_calli (va_runS (As := [.long (lN w), .int (nI b)]) (rest := []) ⟨hx, hb, hml, hown, hts⟩ (c_Mo_byteOf l dC dI ky H.size w b (by first | assumption | omega | (simp; done) | (simp_all; done)) (by first | assumption | omega | (simp; done) | (simp_all; done))) ⟨callB_of 2 hts (W0_good tw_408) rfl rfl rfl (htb _ tw_28) (htb _ tw_406) ⟨by decide, by decide, by decide +kernel⟩ ⟨(Nat.le_of_ble_eq_true rfl), (Nat.le_of_ble_eq_true rfl)⟩, htb _ tw_407⟩ ⟨fun a U g mk q => by obtain ⟨q0, q1, qP, qK, qD⟩ := q; exact ⟨q0, q1, qP, va_K.moved (u := U) (U := U.calling g mk a) (Vm.Alike.refl U.vm) qK, qD⟩, fun U hU hW => ⟨rfl, by rw [hU], by rw [hU]; exact hPc, va_K.moved hW.alike hK, hDc.weaken (fun _ _ _ _ => trivial)⟩⟩ rfl rfl hl.1 rfl (lv_room (Nat.le_of_ble_eq_true rfl)) d_Mo_put_15 ⟨(Nat.le_of_ble_eq_true rfl), (Nat.le_of_ble_eq_true rfl)⟩) hS (fun q _ h => hFc q h) hFc (fun r15 u_ t H locs ht hvm hw15 hB hz1 hk1 hS => ?_)
    obtain ⟨hP1, hD1⟩ := hB
    rw [ht] at hP1
    obtain ⟨hP, hD⟩ := va_join (wr := [(mo, .inr (5, [.int (nI sp), .int (nI d), .ref mdr, .int (nI mm - 1), .ref mtx, .ref mod, .ref mia, .ref mus, .ref mol, .ref mle, .int (nI my), .ref mrw, .ref mls])), (mdr, .inl (ky, 97, .inl (nA Md)))]) (w1 := []) hP hD [] [0, 1] rfl rfl (by decide) (by decide) hk1 hFc hP1 hD1
    have hP : va_P (dC, dI) cls_ [(mo, .inr (5, [.int (nI sp), .int (nI d), .ref mdr, .int (nI mm - 1), .ref mtx, .ref mod, .ref mia, .ref mus, .ref mol, .ref mle, .int (nI my), .ref mrw, .ref mls])), (mdr, .inl (ky, 97, .inl (nA Md)))] H := hP
    have hD : va_D A [(mo, .inr (5, [.int (nI sp), .int (nI d), .ref mdr, .int (nI mm - 1), .ref mtx, .ref mod, .ref mia, .ref mus, .ref mol, .ref mle, .int (nI my), .ref mrw, .ref mls])), (mdr, .inl (ky, 97, .inl (nA Md)))] := hD
    have hw15 : r15 = nI (by8 w b) ∧ (True) := hw15
    obtain ⟨hre, hq15⟩ := hw15
    subst hre
    refine lv_istore hx hb d_Mo_put_18 hl (by decide) rfl (fun ls hl => ?_)
    have hl : lv_has ls 6 [(5, .int (nI (by8 w b))), (4, .int (nI b)), (3, .int (nI mr)), (0, .ref mo), (1, .long (lN w))] := hl
    refine lv_iload hx hb d_Mo_put_20 (lv_at hl 0 rfl) ?_
    have hb256 := by8_lt w b
    refine lv_if_eq (tgt := 35) hx hb d_Mo_put_22 (by decide) (fun hc22 => ?_) (fun hc22 => ?_)
    · skip
      rw [← nI_0, bw_eq_nn (by omega) (by omega)] at hc22
      refine lv_iload_n hx hb d_Mo_put_35 rfl (lv_at hl 2 rfl) ?_
      refine lv_iload hx hb d_Mo_put_36 (lv_at hl 0 rfl) ?_
      refine lv_if_ne (tgt := 45) hx hb d_Mo_put_38 (by decide) (fun hc38 => ?_) (fun hc38 => ?_)
      · skip
        rw [← nI_0, bw_eq_nn (by omega) (by omega)] at hc38
        refine lv_iconst (v := nI 1) hx hb d_Mo_put_45 (by decide) ?_
        refine lv_iadd hx hb d_Mo_put_46 ?_
        rw [nI_add]
        refine lv_istore_n hx hb d_Mo_put_47 rfl hl (by decide) rfl (fun ls hl => ?_)
        have hl : lv_has ls 6 [(3, .int (nI (mr + 1))), (5, .int (nI (by8 w b))), (4, .int (nI b)), (0, .ref mo), (1, .long (lN w))] := hl
        refine lv_iinc (v := nI (b + 1)) (k := 2) hx hb d_Mo_put_48 hl rfl (bw_inc b 1) (by decide) rfl (fun ls hl => ?_)
        have hl : lv_has ls 6 [(4, .int (nI (b + 1))), (3, .int (nI (mr + 1))), (5, .int (nI (by8 w b))), (0, .ref mo), (1, .long (lN w))] := hl
        refine lv_goto (tgt := 5) hx hb d_Mo_put_51 (by decide) ?_
        exact ih5 ((b + 1), (mr + 1)) _ _ _ ⟨(by first | assumption | omega | (simp; done) | (simp_all; done)), (by first | (rw [pns_z (by assumption)]; exact hmr) | (rw [pns_y (by assumption)]; omega) | (exfalso; omega)), (by first | assumption | omega | (simp; done) | (simp_all; done)), (by first | exact PutB_s hPB (Or.inr hyS) | exact PutB_s hPB (Or.inl (by assumption)) | (exfalso; omega)), hP, hD, hS, lv_sub hl [0, 1, 3, 4] rfl⟩ (by first | omega | (simp only; omega) | (dsimp only; omega))
      · skip
        rw [← nI_0, bw_eq_nn (by omega) (by omega)] at hc38
        refine lv_iconst (v := nI 0) hx hb d_Mo_put_41 (by decide) ?_
        refine lv_goto (tgt := 46) hx hb d_Mo_put_42 (by decide) ?_
        refine lv_iadd hx hb d_Mo_put_46 ?_
        rw [nI_add]
        refine lv_istore_n hx hb d_Mo_put_47 rfl hl (by decide) rfl (fun ls hl => ?_)
        have hl : lv_has ls 6 [(3, .int (nI (mr + 0))), (5, .int (nI (by8 w b))), (4, .int (nI b)), (0, .ref mo), (1, .long (lN w))] := hl
        refine lv_iinc (v := nI (b + 1)) (k := 2) hx hb d_Mo_put_48 hl rfl (bw_inc b 1) (by decide) rfl (fun ls hl => ?_)
        have hl : lv_has ls 6 [(4, .int (nI (b + 1))), (3, .int (nI (mr + 0))), (5, .int (nI (by8 w b))), (0, .ref mo), (1, .long (lN w))] := hl
        refine lv_goto (tgt := 5) hx hb d_Mo_put_51 (by decide) ?_
        exact ih5 ((b + 1), (mr + 0)) _ _ _ ⟨(by first | assumption | omega | (simp; done) | (simp_all; done)), (by first | (rw [pns_z (by assumption)]; exact hmr) | (rw [pns_y (by assumption)]; omega) | (exfalso; omega)), (by first | assumption | omega | (simp; done) | (simp_all; done)), (by first | exact PutB_s hPB (Or.inr hyS) | exact PutB_s hPB (Or.inl (by assumption)) | (exfalso; omega)), hP, hD, hS, lv_sub hl [0, 1, 3, 4] rfl⟩ (by first | omega | (simp only; omega) | (dsimp only; omega))
    · skip
      rw [← nI_0, bw_eq_nn (by omega) (by omega)] at hc22
      refine lv_iload hx hb d_Mo_put_25 (lv_at hl 0 rfl) ?_
      have hPc := hP.sub (ws' := []) [] rfl
      have hDc := hD.sub (ws' := []) [] (by decide) rfl
      have hFc := va_free (wc := []) hD hS hA [] rfl
      refine va_calli (va_runS (As := [.int (nI (by8 w b))]) (rest := []) ⟨hx, hb, hml, hown, hts⟩ (c_Mo_isSymbol l dC dI ky H.size (by8 w b) (by first | assumption | omega | (simp; done) | (simp_all; done))) ⟨callB_of 1 hts (W0_good tw_412) rfl rfl rfl (htb _ tw_28) (htb _ tw_410) ⟨by decide, by decide, by decide +kernel⟩ ⟨(Nat.le_of_ble_eq_true rfl), (Nat.le_of_ble_eq_true rfl)⟩, htb _ tw_411⟩ ⟨fun a U g mk q => by obtain ⟨q0, q1, qP, qK, qD⟩ := q; exact ⟨q0, q1, qP, va_K.moved (u := U) (U := U.calling g mk a) (Vm.Alike.refl U.vm) qK, qD⟩, fun U hU hW => ⟨rfl, by rw [hU], by rw [hU]; exact hPc, va_K.moved hW.alike hK, hDc.weaken (fun _ _ _ _ => trivial)⟩⟩ rfl rfl hl.1 rfl (lv_room (Nat.le_of_ble_eq_true rfl)) d_Mo_put_27 ⟨(Nat.le_of_ble_eq_true rfl), (Nat.le_of_ble_eq_true rfl)⟩) hS (fun q _ h => hFc q h) hFc (fun r27 u_ t H locs ht hvm hw27 hB hz1 hk1 hS => ?_)
      obtain ⟨hP1, hD1⟩ := hB
      rw [ht] at hP1
      obtain ⟨hP, hD⟩ := va_join (wr := [(mo, .inr (5, [.int (nI sp), .int (nI d), .ref mdr, .int (nI mm - 1), .ref mtx, .ref mod, .ref mia, .ref mus, .ref mol, .ref mle, .int (nI my), .ref mrw, .ref mls])), (mdr, .inl (ky, 97, .inl (nA Md)))]) (w1 := []) hP hD [] [0, 1] rfl rfl (by decide) (by decide) hk1 hFc hP1 hD1
      have hP : va_P (dC, dI) cls_ [(mo, .inr (5, [.int (nI sp), .int (nI d), .ref mdr, .int (nI mm - 1), .ref mtx, .ref mod, .ref mia, .ref mus, .ref mol, .ref mle, .int (nI my), .ref mrw, .ref mls])), (mdr, .inl (ky, 97, .inl (nA Md)))] H := hP
      have hD : va_D A [(mo, .inr (5, [.int (nI sp), .int (nI d), .ref mdr, .int (nI mm - 1), .ref mtx, .ref mod, .ref mia, .ref mus, .ref mol, .ref mle, .int (nI my), .ref mrw, .ref mls])), (mdr, .inl (ky, 97, .inl (nA Md)))] := hD
      have hq27 : (isS (by8 w b) ∧ r27 = nI 1) ∨ (¬ isS (by8 w b) ∧ r27 = nI 0) := hw27
      rcases hq27 with ⟨hyS, rfl⟩ | ⟨hnS, rfl⟩
      · skip
        refine lv_if_ne (tgt := 35) hx hb d_Mo_put_30 (by decide) (fun hc30 => ?_) (fun hc30 => ?_)
        · skip
          rw [← nI_0, bw_eq_nn (by omega) (by omega)] at hc30
          refine lv_iload_n hx hb d_Mo_put_35 rfl (lv_at hl 2 rfl) ?_
          refine lv_iload hx hb d_Mo_put_36 (lv_at hl 0 rfl) ?_
          refine lv_if_ne (tgt := 45) hx hb d_Mo_put_38 (by decide) (fun hc38 => ?_) (fun hc38 => ?_)
          · skip
            rw [← nI_0, bw_eq_nn (by omega) (by omega)] at hc38
            refine lv_iconst (v := nI 1) hx hb d_Mo_put_45 (by decide) ?_
            refine lv_iadd hx hb d_Mo_put_46 ?_
            rw [nI_add]
            refine lv_istore_n hx hb d_Mo_put_47 rfl hl (by decide) rfl (fun ls hl => ?_)
            have hl : lv_has ls 6 [(3, .int (nI (mr + 1))), (5, .int (nI (by8 w b))), (4, .int (nI b)), (0, .ref mo), (1, .long (lN w))] := hl
            refine lv_iinc (v := nI (b + 1)) (k := 2) hx hb d_Mo_put_48 hl rfl (bw_inc b 1) (by decide) rfl (fun ls hl => ?_)
            have hl : lv_has ls 6 [(4, .int (nI (b + 1))), (3, .int (nI (mr + 1))), (5, .int (nI (by8 w b))), (0, .ref mo), (1, .long (lN w))] := hl
            refine lv_goto (tgt := 5) hx hb d_Mo_put_51 (by decide) ?_
            exact ih5 ((b + 1), (mr + 1)) _ _ _ ⟨(by first | assumption | omega | (simp; done) | (simp_all; done)), (by first | (rw [pns_z (by assumption)]; exact hmr) | (rw [pns_y (by assumption)]; omega) | (exfalso; omega)), (by first | assumption | omega | (simp; done) | (simp_all; done)), (by first | exact PutB_s hPB (Or.inr hyS) | exact PutB_s hPB (Or.inl (by assumption)) | (exfalso; omega)), hP, hD, hS, lv_sub hl [0, 1, 3, 4] rfl⟩ (by first | omega | (simp only; omega) | (dsimp only; omega))
          · skip
            rw [← nI_0, bw_eq_nn (by omega) (by omega)] at hc38
            refine lv_iconst (v := nI 0) hx hb d_Mo_put_41 (by decide) ?_
            refine lv_goto (tgt := 46) hx hb d_Mo_put_42 (by decide) ?_
            refine lv_iadd hx hb d_Mo_put_46 ?_
            rw [nI_add]
            refine lv_istore_n hx hb d_Mo_put_47 rfl hl (by decide) rfl (fun ls hl => ?_)
            have hl : lv_has ls 6 [(3, .int (nI (mr + 0))), (5, .int (nI (by8 w b))), (4, .int (nI b)), (0, .ref mo), (1, .long (lN w))] := hl
            refine lv_iinc (v := nI (b + 1)) (k := 2) hx hb d_Mo_put_48 hl rfl (bw_inc b 1) (by decide) rfl (fun ls hl => ?_)
            have hl : lv_has ls 6 [(4, .int (nI (b + 1))), (3, .int (nI (mr + 0))), (5, .int (nI (by8 w b))), (0, .ref mo), (1, .long (lN w))] := hl
            refine lv_goto (tgt := 5) hx hb d_Mo_put_51 (by decide) ?_
            exact ih5 ((b + 1), (mr + 0)) _ _ _ ⟨(by first | assumption | omega | (simp; done) | (simp_all; done)), (by first | (rw [pns_z (by assumption)]; exact hmr) | (rw [pns_y (by assumption)]; omega) | (exfalso; omega)), (by first | assumption | omega | (simp; done) | (simp_all; done)), (by first | exact PutB_s hPB (Or.inr hyS) | exact PutB_s hPB (Or.inl (by assumption)) | (exfalso; omega)), hP, hD, hS, lv_sub hl [0, 1, 3, 4] rfl⟩ (by first | omega | (simp only; omega) | (dsimp only; omega))
        · exact absurd hc30 (by decide)
      · skip
        refine lv_if_ne (tgt := 35) hx hb d_Mo_put_30 (by decide) (fun hc30 => ?_) (fun hc30 => ?_)
        · exact absurd hc30 (by decide)
        · skip
          rw [← nI_0, bw_eq_nn (by omega) (by omega)] at hc30
          refine lv_iconst (v := nI 0) hx hb d_Mo_put_33 (by decide) ?_
          have hP9 := hP.sub (ws' := [(mo, .inr (5, [.int (nI sp), .int (nI d), .ref mdr, .int (nI mm - 1), .ref mtx, .ref mod, .ref mia, .ref mus, .ref mol, .ref mle, .int (nI my), .ref mrw, .ref mls])), (mdr, .inl (ky, 97, .inl (nA Md)))]) [0, 1] rfl
          have hD9 := hD.sub (ws' := [(mo, .inr (5, [.int (nI sp), .int (nI d), .ref mdr, .int (nI mm - 1), .ref mtx, .ref mod, .ref mia, .ref mus, .ref mol, .ref mle, .int (nI my), .ref mrw, .ref mls])), (mdr, .inl (ky, 97, .inl (nA Md)))]) [0, 1] (by decide) rfl
          exact W.zret (v := nI 0) hx hb hr (by first | rfl | decide) (fun t ht hW => ⟨⟨nI 0, (d, Md), rfl, ⟨Or.inr ⟨rfl, fun q => absurd ((q.1 b (by omega)).resolve_left hc22) hnS, rfl, rfl⟩, hMd⟩, by rw [ht]; exact hP9, hD9⟩, hS.F ht⟩) hS.2.2 d_Mo_put_34
