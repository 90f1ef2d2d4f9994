set_option maxHeartbeats 4000000 in
set_option maxRecDepth 100000 in
theorem c_Pl_findStarts (l : Launch) (dC : Nat → ClassId) (dI : Nat → Nat → Nat) (ky : ClassId) (sz : Nat) (pl : Nat) (sp : Nat) (ah : Nat) (ke : Nat) (kr : Nat) (sa : Nat) (sq : Nat) (Ah : Nat → Nat) (Kr : Nat → Nat) (Sa : Nat → Nat) (h0 : Nat) (sy : Nat) (fi : Nat) (ba : Nat) (n : Nat) (lo : Int32) (hi : Int32) (S : Nat → Nat) (T : Nat → Nat) (O : Nat → Nat) (R : Nat → Nat) (nn : Nat) (hsp : 2 ≤ sp ∧ sp ≤ 16) (hAh : ∀ k_, Ah k_ < 97) (hKr : ∀ k_, Kr k_ < 97) (hSa : ∀ k_, Sa k_ < 98) (hs : ∀ k_, S k_ < 28) (hn1 : n = nn + 1) (hT : Txt T nn) (hSr : Srt T nn O R) (hIm : Img S T O nn) (hn : n ≤ 97) (hk0 : Kr 0 = R 0) (hah : ∀ a, a < nn + 1 → Ah (R (prv nn a)) = R a) : Met l y_Pl_findStarts (Cond.code y_Pl_findStarts prog_5_method_3_code 4 none :: W0) ({ frames := 0, cells := 0, slots := 0, locals := 0 }) (va_Pc [.ref pl, .ref h0] (fun U => U.heap.size = sz ∧ va_P (dC, dI) cls_ [(pl, .inr (3, [.int (nI sp), .ref ah, .ref ke, .ref kr, .ref sa, .int (nI sq)])), (ah, .inl (ky, 97, .inl (nA Ah))), (kr, .inl (ky, 97, .inl (nA Kr))), (sa, .inl (ky, 98, .inl (nA Sa))), (h0, .inr (1, [.ref sy, .int (nI n), .ref fi, .ref ba, .int (lo), .int (hi)])), (sy, .inl (ky, 97, .inl (nA S)))] U.heap ∧ va_K (dC, dI) cls_ [(ky, .int)] U ∧ va_D (fun _ => True) [(pl, .inr (3, [.int (nI sp), .ref ah, .ref ke, .ref kr, .ref sa, .int (nI sq)])), (ah, .inl (ky, 97, .inl (nA Ah))), (kr, .inl (ky, 97, .inl (nA Kr))), (sa, .inl (ky, 98, .inl (nA Sa))), (h0, .inr (1, [.ref sy, .int (nI n), .ref fi, .ref ba, .int (lo), .int (hi)])), (sy, .inl (ky, 97, .inl (nA S)))])) (va_Qv (fun (u : (Nat) × (Nat → Nat)) => match u with | (qn, Sn) => qn = nb T nn + 1 ∧ (∀ x, x < nb T nn + 2 → Sn x = gs T nn x) ∧ (∀ k_, Sn k_ < 98)) (fun (u : (Nat) × (Nat → Nat)) (t : State) => match u with | (qn, Sn) => va_P (dC, dI) cls_ [(pl, .inr (3, [.int (nI sp), .ref ah, .ref ke, .ref kr, .ref sa, .int (nI qn)])), (ah, .inl (ky, 97, .inl (nA Ah))), (kr, .inl (ky, 97, .inl (nA Kr))), (sa, .inl (ky, 98, .inl (nA Sn))), (h0, .inr (1, [.ref sy, .int (nI n), .ref fi, .ref ba, .int (lo), .int (hi)])), (sy, .inl (ky, 97, .inl (nA S)))] t.heap ∧ va_D (va_A [(pl, .inr (3, [.int (nI sp), .ref ah, .ref ke, .ref kr, .ref sa, .int (nI sq)])), (ah, .inl (ky, 97, .inl (nA Ah))), (kr, .inl (ky, 97, .inl (nA Kr))), (sa, .inl (ky, 98, .inl (nA Sa))), (h0, .inr (1, [.ref sy, .int (nI n), .ref fi, .ref ba, .int (lo), .int (hi)])), (sy, .inl (ky, 97, .inl (nA S)))] sz) [(pl, .inr (3, [.int (nI sp), .ref ah, .ref ke, .ref kr, .ref sa, .int (nI qn)])), (ah, .inl (ky, 97, .inl (nA Ah))), (kr, .inl (ky, 97, .inl (nA Kr))), (sa, .inl (ky, 98, .inl (nA Sn))), (h0, .inr (1, [.ref sy, .int (nI n), .ref fi, .ref ba, .int (lo), .int (hi)])), (sy, .inl (ky, 97, .inl (nA S)))]) (va_A [(pl, .inr (3, [.int (nI sp), .ref ah, .ref ke, .ref kr, .ref sa, .int (nI sq)])), (ah, .inl (ky, 97, .inl (nA Ah))), (kr, .inl (ky, 97, .inl (nA Kr))), (sa, .inl (ky, 98, .inl (nA Sa))), (h0, .inr (1, [.ref sy, .int (nI n), .ref fi, .ref ba, .int (lo), .int (hi)])), (sy, .inl (ky, 97, .inl (nA S)))] sz)) 0 0 (va_A [(pl, .inr (3, [.int (nI sp), .ref ah, .ref ke, .ref kr, .ref sa, .int (nI sq)])), (ah, .inl (ky, 97, .inl (nA Ah))), (kr, .inl (ky, 97, .inl (nA Kr))), (sa, .inl (ky, 98, .inl (nA Sa))), (h0, .inr (1, [.ref sy, .int (nI n), .ref fi, .ref ba, .int (lo), .int (hi)])), (sy, .inl (ky, 97, .inl (nA S)))] sz) := by
  refine Met.ofW (cc := prog_5_method_3_code) (maxL := 4) (ret := none) (by decide) rfl ?_
  intro p e s m args below meth c s₁ B hml hv
  obtain ⟨rfl, hsz, hP, hK, hD0⟩ := hv
  have hx := B.exec
  have hb := B.bytes
  have hr := B.returns
  have hlocks := B.notSynchronized
  have hts := atoms_spec (ws := (Cond.code y_Pl_findStarts prog_5_method_3_code 4 none :: W0)) B.pre
  have htb : ∀ w ∈ W0, w.before _ s = true := fun w h => hts w (List.mem_cons_of_mem _ h)
  have hown : s.vm.findClass "SelfIndexedSequences$Places" = some m.cls := findClass_of_methodNamed B.named
  subst hsz
  have hD := hD0.self (sz := s.heap.size)
  generalize hAe : va_A [(pl, .inr (3, [.int (nI sp), .ref ah, .ref ke, .ref kr, .ref sa, .int (nI sq)])), (ah, .inl (ky, 97, .inl (nA Ah))), (kr, .inl (ky, 97, .inl (nA Kr))), (sa, .inl (ky, 98, .inl (nA Sa))), (h0, .inr (1, [.ref sy, .int (nI n), .ref fi, .ref ba, .int (lo), .int (hi)])), (sy, .inl (ky, 97, .inl (nA S)))] s.heap.size = A at hD ⊢
  have hA : ∀ q : Nat, s.heap.size ≤ q → A q := fun q h => by rw [← hAe]; exact Or.inr h
  have hS : va_S A s.heap s.heap [] := va_S.rf
  have hl := lv_entry ([.ref pl, .ref h0]) (n := 4) (Nat.le_of_ble_eq_true rfl)
  rw [lg_entry_eq]
  generalize (lg_sl ([.ref pl, .ref h0]) ++ List.replicate (4 - (lg_sl ([.ref pl, .ref h0])).length) Slot.unset).toArray = ls at hl ⊢
  have hl : lv_has ls 4 [(0, .ref pl), (1, .ref h0)] := hl
  refine lv_aload_n hx hb d_Pl_findStarts_0 rfl (lv_at hl 0 rfl) ?_
  refine va_get (D := (dC, dI)) (ci := 3) (v := .ref sa) (C := R_Pl) (T := F_Pl) (N := 6) hx hb htb in_Pl hown hK hP 0 rfl rfl 4 (by decide) (htb _ tw_117) (fun _ h9 => h9) rfl d_Pl_findStarts_1 ?_
  refine lv_iconst (v := nI 0) hx hb d_Pl_findStarts_4 (by decide) ?_
  refine lv_iconst (v := nI 0) hx hb d_Pl_findStarts_5 (by decide) ?_
  refine va_iast hx hb hK hP hD hS 3 0 rfl rfl (vp_in_nI (by omega) (by decide)) d_Pl_findStarts_6 (fun H locs hP hD hS => ?_)
  rw [nI_clamp (by omega)] at hP hD
  rw [nA_upd] at hP hD
  have hu1 : ∀ k_, (upN Sa 0 0) k_ < 98 := upN_lt hSa (by omega)
  have hP : va_P (dC, dI) cls_ [(pl, .inr (3, [.int (nI sp), .ref ah, .ref ke, .ref kr, .ref sa, .int (nI sq)])), (ah, .inl (ky, 97, .inl (nA Ah))), (kr, .inl (ky, 97, .inl (nA Kr))), (sa, .inl (ky, 98, .inl (nA (upN Sa 0 0)))), (h0, .inr (1, [.ref sy, .int (nI n), .ref fi, .ref ba, .int (lo), .int (hi)])), (sy, .inl (ky, 97, .inl (nA S)))] H := hP
  have hD : va_D A [(pl, .inr (3, [.int (nI sp), .ref ah, .ref ke, .ref kr, .ref sa, .int (nI sq)])), (ah, .inl (ky, 97, .inl (nA Ah))), (kr, .inl (ky, 97, .inl (nA Kr))), (sa, .inl (ky, 98, .inl (nA (upN Sa 0 0)))), (h0, .inr (1, [.ref sy, .int (nI n), .ref fi, .ref ba, .int (lo), .int (hi)])), (sy, .inl (ky, 97, .inl (nA S)))] := hD
  refine lv_aload_n hx hb d_Pl_findStarts_7 rfl (lv_at hl 0 rfl) ?_
  refine lv_iconst (v := nI 1) hx hb d_Pl_findStarts_8 (by decide) ?_
  refine va_put (D := (dC, dI)) (ci := 3) (v := .int (nI 1)) (ty := .int) (C := R_Pl) (T := F_Pl) (N := 6) hx hb htb in_Pl t_Pl tk_Pl nm_Pl hown hK hP hD hS 0 rfl rfl 5 (by decide) (htb _ tw_119) (fun _ h9 => h9) rfl (by decide +kernel) rfl rfl (Nat.le_of_ble_eq_true rfl) d_Pl_findStarts_9 (fun H locs hP hD hS => ?_)
  have hP : va_P (dC, dI) cls_ [(pl, .inr (3, [.int (nI sp), .ref ah, .ref ke, .ref kr, .ref sa, .int (nI 1)])), (ah, .inl (ky, 97, .inl (nA Ah))), (kr, .inl (ky, 97, .inl (nA Kr))), (sa, .inl (ky, 98, .inl (nA (upN Sa 0 0)))), (h0, .inr (1, [.ref sy, .int (nI n), .ref fi, .ref ba, .int (lo), .int (hi)])), (sy, .inl (ky, 97, .inl (nA S)))] H := hP
  have hD : va_D A [(pl, .inr (3, [.int (nI sp), .ref ah, .ref ke, .ref kr, .ref sa, .int (nI 1)])), (ah, .inl (ky, 97, .inl (nA Ah))), (kr, .inl (ky, 97, .inl (nA Kr))), (sa, .inl (ky, 98, .inl (nA (upN Sa 0 0)))), (h0, .inr (1, [.ref sy, .int (nI n), .ref fi, .ref ba, .int (lo), .int (hi)])), (sy, .inl (ky, 97, .inl (nA S)))] := hD
  refine lv_aload_n hx hb d_Pl_findStarts_12 rfl (lv_at hl 0 rfl) ?_
  refine va_get (D := (dC, dI)) (ci := 3) (v := .ref kr) (C := R_Pl) (T := F_Pl) (N := 6) hx hb htb in_Pl hown hK hP 0 rfl rfl 3 (by decide) (htb _ tw_116) (fun _ h9 => h9) rfl d_Pl_findStarts_13 ?_
  refine lv_iconst (v := nI 0) hx hb d_Pl_findStarts_16 (by decide) ?_
  refine va_iald hx hb hK hP 2 0 rfl rfl (vp_in_nI (by omega) (by decide)) d_Pl_findStarts_17 ?_
  rw [nI_clamp (by omega)]
  have hb17 := hKr 0
  rw [nA_at]
  refine lv_istore_n hx hb d_Pl_findStarts_18 rfl hl (by decide) rfl (fun ls hl => ?_)
  have hl : lv_has ls 4 [(2, .int (nI (Kr 0))), (0, .ref pl), (1, .ref h0)] := hl
  refine lv_iconst (v := nI 1) hx hb d_Pl_findStarts_19 (by decide) ?_
  refine lv_istore_n hx hb d_Pl_findStarts_20 rfl hl (by decide) rfl (fun ls hl => ?_)
  have hl : lv_has ls 4 [(3, .int (nI 1)), (2, .int (nI (Kr 0))), (0, .ref pl), (1, .ref h0)] := hl
  refine wl_loop (σ := Nat × Nat × Nat × (Nat → Nat)) 21 [] (fun (a_ : Nat × Nat × Nat × (Nat → Nat)) => match a_ with | (p1, rw, sx, Sq) => n - p1) (fun (a_ : Nat × Nat × Nat × (Nat → Nat)) (H : Heap) (locs : List Loc) (ls : Array Slot) => match a_ with | (p1, rw, sx, Sq) => (1 ≤ p1) ∧ (p1 ≤ n) ∧ (rw = R (p1 - 1)) ∧ (sx = nb T (p1 - 1) + 1) ∧ (∀ x, x < nb T (p1 - 1) + 1 → Sq x = gs T nn x) ∧ (∀ k_, Sq k_ < 98) ∧ va_P (dC, dI) cls_ [(pl, .inr (3, [.int (nI sp), .ref ah, .ref ke, .ref kr, .ref sa, .int (nI sx)])), (ah, .inl (ky, 97, .inl (nA Ah))), (kr, .inl (ky, 97, .inl (nA Kr))), (sa, .inl (ky, 98, .inl (nA Sq))), (h0, .inr (1, [.ref sy, .int (nI n), .ref fi, .ref ba, .int (lo), .int (hi)])), (sy, .inl (ky, 97, .inl (nA S)))] H ∧ va_D A [(pl, .inr (3, [.int (nI sp), .ref ah, .ref ke, .ref kr, .ref sa, .int (nI sx)])), (ah, .inl (ky, 97, .inl (nA Ah))), (kr, .inl (ky, 97, .inl (nA Kr))), (sa, .inl (ky, 98, .inl (nA Sq))), (h0, .inr (1, [.ref sy, .int (nI n), .ref fi, .ref ba, .int (lo), .int (hi)])), (sy, .inl (ky, 97, .inl (nA S)))] ∧ va_S A s.heap H locs ∧ lv_has ls 4 [(3, .int (nI p1)), (2, .int (nI rw)), (0, .ref pl), (1, .ref h0)]) ?_ (1, (Kr 0), 1, (upN Sa 0 0)) ⟨(by first | assumption | omega | (simp; done) | (simp_all; done)), (by first | assumption | omega | (simp; done) | (simp_all; done)), (by rw [hk0]), (by rw [nb_0]), (fun x hx => by rw [nb_0] at hx; rw [show x = 0 by omega, upN_s, gs_0]), hu1, hP, hD, hS, lv_sub hl [0, 1, 2, 3] rfl⟩
  clear hP hD hS hl
  intro a_ H locs ls hI ih21
  obtain ⟨p1, rw, sx, Sq⟩ := a_
  obtain ⟨hp1, hp2, hrw, hsx, hSq, hSb, hP, hD, hS, hl⟩ := hI
  have hl : lv_has ls 4 [(3, .int (nI p1)), (2, .int (nI rw)), (0, .ref pl), (1, .ref h0)] := hl
  have hP : va_P (dC, dI) cls_ [(pl, .inr (3, [.int (nI sp), .ref ah, .ref ke, .ref kr, .ref sa, .int (nI sx)])), (ah, .inl (ky, 97, .inl (nA Ah))), (kr, .inl (ky, 97, .inl (nA Kr))), (sa, .inl (ky, 98, .inl (nA Sq))), (h0, .inr (1, [.ref sy, .int (nI n), .ref fi, .ref ba, .int (lo), .int (hi)])), (sy, .inl (ky, 97, .inl (nA S)))] H := hP
  have hD : va_D A [(pl, .inr (3, [.int (nI sp), .ref ah, .ref ke, .ref kr, .ref sa, .int (nI sx)])), (ah, .inl (ky, 97, .inl (nA Ah))), (kr, .inl (ky, 97, .inl (nA Kr))), (sa, .inl (ky, 98, .inl (nA Sq))), (h0, .inr (1, [.ref sy, .int (nI n), .ref fi, .ref ba, .int (lo), .int (hi)])), (sy, .inl (ky, 97, .inl (nA S)))] := hD
  have hp1 : 1 ≤ p1 := hp1
  have hp2 : p1 ≤ n := hp2
  have hrw : rw = R (p1 - 1) := hrw
  have hsx : sx = nb T (p1 - 1) + 1 := hsx
  have hSq : ∀ x, x < nb T (p1 - 1) + 1 → Sq x = gs T nn x := hSq
  have hSb : ∀ k_, Sq k_ < 98 := hSb
  refine lv_iload_n hx hb d_Pl_findStarts_21 rfl (lv_at hl 0 rfl) ?_
  refine lv_aload_n hx hb d_Pl_findStarts_22 rfl (lv_at hl 3 rfl) ?_
  refine va_get (D := (dC, dI)) (ci := 1) (v := .int (nI n)) (C := R_Im) (T := F_Im) (N := 6) hx hb htb in_Im hown hK hP 4 rfl rfl 1 (by decide) (htb _ tw_49) (fun _ h9 => h9) rfl d_Pl_findStarts_23 ?_
  refine lv_icmp_ge (tgt := 72) hx hb d_Pl_findStarts_26 (by decide) (fun hc26 => ?_) (fun hc26 => ?_)
  · skip
    rw [bw_le_nn (by omega) (by omega)] at hc26
    have hnl := nb_le T (p1 - 1)
    have hpe : p1 - 1 = nn := by omega
    rw [hpe] at hsx hSq
    refine lv_aload_n hx hb d_Pl_findStarts_72 rfl (lv_at hl 2 rfl) ?_
    refine va_get (D := (dC, dI)) (ci := 3) (v := .ref sa) (C := R_Pl) (T := F_Pl) (N := 6) hx hb htb in_Pl hown hK hP 0 rfl rfl 4 (by decide) (htb _ tw_117) (fun _ h9 => h9) rfl d_Pl_findStarts_73 ?_
    refine lv_aload_n hx hb d_Pl_findStarts_76 rfl (lv_at hl 2 rfl) ?_
    refine va_get (D := (dC, dI)) (ci := 3) (v := .int (nI sx)) (C := R_Pl) (T := F_Pl) (N := 6) hx hb htb in_Pl hown hK hP 0 rfl rfl 5 (by decide) (htb _ tw_119) (fun _ h9 => h9) rfl d_Pl_findStarts_77 ?_
    refine lv_aload_n hx hb d_Pl_findStarts_80 rfl (lv_at hl 3 rfl) ?_
    refine va_get (D := (dC, dI)) (ci := 1) (v := .int (nI n)) (C := R_Im) (T := F_Im) (N := 6) hx hb htb in_Im hown hK hP 4 rfl rfl 1 (by decide) (htb _ tw_49) (fun _ h9 => h9) rfl d_Pl_findStarts_81 ?_
    refine va_iast hx hb hK hP hD hS 3 0 rfl rfl (vp_in_nI (by omega) (by decide)) d_Pl_findStarts_84 (fun H locs hP hD hS => ?_)
    rw [nI_clamp (by omega)] at hP hD
    rw [nA_upd] at hP hD
    have hu2 : ∀ k_, (upN Sq sx n) k_ < 98 := upN_lt hSb (by omega)
    have hP : va_P (dC, dI) cls_ [(pl, .inr (3, [.int (nI sp), .ref ah, .ref ke, .ref kr, .ref sa, .int (nI sx)])), (ah, .inl (ky, 97, .inl (nA Ah))), (kr, .inl (ky, 97, .inl (nA Kr))), (sa, .inl (ky, 98, .inl (nA (upN Sq sx n)))), (h0, .inr (1, [.ref sy, .int (nI n), .ref fi, .ref ba, .int (lo), .int (hi)])), (sy, .inl (ky, 97, .inl (nA S)))] H := hP
    have hD : va_D A [(pl, .inr (3, [.int (nI sp), .ref ah, .ref ke, .ref kr, .ref sa, .int (nI sx)])), (ah, .inl (ky, 97, .inl (nA Ah))), (kr, .inl (ky, 97, .inl (nA Kr))), (sa, .inl (ky, 98, .inl (nA (upN Sq sx n)))), (h0, .inr (1, [.ref sy, .int (nI n), .ref fi, .ref ba, .int (lo), .int (hi)])), (sy, .inl (ky, 97, .inl (nA S)))] := hD
    have hP9 := hP.sub (ws' := [(pl, .inr (3, [.int (nI sp), .ref ah, .ref ke, .ref kr, .ref sa, .int (nI sx)])), (ah, .inl (ky, 97, .inl (nA Ah))), (kr, .inl (ky, 97, .inl (nA Kr))), (sa, .inl (ky, 98, .inl (nA (upN Sq sx n)))), (h0, .inr (1, [.ref sy, .int (nI n), .ref fi, .ref ba, .int (lo), .int (hi)])), (sy, .inl (ky, 97, .inl (nA S)))]) [0, 1, 2, 3, 4, 5] rfl
    have hD9 := hD.sub (ws' := [(pl, .inr (3, [.int (nI sp), .ref ah, .ref ke, .ref kr, .ref sa, .int (nI sx)])), (ah, .inl (ky, 97, .inl (nA Ah))), (kr, .inl (ky, 97, .inl (nA Kr))), (sa, .inl (ky, 98, .inl (nA (upN Sq sx n)))), (h0, .inr (1, [.ref sy, .int (nI n), .ref fi, .ref ba, .int (lo), .int (hi)])), (sy, .inl (ky, 97, .inl (nA S)))]) [0, 1, 2, 3, 4, 5] (by decide) rfl
    exact W.vret hx hb hr (fun t ht hW => ⟨⟨(sx, (upN Sq sx n)), rfl, ⟨hsx, by rw [hsx, hn1]; exact st_end hSq, by assumption⟩, by rw [ht]; exact hP9, hD9⟩, hS.F ht⟩) hS.2.2 d_Pl_findStarts_85
  · skip
    rw [bw_le_nn (by omega) (by omega)] at hc26
    have hra : Ah rw = R p1 := by rw [hrw, ← prv_p (n := nn) (show 0 < p1 by omega)]; exact hah p1 (by omega)
    have hsy : S (R p1) = T (p1 - 1) := by have h7 := held_sym hSr hIm (show p1 - 1 + 1 < nn + 1 by omega); rw [show p1 - 1 + 1 = p1 by omega] at h7; exact h7
    have hR8 := (hSr.2.1 p1 (by omega)).1
    have hnl := nb_le T (p1 - 1)
    refine lv_aload_n hx hb d_Pl_findStarts_29 rfl (lv_at hl 2 rfl) ?_
    refine va_get (D := (dC, dI)) (ci := 3) (v := .ref ah) (C := R_Pl) (T := F_Pl) (N := 6) hx hb htb in_Pl hown hK hP 0 rfl rfl 1 (by decide) (htb _ tw_113) (fun _ h9 => h9) rfl d_Pl_findStarts_30 ?_
    refine lv_iload_n hx hb d_Pl_findStarts_33 rfl (lv_at hl 1 rfl) ?_
    have hR9 := (hSr.2.1 (p1 - 1) (by omega)).1
    refine va_iald hx hb hK hP 1 0 rfl rfl (vp_in_nI (by omega) (by decide)) d_Pl_findStarts_34 ?_
    rw [nI_clamp (by omega)]
    have hb34 := hAh rw
    rw [nA_at]
    rw [show nI (Ah rw) = nI (R p1) from (by rw [hra])]
    refine lv_istore_n hx hb d_Pl_findStarts_35 rfl hl (by decide) rfl (fun ls hl => ?_)
    have hl : lv_has ls 4 [(2, .int (nI (R p1))), (3, .int (nI p1)), (0, .ref pl), (1, .ref h0)] := hl
    refine lv_aload_n hx hb d_Pl_findStarts_36 rfl (lv_at hl 3 rfl) ?_
    refine va_get (D := (dC, dI)) (ci := 1) (v := .ref sy) (C := R_Im) (T := F_Im) (N := 6) hx hb htb in_Im hown hK hP 4 rfl rfl 0 (by decide) (htb _ tw_47) (fun _ h9 => h9) rfl d_Pl_findStarts_37 ?_
    refine lv_iload_n hx hb d_Pl_findStarts_40 rfl (lv_at hl 0 rfl) ?_
    refine va_iald hx hb hK hP 5 0 rfl rfl (vp_in_nI (by omega) (by decide)) d_Pl_findStarts_41 ?_
    rw [nI_clamp (by omega)]
    have hb41 := hs (R p1)
    rw [nA_at]
    rw [show nI (S (R p1)) = nI (T (p1 - 1)) from (by rw [hsy])]
    refine lv_iconst (v := nI 1) hx hb d_Pl_findStarts_42 (by decide) ?_
    refine lv_icmp_ne (tgt := 66) hx hb d_Pl_findStarts_43 (by decide) (fun hc43 => ?_) (fun hc43 => ?_)
    · skip
      rw [bw_eq_nn (by omega) (by omega)] at hc43
      refine lv_iinc (v := nI (p1 + 1)) (k := 1) hx hb d_Pl_findStarts_66 hl rfl (bw_inc p1 1) (by decide) rfl (fun ls hl => ?_)
      have hl : lv_has ls 4 [(3, .int (nI (p1 + 1))), (2, .int (nI (R p1))), (0, .ref pl), (1, .ref h0)] := hl
      refine lv_goto (tgt := 21) hx hb d_Pl_findStarts_69 (by decide) ?_
      exact ih21 ((p1 + 1), (R p1), sx, Sq) _ _ _ ⟨(by first | assumption | omega | (simp; done) | (simp_all; done)), (by first | assumption | omega | (simp; done) | (simp_all; done)), (by rw [Nat.add_sub_cancel]), (by rw [Nat.add_sub_cancel]; first | (rw [(st_bar hp1 (by omega) hc43 hSq).1]; omega) | (rw [st_no hp1 hc43]; omega)), (by rw [Nat.add_sub_cancel]; first | (rw [(st_bar hp1 (by omega) hc43 hSq).1, hsx]; exact (st_bar hp1 (by omega) hc43 hSq).2) | (rw [st_no hp1 hc43]; exact hSq)), (by assumption), hP, hD, hS, lv_sub hl [0, 1, 2, 3] rfl⟩ (by first | omega | (simp only; omega) | (dsimp only; omega))
    · skip
      rw [bw_eq_nn (by omega) (by omega)] at hc43
      refine lv_aload_n hx hb d_Pl_findStarts_46 rfl (lv_at hl 2 rfl) ?_
      refine va_get (D := (dC, dI)) (ci := 3) (v := .ref sa) (C := R_Pl) (T := F_Pl) (N := 6) hx hb htb in_Pl hown hK hP 0 rfl rfl 4 (by decide) (htb _ tw_117) (fun _ h9 => h9) rfl d_Pl_findStarts_47 ?_
      refine lv_aload_n hx hb d_Pl_findStarts_50 rfl (lv_at hl 2 rfl) ?_
      refine va_get (D := (dC, dI)) (ci := 3) (v := .int (nI sx)) (C := R_Pl) (T := F_Pl) (N := 6) hx hb htb in_Pl hown hK hP 0 rfl rfl 5 (by decide) (htb _ tw_119) (fun _ h9 => h9) rfl d_Pl_findStarts_51 ?_
      refine lv_iload_n hx hb d_Pl_findStarts_54 rfl (lv_at hl 1 rfl) ?_
      refine va_iast hx hb hK hP hD hS 3 0 rfl rfl (vp_in_nI (by omega) (by decide)) d_Pl_findStarts_55 (fun H locs hP hD hS => ?_)
      rw [nI_clamp (by omega)] at hP hD
      rw [nA_upd] at hP hD
      have hu3 : ∀ k_, (upN Sq sx p1) k_ < 98 := upN_lt hSb (by omega)
      have hP : va_P (dC, dI) cls_ [(pl, .inr (3, [.int (nI sp), .ref ah, .ref ke, .ref kr, .ref sa, .int (nI sx)])), (ah, .inl (ky, 97, .inl (nA Ah))), (kr, .inl (ky, 97, .inl (nA Kr))), (sa, .inl (ky, 98, .inl (nA (upN Sq sx p1)))), (h0, .inr (1, [.ref sy, .int (nI n), .ref fi, .ref ba, .int (lo), .int (hi)])), (sy, .inl (ky, 97, .inl (nA S)))] H := hP
      have hD : va_D A [(pl, .inr (3, [.int (nI sp), .ref ah, .ref ke, .ref kr, .ref sa, .int (nI sx)])), (ah, .inl (ky, 97, .inl (nA Ah))), (kr, .inl (ky, 97, .inl (nA Kr))), (sa, .inl (ky, 98, .inl (nA (upN Sq sx p1)))), (h0, .inr (1, [.ref sy, .int (nI n), .ref fi, .ref ba, .int (lo), .int (hi)])), (sy, .inl (ky, 97, .inl (nA S)))] := hD
      refine lv_aload_n hx hb d_Pl_findStarts_56 rfl (lv_at hl 2 rfl) ?_
      refine lv_dup hx hb d_Pl_findStarts_57 rfl ?_
      refine va_get (D := (dC, dI)) (ci := 3) (v := .int (nI sx)) (C := R_Pl) (T := F_Pl) (N := 6) hx hb htb in_Pl hown hK hP 0 rfl rfl 5 (by decide) (htb _ tw_119) (fun _ h9 => h9) rfl d_Pl_findStarts_58 ?_
      refine lv_iconst (v := nI 1) hx hb d_Pl_findStarts_61 (by decide) ?_
      refine lv_iadd hx hb d_Pl_findStarts_62 ?_
      rw [nI_add]
      refine va_put (D := (dC, dI)) (ci := 3) (v := .int (nI (sx + 1))) (ty := .int) (C := R_Pl) (T := F_Pl) (N := 6) hx hb htb in_Pl t_Pl tk_Pl nm_Pl hown hK hP hD hS 0 rfl rfl 5 (by decide) (htb _ tw_119) (fun _ h9 => h9) rfl (by decide +kernel) rfl rfl (Nat.le_of_ble_eq_true rfl) d_Pl_findStarts_63 (fun H locs hP hD hS => ?_)
      have hP : va_P (dC, dI) cls_ [(pl, .inr (3, [.int (nI sp), .ref ah, .ref ke, .ref kr, .ref sa, .int (nI (sx + 1))])), (ah, .inl (ky, 97, .inl (nA Ah))), (kr, .inl (ky, 97, .inl (nA Kr))), (sa, .inl (ky, 98, .inl (nA (upN Sq sx p1)))), (h0, .inr (1, [.ref sy, .int (nI n), .ref fi, .ref ba, .int (lo), .int (hi)])), (sy, .inl (ky, 97, .inl (nA S)))] H := hP
      have hD : va_D A [(pl, .inr (3, [.int (nI sp), .ref ah, .ref ke, .ref kr, .ref sa, .int (nI (sx + 1))])), (ah, .inl (ky, 97, .inl (nA Ah))), (kr, .inl (ky, 97, .inl (nA Kr))), (sa, .inl (ky, 98, .inl (nA (upN Sq sx p1)))), (h0, .inr (1, [.ref sy, .int (nI n), .ref fi, .ref ba, .int (lo), .int (hi)])), (sy, .inl (ky, 97, .inl (nA S)))] := hD
      refine lv_iinc (v := nI (p1 + 1)) (k := 1) hx hb d_Pl_findStarts_66 hl rfl (bw_inc p1 1) (by decide) rfl (fun ls hl => ?_)
      have hl : lv_has ls 4 [(3, .int (nI (p1 + 1))), (2, .int (nI (R p1))), (0, .ref pl), (1, .ref h0)] := hl
      refine lv_goto (tgt := 21) hx hb d_Pl_findStarts_69 (by decide) ?_
      exact ih21 ((p1 + 1), (R p1), (sx + 1), (upN Sq sx p1)) _ _ _ ⟨(by first | assumption | omega | (simp; done) | (simp_all; done)), (by first | assumption | omega | (simp; done) | (simp_all; done)), (by rw [Nat.add_sub_cancel]), (by rw [Nat.add_sub_cancel]; first | (rw [(st_bar hp1 (by omega) hc43 hSq).1]; omega) | (rw [st_no hp1 hc43]; omega)), (by rw [Nat.add_sub_cancel]; first | (rw [(st_bar hp1 (by omega) hc43 hSq).1, hsx]; exact (st_bar hp1 (by omega) hc43 hSq).2) | (rw [st_no hp1 hc43]; exact hSq)), (by assumption), hP, hD, hS, lv_sub hl [0, 1, 2, 3] rfl⟩ (by first | omega | (simp only; omega) | (dsimp only; omega))

set_option maxHeartbeats 4000000 in
set_option maxRecDepth 100000 in
theorem c_Pl_readFrom (l : Launch) (dC : Nat → ClassId) (dI : Nat → Nat → Nat) (ky : ClassId) (sz : Nat) (pl : Nat) (sp : Nat) (ah : Nat) (ke : Nat) (kr : Nat) (sa : Nat) (sq : Nat) (Ah : Nat → Nat) (Ke : Nat → Nat) (Kr : Nat → Nat) (Sa : Nat → Nat) (h0 : Nat) (sy : Nat) (fi : Nat) (ba : Nat) (n : Nat) (lo : Int32) (hi : Int32) (S : Nat → Nat) (F : Nat → Nat) (B1 : Nat → Nat) (T : Nat → Nat) (O : Nat → Nat) (R : Nat → Nat) (nn : Nat) (hsp : 2 ≤ sp ∧ sp ≤ 16) (hAh : ∀ k_, Ah k_ < 97) (hKe : ∀ k_, Ke k_ < 98) (hKr : ∀ k_, Kr k_ < 97) (hSa : ∀ k_, Sa k_ < 98) (hs : ∀ k_, S k_ < 28) (hB1 : ∀ k_, B1 k_ < 97) (hn1 : n = nn + 1) (hT : Txt T nn) (hSr : Srt T nn O R) (hIm : Img S T O nn) (hn : n ≤ 97) (hL : Lnk S F B1 n) : Met l y_Pl_readFrom (Cond.code y_Pl_readFrom prog_5_method_2_code 5 none :: W0) ({ frames := 1, cells := 0, slots := 0, locals := 23 }) (va_Pc [.ref pl, .ref h0] (fun U => U.heap.size = sz ∧ va_P (dC, dI) cls_ [(pl, .inr (3, [.int (nI sp), .ref ah, .ref ke, .ref kr, .ref sa, .int (nI sq)])), (ah, .inl (ky, 97, .inl (nA Ah))), (ke, .inl (ky, 97, .inl (pA Ke))), (kr, .inl (ky, 97, .inl (nA Kr))), (sa, .inl (ky, 98, .inl (nA Sa))), (h0, .inr (1, [.ref sy, .int (nI n), .ref fi, .ref ba, .int (lo), .int (hi)])), (sy, .inl (ky, 97, .inl (nA S))), (ba, .inl (ky, 97, .inl (nA B1)))] U.heap ∧ va_K (dC, dI) cls_ [(ky, .int)] U ∧ va_D (fun _ => True) [(pl, .inr (3, [.int (nI sp), .ref ah, .ref ke, .ref kr, .ref sa, .int (nI sq)])), (ah, .inl (ky, 97, .inl (nA Ah))), (ke, .inl (ky, 97, .inl (pA Ke))), (kr, .inl (ky, 97, .inl (nA Kr))), (sa, .inl (ky, 98, .inl (nA Sa))), (h0, .inr (1, [.ref sy, .int (nI n), .ref fi, .ref ba, .int (lo), .int (hi)])), (sy, .inl (ky, 97, .inl (nA S))), (ba, .inl (ky, 97, .inl (nA B1)))])) (va_Qv (fun (u : (Nat) × (Nat → Nat) × (Nat → Nat) × (Nat → Nat) × (Nat → Nat)) => match u with | (qn, An, Kn, Rn, Sn) => qn = nb T nn + 1 ∧ Kept T O R nn sp An Kn Rn 0 ∧ (∀ x, x < nb T nn + 2 → Sn x = gs T nn x) ∧ (∀ k_, An k_ < 97) ∧ (∀ k_, Kn k_ < 98) ∧ (∀ k_, Rn k_ < 97) ∧ (∀ k_, Sn k_ < 98)) (fun (u : (Nat) × (Nat → Nat) × (Nat → Nat) × (Nat → Nat) × (Nat → Nat)) (t : State) => match u with | (qn, An, Kn, Rn, Sn) => va_P (dC, dI) cls_ [(pl, .inr (3, [.int (nI sp), .ref ah, .ref ke, .ref kr, .ref sa, .int (nI qn)])), (ah, .inl (ky, 97, .inl (nA An))), (ke, .inl (ky, 97, .inl (pA Kn))), (kr, .inl (ky, 97, .inl (nA Rn))), (sa, .inl (ky, 98, .inl (nA Sn))), (h0, .inr (1, [.ref sy, .int (nI n), .ref fi, .ref ba, .int (lo), .int (hi)])), (sy, .inl (ky, 97, .inl (nA S))), (ba, .inl (ky, 97, .inl (nA B1)))] t.heap ∧ va_D (va_A [(pl, .inr (3, [.int (nI sp), .ref ah, .ref ke, .ref kr, .ref sa, .int (nI sq)])), (ah, .inl (ky, 97, .inl (nA Ah))), (ke, .inl (ky, 97, .inl (pA Ke))), (kr, .inl (ky, 97, .inl (nA Kr))), (sa, .inl (ky, 98, .inl (nA Sa))), (h0, .inr (1, [.ref sy, .int (nI n), .ref fi, .ref ba, .int (lo), .int (hi)])), (sy, .inl (ky, 97, .inl (nA S))), (ba, .inl (ky, 97, .inl (nA B1)))] sz) [(pl, .inr (3, [.int (nI sp), .ref ah, .ref ke, .ref kr, .ref sa, .int (nI qn)])), (ah, .inl (ky, 97, .inl (nA An))), (ke, .inl (ky, 97, .inl (pA Kn))), (kr, .inl (ky, 97, .inl (nA Rn))), (sa, .inl (ky, 98, .inl (nA Sn))), (h0, .inr (1, [.ref sy, .int (nI n), .ref fi, .ref ba, .int (lo), .int (hi)])), (sy, .inl (ky, 97, .inl (nA S))), (ba, .inl (ky, 97, .inl (nA B1)))]) (va_A [(pl, .inr (3, [.int (nI sp), .ref ah, .ref ke, .ref kr, .ref sa, .int (nI sq)])), (ah, .inl (ky, 97, .inl (nA Ah))), (ke, .inl (ky, 97, .inl (pA Ke))), (kr, .inl (ky, 97, .inl (nA Kr))), (sa, .inl (ky, 98, .inl (nA Sa))), (h0, .inr (1, [.ref sy, .int (nI n), .ref fi, .ref ba, .int (lo), .int (hi)])), (sy, .inl (ky, 97, .inl (nA S))), (ba, .inl (ky, 97, .inl (nA B1)))] sz)) 0 0 (va_A [(pl, .inr (3, [.int (nI sp), .ref ah, .ref ke, .ref kr, .ref sa, .int (nI sq)])), (ah, .inl (ky, 97, .inl (nA Ah))), (ke, .inl (ky, 97, .inl (pA Ke))), (kr, .inl (ky, 97, .inl (nA Kr))), (sa, .inl (ky, 98, .inl (nA Sa))), (h0, .inr (1, [.ref sy, .int (nI n), .ref fi, .ref ba, .int (lo), .int (hi)])), (sy, .inl (ky, 97, .inl (nA S))), (ba, .inl (ky, 97, .inl (nA B1)))] sz) := by
  refine Met.ofW (cc := prog_5_method_2_code) (maxL := 5) (ret := none) (by decide) rfl ?_
  intro p e s m args below meth c s₁ B hml hv
  obtain ⟨rfl, hsz, hP, hK, hD0⟩ := hv
  have hx := B.exec
  have hb := B.bytes
  have hr := B.returns
  have hlocks := B.notSynchronized
  have hts := atoms_spec (ws := (Cond.code y_Pl_readFrom prog_5_method_2_code 5 none :: W0)) B.pre
  have htb : ∀ w ∈ W0, w.before _ s = true := fun w h => hts w (List.mem_cons_of_mem _ h)
  have hown : s.vm.findClass "SelfIndexedSequences$Places" = some m.cls := findClass_of_methodNamed B.named
  subst hsz
  have hD := hD0.self (sz := s.heap.size)
  generalize hAe : va_A [(pl, .inr (3, [.int (nI sp), .ref ah, .ref ke, .ref kr, .ref sa, .int (nI sq)])), (ah, .inl (ky, 97, .inl (nA Ah))), (ke, .inl (ky, 97, .inl (pA Ke))), (kr, .inl (ky, 97, .inl (nA Kr))), (sa, .inl (ky, 98, .inl (nA Sa))), (h0, .inr (1, [.ref sy, .int (nI n), .ref fi, .ref ba, .int (lo), .int (hi)])), (sy, .inl (ky, 97, .inl (nA S))), (ba, .inl (ky, 97, .inl (nA B1)))] s.heap.size = A at hD ⊢
  have hA : ∀ q : Nat, s.heap.size ≤ q → A q := fun q h => by rw [← hAe]; exact Or.inr h
  have hS : va_S A s.heap s.heap [] := va_S.rf
  have hl := lv_entry ([.ref pl, .ref h0]) (n := 5) (Nat.le_of_ble_eq_true rfl)
  rw [lg_entry_eq]
  generalize (lg_sl ([.ref pl, .ref h0]) ++ List.replicate (5 - (lg_sl ([.ref pl, .ref h0])).length) Slot.unset).toArray = ls at hl ⊢
  have hl : lv_has ls 5 [(0, .ref pl), (1, .ref h0)] := hl
  refine lv_iconst (v := nI 0) hx hb d_Pl_readFrom_0 (by decide) ?_
  refine lv_istore_n hx hb d_Pl_readFrom_1 rfl hl (by decide) rfl (fun ls hl => ?_)
  have hl : lv_has ls 5 [(2, .int (nI 0)), (0, .ref pl), (1, .ref h0)] := hl
  refine lv_aload_n hx hb d_Pl_readFrom_2 rfl (lv_at hl 2 rfl) ?_
  refine va_get (D := (dC, dI)) (ci := 1) (v := .int (nI n)) (C := R_Im) (T := F_Im) (N := 6) hx hb htb in_Im hown hK hP 5 rfl rfl 1 (by decide) (htb _ tw_49) (fun _ h9 => h9) rfl d_Pl_readFrom_3 ?_
  refine lv_iconst (v := nI 1) hx hb d_Pl_readFrom_6 (by decide) ?_
  refine lv_isub hx hb d_Pl_readFrom_7 ?_
  rw [bw_n1 n]
  refine lv_istore_n hx hb d_Pl_readFrom_8 rfl hl (by decide) rfl (fun ls hl => ?_)
  have hl : lv_has ls 5 [(3, .int (nI n - 1)), (2, .int (nI 0)), (0, .ref pl), (1, .ref h0)] := hl
  refine wl_loop (σ := Nat × Nat × (Nat → Nat) × (Nat → Nat) × (Nat → Nat)) 9 [] (fun (a_ : Nat × Nat × (Nat → Nat) × (Nat → Nat) × (Nat → Nat)) => match a_ with | (k, rw, Aq, Kq, Rq) => k) (fun (a_ : Nat × Nat × (Nat → Nat) × (Nat → Nat) × (Nat → Nat)) (H : Heap) (locs : List Loc) (ls : Array Slot) => match a_ with | (k, rw, Aq, Kq, Rq) => (k ≤ n) ∧ (rw = R (prv nn k)) ∧ (Kept T O R nn sp Aq Kq Rq k) ∧ (∀ k_, Aq k_ < 97) ∧ (∀ k_, Kq k_ < 98) ∧ (∀ k_, Rq k_ < 97) ∧ va_P (dC, dI) cls_ [(pl, .inr (3, [.int (nI sp), .ref ah, .ref ke, .ref kr, .ref sa, .int (nI sq)])), (ah, .inl (ky, 97, .inl (nA Aq))), (ke, .inl (ky, 97, .inl (pA Kq))), (kr, .inl (ky, 97, .inl (nA Rq))), (sa, .inl (ky, 98, .inl (nA Sa))), (h0, .inr (1, [.ref sy, .int (nI n), .ref fi, .ref ba, .int (lo), .int (hi)])), (sy, .inl (ky, 97, .inl (nA S))), (ba, .inl (ky, 97, .inl (nA B1)))] H ∧ va_D A [(pl, .inr (3, [.int (nI sp), .ref ah, .ref ke, .ref kr, .ref sa, .int (nI sq)])), (ah, .inl (ky, 97, .inl (nA Aq))), (ke, .inl (ky, 97, .inl (pA Kq))), (kr, .inl (ky, 97, .inl (nA Rq))), (sa, .inl (ky, 98, .inl (nA Sa))), (h0, .inr (1, [.ref sy, .int (nI n), .ref fi, .ref ba, .int (lo), .int (hi)])), (sy, .inl (ky, 97, .inl (nA S))), (ba, .inl (ky, 97, .inl (nA B1)))] ∧ va_S A s.heap H locs ∧ lv_has ls 5 [(3, .int (nI k - 1)), (2, .int (nI rw)), (0, .ref pl), (1, .ref h0)]) ?_ (n, 0, Ah, Ke, Kr) ⟨(by first | assumption | omega | (simp; done) | (simp_all; done)), (by rw [hn1, prv_s, hSr.last hT]), ⟨fun a h1 h2 => by omega, fun a h1 h2 => by omega, fun a h1 h2 => by omega⟩, hAh, hKe, hKr, hP, hD, hS, lv_sub hl [0, 1, 2, 3] rfl⟩
  clear hP hD hS hl
  intro a_ H locs ls hI ih9
  obtain ⟨k, rw, Aq, Kq, Rq⟩ := a_
  obtain ⟨hk, hrw, hKp, hAq, hKq, hRq, hP, hD, hS, hl⟩ := hI
  have hl : lv_has ls 5 [(3, .int (nI k - 1)), (2, .int (nI rw)), (0, .ref pl), (1, .ref h0)] := hl
  have hP : va_P (dC, dI) cls_ [(pl, .inr (3, [.int (nI sp), .ref ah, .ref ke, .ref kr, .ref sa, .int (nI sq)])), (ah, .inl (ky, 97, .inl (nA Aq))), (ke, .inl (ky, 97, .inl (pA Kq))), (kr, .inl (ky, 97, .inl (nA Rq))), (sa, .inl (ky, 98, .inl (nA Sa))), (h0, .inr (1, [.ref sy, .int (nI n), .ref fi, .ref ba, .int (lo), .int (hi)])), (sy, .inl (ky, 97, .inl (nA S))), (ba, .inl (ky, 97, .inl (nA B1)))] H := hP
  have hD : va_D A [(pl, .inr (3, [.int (nI sp), .ref ah, .ref ke, .ref kr, .ref sa, .int (nI sq)])), (ah, .inl (ky, 97, .inl (nA Aq))), (ke, .inl (ky, 97, .inl (pA Kq))), (kr, .inl (ky, 97, .inl (nA Rq))), (sa, .inl (ky, 98, .inl (nA Sa))), (h0, .inr (1, [.ref sy, .int (nI n), .ref fi, .ref ba, .int (lo), .int (hi)])), (sy, .inl (ky, 97, .inl (nA S))), (ba, .inl (ky, 97, .inl (nA B1)))] := hD
  have hk : k ≤ n := hk
  have hrw : rw = R (prv nn k) := hrw
  have hKp : Kept T O R nn sp Aq Kq Rq k := hKp
  have hAq : ∀ k_, Aq k_ < 97 := hAq
  have hKq : ∀ k_, Kq k_ < 98 := hKq
  have hRq : ∀ k_, Rq k_ < 97 := hRq
  refine lv_iload_n hx hb d_Pl_readFrom_9 rfl (lv_at hl 0 rfl) ?_
  refine lv_if_lt (tgt := 87) hx hb d_Pl_readFrom_10 (by decide) (fun hc10 => ?_) (fun hc10 => ?_)
  · skip
    rw [← nI_0, bw_lt_pn (by omega) (by omega)] at hc10
    refine lv_aload_n hx hb d_Pl_readFrom_87 rfl (lv_at hl 2 rfl) ?_
    refine lv_aload_n hx hb d_Pl_readFrom_88 rfl (lv_at hl 3 rfl) ?_
    have hPc := hP.sub (ws' := [(pl, .inr (3, [.int (nI sp), .ref ah, .ref ke, .ref kr, .ref sa, .int (nI sq)])), (ah, .inl (ky, 97, .inl (nA Aq))), (kr, .inl (ky, 97, .inl (nA Rq))), (sa, .inl (ky, 98, .inl (nA Sa))), (h0, .inr (1, [.ref sy, .int (nI n), .ref fi, .ref ba, .int (lo), .int (hi)])), (sy, .inl (ky, 97, .inl (nA S)))]) [0, 1, 3, 4, 5, 6] rfl
    have hDc := hD.sub (ws' := [(pl, .inr (3, [.int (nI sp), .ref ah, .ref ke, .ref kr, .ref sa, .int (nI sq)])), (ah, .inl (ky, 97, .inl (nA Aq))), (kr, .inl (ky, 97, .inl (nA Rq))), (sa, .inl (ky, 98, .inl (nA Sa))), (h0, .inr (1, [.ref sy, .int (nI n), .ref fi, .ref ba, .int (lo), .int (hi)])), (sy, .inl (ky, 97, .inl (nA S)))]) [0, 1, 3, 4, 5, 6] (by decide) rfl
    have hFc := va_free (wc := [(pl, .inr (3, [.int (nI sp), .ref ah, .ref ke, .ref kr, .ref sa, .int (nI sq)])), (ah, .inl (ky, 97, .inl (nA Aq))), (kr, .inl (ky, 97, .inl (nA Rq))), (sa, .inl (ky, 98, .inl (nA Sa))), (h0, .inr (1, [.ref sy, .int (nI n), .ref fi, .ref ba, .int (lo), .int (hi)])), (sy, .inl (ky, 97, .inl (nA S)))]) hD hS hA [0, 1, 3, 4, 5, 6] rfl
    refine va_callv (va_runV (C := "SelfIndexedSequences$Places") (As := [.ref h0]) (rest := []) ⟨hx, hb, hml, hown, hts⟩ (c_Pl_findStarts l dC dI ky H.size pl sp ah ke kr sa sq Aq Rq Sa h0 sy fi ba n lo hi S T O R nn (by first | assumption | omega | (simp; done) | (simp_all; done)) hAq hRq hSa hs (by first | assumption | omega | (simp; done) | (simp_all; done)) (by first | assumption | omega | (simp; done) | (simp_all; done)) (by first | assumption | omega | (simp; done) | (simp_all; done)) (by first | assumption | omega | (simp; done) | (simp_all; done)) (by first | assumption | omega | (simp; done) | (simp_all; done)) (by have := hKp.2.2 0 (by omega) (by omega) (Nat.zero_mod sp); rw [Nat.zero_div] at this; exact this) (fun a ha => hKp.2.1 a (by omega) ha)) ⟨callB_of 1 hts (W0_good tw_212) rfl rfl rfl (htb _ tw_27) (htb _ tw_209) ⟨by decide, by decide, by decide +kernel⟩ ⟨(Nat.le_of_ble_eq_true rfl), (Nat.le_of_ble_eq_true rfl)⟩, htb _ tw_211, htb _ tw_5⟩ ⟨fun a U g mk q => by obtain ⟨q0, q1, qP, qK, qD⟩ := q; exact ⟨q0, q1, qP, va_K.moved (u := U) (U := U.calling g mk a) (Vm.Alike.refl U.vm) qK, qD⟩, va_recv hK hPc (q0 := 0) (q := (R_Pl, F_Pl, 6)) rfl rfl, fun U hU hW => ⟨rfl, by rw [hU], by rw [hU]; exact hPc, va_K.moved hW.alike hK, hDc.weaken (fun _ _ _ _ => trivial)⟩⟩ rfl rfl hl.1 rfl (lv_room (Nat.le_of_ble_eq_true rfl)) d_Pl_readFrom_89 ⟨(Nat.le_of_ble_eq_true rfl), (Nat.le_of_ble_eq_true rfl)⟩) hS (fun q _ h => hFc q h) hFc (fun u_ t H locs ht hvm hw89 hB hz1 hk1 hS => ?_)
    obtain ⟨qn_89, Sn_89⟩ := u_
    obtain ⟨hP1, hD1⟩ := hB
    rw [ht] at hP1
    obtain ⟨hP, hD⟩ := va_join (wr := [(ke, .inl (ky, 97, .inl (pA Kq))), (ba, .inl (ky, 97, .inl (nA B1)))]) (w1 := [(pl, .inr (3, [.int (nI sp), .ref ah, .ref ke, .ref kr, .ref sa, .int (nI qn_89)])), (ah, .inl (ky, 97, .inl (nA Aq))), (kr, .inl (ky, 97, .inl (nA Rq))), (sa, .inl (ky, 98, .inl (nA Sn_89))), (h0, .inr (1, [.ref sy, .int (nI n), .ref fi, .ref ba, .int (lo), .int (hi)])), (sy, .inl (ky, 97, .inl (nA S)))]) hP hD [0, 1, 3, 4, 5, 6] [2, 7] rfl rfl (by decide) (by decide) hk1 hFc hP1 hD1
    have hP : va_P (dC, dI) cls_ [(ke, .inl (ky, 97, .inl (pA Kq))), (ba, .inl (ky, 97, .inl (nA B1))), (pl, .inr (3, [.int (nI sp), .ref ah, .ref ke, .ref kr, .ref sa, .int (nI qn_89)])), (ah, .inl (ky, 97, .inl (nA Aq))), (kr, .inl (ky, 97, .inl (nA Rq))), (sa, .inl (ky, 98, .inl (nA Sn_89))), (h0, .inr (1, [.ref sy, .int (nI n), .ref fi, .ref ba, .int (lo), .int (hi)])), (sy, .inl (ky, 97, .inl (nA S)))] H := hP
    have hD : va_D A [(ke, .inl (ky, 97, .inl (pA Kq))), (ba, .inl (ky, 97, .inl (nA B1))), (pl, .inr (3, [.int (nI sp), .ref ah, .ref ke, .ref kr, .ref sa, .int (nI qn_89)])), (ah, .inl (ky, 97, .inl (nA Aq))), (kr, .inl (ky, 97, .inl (nA Rq))), (sa, .inl (ky, 98, .inl (nA Sn_89))), (h0, .inr (1, [.ref sy, .int (nI n), .ref fi, .ref ba, .int (lo), .int (hi)])), (sy, .inl (ky, 97, .inl (nA S)))] := hD
    have hq89 : qn_89 = nb T nn + 1 ∧ (∀ x, x < nb T nn + 2 → Sn_89 x = gs T nn x) ∧ (∀ k_, Sn_89 k_ < 98) := hw89
    have hP9 := hP.sub (ws' := [(pl, .inr (3, [.int (nI sp), .ref ah, .ref ke, .ref kr, .ref sa, .int (nI qn_89)])), (ah, .inl (ky, 97, .inl (nA Aq))), (ke, .inl (ky, 97, .inl (pA Kq))), (kr, .inl (ky, 97, .inl (nA Rq))), (sa, .inl (ky, 98, .inl (nA Sn_89))), (h0, .inr (1, [.ref sy, .int (nI n), .ref fi, .ref ba, .int (lo), .int (hi)])), (sy, .inl (ky, 97, .inl (nA S))), (ba, .inl (ky, 97, .inl (nA B1)))]) [2, 3, 0, 4, 5, 6, 7, 1] rfl
    have hD9 := hD.sub (ws' := [(pl, .inr (3, [.int (nI sp), .ref ah, .ref ke, .ref kr, .ref sa, .int (nI qn_89)])), (ah, .inl (ky, 97, .inl (nA Aq))), (ke, .inl (ky, 97, .inl (pA Kq))), (kr, .inl (ky, 97, .inl (nA Rq))), (sa, .inl (ky, 98, .inl (nA Sn_89))), (h0, .inr (1, [.ref sy, .int (nI n), .ref fi, .ref ba, .int (lo), .int (hi)])), (sy, .inl (ky, 97, .inl (nA S))), (ba, .inl (ky, 97, .inl (nA B1)))]) [2, 3, 0, 4, 5, 6, 7, 1] (by decide) rfl
    exact W.vret hx hb hr (fun t ht hW => ⟨⟨(qn_89, Aq, Kq, Rq, Sn_89), rfl, ⟨hq89.1, by rw [show 0 = k by omega]; exact hKp, hq89.2.1, hAq, hKq, hRq, hq89.2.2⟩, by rw [ht]; exact hP9, hD9⟩, hS.F ht⟩) hS.2.2 d_Pl_readFrom_92
  · skip
    rw [← nI_0, bw_lt_pn (by omega) (by omega)] at hc10
    rw [bw_pn (show 0 < k by omega)] at hl
    have hl : lv_has ls 5 [(3, .int (nI (k - 1))), (2, .int (nI rw)), (0, .ref pl), (1, .ref h0)] := hl
    have hk1 : rw = R (k - 1) := by rw [hrw, prv_p (by omega)]
    have hR9 := (hSr.2.1 (k - 1) (by omega)).1
    have hbk : B1 rw = R (prv nn (k - 1)) := by rw [hk1]; exact held_back hT hSr hIm (hn1 ▸ hL) (by omega)
    have hR8 := (hSr.2.1 (prv nn (k - 1)) (prv_lt (by omega))).1
    have hmo := Nat.mod_lt (k - 1) (show 0 < sp by omega)
    have hdi := Nat.div_le_self (k - 1) sp
    refine lv_iload_n hx hb d_Pl_readFrom_13 rfl (lv_at hl 0 rfl) ?_
    refine lv_aload_n hx hb d_Pl_readFrom_14 rfl (lv_at hl 2 rfl) ?_
    refine va_get (D := (dC, dI)) (ci := 3) (v := .int (nI sp)) (C := R_Pl) (T := F_Pl) (N := 6) hx hb htb in_Pl hown hK hP 0 rfl rfl 0 (by decide) (htb _ tw_111) (fun _ h9 => h9) rfl d_Pl_readFrom_15 ?_
    refine lv_irem hx hb d_Pl_readFrom_18 (bw_ne0 (by omega) (by omega)) ?_
    rw [pk_rem (by omega) (by omega) (by omega)]
    refine lv_if_ne (tgt := 26) hx hb d_Pl_readFrom_19 (by decide) (fun hc19 => ?_) (fun hc19 => ?_)
    · skip
      rw [← nI_0, bw_eq_nn (by omega) (by omega)] at hc19
      refine lv_iconst (v := nI 0) hx hb d_Pl_readFrom_26 (by decide) ?_
      refine lv_istore hx hb d_Pl_readFrom_27 hl (by decide) rfl (fun ls hl => ?_)
      have hl : lv_has ls 5 [(4, .int (nI 0)), (3, .int (nI (k - 1))), (2, .int (nI rw)), (0, .ref pl), (1, .ref h0)] := hl
      refine lv_aload_n hx hb d_Pl_readFrom_29 rfl (lv_at hl 3 rfl) ?_
      refine va_get (D := (dC, dI)) (ci := 3) (v := .ref ke) (C := R_Pl) (T := F_Pl) (N := 6) hx hb htb in_Pl hown hK hP 0 rfl rfl 2 (by decide) (htb _ tw_115) (fun _ h9 => h9) rfl d_Pl_readFrom_30 ?_
      refine lv_iload_n hx hb d_Pl_readFrom_33 rfl (lv_at hl 2 rfl) ?_
      refine lv_iload hx hb d_Pl_readFrom_34 (lv_at hl 0 rfl) ?_
      refine lv_if_eq (tgt := 43) hx hb d_Pl_readFrom_36 (by decide) (fun hc36 => ?_) (fun hc36 => ?_)
      · skip
        rw [← nI_0, bw_eq_nn (by omega) (by omega)] at hc36
        refine lv_iconst (v := nI 0 - 1) hx hb d_Pl_readFrom_43 (by decide) ?_
        refine va_iast hx hb hK hP hD hS 2 0 rfl rfl (vp_in_nI (by omega) (by decide)) d_Pl_readFrom_44 (fun H locs hP hD hS => ?_)
        rw [nI_clamp (by omega)] at hP hD
        rw [pA_upd] at hP hD
        have hu1 : ∀ k_, (upN Kq rw 0) k_ < 98 := upN_lt hKq (by omega)
        have hP : va_P (dC, dI) cls_ [(pl, .inr (3, [.int (nI sp), .ref ah, .ref ke, .ref kr, .ref sa, .int (nI sq)])), (ah, .inl (ky, 97, .inl (nA Aq))), (ke, .inl (ky, 97, .inl (pA (upN Kq rw 0)))), (kr, .inl (ky, 97, .inl (nA Rq))), (sa, .inl (ky, 98, .inl (nA Sa))), (h0, .inr (1, [.ref sy, .int (nI n), .ref fi, .ref ba, .int (lo), .int (hi)])), (sy, .inl (ky, 97, .inl (nA S))), (ba, .inl (ky, 97, .inl (nA B1)))] H := hP
        have hD : va_D A [(pl, .inr (3, [.int (nI sp), .ref ah, .ref ke, .ref kr, .ref sa, .int (nI sq)])), (ah, .inl (ky, 97, .inl (nA Aq))), (ke, .inl (ky, 97, .inl (pA (upN Kq rw 0)))), (kr, .inl (ky, 97, .inl (nA Rq))), (sa, .inl (ky, 98, .inl (nA Sa))), (h0, .inr (1, [.ref sy, .int (nI n), .ref fi, .ref ba, .int (lo), .int (hi)])), (sy, .inl (ky, 97, .inl (nA S))), (ba, .inl (ky, 97, .inl (nA B1)))] := hD
        refine lv_iload hx hb d_Pl_readFrom_45 (lv_at hl 0 rfl) ?_
        refine lv_if_eq (tgt := 62) hx hb d_Pl_readFrom_47 (by decide) (fun hc47 => ?_) (fun hc47 => ?_)
        · skip
          rw [← nI_0, bw_eq_nn (by omega) (by omega)] at hc47
          refine lv_aload_n hx hb d_Pl_readFrom_62 rfl (lv_at hl 3 rfl) ?_
          refine va_get (D := (dC, dI)) (ci := 3) (v := .ref ah) (C := R_Pl) (T := F_Pl) (N := 6) hx hb htb in_Pl hown hK hP 0 rfl rfl 1 (by decide) (htb _ tw_113) (fun _ h9 => h9) rfl d_Pl_readFrom_63 ?_
          refine lv_aload_n hx hb d_Pl_readFrom_66 rfl (lv_at hl 4 rfl) ?_
          refine va_get (D := (dC, dI)) (ci := 1) (v := .ref ba) (C := R_Im) (T := F_Im) (N := 6) hx hb htb in_Im hown hK hP 5 rfl rfl 3 (by decide) (htb _ tw_54) (fun _ h9 => h9) rfl d_Pl_readFrom_67 ?_
          refine lv_iload_n hx hb d_Pl_readFrom_70 rfl (lv_at hl 2 rfl) ?_
          refine va_iald hx hb hK hP 7 0 rfl rfl (vp_in_nI (by omega) (by decide)) d_Pl_readFrom_71 ?_
          rw [nI_clamp (by omega)]
          have hb71 := hB1 rw
          rw [nA_at]
          rw [show nI (B1 rw) = nI (R (prv nn (k - 1))) from (by rw [hbk])]
          refine lv_iload_n hx hb d_Pl_readFrom_72 rfl (lv_at hl 2 rfl) ?_
          refine va_iast hx hb hK hP hD hS 1 0 rfl rfl (vp_in_nI (by omega) (by decide)) d_Pl_readFrom_73 (fun H locs hP hD hS => ?_)
          rw [nI_clamp (by omega)] at hP hD
          rw [nA_upd] at hP hD
          have hu2 : ∀ k_, (upN Aq (R (prv nn (k - 1))) rw) k_ < 97 := upN_lt hAq (by omega)
          have hP : va_P (dC, dI) cls_ [(pl, .inr (3, [.int (nI sp), .ref ah, .ref ke, .ref kr, .ref sa, .int (nI sq)])), (ah, .inl (ky, 97, .inl (nA (upN Aq (R (prv nn (k - 1))) rw)))), (ke, .inl (ky, 97, .inl (pA (upN Kq rw 0)))), (kr, .inl (ky, 97, .inl (nA Rq))), (sa, .inl (ky, 98, .inl (nA Sa))), (h0, .inr (1, [.ref sy, .int (nI n), .ref fi, .ref ba, .int (lo), .int (hi)])), (sy, .inl (ky, 97, .inl (nA S))), (ba, .inl (ky, 97, .inl (nA B1)))] H := hP
          have hD : va_D A [(pl, .inr (3, [.int (nI sp), .ref ah, .ref ke, .ref kr, .ref sa, .int (nI sq)])), (ah, .inl (ky, 97, .inl (nA (upN Aq (R (prv nn (k - 1))) rw)))), (ke, .inl (ky, 97, .inl (pA (upN Kq rw 0)))), (kr, .inl (ky, 97, .inl (nA Rq))), (sa, .inl (ky, 98, .inl (nA Sa))), (h0, .inr (1, [.ref sy, .int (nI n), .ref fi, .ref ba, .int (lo), .int (hi)])), (sy, .inl (ky, 97, .inl (nA S))), (ba, .inl (ky, 97, .inl (nA B1)))] := hD
          refine lv_aload_n hx hb d_Pl_readFrom_74 rfl (lv_at hl 4 rfl) ?_
          refine va_get (D := (dC, dI)) (ci := 1) (v := .ref ba) (C := R_Im) (T := F_Im) (N := 6) hx hb htb in_Im hown hK hP 5 rfl rfl 3 (by decide) (htb _ tw_54) (fun _ h9 => h9) rfl d_Pl_readFrom_75 ?_
          refine lv_iload_n hx hb d_Pl_readFrom_78 rfl (lv_at hl 2 rfl) ?_
          refine va_iald hx hb hK hP 7 0 rfl rfl (vp_in_nI (by omega) (by decide)) d_Pl_readFrom_79 ?_
          rw [nI_clamp (by omega)]
          have hb79 := hB1 rw
          rw [nA_at]
          rw [show nI (B1 rw) = nI (R (prv nn (k - 1))) from (by rw [hbk])]
          refine lv_istore_n hx hb d_Pl_readFrom_80 rfl hl (by decide) rfl (fun ls hl => ?_)
          have hl : lv_has ls 5 [(2, .int (nI (R (prv nn (k - 1))))), (4, .int (nI 0)), (3, .int (nI (k - 1))), (0, .ref pl), (1, .ref h0)] := hl
          refine lv_iinc (v := nI (k - 1) - 1) (k := 2) hx hb d_Pl_readFrom_81 hl rfl (bw_dec (k - 1)) (by decide) rfl (fun ls hl => ?_)
          have hl : lv_has ls 5 [(3, .int (nI (k - 1) - 1)), (2, .int (nI (R (prv nn (k - 1))))), (4, .int (nI 0)), (0, .ref pl), (1, .ref h0)] := hl
          refine lv_goto (tgt := 9) hx hb d_Pl_readFrom_84 (by decide) ?_
          exact ih9 ((k - 1), (R (prv nn (k - 1))), (upN Aq (R (prv nn (k - 1))) rw), (upN Kq rw 0), Rq) _ _ _ ⟨(by first | assumption | omega | (simp; done) | (simp_all; done)), rfl, (by first | exact kp_y hSr (by omega) (by omega) (by omega) (by assumption) hk1 hKp | exact kp_n hSr (by omega) (by omega) (by assumption) hk1 hKp), (by assumption), (by assumption), (by assumption), hP, hD, hS, lv_sub hl [0, 1, 3, 4] rfl⟩ (by first | omega | (simp only; omega) | (dsimp only; omega))
        · exact absurd hc47 (by decide)
      · exact absurd hc36 (by decide)
    · skip
      rw [← nI_0, bw_eq_nn (by omega) (by omega)] at hc19
      refine lv_iconst (v := nI 1) hx hb d_Pl_readFrom_22 (by decide) ?_
      refine lv_goto (tgt := 27) hx hb d_Pl_readFrom_23 (by decide) ?_
      refine lv_istore hx hb d_Pl_readFrom_27 hl (by decide) rfl (fun ls hl => ?_)
      have hl : lv_has ls 5 [(4, .int (nI 1)), (3, .int (nI (k - 1))), (2, .int (nI rw)), (0, .ref pl), (1, .ref h0)] := hl
      refine lv_aload_n hx hb d_Pl_readFrom_29 rfl (lv_at hl 3 rfl) ?_
      refine va_get (D := (dC, dI)) (ci := 3) (v := .ref ke) (C := R_Pl) (T := F_Pl) (N := 6) hx hb htb in_Pl hown hK hP 0 rfl rfl 2 (by decide) (htb _ tw_115) (fun _ h9 => h9) rfl d_Pl_readFrom_30 ?_
      refine lv_iload_n hx hb d_Pl_readFrom_33 rfl (lv_at hl 2 rfl) ?_
      refine lv_iload hx hb d_Pl_readFrom_34 (lv_at hl 0 rfl) ?_
      refine lv_if_eq (tgt := 43) hx hb d_Pl_readFrom_36 (by decide) (fun hc36 => ?_) (fun hc36 => ?_)
      · exact absurd hc36 (by decide)
      · skip
        rw [← nI_0, bw_eq_nn (by omega) (by omega)] at hc36
        refine lv_iload_n hx hb d_Pl_readFrom_39 rfl (lv_at hl 1 rfl) ?_
        refine lv_goto (tgt := 44) hx hb d_Pl_readFrom_40 (by decide) ?_
        rw [← nI_pred (k - 1)]
        refine va_iast hx hb hK hP hD hS 2 0 rfl rfl (vp_in_nI (by omega) (by decide)) d_Pl_readFrom_44 (fun H locs hP hD hS => ?_)
        rw [nI_clamp (by omega)] at hP hD
        rw [pA_upd] at hP hD
        have hu3 : ∀ k_, (upN Kq rw (k - 1 + 1)) k_ < 98 := upN_lt hKq (by omega)
        have hP : va_P (dC, dI) cls_ [(pl, .inr (3, [.int (nI sp), .ref ah, .ref ke, .ref kr, .ref sa, .int (nI sq)])), (ah, .inl (ky, 97, .inl (nA Aq))), (ke, .inl (ky, 97, .inl (pA (upN Kq rw (k - 1 + 1))))), (kr, .inl (ky, 97, .inl (nA Rq))), (sa, .inl (ky, 98, .inl (nA Sa))), (h0, .inr (1, [.ref sy, .int (nI n), .ref fi, .ref ba, .int (lo), .int (hi)])), (sy, .inl (ky, 97, .inl (nA S))), (ba, .inl (ky, 97, .inl (nA B1)))] H := hP
        have hD : va_D A [(pl, .inr (3, [.int (nI sp), .ref ah, .ref ke, .ref kr, .ref sa, .int (nI sq)])), (ah, .inl (ky, 97, .inl (nA Aq))), (ke, .inl (ky, 97, .inl (pA (upN Kq rw (k - 1 + 1))))), (kr, .inl (ky, 97, .inl (nA Rq))), (sa, .inl (ky, 98, .inl (nA Sa))), (h0, .inr (1, [.ref sy, .int (nI n), .ref fi, .ref ba, .int (lo), .int (hi)])), (sy, .inl (ky, 97, .inl (nA S))), (ba, .inl (ky, 97, .inl (nA B1)))] := hD
        refine lv_iload hx hb d_Pl_readFrom_45 (lv_at hl 0 rfl) ?_
        refine lv_if_eq (tgt := 62) hx hb d_Pl_readFrom_47 (by decide) (fun hc47 => ?_) (fun hc47 => ?_)
        · exact absurd hc47 (by decide)
        · skip
          rw [← nI_0, bw_eq_nn (by omega) (by omega)] at hc47
          refine lv_aload_n hx hb d_Pl_readFrom_50 rfl (lv_at hl 3 rfl) ?_
          refine va_get (D := (dC, dI)) (ci := 3) (v := .ref kr) (C := R_Pl) (T := F_Pl) (N := 6) hx hb htb in_Pl hown hK hP 0 rfl rfl 3 (by decide) (htb _ tw_116) (fun _ h9 => h9) rfl d_Pl_readFrom_51 ?_
          refine lv_iload_n hx hb d_Pl_readFrom_54 rfl (lv_at hl 1 rfl) ?_
          refine lv_aload_n hx hb d_Pl_readFrom_55 rfl (lv_at hl 3 rfl) ?_
          refine va_get (D := (dC, dI)) (ci := 3) (v := .int (nI sp)) (C := R_Pl) (T := F_Pl) (N := 6) hx hb htb in_Pl hown hK hP 0 rfl rfl 0 (by decide) (htb _ tw_111) (fun _ h9 => h9) rfl d_Pl_readFrom_56 ?_
          refine lv_idiv hx hb d_Pl_readFrom_59 (bw_ne0 (by omega) (by omega)) ?_
          rw [pk_div (by omega) (by omega) (by omega)]
          refine lv_iload_n hx hb d_Pl_readFrom_60 rfl (lv_at hl 2 rfl) ?_
          refine va_iast hx hb hK hP hD hS 3 0 rfl rfl (vp_in_nI (by omega) (by decide)) d_Pl_readFrom_61 (fun H locs hP hD hS => ?_)
          rw [nI_clamp (by omega)] at hP hD
          rw [nA_upd] at hP hD
          have hu4 : ∀ k_, (upN Rq ((k - 1) / sp) rw) k_ < 97 := upN_lt hRq (by omega)
          have hP : va_P (dC, dI) cls_ [(pl, .inr (3, [.int (nI sp), .ref ah, .ref ke, .ref kr, .ref sa, .int (nI sq)])), (ah, .inl (ky, 97, .inl (nA Aq))), (ke, .inl (ky, 97, .inl (pA (upN Kq rw (k - 1 + 1))))), (kr, .inl (ky, 97, .inl (nA (upN Rq ((k - 1) / sp) rw)))), (sa, .inl (ky, 98, .inl (nA Sa))), (h0, .inr (1, [.ref sy, .int (nI n), .ref fi, .ref ba, .int (lo), .int (hi)])), (sy, .inl (ky, 97, .inl (nA S))), (ba, .inl (ky, 97, .inl (nA B1)))] H := hP
          have hD : va_D A [(pl, .inr (3, [.int (nI sp), .ref ah, .ref ke, .ref kr, .ref sa, .int (nI sq)])), (ah, .inl (ky, 97, .inl (nA Aq))), (ke, .inl (ky, 97, .inl (pA (upN Kq rw (k - 1 + 1))))), (kr, .inl (ky, 97, .inl (nA (upN Rq ((k - 1) / sp) rw)))), (sa, .inl (ky, 98, .inl (nA Sa))), (h0, .inr (1, [.ref sy, .int (nI n), .ref fi, .ref ba, .int (lo), .int (hi)])), (sy, .inl (ky, 97, .inl (nA S))), (ba, .inl (ky, 97, .inl (nA B1)))] := hD
          refine lv_aload_n hx hb d_Pl_readFrom_62 rfl (lv_at hl 3 rfl) ?_
          refine va_get (D := (dC, dI)) (ci := 3) (v := .ref ah) (C := R_Pl) (T := F_Pl) (N := 6) hx hb htb in_Pl hown hK hP 0 rfl rfl 1 (by decide) (htb _ tw_113) (fun _ h9 => h9) rfl d_Pl_readFrom_63 ?_
          refine lv_aload_n hx hb d_Pl_readFrom_66 rfl (lv_at hl 4 rfl) ?_
          refine va_get (D := (dC, dI)) (ci := 1) (v := .ref ba) (C := R_Im) (T := F_Im) (N := 6) hx hb htb in_Im hown hK hP 5 rfl rfl 3 (by decide) (htb _ tw_54) (fun _ h9 => h9) rfl d_Pl_readFrom_67 ?_
          refine lv_iload_n hx hb d_Pl_readFrom_70 rfl (lv_at hl 2 rfl) ?_
          refine va_iald hx hb hK hP 7 0 rfl rfl (vp_in_nI (by omega) (by decide)) d_Pl_readFrom_71 ?_
          rw [nI_clamp (by omega)]
          have hb71 := hB1 rw
          rw [nA_at]
          rw [show nI (B1 rw) = nI (R (prv nn (k - 1))) from (by rw [hbk])]
          refine lv_iload_n hx hb d_Pl_readFrom_72 rfl (lv_at hl 2 rfl) ?_
          refine va_iast hx hb hK hP hD hS 1 0 rfl rfl (vp_in_nI (by omega) (by decide)) d_Pl_readFrom_73 (fun H locs hP hD hS => ?_)
          rw [nI_clamp (by omega)] at hP hD
          rw [nA_upd] at hP hD
          have hu5 : ∀ k_, (upN Aq (R (prv nn (k - 1))) rw) k_ < 97 := upN_lt hAq (by omega)
          have hP : va_P (dC, dI) cls_ [(pl, .inr (3, [.int (nI sp), .ref ah, .ref ke, .ref kr, .ref sa, .int (nI sq)])), (ah, .inl (ky, 97, .inl (nA (upN Aq (R (prv nn (k - 1))) rw)))), (ke, .inl (ky, 97, .inl (pA (upN Kq rw (k - 1 + 1))))), (kr, .inl (ky, 97, .inl (nA (upN Rq ((k - 1) / sp) rw)))), (sa, .inl (ky, 98, .inl (nA Sa))), (h0, .inr (1, [.ref sy, .int (nI n), .ref fi, .ref ba, .int (lo), .int (hi)])), (sy, .inl (ky, 97, .inl (nA S))), (ba, .inl (ky, 97, .inl (nA B1)))] H := hP
          have hD : va_D A [(pl, .inr (3, [.int (nI sp), .ref ah, .ref ke, .ref kr, .ref sa, .int (nI sq)])), (ah, .inl (ky, 97, .inl (nA (upN Aq (R (prv nn (k - 1))) rw)))), (ke, .inl (ky, 97, .inl (pA (upN Kq rw (k - 1 + 1))))), (kr, .inl (ky, 97, .inl (nA (upN Rq ((k - 1) / sp) rw)))), (sa, .inl (ky, 98, .inl (nA Sa))), (h0, .inr (1, [.ref sy, .int (nI n), .ref fi, .ref ba, .int (lo), .int (hi)])), (sy, .inl (ky, 97, .inl (nA S))), (ba, .inl (ky, 97, .inl (nA B1)))] := hD
          refine lv_aload_n hx hb d_Pl_readFrom_74 rfl (lv_at hl 4 rfl) ?_
          refine va_get (D := (dC, dI)) (ci := 1) (v := .ref ba) (C := R_Im) (T := F_Im) (N := 6) hx hb htb in_Im hown hK hP 5 rfl rfl 3 (by decide) (htb _ tw_54) (fun _ h9 => h9) rfl d_Pl_readFrom_75 ?_
          refine lv_iload_n hx hb d_Pl_readFrom_78 rfl (lv_at hl 2 rfl) ?_
          refine va_iald hx hb hK hP 7 0 rfl rfl (vp_in_nI (by omega) (by decide)) d_Pl_readFrom_79 ?_
          rw [nI_clamp (by omega)]
          have hb79 := hB1 rw
          rw [nA_at]
          rw [show nI (B1 rw) = nI (R (prv nn (k - 1))) from (by rw [hbk])]
          refine lv_istore_n hx hb d_Pl_readFrom_80 rfl hl (by decide) rfl (fun ls hl => ?_)
          have hl : lv_has ls 5 [(2, .int (nI (R (prv nn (k - 1))))), (4, .int (nI 1)), (3, .int (nI (k - 1))), (0, .ref pl), (1, .ref h0)] := hl
          refine lv_iinc (v := nI (k - 1) - 1) (k := 2) hx hb d_Pl_readFrom_81 hl rfl (bw_dec (k - 1)) (by decide) rfl (fun ls hl => ?_)
          have hl : lv_has ls 5 [(3, .int (nI (k - 1) - 1)), (2, .int (nI (R (prv nn (k - 1))))), (4, .int (nI 1)), (0, .ref pl), (1, .ref h0)] := hl
          refine lv_goto (tgt := 9) hx hb d_Pl_readFrom_84 (by decide) ?_
          exact ih9 ((k - 1), (R (prv nn (k - 1))), (upN Aq (R (prv nn (k - 1))) rw), (upN Kq rw (k - 1 + 1)), (upN Rq ((k - 1) / sp) rw)) _ _ _ ⟨(by first | assumption | omega | (simp; done) | (simp_all; done)), rfl, (by first | exact kp_y hSr (by omega) (by omega) (by omega) (by assumption) hk1 hKp | exact kp_n hSr (by omega) (by omega) (by assumption) hk1 hKp), (by assumption), (by assumption), (by assumption), hP, hD, hS, lv_sub hl [0, 1, 3, 4] rfl⟩ (by first | omega | (simp only; omega) | (dsimp only; omega))

set_option maxHeartbeats 4000000 in
set_option maxRecDepth 100000 in
theorem c_Pl_ofRow (l : Launch) (dC : Nat → ClassId) (dI : Nat → Nat → Nat) (ky : ClassId) (sz : Nat) (pl : Nat) (sp : Nat) (ah : Nat) (ke : Nat) (kr : Nat) (sa : Nat) (sq : Nat) (Ke : Nat → Nat) (h0 : Nat) (sy : Nat) (fi : Nat) (ba : Nat) (n : Nat) (lo : Int32) (hi : Int32) (S : Nat → Nat) (F : Nat → Nat) (B1 : Nat → Nat) (Ah : Nat → Nat) (Kr : Nat → Nat) (T : Nat → Nat) (O : Nat → Nat) (R : Nat → Nat) (nn : Nat) (rx : Nat) (hsp : 2 ≤ sp ∧ sp ≤ 16) (hKe : ∀ k_, Ke k_ < 98) (hB1 : ∀ k_, B1 k_ < 97) (hn1 : n = nn + 1) (hT : Txt T nn) (hSr : Srt T nn O R) (hIm : Img S T O nn) (hn : n ≤ 97) (hL : Lnk S F B1 n) (hKp : Kept T O R nn sp Ah Ke Kr 0) (hrx : rx < n) : Met l y_Pl_ofRow (Cond.code y_Pl_ofRow prog_5_method_4_code 5 (some .int) :: W0) ({ frames := 0, cells := 0, slots := 0, locals := 0 }) (va_Pc [.ref pl, .ref h0, .int (nI rx)] (fun U => U.heap.size = sz ∧ va_P (dC, dI) cls_ [(pl, .inr (3, [.int (nI sp), .ref ah, .ref ke, .ref kr, .ref sa, .int (nI sq)])), (ke, .inl (ky, 97, .inl (pA Ke))), (h0, .inr (1, [.ref sy, .int (nI n), .ref fi, .ref ba, .int (lo), .int (hi)])), (ba, .inl (ky, 97, .inl (nA B1)))] U.heap ∧ va_K (dC, dI) cls_ [(ky, .int)] U ∧ va_D (fun _ => True) [(pl, .inr (3, [.int (nI sp), .ref ah, .ref ke, .ref kr, .ref sa, .int (nI sq)])), (ke, .inl (ky, 97, .inl (pA Ke))), (h0, .inr (1, [.ref sy, .int (nI n), .ref fi, .ref ba, .int (lo), .int (hi)])), (ba, .inl (ky, 97, .inl (nA B1)))])) (va_Qi (fun (r : Int32) (_ : Unit) => r = nI (O rx) ∧ (True)) (fun (_ : Unit) (t : State) => va_P (dC, dI) cls_ [(pl, .inr (3, [.int (nI sp), .ref ah, .ref ke, .ref kr, .ref sa, .int (nI sq)])), (ke, .inl (ky, 97, .inl (pA Ke))), (h0, .inr (1, [.ref sy, .int (nI n), .ref fi, .ref ba, .int (lo), .int (hi)])), (ba, .inl (ky, 97, .inl (nA B1)))] t.heap ∧ va_D (va_A [(pl, .inr (3, [.int (nI sp), .ref ah, .ref ke, .ref kr, .ref sa, .int (nI sq)])), (ke, .inl (ky, 97, .inl (pA Ke))), (h0, .inr (1, [.ref sy, .int (nI n), .ref fi, .ref ba, .int (lo), .int (hi)])), (ba, .inl (ky, 97, .inl (nA B1)))] sz) [(pl, .inr (3, [.int (nI sp), .ref ah, .ref ke, .ref kr, .ref sa, .int (nI sq)])), (ke, .inl (ky, 97, .inl (pA Ke))), (h0, .inr (1, [.ref sy, .int (nI n), .ref fi, .ref ba, .int (lo), .int (hi)])), (ba, .inl (ky, 97, .inl (nA B1)))]) (va_A [(pl, .inr (3, [.int (nI sp), .ref ah, .ref ke, .ref kr, .ref sa, .int (nI sq)])), (ke, .inl (ky, 97, .inl (pA Ke))), (h0, .inr (1, [.ref sy, .int (nI n), .ref fi, .ref ba, .int (lo), .int (hi)])), (ba, .inl (ky, 97, .inl (nA B1)))] sz)) 0 0 (va_A [(pl, .inr (3, [.int (nI sp), .ref ah, .ref ke, .ref kr, .ref sa, .int (nI sq)])), (ke, .inl (ky, 97, .inl (pA Ke))), (h0, .inr (1, [.ref sy, .int (nI n), .ref fi, .ref ba, .int (lo), .int (hi)])), (ba, .inl (ky, 97, .inl (nA B1)))] sz) := by
  refine Met.ofW (cc := prog_5_method_4_code) (maxL := 5) (ret := (some .int)) (by decide) rfl ?_
  intro p e s m args below meth c s₁ B hml hv
  obtain ⟨rfl, hsz, hP, hK, hD0⟩ := hv
  have hx := B.exec
  have hb := B.bytes
  have hr := B.returns
  have hlocks := B.notSynchronized
  have hts := atoms_spec (ws := (Cond.code y_Pl_ofRow prog_5_method_4_code 5 (some .int) :: W0)) B.pre
  have htb : ∀ w ∈ W0, w.before _ s = true := fun w h => hts w (List.mem_cons_of_mem _ h)
  have hown : s.vm.findClass "SelfIndexedSequences$Places" = some m.cls := findClass_of_methodNamed B.named
  subst hsz
  have hD := hD0.self (sz := s.heap.size)
  generalize hAe : va_A [(pl, .inr (3, [.int (nI sp), .ref ah, .ref ke, .ref kr, .ref sa, .int (nI sq)])), (ke, .inl (ky, 97, .inl (pA Ke))), (h0, .inr (1, [.ref sy, .int (nI n), .ref fi, .ref ba, .int (lo), .int (hi)])), (ba, .inl (ky, 97, .inl (nA B1)))] s.heap.size = A at hD ⊢
  have hA : ∀ q : Nat, s.heap.size ≤ q → A q := fun q h => by rw [← hAe]; exact Or.inr h
  have hS : va_S A s.heap s.heap [] := va_S.rf
  have hl := lv_entry ([.ref pl, .ref h0, .int (nI rx)]) (n := 5) (Nat.le_of_ble_eq_true rfl)
  rw [lg_entry_eq]
  generalize (lg_sl ([.ref pl, .ref h0, .int (nI rx)]) ++ List.replicate (5 - (lg_sl ([.ref pl, .ref h0, .int (nI rx)])).length) Slot.unset).toArray = ls at hl ⊢
  have hl : lv_has ls 5 [(0, .ref pl), (1, .ref h0), (2, .int (nI rx))] := hl
  refine lv_iload_n hx hb d_Pl_ofRow_0 rfl (lv_at hl 2 rfl) ?_
  refine lv_istore_n hx hb d_Pl_ofRow_1 rfl hl (by decide) rfl (fun ls hl => ?_)
  have hl : lv_has ls 5 [(3, .int (nI rx)), (0, .ref pl), (1, .ref h0), (2, .int (nI rx))] := hl
  refine lv_iconst (v := nI 0) hx hb d_Pl_ofRow_2 (by decide) ?_
  refine lv_istore hx hb d_Pl_ofRow_3 hl (by decide) rfl (fun ls hl => ?_)
  have hl : lv_has ls 5 [(4, .int (nI 0)), (3, .int (nI rx)), (0, .ref pl), (1, .ref h0), (2, .int (nI rx))] := hl
  refine wl_loop (σ := Nat × Nat) 5 [] (fun (a_ : Nat × Nat) => match a_ with | (ar, sx) => O rx - sx) (fun (a_ : Nat × Nat) (H : Heap) (locs : List Loc) (ls : Array Slot) => match a_ with | (ar, sx) => (sx ≤ O rx % sp) ∧ (ar = R (O rx - sx)) ∧ va_P (dC, dI) cls_ [(pl, .inr (3, [.int (nI sp), .ref ah, .ref ke, .ref kr, .ref sa, .int (nI sq)])), (ke, .inl (ky, 97, .inl (pA Ke))), (h0, .inr (1, [.ref sy, .int (nI n), .ref fi, .ref ba, .int (lo), .int (hi)])), (ba, .inl (ky, 97, .inl (nA B1)))] H ∧ va_D A [(pl, .inr (3, [.int (nI sp), .ref ah, .ref ke, .ref kr, .ref sa, .int (nI sq)])), (ke, .inl (ky, 97, .inl (pA Ke))), (h0, .inr (1, [.ref sy, .int (nI n), .ref fi, .ref ba, .int (lo), .int (hi)])), (ba, .inl (ky, 97, .inl (nA B1)))] ∧ va_S A s.heap H locs ∧ lv_has ls 5 [(3, .int (nI ar)), (4, .int (nI sx)), (0, .ref pl), (1, .ref h0)]) ?_ (rx, 0) ⟨(by first | assumption | omega | (simp; done) | (simp_all; done)), (by rw [Nat.sub_zero, (hSr.1 rx (by omega)).2]), hP, hD, hS, lv_sub hl [1, 0, 2, 3] rfl⟩
  clear hP hD hS hl
  intro a_ H locs ls hI ih5
  obtain ⟨ar, sx⟩ := a_
  obtain ⟨hsx, har, hP, hD, hS, hl⟩ := hI
  have hl : lv_has ls 5 [(3, .int (nI ar)), (4, .int (nI sx)), (0, .ref pl), (1, .ref h0)] := hl
  have hP : va_P (dC, dI) cls_ [(pl, .inr (3, [.int (nI sp), .ref ah, .ref ke, .ref kr, .ref sa, .int (nI sq)])), (ke, .inl (ky, 97, .inl (pA Ke))), (h0, .inr (1, [.ref sy, .int (nI n), .ref fi, .ref ba, .int (lo), .int (hi)])), (ba, .inl (ky, 97, .inl (nA B1)))] H := hP
  have hD : va_D A [(pl, .inr (3, [.int (nI sp), .ref ah, .ref ke, .ref kr, .ref sa, .int (nI sq)])), (ke, .inl (ky, 97, .inl (pA Ke))), (h0, .inr (1, [.ref sy, .int (nI n), .ref fi, .ref ba, .int (lo), .int (hi)])), (ba, .inl (ky, 97, .inl (nA B1)))] := hD
  have hsx : sx ≤ O rx % sp := hsx
  have har : ar = R (O rx - sx) := har
  have hO9 := (hSr.1 rx (by omega)).1
  have hm9 := Nat.mod_lt (O rx) (show 0 < sp by omega)
  have hm8 := Nat.mod_le (O rx) sp
  have hR9 := (hSr.2.1 (O rx - sx) (by omega)).1
  have hK9 : Ke ar = if (O rx - sx) % sp = 0 then O rx - sx + 1 else 0 := by rw [har]; exact hKp.1 _ (by omega) (by omega)
  refine lv_iload hx hb d_Pl_ofRow_5 (lv_at hl 1 rfl) ?_
  refine lv_aload_n hx hb d_Pl_ofRow_7 rfl (lv_at hl 2 rfl) ?_
  refine va_get (D := (dC, dI)) (ci := 3) (v := .int (nI sp)) (C := R_Pl) (T := F_Pl) (N := 6) hx hb htb in_Pl hown hK hP 0 rfl rfl 0 (by decide) (htb _ tw_111) (fun _ h9 => h9) rfl d_Pl_ofRow_8 ?_
  refine lv_icmp_ge (tgt := 37) hx hb d_Pl_ofRow_11 (by decide) (fun hc11 => ?_) (fun hc11 => ?_)
  · skip
    rw [bw_le_nn (by omega) (by omega)] at hc11
    exact absurd hc11 (by omega)
  · skip
    rw [bw_le_nn (by omega) (by omega)] at hc11
    refine lv_aload_n hx hb d_Pl_ofRow_14 rfl (lv_at hl 2 rfl) ?_
    refine va_get (D := (dC, dI)) (ci := 3) (v := .ref ke) (C := R_Pl) (T := F_Pl) (N := 6) hx hb htb in_Pl hown hK hP 0 rfl rfl 2 (by decide) (htb _ tw_115) (fun _ h9 => h9) rfl d_Pl_ofRow_15 ?_
    refine lv_iload_n hx hb d_Pl_ofRow_18 rfl (lv_at hl 0 rfl) ?_
    refine va_iald hx hb hK hP 1 0 rfl rfl (vp_in_nI (by omega) (by decide)) d_Pl_ofRow_19 ?_
    rw [nI_clamp (by omega)]
    have hb19 := hKe ar
    rw [pA_at]
    refine lv_iconst (v := nI 0 - 1) hx hb d_Pl_ofRow_20 (by decide) ?_
    refine lv_icmp_ne (tgt := 37) hx hb d_Pl_ofRow_21 (by decide) (fun hc21 => ?_) (fun hc21 => ?_)
    · skip
      rw [bw_eq_pp (by omega) (by omega)] at hc21
      refine lv_aload_n hx hb d_Pl_ofRow_37 rfl (lv_at hl 2 rfl) ?_
      refine va_get (D := (dC, dI)) (ci := 3) (v := .ref ke) (C := R_Pl) (T := F_Pl) (N := 6) hx hb htb in_Pl hown hK hP 0 rfl rfl 2 (by decide) (htb _ tw_115) (fun _ h9 => h9) rfl d_Pl_ofRow_38 ?_
      refine lv_iload_n hx hb d_Pl_ofRow_41 rfl (lv_at hl 0 rfl) ?_
      refine va_iald hx hb hK hP 1 0 rfl rfl (vp_in_nI (by omega) (by decide)) d_Pl_ofRow_42 ?_
      rw [nI_clamp (by omega)]
      have hb42 := hKe ar
      rw [pA_at]
      refine lv_iload hx hb d_Pl_ofRow_43 (lv_at hl 1 rfl) ?_
      refine lv_iadd hx hb d_Pl_ofRow_45 ?_
      rw [bw_add_pn (Ke ar) sx]
      have hK8 := kp_if hK9 (by omega)
      have hP9 := hP.sub (ws' := [(pl, .inr (3, [.int (nI sp), .ref ah, .ref ke, .ref kr, .ref sa, .int (nI sq)])), (ke, .inl (ky, 97, .inl (pA Ke))), (h0, .inr (1, [.ref sy, .int (nI n), .ref fi, .ref ba, .int (lo), .int (hi)])), (ba, .inl (ky, 97, .inl (nA B1)))]) [0, 1, 2, 3] rfl
      have hD9 := hD.sub (ws' := [(pl, .inr (3, [.int (nI sp), .ref ah, .ref ke, .ref kr, .ref sa, .int (nI sq)])), (ke, .inl (ky, 97, .inl (pA Ke))), (h0, .inr (1, [.ref sy, .int (nI n), .ref fi, .ref ba, .int (lo), .int (hi)])), (ba, .inl (ky, 97, .inl (nA B1)))]) [0, 1, 2, 3] (by decide) rfl
      exact W.iret (v := nI ((Ke ar) + sx) - 1) hx hb hr (fun t ht hW => ⟨⟨nI ((Ke ar) + sx) - 1, (), rfl, ⟨(by rw [hK8, show O rx - sx + 1 + sx = O rx + 1 by omega, nI_pred]), (by first | trivial | assumption | omega)⟩, by rw [ht]; exact hP9, hD9⟩, hS.F ht⟩) hS.2.2 d_Pl_ofRow_46
    · skip
      rw [bw_eq_pp (by omega) (by omega)] at hc21
      refine lv_aload_n hx hb d_Pl_ofRow_24 rfl (lv_at hl 3 rfl) ?_
      refine va_get (D := (dC, dI)) (ci := 1) (v := .ref ba) (C := R_Im) (T := F_Im) (N := 6) hx hb htb in_Im hown hK hP 2 rfl rfl 3 (by decide) (htb _ tw_54) (fun _ h9 => h9) rfl d_Pl_ofRow_25 ?_
      refine lv_iload_n hx hb d_Pl_ofRow_28 rfl (lv_at hl 0 rfl) ?_
      refine va_iald hx hb hK hP 3 0 rfl rfl (vp_in_nI (by omega) (by decide)) d_Pl_ofRow_29 ?_
      rw [nI_clamp (by omega)]
      have hb29 := hB1 ar
      rw [nA_at]
      refine lv_istore_n hx hb d_Pl_ofRow_30 rfl hl (by decide) rfl (fun ls hl => ?_)
      have hl : lv_has ls 5 [(3, .int (nI (B1 ar))), (4, .int (nI sx)), (0, .ref pl), (1, .ref h0)] := hl
      refine lv_iinc (v := nI (sx + 1)) (k := 1) hx hb d_Pl_ofRow_31 hl rfl (bw_inc sx 1) (by decide) rfl (fun ls hl => ?_)
      have hl : lv_has ls 5 [(4, .int (nI (sx + 1))), (3, .int (nI (B1 ar))), (0, .ref pl), (1, .ref h0)] := hl
      refine lv_goto (tgt := 5) hx hb d_Pl_ofRow_34 (by decide) ?_
      have h7 := kp_mod (by omega) hsx (fun q => by rw [if_pos q] at hK9; omega)
      exact ih5 ((B1 ar), (sx + 1)) _ _ _ ⟨h7, (by rw [har, held_back (B := B1) (F := F) hT hSr hIm (hn1 ▸ hL) (by omega), prv_p (by omega)]; congr 1), hP, hD, hS, lv_sub hl [1, 0, 2, 3] rfl⟩ (by first | omega | (simp only; omega) | (dsimp only; omega))

set_option maxHeartbeats 4000000 in
set_option maxRecDepth 100000 in
theorem c_Pl_rowOf (l : Launch) (dC : Nat → ClassId) (dI : Nat → Nat → Nat) (ky : ClassId) (sz : Nat) (pl : Nat) (sp : Nat) (ah : Nat) (ke : Nat) (kr : Nat) (sa : Nat) (sq : Nat) (Ah : Nat → Nat) (Kr : Nat → Nat) (n : Nat) (Ke : Nat → Nat) (T : Nat → Nat) (O : Nat → Nat) (R : Nat → Nat) (nn : Nat) (px : Nat) (hsp : 2 ≤ sp ∧ sp ≤ 16) (hAh : ∀ k_, Ah k_ < 97) (hKr : ∀ k_, Kr k_ < 97) (hn97 : n ≤ 97) (hpx : px < 97) (hH2 : n = nn + 1 → px < n ∧ Srt T nn O R ∧ Kept T O R nn sp Ah Ke Kr 0) (hH3 : n = 0 → px = 0) (hH4 : n = 0 ∨ n = nn + 1) : Met l y_Pl_rowOf (Cond.code y_Pl_rowOf prog_5_method_5_code 4 (some .int) :: W0) ({ frames := 0, cells := 0, slots := 0, locals := 0 }) (va_Pc [.ref pl, .int (nI px)] (fun U => U.heap.size = sz ∧ va_P (dC, dI) cls_ [(pl, .inr (3, [.int (nI sp), .ref ah, .ref ke, .ref kr, .ref sa, .int (nI sq)])), (ah, .inl (ky, 97, .inl (nA Ah))), (kr, .inl (ky, 97, .inl (nA Kr)))] U.heap ∧ va_K (dC, dI) cls_ [(ky, .int)] U ∧ va_D (fun _ => True) [(pl, .inr (3, [.int (nI sp), .ref ah, .ref ke, .ref kr, .ref sa, .int (nI sq)])), (ah, .inl (ky, 97, .inl (nA Ah))), (kr, .inl (ky, 97, .inl (nA Kr)))])) (va_Qi (fun (r : Int32) (rn : Nat) => r = nI rn ∧ (rn < 97 ∧ (n = nn + 1 → rn = R px))) (fun (rn : Nat) (t : State) => va_P (dC, dI) cls_ [(pl, .inr (3, [.int (nI sp), .ref ah, .ref ke, .ref kr, .ref sa, .int (nI sq)])), (ah, .inl (ky, 97, .inl (nA Ah))), (kr, .inl (ky, 97, .inl (nA Kr)))] t.heap ∧ va_D (va_A [(pl, .inr (3, [.int (nI sp), .ref ah, .ref ke, .ref kr, .ref sa, .int (nI sq)])), (ah, .inl (ky, 97, .inl (nA Ah))), (kr, .inl (ky, 97, .inl (nA Kr)))] sz) [(pl, .inr (3, [.int (nI sp), .ref ah, .ref ke, .ref kr, .ref sa, .int (nI sq)])), (ah, .inl (ky, 97, .inl (nA Ah))), (kr, .inl (ky, 97, .inl (nA Kr)))]) (va_A [(pl, .inr (3, [.int (nI sp), .ref ah, .ref ke, .ref kr, .ref sa, .int (nI sq)])), (ah, .inl (ky, 97, .inl (nA Ah))), (kr, .inl (ky, 97, .inl (nA Kr)))] sz)) 0 0 (va_A [(pl, .inr (3, [.int (nI sp), .ref ah, .ref ke, .ref kr, .ref sa, .int (nI sq)])), (ah, .inl (ky, 97, .inl (nA Ah))), (kr, .inl (ky, 97, .inl (nA Kr)))] sz) := by
  refine Met.ofW (cc := prog_5_method_5_code) (maxL := 4) (ret := (some .int)) (by decide) rfl ?_
  intro p e s m args below meth c s₁ B hml hv
  obtain ⟨rfl, hsz, hP, hK, hD0⟩ := hv
  have hx := B.exec
  have hb := B.bytes
  have hr := B.returns
  have hlocks := B.notSynchronized
  have hts := atoms_spec (ws := (Cond.code y_Pl_rowOf prog_5_method_5_code 4 (some .int) :: W0)) B.pre
  have htb : ∀ w ∈ W0, w.before _ s = true := fun w h => hts w (List.mem_cons_of_mem _ h)
  have hown : s.vm.findClass "SelfIndexedSequences$Places" = some m.cls := findClass_of_methodNamed B.named
  subst hsz
  have hD := hD0.self (sz := s.heap.size)
  generalize hAe : va_A [(pl, .inr (3, [.int (nI sp), .ref ah, .ref ke, .ref kr, .ref sa, .int (nI sq)])), (ah, .inl (ky, 97, .inl (nA Ah))), (kr, .inl (ky, 97, .inl (nA Kr)))] s.heap.size = A at hD ⊢
  have hA : ∀ q : Nat, s.heap.size ≤ q → A q := fun q h => by rw [← hAe]; exact Or.inr h
  have hS : va_S A s.heap s.heap [] := va_S.rf
  have hl := lv_entry ([.ref pl, .int (nI px)]) (n := 4) (Nat.le_of_ble_eq_true rfl)
  rw [lg_entry_eq]
  generalize (lg_sl ([.ref pl, .int (nI px)]) ++ List.replicate (4 - (lg_sl ([.ref pl, .int (nI px)])).length) Slot.unset).toArray = ls at hl ⊢
  have hl : lv_has ls 4 [(0, .ref pl), (1, .int (nI px))] := hl
  refine lv_aload_n hx hb d_Pl_rowOf_0 rfl (lv_at hl 0 rfl) ?_
  refine va_get (D := (dC, dI)) (ci := 3) (v := .ref kr) (C := R_Pl) (T := F_Pl) (N := 6) hx hb htb in_Pl hown hK hP 0 rfl rfl 3 (by decide) (htb _ tw_116) (fun _ h9 => h9) rfl d_Pl_rowOf_1 ?_
  refine lv_iload_n hx hb d_Pl_rowOf_4 rfl (lv_at hl 1 rfl) ?_
  refine lv_aload_n hx hb d_Pl_rowOf_5 rfl (lv_at hl 0 rfl) ?_
  refine va_get (D := (dC, dI)) (ci := 3) (v := .int (nI sp)) (C := R_Pl) (T := F_Pl) (N := 6) hx hb htb in_Pl hown hK hP 0 rfl rfl 0 (by decide) (htb _ tw_111) (fun _ h9 => h9) rfl d_Pl_rowOf_6 ?_
  have hdi := Nat.div_le_self px sp
  refine lv_idiv hx hb d_Pl_rowOf_9 (bw_ne0 (by omega) (by omega)) ?_
  rw [pk_div (by omega) (by omega) (by omega)]
  refine va_iald hx hb hK hP 2 0 rfl rfl (vp_in_nI (by omega) (by decide)) d_Pl_rowOf_10 ?_
  rw [nI_clamp (by omega)]
  have hb10 := hKr (px / sp)
  rw [nA_at]
  refine lv_istore_n hx hb d_Pl_rowOf_11 rfl hl (by decide) rfl (fun ls hl => ?_)
  have hl : lv_has ls 4 [(2, .int (nI (Kr (px / sp)))), (0, .ref pl), (1, .int (nI px))] := hl
  refine lv_iload_n hx hb d_Pl_rowOf_12 rfl (lv_at hl 2 rfl) ?_
  refine lv_aload_n hx hb d_Pl_rowOf_13 rfl (lv_at hl 1 rfl) ?_
  refine va_get (D := (dC, dI)) (ci := 3) (v := .int (nI sp)) (C := R_Pl) (T := F_Pl) (N := 6) hx hb htb in_Pl hown hK hP 0 rfl rfl 0 (by decide) (htb _ tw_111) (fun _ h9 => h9) rfl d_Pl_rowOf_14 ?_
  have hmo := Nat.mod_lt px (show 0 < sp by omega)
  have hmp := Nat.mod_le px sp
  refine lv_irem hx hb d_Pl_rowOf_17 (bw_ne0 (by omega) (by omega)) ?_
  rw [pk_rem (by omega) (by omega) (by omega)]
  refine lv_istore_n hx hb d_Pl_rowOf_18 rfl hl (by decide) rfl (fun ls hl => ?_)
  have hl : lv_has ls 4 [(3, .int (nI (px % sp))), (2, .int (nI (Kr (px / sp)))), (0, .ref pl), (1, .int (nI px))] := hl
  refine wl_loop (σ := Nat × Nat) 19 [] (fun (a_ : Nat × Nat) => match a_ with | (lf, rw) => lf) (fun (a_ : Nat × Nat) (H : Heap) (locs : List Loc) (ls : Array Slot) => match a_ with | (lf, rw) => (lf ≤ px % sp) ∧ (n = nn + 1 → rw = R (px - lf)) ∧ (rw < 97) ∧ va_P (dC, dI) cls_ [(pl, .inr (3, [.int (nI sp), .ref ah, .ref ke, .ref kr, .ref sa, .int (nI sq)])), (ah, .inl (ky, 97, .inl (nA Ah))), (kr, .inl (ky, 97, .inl (nA Kr)))] H ∧ va_D A [(pl, .inr (3, [.int (nI sp), .ref ah, .ref ke, .ref kr, .ref sa, .int (nI sq)])), (ah, .inl (ky, 97, .inl (nA Ah))), (kr, .inl (ky, 97, .inl (nA Kr)))] ∧ va_S A s.heap H locs ∧ lv_has ls 4 [(3, .int (nI lf)), (2, .int (nI rw)), (0, .ref pl), (1, .int (nI px))]) ?_ ((px % sp), (Kr (px / sp))) ⟨(by first | assumption | omega | (simp; done) | (simp_all; done)), (fun q => (by have h7 := (hH2 q).2.2.2.2 (px - px % sp) (by omega) (by have := (hH2 q).1; omega) kp_lo.1; rw [kp_lo.2 (by omega)] at h7; exact h7)), (by first | assumption | omega | (simp; done) | (simp_all; done)), hP, hD, hS, lv_sub hl [0, 1, 2, 3] rfl⟩
  clear hP hD hS hl
  intro a_ H locs ls hI ih19
  obtain ⟨lf, rw⟩ := a_
  obtain ⟨hlf, hrw, hr97, hP, hD, hS, hl⟩ := hI
  have hl : lv_has ls 4 [(3, .int (nI lf)), (2, .int (nI rw)), (0, .ref pl), (1, .int (nI px))] := hl
  have hP : va_P (dC, dI) cls_ [(pl, .inr (3, [.int (nI sp), .ref ah, .ref ke, .ref kr, .ref sa, .int (nI sq)])), (ah, .inl (ky, 97, .inl (nA Ah))), (kr, .inl (ky, 97, .inl (nA Kr)))] H := hP
  have hD : va_D A [(pl, .inr (3, [.int (nI sp), .ref ah, .ref ke, .ref kr, .ref sa, .int (nI sq)])), (ah, .inl (ky, 97, .inl (nA Ah))), (kr, .inl (ky, 97, .inl (nA Kr)))] := hD
  have hlf : lf ≤ px % sp := hlf
  have hrw : n = nn + 1 → rw = R (px - lf) := hrw
  have hr97 : rw < 97 := hr97
  refine lv_iload_n hx hb d_Pl_rowOf_19 rfl (lv_at hl 0 rfl) ?_
  refine lv_if_le (tgt := 36) hx hb d_Pl_rowOf_20 (by decide) (fun hc20 => ?_) (fun hc20 => ?_)
  · skip
    rw [← nI_0, bw_le_nn (by omega) (by omega)] at hc20
    refine lv_iload_n hx hb d_Pl_rowOf_36 rfl (lv_at hl 1 rfl) ?_
    have hP9 := hP.sub (ws' := [(pl, .inr (3, [.int (nI sp), .ref ah, .ref ke, .ref kr, .ref sa, .int (nI sq)])), (ah, .inl (ky, 97, .inl (nA Ah))), (kr, .inl (ky, 97, .inl (nA Kr)))]) [0, 1, 2] rfl
    have hD9 := hD.sub (ws' := [(pl, .inr (3, [.int (nI sp), .ref ah, .ref ke, .ref kr, .ref sa, .int (nI sq)])), (ah, .inl (ky, 97, .inl (nA Ah))), (kr, .inl (ky, 97, .inl (nA Kr)))]) [0, 1, 2] (by decide) rfl
    exact W.iret (v := nI rw) hx hb hr (fun t ht hW => ⟨⟨nI rw, rw, rfl, ⟨rfl, ⟨hr97, fun q => by rw [hrw q, show px - lf = px by omega]⟩⟩, by rw [ht]; exact hP9, hD9⟩, hS.F ht⟩) hS.2.2 d_Pl_rowOf_37
  · skip
    rw [← nI_0, bw_le_nn (by omega) (by omega)] at hc20
    refine lv_aload_n hx hb d_Pl_rowOf_23 rfl (lv_at hl 2 rfl) ?_
    refine va_get (D := (dC, dI)) (ci := 3) (v := .ref ah) (C := R_Pl) (T := F_Pl) (N := 6) hx hb htb in_Pl hown hK hP 0 rfl rfl 1 (by decide) (htb _ tw_113) (fun _ h9 => h9) rfl d_Pl_rowOf_24 ?_
    refine lv_iload_n hx hb d_Pl_rowOf_27 rfl (lv_at hl 1 rfl) ?_
    refine va_iald hx hb hK hP 1 0 rfl rfl (vp_in_nI (by omega) (by decide)) d_Pl_rowOf_28 ?_
    rw [nI_clamp (by omega)]
    have hb28 := hAh rw
    rw [nA_at]
    refine lv_istore_n hx hb d_Pl_rowOf_29 rfl hl (by decide) rfl (fun ls hl => ?_)
    have hl : lv_has ls 4 [(2, .int (nI (Ah rw))), (3, .int (nI lf)), (0, .ref pl), (1, .int (nI px))] := hl
    refine lv_iinc (v := nI (lf - 1)) (k := 1) hx hb d_Pl_rowOf_30 hl rfl (bw_decn (show 0 < lf by omega)) (by decide) rfl (fun ls hl => ?_)
    have hl : lv_has ls 4 [(3, .int (nI (lf - 1))), (2, .int (nI (Ah rw))), (0, .ref pl), (1, .int (nI px))] := hl
    refine lv_goto (tgt := 19) hx hb d_Pl_rowOf_33 (by decide) ?_
    exact ih19 ((lf - 1), (Ah rw)) _ _ _ ⟨(by first | assumption | omega | (simp; done) | (simp_all; done)), (fun q => (by have h7 := (hH2 q).2.2.2.1 (px - (lf - 1)) (by omega) (by have := (hH2 q).1; omega); rw [prv_p (by omega), show px - (lf - 1) - 1 = px - lf by omega] at h7; rw [hrw q, h7])), (by first | assumption | omega | (simp; done) | (simp_all; done)), hP, hD, hS, lv_sub hl [0, 1, 2, 3] rfl⟩ (by first | omega | (simp only; omega) | (dsimp only; omega))

set_option maxHeartbeats 4000000 in
set_option maxRecDepth 100000 in
theorem c_Pl_lettersOf (l : Launch) (dC : Nat → ClassId) (dI : Nat → Nat → Nat) (ky : ClassId) (sz : Nat) (pl : Nat) (sp : Nat) (ah : Nat) (ke : Nat) (kr : Nat) (sa : Nat) (sq : Nat) (Sa : Nat → Nat) (xs : Int32) (hSa : ∀ k_, Sa k_ < 98) (hsq : sq ≤ 97) (hmo : ∀ v, v < sq → Sa v < Sa (v + 1)) : Met l y_Pl_lettersOf (Cond.code y_Pl_lettersOf prog_5_method_6_code 2 (some .int) :: W0) ({ frames := 0, cells := 0, slots := 0, locals := 0 }) (va_Pc [.ref pl, .int (xs)] (fun U => U.heap.size = sz ∧ va_P (dC, dI) cls_ [(pl, .inr (3, [.int (nI sp), .ref ah, .ref ke, .ref kr, .ref sa, .int (nI sq)])), (sa, .inl (ky, 98, .inl (nA Sa)))] U.heap ∧ va_K (dC, dI) cls_ [(ky, .int)] U ∧ va_D (fun _ => True) [(pl, .inr (3, [.int (nI sp), .ref ah, .ref ke, .ref kr, .ref sa, .int (nI sq)])), (sa, .inl (ky, 98, .inl (nA Sa)))])) (va_Qi (fun (r : Int32) (_ : Unit) => (∃ v, v < sq ∧ xs = nI v ∧ r = nI (Sa (v + 1) - 1 - Sa v)) ∨ ((∀ v, v < sq → xs ≠ nI v) ∧ r = nI 0 - 1)) (fun (_ : Unit) (t : State) => va_P (dC, dI) cls_ [(pl, .inr (3, [.int (nI sp), .ref ah, .ref ke, .ref kr, .ref sa, .int (nI sq)])), (sa, .inl (ky, 98, .inl (nA Sa)))] t.heap ∧ va_D (va_A [(pl, .inr (3, [.int (nI sp), .ref ah, .ref ke, .ref kr, .ref sa, .int (nI sq)])), (sa, .inl (ky, 98, .inl (nA Sa)))] sz) [(pl, .inr (3, [.int (nI sp), .ref ah, .ref ke, .ref kr, .ref sa, .int (nI sq)])), (sa, .inl (ky, 98, .inl (nA Sa)))]) (va_A [(pl, .inr (3, [.int (nI sp), .ref ah, .ref ke, .ref kr, .ref sa, .int (nI sq)])), (sa, .inl (ky, 98, .inl (nA Sa)))] sz)) 0 0 (va_A [(pl, .inr (3, [.int (nI sp), .ref ah, .ref ke, .ref kr, .ref sa, .int (nI sq)])), (sa, .inl (ky, 98, .inl (nA Sa)))] sz) := by
  refine Met.ofW (cc := prog_5_method_6_code) (maxL := 2) (ret := (some .int)) (by decide) rfl ?_
  intro p e s m args below meth c s₁ B hml hv
  obtain ⟨rfl, hsz, hP, hK, hD0⟩ := hv
  have hx := B.exec
  have hb := B.bytes
  have hr := B.returns
  have hlocks := B.notSynchronized
  have hts := atoms_spec (ws := (Cond.code y_Pl_lettersOf prog_5_method_6_code 2 (some .int) :: W0)) B.pre
  have htb : ∀ w ∈ W0, w.before _ s = true := fun w h => hts w (List.mem_cons_of_mem _ h)
  have hown : s.vm.findClass "SelfIndexedSequences$Places" = some m.cls := findClass_of_methodNamed B.named
  subst hsz
  have hD := hD0.self (sz := s.heap.size)
  generalize hAe : va_A [(pl, .inr (3, [.int (nI sp), .ref ah, .ref ke, .ref kr, .ref sa, .int (nI sq)])), (sa, .inl (ky, 98, .inl (nA Sa)))] s.heap.size = A at hD ⊢
  have hA : ∀ q : Nat, s.heap.size ≤ q → A q := fun q h => by rw [← hAe]; exact Or.inr h
  have hS : va_S A s.heap s.heap [] := va_S.rf
  have hl := lv_entry ([.ref pl, .int (xs)]) (n := 2) (Nat.le_of_ble_eq_true rfl)
  rw [lg_entry_eq]
  generalize (lg_sl ([.ref pl, .int (xs)]) ++ List.replicate (2 - (lg_sl ([.ref pl, .int (xs)])).length) Slot.unset).toArray = ls at hl ⊢
  have hl : lv_has ls 2 [(0, .ref pl), (1, .int (xs))] := hl
  refine lv_iload_n hx hb d_Pl_lettersOf_0 rfl (lv_at hl 1 rfl) ?_
  refine lv_if_lt (tgt := 12) hx hb d_Pl_lettersOf_1 (by decide) (fun hc1 => ?_) (fun hc1 => ?_)
  · skip
    refine lv_iconst (v := nI 0 - 1) hx hb d_Pl_lettersOf_12 (by decide) ?_
    have hP9 := hP.sub (ws' := [(pl, .inr (3, [.int (nI sp), .ref ah, .ref ke, .ref kr, .ref sa, .int (nI sq)])), (sa, .inl (ky, 98, .inl (nA Sa)))]) [0, 1] rfl
    have hD9 := hD.sub (ws' := [(pl, .inr (3, [.int (nI sp), .ref ah, .ref ke, .ref kr, .ref sa, .int (nI sq)])), (sa, .inl (ky, 98, .inl (nA Sa)))]) [0, 1] (by decide) rfl
    exact W.iret (v := nI 0 - 1) hx hb hr (fun t ht hW => ⟨⟨nI 0 - 1, (), rfl, (by first | exact Or.inr ⟨bw_neg hc1, rfl⟩ | exact Or.inr ⟨fun u hu e => by (try rw [hxv] at e); rw [nI_eq (by omega) (by omega)] at e; omega, rfl⟩), by rw [ht]; exact hP9, hD9⟩, hS.F ht⟩) hS.2.2 d_Pl_lettersOf_13
  · skip
    obtain ⟨v, hv1, hxv⟩ := bw_nn hc1
    have hv_ : xs = nI v := hxv
    rw [hv_] at hl
    have hl : lv_has ls 2 [(0, .ref pl), (1, .int (nI v))] := hl
    refine lv_iload_n hx hb d_Pl_lettersOf_4 rfl (lv_at hl 1 rfl) ?_
    refine lv_aload_n hx hb d_Pl_lettersOf_5 rfl (lv_at hl 0 rfl) ?_
    refine va_get (D := (dC, dI)) (ci := 3) (v := .int (nI sq)) (C := R_Pl) (T := F_Pl) (N := 6) hx hb htb in_Pl hown hK hP 0 rfl rfl 5 (by decide) (htb _ tw_119) (fun _ h9 => h9) rfl d_Pl_lettersOf_6 ?_
    refine lv_icmp_lt (tgt := 14) hx hb d_Pl_lettersOf_9 (by decide) (fun hc9 => ?_) (fun hc9 => ?_)
    · skip
      rw [bw_lt_nn (by omega) (by omega)] at hc9
      have hm9 := hmo v (by omega)
      refine lv_aload_n hx hb d_Pl_lettersOf_14 rfl (lv_at hl 0 rfl) ?_
      refine va_get (D := (dC, dI)) (ci := 3) (v := .ref sa) (C := R_Pl) (T := F_Pl) (N := 6) hx hb htb in_Pl hown hK hP 0 rfl rfl 4 (by decide) (htb _ tw_117) (fun _ h9 => h9) rfl d_Pl_lettersOf_15 ?_
      refine lv_iload_n hx hb d_Pl_lettersOf_18 rfl (lv_at hl 1 rfl) ?_
      refine lv_iconst (v := nI 1) hx hb d_Pl_lettersOf_19 (by decide) ?_
      refine lv_iadd hx hb d_Pl_lettersOf_20 ?_
      rw [nI_add]
      refine va_iald hx hb hK hP 1 0 rfl rfl (vp_in_nI (by omega) (by decide)) d_Pl_lettersOf_21 ?_
      rw [nI_clamp (by omega)]
      have hb21 := hSa (v + 1)
      rw [nA_at]
      refine lv_iconst (v := nI 1) hx hb d_Pl_lettersOf_22 (by decide) ?_
      refine lv_isub hx hb d_Pl_lettersOf_23 ?_
      rw [bw_n1 (Sa (v + 1))]
      refine lv_aload_n hx hb d_Pl_lettersOf_24 rfl (lv_at hl 0 rfl) ?_
      refine va_get (D := (dC, dI)) (ci := 3) (v := .ref sa) (C := R_Pl) (T := F_Pl) (N := 6) hx hb htb in_Pl hown hK hP 0 rfl rfl 4 (by decide) (htb _ tw_117) (fun _ h9 => h9) rfl d_Pl_lettersOf_25 ?_
      refine lv_iload_n hx hb d_Pl_lettersOf_28 rfl (lv_at hl 1 rfl) ?_
      refine va_iald hx hb hK hP 1 0 rfl rfl (vp_in_nI (by omega) (by decide)) d_Pl_lettersOf_29 ?_
      rw [nI_clamp (by omega)]
      have hb29 := hSa v
      rw [nA_at]
      refine lv_isub hx hb d_Pl_lettersOf_30 ?_
      rw [bw_sub_pn (show (Sa v) ≤ (Sa (v + 1)) by omega)]
      have hP9 := hP.sub (ws' := [(pl, .inr (3, [.int (nI sp), .ref ah, .ref ke, .ref kr, .ref sa, .int (nI sq)])), (sa, .inl (ky, 98, .inl (nA Sa)))]) [0, 1] rfl
      have hD9 := hD.sub (ws' := [(pl, .inr (3, [.int (nI sp), .ref ah, .ref ke, .ref kr, .ref sa, .int (nI sq)])), (sa, .inl (ky, 98, .inl (nA Sa)))]) [0, 1] (by decide) rfl
      exact W.iret (v := nI ((Sa (v + 1)) - (Sa v)) - 1) hx hb hr (fun t ht hW => ⟨⟨nI ((Sa (v + 1)) - (Sa v)) - 1, (), rfl, (Or.inl ⟨v, by omega, by first | exact hxv | rfl, by first | rfl | (rw [bw_pn (by omega)]; congr 1; omega)⟩), by rw [ht]; exact hP9, hD9⟩, hS.F ht⟩) hS.2.2 d_Pl_lettersOf_31
    · skip
      rw [bw_lt_nn (by omega) (by omega)] at hc9
      refine lv_iconst (v := nI 0 - 1) hx hb d_Pl_lettersOf_12 (by decide) ?_
      have hP9 := hP.sub (ws' := [(pl, .inr (3, [.int (nI sp), .ref ah, .ref ke, .ref kr, .ref sa, .int (nI sq)])), (sa, .inl (ky, 98, .inl (nA Sa)))]) [0, 1] rfl
      have hD9 := hD.sub (ws' := [(pl, .inr (3, [.int (nI sp), .ref ah, .ref ke, .ref kr, .ref sa, .int (nI sq)])), (sa, .inl (ky, 98, .inl (nA Sa)))]) [0, 1] (by decide) rfl
      exact W.iret (v := nI 0 - 1) hx hb hr (fun t ht hW => ⟨⟨nI 0 - 1, (), rfl, (by first | exact Or.inr ⟨bw_neg hc1, rfl⟩ | exact Or.inr ⟨fun u hu e => by (try rw [hxv] at e); rw [nI_eq (by omega) (by omega)] at e; omega, rfl⟩), by rw [ht]; exact hP9, hD9⟩, hS.F ht⟩) hS.2.2 d_Pl_lettersOf_13

set_option maxHeartbeats 4000000 in
set_option maxRecDepth 100000 in
theorem c_Pl_sequenceAt (l : Launch) (dC : Nat → ClassId) (dI : Nat → Nat → Nat) (ky : ClassId) (sz : Nat) (pl : Nat) (sp : Nat) (ah : Nat) (ke : Nat) (kr : Nat) (sa : Nat) (sq : Nat) (Sa : Nat → Nat) (T : Nat → Nat) (nn : Nat) (px : Nat) (hSa : ∀ k_, Sa k_ < 98) (hsq : sq = nb T nn + 1) (hnn : nn ≤ 96) (hpx : px < nn + 1) (hgs : ∀ x, x < nb T nn + 2 → Sa x = gs T nn x) : Met l y_Pl_sequenceAt (Cond.code y_Pl_sequenceAt prog_5_method_7_code 3 (some .int) :: W0) ({ frames := 0, cells := 0, slots := 0, locals := 0 }) (va_Pc [.ref pl, .int (nI px)] (fun U => U.heap.size = sz ∧ va_P (dC, dI) cls_ [(pl, .inr (3, [.int (nI sp), .ref ah, .ref ke, .ref kr, .ref sa, .int (nI sq)])), (sa, .inl (ky, 98, .inl (nA Sa)))] U.heap ∧ va_K (dC, dI) cls_ [(ky, .int)] U ∧ va_D (fun _ => True) [(pl, .inr (3, [.int (nI sp), .ref ah, .ref ke, .ref kr, .ref sa, .int (nI sq)])), (sa, .inl (ky, 98, .inl (nA Sa)))])) (va_Qi (fun (r : Int32) (_ : Unit) => r = nI (nb T px) ∧ (True)) (fun (_ : Unit) (t : State) => va_P (dC, dI) cls_ [(pl, .inr (3, [.int (nI sp), .ref ah, .ref ke, .ref kr, .ref sa, .int (nI sq)])), (sa, .inl (ky, 98, .inl (nA Sa)))] t.heap ∧ va_D (va_A [(pl, .inr (3, [.int (nI sp), .ref ah, .ref ke, .ref kr, .ref sa, .int (nI sq)])), (sa, .inl (ky, 98, .inl (nA Sa)))] sz) [(pl, .inr (3, [.int (nI sp), .ref ah, .ref ke, .ref kr, .ref sa, .int (nI sq)])), (sa, .inl (ky, 98, .inl (nA Sa)))]) (va_A [(pl, .inr (3, [.int (nI sp), .ref ah, .ref ke, .ref kr, .ref sa, .int (nI sq)])), (sa, .inl (ky, 98, .inl (nA Sa)))] sz)) 0 0 (va_A [(pl, .inr (3, [.int (nI sp), .ref ah, .ref ke, .ref kr, .ref sa, .int (nI sq)])), (sa, .inl (ky, 98, .inl (nA Sa)))] sz) := by
  refine Met.ofW (cc := prog_5_method_7_code) (maxL := 3) (ret := (some .int)) (by decide) rfl ?_
  intro p e s m args below meth c s₁ B hml hv
  obtain ⟨rfl, hsz, hP, hK, hD0⟩ := hv
  have hx := B.exec
  have hb := B.bytes
  have hr := B.returns
  have hlocks := B.notSynchronized
  have hts := atoms_spec (ws := (Cond.code y_Pl_sequenceAt prog_5_method_7_code 3 (some .int) :: W0)) B.pre
  have htb : ∀ w ∈ W0, w.before _ s = true := fun w h => hts w (List.mem_cons_of_mem _ h)
  have hown : s.vm.findClass "SelfIndexedSequences$Places" = some m.cls := findClass_of_methodNamed B.named
  subst hsz
  have hD := hD0.self (sz := s.heap.size)
  generalize hAe : va_A [(pl, .inr (3, [.int (nI sp), .ref ah, .ref ke, .ref kr, .ref sa, .int (nI sq)])), (sa, .inl (ky, 98, .inl (nA Sa)))] s.heap.size = A at hD ⊢
  have hA : ∀ q : Nat, s.heap.size ≤ q → A q := fun q h => by rw [← hAe]; exact Or.inr h
  have hS : va_S A s.heap s.heap [] := va_S.rf
  have hl := lv_entry ([.ref pl, .int (nI px)]) (n := 3) (Nat.le_of_ble_eq_true rfl)
  rw [lg_entry_eq]
  generalize (lg_sl ([.ref pl, .int (nI px)]) ++ List.replicate (3 - (lg_sl ([.ref pl, .int (nI px)])).length) Slot.unset).toArray = ls at hl ⊢
  have hl : lv_has ls 3 [(0, .ref pl), (1, .int (nI px))] := hl
  refine lv_iconst (v := nI 0) hx hb d_Pl_sequenceAt_0 (by decide) ?_
  refine lv_istore_n hx hb d_Pl_sequenceAt_1 rfl hl (by decide) rfl (fun ls hl => ?_)
  have hl : lv_has ls 3 [(2, .int (nI 0)), (0, .ref pl), (1, .int (nI px))] := hl
  refine wl_loop (σ := Nat) 2 [] (fun (sx : Nat) => nb T px - sx) (fun (sx : Nat) (H : Heap) (locs : List Loc) (ls : Array Slot) => (sx ≤ nb T px) ∧ va_P (dC, dI) cls_ [(pl, .inr (3, [.int (nI sp), .ref ah, .ref ke, .ref kr, .ref sa, .int (nI sq)])), (sa, .inl (ky, 98, .inl (nA Sa)))] H ∧ va_D A [(pl, .inr (3, [.int (nI sp), .ref ah, .ref ke, .ref kr, .ref sa, .int (nI sq)])), (sa, .inl (ky, 98, .inl (nA Sa)))] ∧ va_S A s.heap H locs ∧ lv_has ls 3 [(2, .int (nI sx)), (0, .ref pl), (1, .int (nI px))]) ?_ 0 ⟨(by first | assumption | omega | (simp; done) | (simp_all; done)), hP, hD, hS, lv_sub hl [0, 1, 2] rfl⟩
  clear hP hD hS hl
  intro sx H locs ls hI ih2
  obtain ⟨hsx, hP, hD, hS, hl⟩ := hI
  have hl : lv_has ls 3 [(2, .int (nI sx)), (0, .ref pl), (1, .int (nI px))] := hl
  have hP : va_P (dC, dI) cls_ [(pl, .inr (3, [.int (nI sp), .ref ah, .ref ke, .ref kr, .ref sa, .int (nI sq)])), (sa, .inl (ky, 98, .inl (nA Sa)))] H := hP
  have hD : va_D A [(pl, .inr (3, [.int (nI sp), .ref ah, .ref ke, .ref kr, .ref sa, .int (nI sq)])), (sa, .inl (ky, 98, .inl (nA Sa)))] := hD
  have hsx : sx ≤ nb T px := hsx
  have hn9 := nb_le T nn
  have hn8 := nb_mono T (show px ≤ nn by omega)
  have hg9 := gs_iff T (n := nn) (s := sx + 1) hpx
  refine lv_iload_n hx hb d_Pl_sequenceAt_2 rfl (lv_at hl 0 rfl) ?_
  refine lv_aload_n hx hb d_Pl_sequenceAt_3 rfl (lv_at hl 1 rfl) ?_
  refine va_get (D := (dC, dI)) (ci := 3) (v := .int (nI sq)) (C := R_Pl) (T := F_Pl) (N := 6) hx hb htb in_Pl hown hK hP 0 rfl rfl 5 (by decide) (htb _ tw_119) (fun _ h9 => h9) rfl d_Pl_sequenceAt_4 ?_
  refine lv_iconst (v := nI 1) hx hb d_Pl_sequenceAt_7 (by decide) ?_
  refine lv_isub hx hb d_Pl_sequenceAt_8 ?_
  rw [bw_n1 sq]
  refine lv_icmp_ge (tgt := 30) hx hb d_Pl_sequenceAt_9 (by decide) (fun hc9 => ?_) (fun hc9 => ?_)
  · skip
    rw [bw_le_pn (by omega) (by omega)] at hc9
    refine lv_iload_n hx hb d_Pl_sequenceAt_30 rfl (lv_at hl 0 rfl) ?_
    have hP9 := hP.sub (ws' := [(pl, .inr (3, [.int (nI sp), .ref ah, .ref ke, .ref kr, .ref sa, .int (nI sq)])), (sa, .inl (ky, 98, .inl (nA Sa)))]) [0, 1] rfl
    have hD9 := hD.sub (ws' := [(pl, .inr (3, [.int (nI sp), .ref ah, .ref ke, .ref kr, .ref sa, .int (nI sq)])), (sa, .inl (ky, 98, .inl (nA Sa)))]) [0, 1] (by decide) rfl
    exact W.iret (v := nI sx) hx hb hr (fun t ht hW => ⟨⟨nI sx, (), rfl, ⟨(by congr 1; omega), (by first | trivial | assumption | omega)⟩, by rw [ht]; exact hP9, hD9⟩, hS.F ht⟩) hS.2.2 d_Pl_sequenceAt_31
  · skip
    rw [bw_le_pn (by omega) (by omega)] at hc9
    refine lv_aload_n hx hb d_Pl_sequenceAt_12 rfl (lv_at hl 1 rfl) ?_
    refine va_get (D := (dC, dI)) (ci := 3) (v := .ref sa) (C := R_Pl) (T := F_Pl) (N := 6) hx hb htb in_Pl hown hK hP 0 rfl rfl 4 (by decide) (htb _ tw_117) (fun _ h9 => h9) rfl d_Pl_sequenceAt_13 ?_
    refine lv_iload_n hx hb d_Pl_sequenceAt_16 rfl (lv_at hl 0 rfl) ?_
    refine lv_iconst (v := nI 1) hx hb d_Pl_sequenceAt_17 (by decide) ?_
    refine lv_iadd hx hb d_Pl_sequenceAt_18 ?_
    rw [nI_add]
    have hg8 := hgs (sx + 1) (by omega)
    refine va_iald hx hb hK hP 1 0 rfl rfl (vp_in_nI (by omega) (by decide)) d_Pl_sequenceAt_19 ?_
    rw [nI_clamp (by omega)]
    have hb19 := hSa (sx + 1)
    rw [nA_at]
    refine lv_iload_n hx hb d_Pl_sequenceAt_20 rfl (lv_at hl 2 rfl) ?_
    refine lv_icmp_gt (tgt := 30) hx hb d_Pl_sequenceAt_21 (by decide) (fun hc21 => ?_) (fun hc21 => ?_)
    · skip
      rw [bw_lt_nn (by omega) (by omega)] at hc21
      refine lv_iload_n hx hb d_Pl_sequenceAt_30 rfl (lv_at hl 0 rfl) ?_
      have hP9 := hP.sub (ws' := [(pl, .inr (3, [.int (nI sp), .ref ah, .ref ke, .ref kr, .ref sa, .int (nI sq)])), (sa, .inl (ky, 98, .inl (nA Sa)))]) [0, 1] rfl
      have hD9 := hD.sub (ws' := [(pl, .inr (3, [.int (nI sp), .ref ah, .ref ke, .ref kr, .ref sa, .int (nI sq)])), (sa, .inl (ky, 98, .inl (nA Sa)))]) [0, 1] (by decide) rfl
      exact W.iret (v := nI sx) hx hb hr (fun t ht hW => ⟨⟨nI sx, (), rfl, ⟨(by congr 1; omega), (by first | trivial | assumption | omega)⟩, by rw [ht]; exact hP9, hD9⟩, hS.F ht⟩) hS.2.2 d_Pl_sequenceAt_31
    · skip
      rw [bw_lt_nn (by omega) (by omega)] at hc21
      refine lv_iinc (v := nI (sx + 1)) (k := 0) hx hb d_Pl_sequenceAt_24 hl rfl (bw_inc sx 1) (by decide) rfl (fun ls hl => ?_)
      have hl : lv_has ls 3 [(2, .int (nI (sx + 1))), (0, .ref pl), (1, .int (nI px))] := hl
      refine lv_goto (tgt := 2) hx hb d_Pl_sequenceAt_27 (by decide) ?_
      exact ih2 (sx + 1) _ _ _ ⟨(by omega), hP, hD, hS, lv_sub hl [0, 1, 2] rfl⟩ (by first | omega | (simp only; omega) | (dsimp only; omega))
