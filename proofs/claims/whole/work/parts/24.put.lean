/-- all bytes are 0 or symbols, and they fit -/
def PutB (w b : Nat) : Prop := ∀ k, k < b → by8 w k = 0 ∨ isS (by8 w k)
theorem PutB_0 (w : Nat) : PutB w 0 := fun k h => by omega
theorem PutB_s {w b : Nat} (h : PutB w b) (hb : by8 w b = 0 ∨ isS (by8 w b)) : PutB w (b + 1) := fun k hk => by
  by_cases e : k = b
  · rw [e]; exact hb
  · exact h k (by omega)
noncomputable def pns (w b : Nat) : Nat := num (fun k => by8 w k ≠ 0) b
theorem pns_0 (w : Nat) : pns w 0 = 0 := rfl
theorem pns_z {w b : Nat} (h : by8 w b = 0) : pns w (b + 1) = pns w b := num_n (fun q => q h)
theorem pns_y {w b : Nat} (h : ¬ by8 w b = 0) : pns w (b + 1) = pns w b + 1 := num_y h
theorem pns_le (w b : Nat) : pns w b ≤ b := num_le _ b
theorem pns_mono (w : Nat) {a b : Nat} (h : a ≤ b) : pns w a ≤ pns w b := num_mono _ h
def PutOk (w d : Nat) : Prop := PutB w 8 ∧ d + pns w 8 ≤ 97
/-- the draft with the first b bytes put behind it -/
noncomputable def pds (w : Nat) (g : Nat → Nat) (D : Nat → Nat) (d : Nat) : Nat → Nat → Nat
  | 0 => D
  | b + 1 => if by8 w b = 0 then pds w g D d b else upN (pds w g D d b) (d + pns w b) (g (by8 w b))
theorem pds_z {w d b : Nat} {g D : Nat → Nat} (h : by8 w b = 0) : pds w g D d (b + 1) = pds w g D d b := if_pos h
theorem pds_y {w d b : Nat} {g D : Nat → Nat} (h : ¬ by8 w b = 0) : pds w g D d (b + 1) = upN (pds w g D d b) (d + pns w b) (g (by8 w b)) := if_neg h
theorem pds_cod {w d : Nat} {D M : Nat → Nat} (h : ∀ k, k < d → M k = cod (D k)) : ∀ b, PutB w b → ∀ k, k < d + pns w b → pds w (fun x => x) M d b k = cod (pds w sno D d b k)
  | 0, _ => fun k hk => h k (by rw [pns_0] at hk; omega)
  | b + 1, hb => fun k hk => by
    have ih := pds_cod h b (fun i hi => hb i (by omega))
    by_cases e : by8 w b = 0
    · rw [pds_z e, pds_z e]; rw [pns_z e] at hk; exact ih k hk
    · rw [pds_y e, pds_y e]; rw [pns_y e] at hk
      by_cases ek : k = d + pns w b
      · rw [ek, upN_s, upN_s]; exact (cod_sno ((hb b (by omega)).resolve_left e)).2.symm
      · rw [upN_o ek, upN_o ek]; exact ih k (by omega)
theorem pds_lt {w d : Nat} {D : Nat → Nat} (h : ∀ k, D k < 28) : ∀ b, PutB w b → ∀ k, pds w sno D d b k < 28
  | 0, _ => h
  | b + 1, hb => by
    have ih := pds_lt (w := w) (d := d) h b (fun i hi => hb i (by omega))
    by_cases e : by8 w b = 0
    · rw [pds_z e]; exact ih
    · rw [pds_y e]; exact upN_lt ih (cod_sno ((hb b (by omega)).resolve_left e)).1
