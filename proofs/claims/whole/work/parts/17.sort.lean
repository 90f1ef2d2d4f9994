/-- the first q places, in the order of their suffixes -/
def So (T O : Nat → Nat) (q : Nat) : Prop := (∀ j, j < q → O j < q) ∧ (∀ a, a < q → ∃ j, j < q ∧ O j = a) ∧ (∀ i j, i < j → j < q → slt T (O i) (O j))
theorem So_0 (T O : Nat → Nat) : So T O 0 := ⟨fun j h => by omega, fun a h => by omega, fun i j _ h => by omega⟩
/-- place q goes in at row x -/
theorem So_put {T O O' : Nat → Nat} {n q x : Nat} (hT : Txt T n) (hq : q < n + 1) (h : So T O q) (hx : x ≤ q)
    (hl : x = 0 ∨ ¬ slt T q (O (x - 1))) (hr : ∀ j, x ≤ j → j < q → slt T q (O j))
    (hO : ∀ j, j < q + 1 → O' j = if j < x then O j else if j = x then q else O (j - 1)) : So T O' (q + 1) := by
  have hlo : ∀ i, i < x → slt T (O i) q := by
    intro i hi
    have h0 : slt T (O (x - 1)) q := by
      have h1 := h.1 (x - 1) (by omega)
      cases slt_tot hT n (O (x - 1)) q (by omega) (by omega) (by omega) (by omega) with
      | inl y => exact y
      | inr y => exact absurd y (hl.resolve_left (by omega))
    by_cases e : i = x - 1
    · rw [e]; exact h0
    · exact slt_tr (h.2.2 i (x - 1) (by omega) (by omega)) h0
  refine ⟨fun j hj => ?_, fun a ha => ?_, fun i j hij hj => ?_⟩
  · rw [hO j hj]
    by_cases h1 : j < x
    · rw [if_pos h1]; have := h.1 j (by omega); omega
    · rw [if_neg h1]
      by_cases h2 : j = x
      · rw [if_pos h2]; omega
      · rw [if_neg h2]; have := h.1 (j - 1) (by omega); omega
  · by_cases ea : a = q
    · exact ⟨x, by omega, by rw [hO x (by omega), if_neg (by omega), if_pos rfl, ea]⟩
    · obtain ⟨j, hj, e⟩ := h.2.1 a (by omega)
      by_cases h1 : j < x
      · exact ⟨j, by omega, by rw [hO j (by omega), if_pos h1, e]⟩
      · exact ⟨j + 1, by omega, by rw [hO (j + 1) (by omega), if_neg (by omega), if_neg (by omega), Nat.add_sub_cancel, e]⟩
  · rw [hO i (by omega), hO j hj]
    by_cases h1 : j < x
    · rw [if_pos h1, if_pos (show i < x by omega)]; exact h.2.2 i j hij (by omega)
    · rw [if_neg h1]
      by_cases h2 : j = x
      · rw [if_pos h2, if_pos (show i < x by omega)]; exact hlo i (by omega)
      · rw [if_neg h2]
        by_cases h3 : i < x
        · rw [if_pos h3]
          by_cases h4 : i < j - 1
          · exact h.2.2 i (j - 1) h4 (by omega)
          · omega
        · rw [if_neg h3]
          by_cases h4 : i = x
          · rw [if_pos h4]; exact hr (j - 1) (by omega) (by omega)
          · rw [if_neg h4]; exact h.2.2 (i - 1) (j - 1) (by omega) (by omega)
theorem So_Srt {T O : Nat → Nat} {n : Nat} (h : So T O (n + 1)) : ∃ R, Srt T n O R := by
  obtain ⟨R, hR⟩ := Classical.axiomOfChoice (r := fun (a j : Nat) => a < n + 1 → (j < n + 1 ∧ O j = a)) (fun a => by
    by_cases ha : a < n + 1
    · obtain ⟨j, hj, e⟩ := h.2.1 a ha; exact ⟨j, fun _ => ⟨hj, e⟩⟩
    · exact ⟨0, fun x => absurd x ha⟩)
  refine ⟨R, fun j hj => ⟨h.1 j hj, ?_⟩, hR, h.2.2⟩
  have h1 := hR (O j) (h.1 j hj)
  by_cases e : R (O j) = j
  · exact e
  · exfalso
    by_cases hlt : R (O j) < j
    · have := h.2.2 _ _ hlt hj
      rw [h1.2] at this; exact slt_irr this
    · have := h.2.2 j (R (O j)) (by omega) h1.1
      rw [h1.2] at this; exact slt_irr this
