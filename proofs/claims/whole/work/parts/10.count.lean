/-- how many numbers below a bound have P -/
noncomputable def num (P : Nat → Prop) : Nat → Nat
  | 0 => 0
  | k + 1 => num P k + @ite Nat (P k) (Classical.propDecidable (P k)) 1 0
theorem num_0 (P : Nat → Prop) : num P 0 = 0 := rfl
theorem num_y {P : Nat → Prop} {k : Nat} (h : P k) : num P (k + 1) = num P k + 1 := by
  show num P k + @ite Nat (P k) (Classical.propDecidable (P k)) 1 0 = _
  rw [if_pos h]
theorem num_n {P : Nat → Prop} {k : Nat} (h : ¬ P k) : num P (k + 1) = num P k := by
  show num P k + @ite Nat (P k) (Classical.propDecidable (P k)) 1 0 = _
  rw [if_neg h]; omega
theorem num_congr {P Q : Nat → Prop} : ∀ (m : Nat), (∀ j, j < m → (P j ↔ Q j)) → num P m = num Q m
  | 0, _ => rfl
  | m + 1, h => by
    have ih := num_congr m (fun j hj => h j (by omega))
    by_cases hp : P m
    · rw [num_y hp, num_y ((h m (by omega)).mp hp), ih]
    · rw [num_n hp, num_n (fun q => hp ((h m (by omega)).mpr q)), ih]
theorem num_le (P : Nat → Prop) : ∀ (m : Nat), num P m ≤ m
  | 0 => Nat.le_refl _
  | m + 1 => by
    have ih := num_le P m
    by_cases hp : P m
    · rw [num_y hp]; omega
    · rw [num_n hp]; omega
theorem num_add (P : Nat → Prop) (a : Nat) : ∀ (b : Nat), num P (a + b) = num P a + num (fun j => P (a + j)) b
  | 0 => by simp [num_0]
  | b + 1 => by
    have ih := num_add P a b
    by_cases hp : P (a + b)
    · rw [← Nat.add_assoc, num_y hp, num_y (P := fun j => P (a + j)) hp, ih]; omega
    · rw [← Nat.add_assoc, num_n hp, num_n (P := fun j => P (a + j)) hp, ih]
theorem num_mono (P : Nat → Prop) {a b : Nat} (h : a ≤ b) : num P a ≤ num P b := by
  obtain ⟨d, rfl⟩ := Nat.exists_eq_add_of_le h
  rw [num_add]; omega
theorem num_grow (P : Nat → Prop) {a b : Nat} (h : a ≤ b) : num P b ≤ num P a + (b - a) := by
  obtain ⟨d, rfl⟩ := Nat.exists_eq_add_of_le h
  have := num_le (fun j => P (a + j)) d
  rw [num_add]; omega
theorem num_lt {P : Nat → Prop} {a b : Nat} (h : a < b) (hp : P a) : num P a < num P b := by
  have h1 := num_mono P (show a + 1 ≤ b from h)
  rw [num_y hp] at h1; omega
theorem num_imp {P Q : Nat → Prop} : ∀ (m : Nat), (∀ j, j < m → P j → Q j) → num P m ≤ num Q m
  | 0, _ => Nat.le_refl _
  | m + 1, h => by
    have ih := num_imp m (fun j hj => h j (by omega))
    by_cases hp : P m
    · rw [num_y hp, num_y (h m (by omega) hp)]; omega
    · have := num_mono Q (show m ≤ m + 1 by omega)
      rw [num_n hp]; omega
theorem num_none {P : Nat → Prop} : ∀ {m : Nat}, (∀ j, j < m → ¬ P j) → num P m = 0
  | 0, _ => rfl
  | m + 1, h => by rw [num_n (h m (by omega)), num_none (fun j hj => h j (by omega))]
theorem num_all {P : Nat → Prop} : ∀ {m : Nat}, (∀ j, j < m → P j) → num P m = m
  | 0, _ => rfl
  | m + 1, h => by rw [num_y (h m (by omega)), num_all (fun j hj => h j (by omega))]
theorem num_or {P Q : Nat → Prop} : ∀ {m : Nat}, (∀ j, j < m → ¬ (P j ∧ Q j)) → num (fun j => P j ∨ Q j) m = num P m + num Q m
  | 0, _ => rfl
  | m + 1, h => by
    have ih := num_or (P := P) (Q := Q) (m := m) (fun j hj => h j (by omega))
    by_cases hp : P m
    · rw [num_y (P := fun j => P j ∨ Q j) (Or.inl hp), num_y hp, num_n (P := Q) (fun q => h m (by omega) ⟨hp, q⟩), ih]; omega
    · by_cases hq : Q m
      · rw [num_y (P := fun j => P j ∨ Q j) (Or.inr hq), num_n hp, num_y hq, ih]; omega
      · rw [num_n (P := fun j => P j ∨ Q j) (fun x => x.elim hp hq), num_n hp, num_n hq, ih]
theorem num_one {P : Nat → Prop} {m v : Nat} (hv : v < m) (h : ∀ j, j < m → (P j ↔ j = v)) : num P m = 1 := by
  obtain ⟨d, rfl⟩ := Nat.exists_eq_add_of_le (show v + 1 ≤ m from hv)
  rw [num_add, num_y ((h v (by omega)).mpr rfl), num_none (fun j hj q => by have := (h j (by omega)).mp q; omega),
    num_none (fun j hj q => by have := (h (v + 1 + j) (by omega)).mp q; omega)]
theorem num_upd {P Q : Nat → Prop} {m v : Nat} (hv : v < m) (h : ∀ j, j < m → j ≠ v → (P j ↔ Q j)) (hp : P v) (hq : ¬ Q v) : num P m = num Q m + 1 := by
  have e : num P m = num (fun j => Q j ∨ j = v) m := num_congr m (fun j hj => by
    by_cases hj' : j = v
    · subst hj'; exact ⟨fun _ => Or.inr rfl, fun _ => hp⟩
    · exact ⟨fun x => Or.inl ((h j hj hj').mp x), fun x => x.elim (h j hj hj').mpr (fun y => absurd y hj')⟩)
  rw [e, num_or (P := Q) (Q := fun j => j = v) (fun j _ x => hq (x.2 ▸ x.1)), num_one (P := fun j => j = v) hv (fun j _ => Iff.rfl)]
theorem num_below (P : Nat → Prop) {k m : Nat} (h : k ≤ m) : num (fun j => j < k ∧ P j) m = num P k := by
  obtain ⟨d, rfl⟩ := Nat.exists_eq_add_of_le h
  rw [num_add, num_none (P := fun j => k + j < k ∧ P (k + j)) (fun j _ x => by omega)]
  exact num_congr k (fun j hj => ⟨fun x => x.2, fun x => ⟨hj, x⟩⟩)
theorem num_from {a b m : Nat} (h : a ≤ b) (hb : b ≤ m) : num (fun j => a ≤ j ∧ j < b) m = b - a := by
  obtain ⟨d, rfl⟩ := Nat.exists_eq_add_of_le hb
  rw [num_add, num_none (P := fun j => a ≤ b + j ∧ b + j < b) (fun j _ x => by omega)]
  obtain ⟨f, rfl⟩ := Nat.exists_eq_add_of_le h
  rw [num_add, num_none (P := fun j => a ≤ j ∧ j < a + f) (fun j _ x => by omega), num_all (fun j hj => by omega)]; omega
/-- counting along a one-to-one renaming -/
theorem num_bij {P : Nat → Prop} {f g : Nat → Nat} {m : Nat} (hf : ∀ j, j < m → f j < m ∧ g (f j) = j) (hg : ∀ v, v < m → g v < m ∧ f (g v) = v) :
    num (fun j => P (f j)) m = num P m := by
  have key : ∀ k, k ≤ m → num (fun j => f j < k ∧ P (f j)) m = num P k := by
    intro k
    induction k with
    | zero => intro _; exact num_none (fun j _ h => by omega)
    | succ k ih =>
      intro hk
      have e : num (fun j => f j < k + 1 ∧ P (f j)) m = num (fun j => (f j < k ∧ P (f j)) ∨ (f j = k ∧ P k)) m :=
        num_congr m (fun j _ => by
          constructor
          · intro h
            by_cases hk' : f j = k
            · right; refine ⟨hk', ?_⟩; rw [← hk']; exact h.2
            · left; exact ⟨by omega, h.2⟩
          · intro h
            cases h with
            | inl h => exact ⟨by omega, h.2⟩
            | inr h => refine ⟨by omega, ?_⟩; rw [h.1]; exact h.2)
      rw [e, num_or (fun j _ h => by omega), ih (by omega)]
      by_cases hp : P k
      · rw [num_y hp, num_one (P := fun j => f j = k ∧ P k) (v := g k) (hg k (by omega)).1 (fun j hj => by
          constructor
          · intro h; rw [← h.1]; exact ((hf j hj).2).symm
          · intro h; refine ⟨?_, hp⟩; rw [h]; exact (hg k (by omega)).2)]
      · rw [num_n hp, num_none (P := fun j => f j = k ∧ P k) (fun j _ h => hp h.2), Nat.add_zero]
  rw [← key m (Nat.le_refl m)]
  exact num_congr m (fun j hj => ⟨fun h => ⟨(hf j hj).1, h⟩, fun h => h.2⟩)
/-- a property that goes down: those below its number have it -/
theorem num_pfx {Q : Nat → Prop} : ∀ {m : Nat}, (∀ i j, i < j → j < m → Q j → Q i) → ∀ j, j < m → (Q j ↔ j < num Q m)
  | 0, _, j, hj => by omega
  | m + 1, h, j, hj => by
    by_cases hq : Q m
    · have ha : num Q (m + 1) = m + 1 := num_all (fun i hi => by
        by_cases hi' : i = m
        · rw [hi']; exact hq
        · exact h i m (by omega) (by omega) hq)
      rw [ha]
      exact ⟨fun _ => hj, fun _ => by
        by_cases hi' : j = m
        · rw [hi']; exact hq
        · exact h j m (by omega) (by omega) hq⟩
    · rw [num_n hq]
      by_cases hj' : j = m
      · have := num_le Q m
        rw [hj']; exact ⟨fun x => absurd x hq, fun x => by omega⟩
      · exact num_pfx (fun a b hab hb => h a b hab (by omega)) j (by omega)
/-- no one-to-one map of more into less -/
theorem ph_le : ∀ (b a : Nat) (f : Nat → Nat), (∀ j, j < a → f j < b) → (∀ i j, i < j → j < a → f i ≠ f j) → a ≤ b
  | 0, a, f, h, _ => by
    cases a with
    | zero => exact Nat.le_refl _
    | succ a => have := h 0 (by omega); omega
  | b + 1, a, f, h, hi => by
    by_cases hx : ∃ j, j < a ∧ f j = b
    · obtain ⟨j0, hj0, e0⟩ := hx
      have := ph_le b (a - 1) (fun j => if j < j0 then f j else f (j + 1)) (fun j hj => by
          try dsimp only
          by_cases hlt : j < j0
          · rw [if_pos hlt]; have h1 := h j (by omega); have h2 := hi j j0 hlt hj0; omega
          · rw [if_neg hlt]; have h1 := h (j + 1) (by omega); have h2 := hi j0 (j + 1) (by omega) (by omega); omega)
        (fun i j hij hj => by
          try dsimp only
          by_cases hlt : j < j0
          · rw [if_pos hlt, if_pos (show i < j0 by omega)]; exact hi i j hij (by omega)
          · rw [if_neg hlt]
            by_cases hlt' : i < j0
            · rw [if_pos hlt']; exact hi i (j + 1) (by omega) (by omega)
            · rw [if_neg hlt']; exact hi (i + 1) (j + 1) (by omega) (by omega))
      omega
    · have := ph_le b a f (fun j hj => by
        have h1 := h j hj
        have h2 : f j ≠ b := fun q => hx ⟨j, hj, q⟩
        omega) hi
      omega
theorem ph_onto {m : Nat} {f : Nat → Nat} (h : ∀ j, j < m → f j < m) (hi : ∀ i j, i < j → j < m → f i ≠ f j) {v : Nat} (hv : v < m) : ∃ j, j < m ∧ f j = v := by
  by_cases hx : ∃ j, j < m ∧ f j = v
  · exact hx
  · exfalso
    have := ph_le m (m + 1) (fun j => if j < m then f j else v) (fun j _ => by
        try dsimp only
        by_cases hlt : j < m
        · rw [if_pos hlt]; exact h j hlt
        · rw [if_neg hlt]; exact hv)
      (fun i j hij hj => by
        try dsimp only
        rw [if_pos (show i < m by omega)]
        by_cases hlt : j < m
        · rw [if_pos hlt]; exact hi i j hij hlt
        · rw [if_neg hlt]; exact fun q => hx ⟨i, by omega, q⟩)
    omega
