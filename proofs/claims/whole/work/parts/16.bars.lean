theorem svr_congr {W W' D D' : Nat → Nat} {c : Nat} : ∀ j, (∀ i, i ≤ j → D i = D' i) → (∀ i, i < j → W i = W' i) → svr W D c j = svr W' D' c j
  | 0, h, _ => h 0 (Nat.le_refl 0)
  | j + 1, h, hw => by
    show min (D j + neq (W j) c) (min (D (j + 1)) (svr W D c j) + 1) = min (D' j + neq (W' j) c) (min (D' (j + 1)) (svr W' D' c j) + 1)
    rw [svr_congr j (fun i hi => h i (by omega)) (fun i hi => hw i (by omega)), h j (by omega), h (j + 1) (by omega), hw j (by omega)]
theorem lvr_congr {W W' D D' : Nat → Nat} {c : Nat} : ∀ j, (∀ i, i ≤ j → D i = D' i) → (∀ i, i < j → W i = W' i) → lvr W D c j = lvr W' D' c j
  | 0, h, _ => by show D 0 + 1 = D' 0 + 1; rw [h 0 (Nat.le_refl 0)]
  | j + 1, h, hw => by
    show min (min (D j + neq (W j) c) (D (j + 1) + 1)) (lvr W D c j + 1) = min (min (D' j + neq (W' j) c) (D' (j + 1) + 1)) (lvr W' D' c j + 1)
    rw [lvr_congr j (fun i hi => h i (by omega)) (fun i hi => hw i (by omega)), h j (by omega), h (j + 1) (by omega), hw j (by omega)]
/-- bars before a place -/
noncomputable def nb (T : Nat → Nat) (q : Nat) : Nat := num (fun x => T x = 1) q
theorem nb_0 (T : Nat → Nat) : nb T 0 = 0 := rfl
theorem nb_y {T : Nat → Nat} {q : Nat} (h : T q = 1) : nb T (q + 1) = nb T q + 1 := num_y h
theorem nb_n {T : Nat → Nat} {q : Nat} (h : ¬ T q = 1) : nb T (q + 1) = nb T q := num_n h
theorem nb_mono (T : Nat → Nat) {a b : Nat} (h : a ≤ b) : nb T a ≤ nb T b := num_mono _ h
theorem nb_le (T : Nat → Nat) (a : Nat) : nb T a ≤ a := num_le _ a
/-- where sequence s begins: behind all places with fewer bars before them -/
noncomputable def gs (T : Nat → Nat) (n s : Nat) : Nat := num (fun q => nb T q < s) (n + 1)
theorem gs_iff (T : Nat → Nat) {n s q : Nat} (h : q < n + 1) : nb T q < s ↔ q < gs T n s :=
  num_pfx (Q := fun q => nb T q < s) (fun i j hij _ x => by have := nb_mono T (show i ≤ j by omega); omega) q h
theorem gs_le (T : Nat → Nat) (n s : Nat) : gs T n s ≤ n + 1 := num_le _ _
theorem gs_0 (T : Nat → Nat) (n : Nat) : gs T n 0 = 0 := num_none (fun j _ x => by omega)
theorem gs_end (T : Nat → Nat) {n s : Nat} (h : nb T n < s) : gs T n s = n + 1 :=
  num_all (fun j hj => by have := nb_mono T (show j ≤ n by omega); omega)
/-- behind a bar a sequence begins -/
theorem gs_bar {T : Nat → Nat} {n q : Nat} (h : T q = 1) (hq : q + 1 < n + 1) : gs T n (nb T q + 1) = q + 1 := by
  have h1 := (gs_iff T (n := n) (s := nb T q + 1) (q := q) (by omega)).mp (by omega)
  have h2 := (gs_iff T (n := n) (s := nb T q + 1) (q := q + 1) hq)
  rw [nb_y h] at h2
  omega
/-- a bar, or the end, closes the sequence -/
theorem gs_next {T : Nat → Nat} {n q : Nat} (hq : q < n + 1) (h : q = n ∨ T q = 1) : gs T n (nb T q + 1) = q + 1 := by
  by_cases e : q = n
  · rw [e]; exact gs_end T (by omega)
  · exact gs_bar (h.resolve_left e) (by omega)
theorem gs_own (T : Nat → Nat) {n q : Nat} (hq : q < n + 1) : gs T n (nb T q) ≤ q := by
  have := gs_iff T (n := n) (s := nb T q) hq
  omega
theorem gs_mono (T : Nat → Nat) (n : Nat) {a b : Nat} (h : a ≤ b) : gs T n a ≤ gs T n b := num_imp _ (fun j _ x => by omega)
/-- the first place of its sequence: 0, or behind a bar -/
theorem nb_gs (T : Nat → Nat) (n : Nat) : ∀ s, s ≤ nb T n → nb T (gs T n s) = s ∧ (gs T n s = 0 ∨ T (gs T n s - 1) = 1) ∧ gs T n s < n + 1
  | 0, _ => by rw [gs_0]; exact ⟨nb_0 T, Or.inl rfl, by omega⟩
  | s + 1, h => by
    have h1 := gs_iff T (n := n) (s := s + 1) (q := n) (by omega)
    have hlt : gs T n (s + 1) < n + 1 := by omega
    have h2 := gs_iff T (n := n) (s := s + 1) hlt
    have h3 : gs T n (s + 1) ≠ 0 := fun q => by rw [q, nb_0] at h2; omega
    obtain ⟨g, hg⟩ : ∃ g, gs T n (s + 1) = g + 1 := ⟨gs T n (s + 1) - 1, by omega⟩
    have h4 := gs_iff T (n := n) (s := s + 1) (q := g) (by omega)
    rw [hg] at h2 h4 hlt ⊢
    by_cases hb : T g = 1
    · rw [nb_y hb] at h2 ⊢
      refine ⟨by omega, Or.inr ?_, hlt⟩
      rw [Nat.add_sub_cancel]; exact hb
    · rw [nb_n hb] at h2; omega
theorem nb_in {T : Nat → Nat} {n s q : Nat} (h1 : gs T n s ≤ q) (h2 : q < gs T n (s + 1)) : nb T q = s := by
  have hq : q < n + 1 := by have := gs_le T n (s + 1); omega
  have a := gs_iff T (n := n) (s := s) hq
  have b := gs_iff T (n := n) (s := s + 1) hq
  omega
theorem bar_in {T : Nat → Nat} {n s q : Nat} (h1 : gs T n s ≤ q) (h2 : q + 1 < gs T n (s + 1)) : T q ≠ 1 := fun h => by
  have a := nb_in h1 (show q < gs T n (s + 1) by omega)
  have b := nb_in (show gs T n s ≤ q + 1 by omega) h2
  rw [nb_y h] at b; omega
/-- the distances at a place, from its own sequence's start -/
theorem Er_seq (W T : Nat → Nat) {n s e : Nat} (hs : s ≤ nb T n) (he : gs T n s + e < gs T n (s + 1)) : Er W T (gs T n s + e) = Sr W T (gs T n s) e :=
  Er_Sr W T (nb_gs T n s hs).2.1 e (fun q h1 h2 => bar_in h1 (show q + 1 < gs T n (s + 1) by omega))
/-- the least number below m with P, or m -/
noncomputable def lea (P : Nat → Prop) : Nat → Nat
  | 0 => 0
  | m + 1 => if lea P m < m then lea P m else @ite Nat (P m) (Classical.propDecidable (P m)) m (m + 1)
theorem lea_none {P : Nat → Prop} : ∀ {m : Nat}, (∀ j, j < m → ¬ P j) → lea P m = m
  | 0, _ => rfl
  | m + 1, h => by
    have ih := lea_none (P := P) (m := m) (fun j hj => h j (by omega))
    show (if lea P m < m then lea P m else @ite Nat (P m) (Classical.propDecidable (P m)) m (m + 1)) = m + 1
    rw [if_neg (by omega), if_neg (h m (by omega))]
theorem lea_at {P : Nat → Prop} {v : Nat} (hp : P v) (h : ∀ j, j < v → ¬ P j) : ∀ {m : Nat}, v < m → lea P m = v
  | m + 1, hm => by
    show (if lea P m < m then lea P m else @ite Nat (P m) (Classical.propDecidable (P m)) m (m + 1)) = v
    by_cases e : v = m
    · subst e
      rw [lea_none h, if_neg (by omega), if_pos hp]
    · have ih := lea_at hp h (m := m) (by omega)
      rw [ih, if_pos (by omega)]
theorem lea_P {P : Nat → Prop} : ∀ {m : Nat}, lea P m < m → P (lea P m)
  | 0, h => absurd h (Nat.not_lt_zero _)
  | m + 1, h => by
    have hd : lea P (m + 1) = (if lea P m < m then lea P m else @ite Nat (P m) (Classical.propDecidable (P m)) m (m + 1)) := rfl
    rw [hd] at h ⊢
    by_cases h1 : lea P m < m
    · rw [if_pos h1]; exact lea_P h1
    · rw [if_neg h1] at h ⊢
      by_cases h2 : P m
      · rw [if_pos h2]; exact h2
      · rw [if_neg h2] at h; omega
theorem lea_le (P : Nat → Prop) : ∀ (m : Nat), lea P m ≤ m
  | 0 => Nat.le_refl 0
  | m + 1 => by
    have ih := lea_le P m
    show (if lea P m < m then lea P m else @ite Nat (P m) (Classical.propDecidable (P m)) m (m + 1)) ≤ m + 1
    split
    · omega
    · split <;> omega
/-- the place of number i among those with P -/
def Nth (P : Nat → Prop) (i q : Nat) : Prop := P q ∧ num P q = i
