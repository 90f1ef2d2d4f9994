theorem bw_below {x : Int32} {b : Nat} (h1 : ¬ x < 0) (h2 : ¬ nI b ≤ x) (hb : b < 2 ^ 31 := by omega) : ∃ k, k < b ∧ x = nI k := by
  obtain ⟨k, hk, e⟩ := bw_nn h1
  refine ⟨k, ?_, e⟩
  rw [e, nI_leI hb hk] at h2; omega
theorem bw_m1 {x : Int32} (h1 : ¬ x < 0) : nI 0 - 1 ≤ x := by
  rw [Int32.lt_iff_toInt_lt, Int32.toInt_zero] at h1
  rw [Int32.le_iff_toInt_le, bw_pt (by decide)]; omega
theorem bw_m1n {k : Nat} (h : k < 2 ^ 31) : nI 0 - 1 ≠ nI k := fun e => by
  rw [bw_eq_pn (by decide) h] at e; omega
theorem bw_nar {k : Nat} (h : k ≤ 1) : narrow .boolean (.int (nI k)) = .int (nI k) := by
  have : k = 0 ∨ k = 1 := by omega
  rcases this with e | e <;> rw [e] <;> rfl
/-- the letters of a pattern, as symbols -/
def pw (w i : Nat) : Nat := by8 w i - 95
theorem pw_cod {w k i : Nat} (h : Pat w k) (hi : i < k) : cod (pw w i) = by8 w i ∧ pw w i < 28 ∧ 2 ≤ pw w i := by
  have h1 := h.2.2.1 i hi
  unfold pw cod
  rw [if_neg (by omega), if_neg (by omega)]; omega
theorem occ_congr {T W W' : Nat → Nat} {k a : Nat} (h : ∀ i, i < k → W i = W' i) : occ T W k 0 a ↔ occ T W' k 0 a :=
  ⟨fun x i h1 h2 => by rw [← h i h2]; exact x i h1 h2, fun x i h1 h2 => by rw [h i h2]; exact x i h1 h2⟩
theorem rd_no {w k j : Nat} (hn : ¬ (97 ≤ by8 w k ∧ by8 w k ≤ 122)) (hk : k ≤ j) (hj : j < 8) (h : ¬ by8 w j = 0) : ∀ x, ¬ Pat w x := by
  intro x hp
  by_cases e : j < x
  · exact hn (hp.2.2.1 k (by omega))
  · exact h (hp.2.2.2 j (by omega) hj)
theorem rd_y {w k j : Nat} (h0 : 0 < k) (hk : k ≤ 8) (h1 : ∀ i, i < k → 97 ≤ by8 w i ∧ by8 w i ≤ 122) (hj : 8 ≤ j) (h2 : ∀ i, k ≤ i → i < j → by8 w i = 0) : Pat w k :=
  ⟨h0, hk, h1, fun i h3 h4 => h2 i h3 (by omega)⟩
theorem rd_0 {w j : Nat} (hj : 8 ≤ j) (h2 : ∀ i, 0 ≤ i → i < j → by8 w i = 0) : ∀ x, ¬ Pat w x := fun x hp => by
  have h3 := h2 0 (by omega) (by omega)
  have h4 := hp.2.2.1 0 hp.1
  omega
/-- what has been compared -/
def OcI (T W : Nat → Nat) (k a j al : Nat) : Prop := (al = 1 ∧ ∀ i, i < j → T (a + i) = W i) ∨ (al = 0 ∧ ¬ occ T W k 0 a)
theorem OcI_y {T W : Nat → Nat} {k a j al : Nat} (h : OcI T W k a j al) (h1 : ¬ al = 0) (he : T (a + j) = W j) : OcI T W k a (j + 1) 1 := by
  rcases h with h | h
  · exact Or.inl ⟨rfl, fun i hi => if e : i = j then (by rw [e]; exact he) else h.2 i (by omega)⟩
  · exact absurd h.1 h1
theorem OcI_n {T W : Nat → Nat} {k a j : Nat} (hj : j < k) (he : ¬ T (a + j) = W j) : OcI T W k a (j + 1) 0 :=
  Or.inr ⟨rfl, fun h => he (by have := h j (by omega) hj; rw [Nat.sub_zero] at this; exact this)⟩
theorem OcI_end {T W : Nat → Nat} {k a j al : Nat} (h : OcI T W k a j al) (hj : k ≤ j ∨ al = 0) : (occ T W k 0 a ∧ nI al = nI 1) ∨ (¬ occ T W k 0 a ∧ nI al = nI 0) := by
  rcases h with h | h
  · refine Or.inl ⟨fun i h1 h2 => ?_, by rw [h.1]⟩
    rw [Nat.sub_zero]; exact h.2 i (by omega)
  · exact Or.inr ⟨h.2, by rw [h.1]⟩
theorem OcI_le {T W : Nat → Nat} {k a j al : Nat} (h : OcI T W k a j al) : al ≤ 1 := by rcases h with h | h <;> omega
theorem bw_ge {x : Int32} (h : 0 ≤ x) : ¬ x < 0 := by
  rw [Int32.le_iff_toInt_le] at h; rw [Int32.lt_iff_toInt_lt]; omega
theorem bw_nge {x : Int32} (h : ¬ 0 ≤ x) : x < 0 := by
  rw [Int32.le_iff_toInt_le] at h; rw [Int32.lt_iff_toInt_lt]; omega
