theorem wor_b {t : Nat} (h : t < 28) : wor (cod t) < 125 := by
  have := cod_lt h
  unfold wor; split
  · omega
  · split <;> omega
theorem bf_fin {T : Nat → Nat} {a b k : Nat} (h28 : ∀ q, T q < 28) (heq : ∀ j, j < k → T (a + j) = T (b + j)) (hne : T (a + k) ≠ T (b + k)) : slt T a b ↔ wor (cod (T (a + k))) < wor (cod (T (b + k))) := by
  rw [slt_at heq hne, wor_lt (h28 _) (h28 _)]
theorem bf_end {T : Nat → Nat} {n a b k : Nat} (hT : Txt T n) (hab : a ≠ b) (ha : a + k ≤ n) (hb : b + k ≤ n) (h : a + k = n ∨ b + k = n) : T (a + k) ≠ T (b + k) := by
  intro e
  rcases h with h | h
  · have h1 := (hT (a + k)).mpr (by omega)
    have h2 := (hT (b + k)).mp (by omega)
    omega
  · have h1 := (hT (b + k)).mpr (by omega)
    have h2 := (hT (a + k)).mp (by omega)
    omega
/-- the rows while a place is carried down to row x -/
def Car (T O W : Nat → Nat) (q x : Nat) : Prop := (∀ j, j < x → W j = O j) ∧ (∀ j, x < j → j < q + 1 → W j = O (j - 1)) ∧ (∀ j, x ≤ j → j < q → slt T q (O j))
theorem Car_0 (T O : Nat → Nat) (q : Nat) : Car T O O q q := ⟨fun _ _ => rfl, fun j h1 h2 => by omega, fun j h1 h2 => by omega⟩
theorem Car_s {T O W : Nat → Nat} {q x : Nat} (h : Car T O W q x) (h0 : 0 < x) (hx : x ≤ q) (hs : slt T q (O (x - 1))) : Car T O (upN W x (W (x - 1))) q (x - 1) := by
  refine ⟨fun j hj => ?_, fun j h1 h2 => ?_, fun j h1 h2 => ?_⟩
  · rw [upN_o (by omega)]; exact h.1 j (by omega)
  · by_cases e : j = x
    · rw [e, upN_s]; exact h.1 (x - 1) (by omega)
    · rw [upN_o e]; exact h.2.1 j (by omega) h2
  · by_cases e : j = x - 1
    · rw [e]; exact hs
    · exact h.2.2 j (by omega) h2
theorem Car_end {T O W : Nat → Nat} {n q x : Nat} (hT : Txt T n) (hq : q < n + 1) (hS : So T O q) (h : Car T O W q x) (hx : x ≤ q) (hl : x = 0 ∨ ¬ slt T q (O (x - 1))) : So T (upN W x q) (q + 1) := by
  refine So_put hT hq hS hx hl h.2.2 (fun j hj => ?_)
  by_cases h1 : j < x
  · rw [if_pos h1, upN_o (by omega)]; exact h.1 j h1
  · rw [if_neg h1]
    by_cases h2 : j = x
    · rw [if_pos h2, h2, upN_s]
    · rw [if_neg h2, upN_o h2]; exact h.2.1 j (by omega) hj
theorem im_step {T O I : Nat → Nat} {n k v : Nat} (h : ∀ j, j < k → I j = cod (T (prv n (O j)))) (hv : v = cod (T (prv n (O k)))) : ∀ j, j < k + 1 → upN I k v j = cod (T (prv n (O j))) := by
  intro j hj
  by_cases e : j = k
  · rw [e, upN_s, hv]
  · rw [upN_o e]; exact h j (by omega)
