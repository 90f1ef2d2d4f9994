/-- how many sequences -/
noncomputable def sqs (T : Nat → Nat) (mm : Nat) : Nat := min mm 1 + nb T (mm - 1)
theorem sqs_in {T : Nat → Nat} {mm v : Nat} (h : v < sqs T mm) : 1 ≤ mm ∧ v ≤ nb T (mm - 1) := by
  unfold sqs at h
  by_cases e : mm = 0
  · rw [e] at h; have := nb_0 T; simp [this] at h
  · omega
theorem sqs_le (T : Nat → Nat) (mm : Nat) : sqs T mm ≤ mm := by
  have := nb_le T (mm - 1)
  unfold sqs; omega
theorem sqs_1 (T : Nat → Nat) (nn : Nat) : sqs T (nn + 1) = nb T nn + 1 := by
  unfold sqs; rw [Nat.add_sub_cancel]; omega
theorem sq_next {T : Nat → Nat} {n v : Nat} (h : v ≤ nb T n) : gs T n v < gs T n (v + 1) := by
  have hg := nb_gs T n v h
  exact (gs_iff T (n := n) (s := v + 1) hg.2.2).mp (by rw [hg.1]; omega)
/-- what letters of sequence v there are -/
noncomputable def lns (T : Nat → Nat) (mm v : Nat) : Nat := gs T (mm - 1) (v + 1) - 1 - gs T (mm - 1) v
/-- the word of an image, of a sequence -/
noncomputable def imw (S : Nat → Nat) (mm k : Nat) : Nat → Nat := fun i => if 8 * k + i < mm then cod (S (8 * k + i)) else 0
noncomputable def exw (T : Nat → Nat) (mm v o : Nat) : Nat → Nat := fun i => if o + i < lns T mm v then cod (T (gs T (mm - 1) v + o + i)) else 0
theorem imw_lt {S : Nat → Nat} (h : ∀ k, S k < 28) (mm k : Nat) : ∀ i, imw S mm k i < 256 := fun i => by
  unfold imw; split
  · have := cod_lt (h (8 * k + i)); omega
  · omega
theorem exw_lt {T : Nat → Nat} (h : ∀ k, T k < 28) (mm v o : Nat) : ∀ i, exw T mm v o i < 256 := fun i => by
  unfold exw; split
  · have := cod_lt (h (gs T (mm - 1) v + o + i)); omega
  · omega
theorem hor_all (f : Nat → Nat) : hor f 0 8 = wsum f 8 := by
  have := wsum_hor f 8 0
  rw [Nat.zero_add] at this; rw [this]; simp [wsum]
/-- one byte more, from the top -/
theorem hor_dn {f : Nat → Nat} {q x : Nat} (h : ∀ i, f i < 256) (h0 : 0 < q) (hq : q ≤ 8) (hx : x = f (q - 1)) : (lN (hor f q (8 - q)) <<< ((nI 8).toInt64 &&& 63)) ||| lN x = lN (hor f (q - 1) (8 - (q - 1))) := by
  obtain ⟨b, rfl⟩ : ∃ b, q = b + 1 := ⟨q - 1, by omega⟩
  rw [Nat.add_sub_cancel] at hx ⊢
  rw [hx, show 8 - b = 8 - (b + 1) + 1 by omega]
  exact hor_or h (by omega)
theorem off_y {T : Nat → Nat} {n q o : Nat} (hq : q + 1 < n + 1) (ho : o = q - gs T n (nb T q)) (h : T q = 1) : 0 = q + 1 - gs T n (nb T (q + 1)) := by
  rw [nb_y h, gs_bar h hq]; omega
theorem off_n {T : Nat → Nat} {n q o : Nat} (hq : q + 1 < n + 1) (ho : o = q - gs T n (nb T q)) (h : ¬ T q = 1) : o + 1 = q + 1 - gs T n (nb T (q + 1)) := by
  have := gs_own T (n := n) (q := q) (by omega)
  rw [nb_n h]; omega
