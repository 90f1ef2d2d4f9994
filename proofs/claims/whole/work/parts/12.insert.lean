theorem slt_shift {T : Nat → Nat} {a b : Nat} : slt (fun q => T (q + 1)) a b ↔ slt T (a + 1) (b + 1) := by
  unfold slt
  constructor
  · intro ⟨k, h1, h2⟩
    refine ⟨k, fun j hj => ?_, ?_⟩
    · have := h1 j hj
      rw [show a + 1 + j = a + j + 1 by omega, show b + 1 + j = b + j + 1 by omega]; exact this
    · rw [show a + 1 + k = a + k + 1 by omega, show b + 1 + k = b + k + 1 by omega]; exact h2
  · intro ⟨k, h1, h2⟩
    refine ⟨k, fun j hj => ?_, ?_⟩
    · have := h1 j hj
      rw [show a + 1 + j = a + j + 1 by omega, show b + 1 + j = b + j + 1 by omega] at this; exact this
    · rw [show a + 1 + k = a + k + 1 by omega, show b + 1 + k = b + k + 1 by omega] at h2; exact h2
/-- S is the image of the text T of n symbols, er the row of the whole text -/
def Bwt (S T : Nat → Nat) (n er : Nat) : Prop := ∃ O R, Srt T n O R ∧ Img S T O n ∧ er = R 0 ∧ er < n + 1
theorem Bwt_0 {S T : Nat → Nat} (hT : Txt T 0) (h : S 0 = 0) : Bwt S T 0 0 := by
  refine ⟨fun _ => 0, fun _ => 0, ⟨fun j hj => ⟨by show 0 < 0 + 1; omega, by show 0 = j; omega⟩, fun a ha => ⟨by show 0 < 0 + 1; omega, by show 0 = a; omega⟩, fun i j hij hj => by omega⟩, fun j hj => ?_, rfl, by omega⟩
  have e : j = 0 := by omega
  rw [e, h, prv_0]; exact ((hT 0).mpr (Nat.le_refl 0)).symm
theorem Bwt_put {S T S1 S2 : Nat → Nat} {n er row : Nat} (hT : Txt T (n + 1)) (hB : Bwt S (fun q => T (q + 1)) n er)
    (h1 : ∀ j, S1 j = if j = er then T 0 else S j)
    (hrow : row = 1 + num (fun j => S1 j < T 0) (n + 1) + num (fun j => S1 j = T 0) er)
    (h2 : ∀ j, j < n + 2 → S2 j = if j < row then S1 j else if j = row then 0 else S1 (j - 1)) : Bwt S2 T (n + 1) row := by
  obtain ⟨O, R, hs, hi, he, hen⟩ := hB
  have hT1 : Txt (fun q => T (q + 1)) n := fun q => ⟨fun x => by have := (hT (q + 1)).mp x; omega, fun x => (hT (q + 1)).mpr (by omega)⟩
  have hc : T 0 ≠ 0 := fun q => by have := (hT 0).mp q; omega
  have hO0 : O er = 0 := by rw [he]; exact (hs.2.1 0 (by omega)).2
  have hS1 : ∀ j, j < n + 1 → S1 j = T (O j) := by
    intro j hj
    rw [h1 j]
    by_cases hj' : j = er
    · rw [if_pos hj', hj', hO0]
    · rw [if_neg hj', hi j hj]
      have hz : O j ≠ 0 := fun q => hj' (by have := (hs.1 j hj).2; rw [q] at this; rw [he]; exact this.symm)
      show T (prv n (O j) + 1) = _
      unfold prv; rw [if_neg hz, show O j - 1 + 1 = O j by omega]
  -- the row of the new suffix
  have hq : ∀ i j, i < j → j < n + 1 → slt T (O j + 1) 0 → slt T (O i + 1) 0 := fun i j hij hj x =>
    slt_tr (slt_shift.mp (hs.2.2 i j hij hj)) x
  have hnum : row = num (fun j => slt T (O j + 1) 0) (n + 1) := by
    rw [num_bij (P := fun b => slt T (b + 1) 0) hs.1 hs.2.1]
    have e2 : num (fun b => slt T (b + 1) 0) (n + 1) = num (fun b => T (b + 1) < T 0 ∨ (T (b + 1) = T 0 ∧ slt (fun q => T (q + 1)) (b + 1) 0)) (n + 1) :=
      num_congr _ (fun b _ => by rw [slt_shift]; exact slt_iff)
    rw [e2, num_or (fun j _ x => by omega), ← hs.over (fun b => T (b + 1) < T 0), ← hs.over (fun b => T (b + 1) = T 0 ∧ slt (fun q => T (q + 1)) (b + 1) 0), hrow]
    have e3 : num (fun j => T (prv n (O j) + 1) < T 0) (n + 1) = num (fun j => S1 j < T 0) (n + 1) + 1 := by
      refine num_upd (v := er) hen (fun j hj hj' => ?_) ?_ ?_
      · rw [h1 j, if_neg hj', hi j hj]
      · rw [hO0, prv_0, (hT (n + 1)).mpr (Nat.le_refl _)]; omega
      · rw [h1 er, if_pos rfl]; omega
    have e4 : num (fun j => T (prv n (O j) + 1) = T 0 ∧ slt (fun q => T (q + 1)) (prv n (O j) + 1) 0) (n + 1) = num (fun j => S1 j = T 0) er := by
      rw [← num_below (fun j => S1 j = T 0) (show er ≤ n + 1 by omega)]
      refine num_congr _ (fun j hj => ?_)
      have hl := hs.lt hj hen
      rw [hO0] at hl
      constructor
      · intro x
        have hz : O j ≠ 0 := fun q => by
          have y := x.1
          rw [q, prv_0, (hT (n + 1)).mpr (Nat.le_refl _)] at y; omega
        have e5 : prv n (O j) + 1 = O j := by unfold prv; rw [if_neg hz]; omega
        have y := x.2
        rw [e5] at y
        have hlt := hl.mp y
        refine ⟨hlt, ?_⟩
        rw [h1 j, if_neg (by omega), hi j hj]; exact x.1
      · intro x
        have y := x.2
        rw [h1 j, if_neg (by omega), hi j hj] at y
        have y' : T (prv n (O j) + 1) = T 0 := y
        have hz : O j ≠ 0 := fun q => by
          rw [q, prv_0, (hT (n + 1)).mpr (Nat.le_refl _)] at y'; omega
        have e5 : prv n (O j) + 1 = O j := by unfold prv; rw [if_neg hz]; omega
        refine ⟨y', ?_⟩
        rw [e5]; exact hl.mpr x.1
    rw [e3, e4]; omega
  have hrl : row < n + 2 := by have := num_le (fun j => slt T (O j + 1) 0) (n + 1); omega
  have hQ : ∀ j, j < n + 1 → (slt T (O j + 1) 0 ↔ j < row) := fun j hj => by rw [hnum]; exact num_pfx hq j hj
  have a1 : ∀ j, j < row → (if j < row then O j + 1 else if j = row then 0 else O (j - 1) + 1) = O j + 1 := fun j h => if_pos h
  refine ⟨fun j => if j < row then O j + 1 else if j = row then 0 else O (j - 1) + 1,
    fun a => if a = 0 then row else if R (a - 1) < row then R (a - 1) else R (a - 1) + 1, ⟨?_, ?_, ?_⟩, ?_, by simp, hrl⟩
  · intro j hj
    try dsimp only
    by_cases hj1 : j < row
    · have h3 := hs.1 j (by omega)
      rw [if_pos hj1, if_neg (by omega), Nat.add_sub_cancel, h3.2, if_pos hj1]; exact ⟨by omega, rfl⟩
    · by_cases hj2 : j = row
      · rw [if_neg hj1, if_pos hj2, if_pos rfl]; exact ⟨by omega, hj2.symm⟩
      · have h3 := hs.1 (j - 1) (by omega)
        rw [if_neg hj1, if_neg hj2, if_neg (by omega), Nat.add_sub_cancel, h3.2, if_neg (by omega)]; exact ⟨by omega, by omega⟩
  · intro a ha
    try dsimp only
    by_cases ha0 : a = 0
    · rw [if_pos ha0, if_neg (by omega), if_pos rfl]; exact ⟨hrl, ha0.symm⟩
    · have h3 := hs.2.1 (a - 1) (by omega)
      rw [if_neg ha0]
      by_cases hr : R (a - 1) < row
      · rw [if_pos hr, if_pos hr, h3.2]; exact ⟨by omega, by omega⟩
      · rw [if_neg hr, if_neg (by omega), if_neg (by omega), Nat.add_sub_cancel, h3.2]; exact ⟨by omega, by omega⟩
  · intro i j hij hj
    try dsimp only
    by_cases hj1 : j < row
    · rw [if_pos hj1, if_pos (show i < row by omega)]; exact slt_shift.mp (hs.2.2 i j hij (by omega))
    · rw [if_neg hj1]
      by_cases hj2 : j = row
      · rw [if_pos hj2, if_pos (show i < row by omega)]; exact (hQ i (by omega)).mpr (by omega)
      · rw [if_neg hj2]
        by_cases hi1 : i < row
        · rw [if_pos hi1]; exact slt_shift.mp (hs.2.2 i (j - 1) (by omega) (by omega))
        · rw [if_neg hi1]
          by_cases hi2 : i = row
          · rw [if_pos hi2]
            have h3 := hs.1 (j - 1) (by omega)
            cases slt_tot hT (n + 1) 0 (O (j - 1) + 1) (by omega) (by omega) (by omega) (by omega) with
            | inl x => exact x
            | inr x => have := (hQ (j - 1) (by omega)).mp x; omega
          · rw [if_neg hi2]; exact slt_shift.mp (hs.2.2 (i - 1) (j - 1) (by omega) (by omega))
  · intro j hj
    try dsimp only
    rw [h2 j hj]
    by_cases hj1 : j < row
    · rw [if_pos hj1, if_pos hj1, prv_s]; exact hS1 j (by omega)
    · rw [if_neg hj1, if_neg hj1]
      by_cases hj2 : j = row
      · rw [if_pos hj2, if_pos hj2, prv_0]; exact ((hT (n + 1)).mpr (Nat.le_refl _)).symm
      · rw [if_neg hj2, if_neg hj2, prv_s]; exact hS1 (j - 1) (by omega)
