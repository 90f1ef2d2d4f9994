/-- the rows met on the way back from row 0 -/
noncomputable def gob (S : Nat → Nat) (m : Nat) : Nat → Nat
  | 0 => 0
  | i + 1 => bk S m (gob S m i)
/-- one 0, and it isn't met too early -/
def Ac (S : Nat → Nat) (m : Nat) : Prop := num (fun j => S j = 0) m = 1 ∧ ∀ i, i + 1 < m → S (gob S m i) ≠ 0
/-- the text that is read on the way back -/
noncomputable def txb (S : Nat → Nat) (m q : Nat) : Nat := if q + 1 < m then S (gob S m (m - 2 - q)) else 0
theorem num_1 {P : Nat → Prop} {m : Nat} (h : num P m = 1) : ∃ v, v < m ∧ P v ∧ ∀ j, j < m → P j → j = v := by
  by_cases hx : ∃ v, v < m ∧ P v
  · obtain ⟨v, hv, hp⟩ := hx
    refine ⟨v, hv, hp, fun j hj hq => ?_⟩
    by_cases e : j = v
    · exact e
    · exfalso
      by_cases hlt : j < v
      · have h1 := num_lt hlt hq; have h2 := num_lt hv hp; omega
      · have h1 := num_lt (show v < j by omega) hp; have h2 := num_lt hj hq; omega
  · have := num_none (P := P) (m := m) (fun j hj q => hx ⟨j, hj, q⟩); omega
theorem gob_lt {S : Nat → Nat} {m : Nat} (hm : 0 < m) : ∀ i, gob S m i < m
  | 0 => hm
  | i + 1 => bk_lt (gob_lt hm i)
theorem txb_txt {S : Nat → Nat} {n : Nat} (h : ∀ i, i + 1 < n + 1 → S (gob S (n + 1) i) ≠ 0) : Txt (txb S (n + 1)) n := by
  intro q
  unfold txb
  by_cases hq : q + 1 < n + 1
  · rw [if_pos hq]; exact ⟨fun x => absurd x (h _ (by omega)), fun x => by omega⟩
  · rw [if_neg hq]; exact ⟨fun _ => by omega, fun _ => rfl⟩
theorem Ac_srt {S : Nat → Nat} {n : Nat} (h : Ac S (n + 1)) : S (gob S (n + 1) n) = 0 ∧ ∃ O R, Srt (txb S (n + 1)) n O R ∧ Img S (txb S (n + 1)) O n := by
  have hT := txb_txt h.2
  obtain ⟨z, hz, hz0, hzu⟩ := num_1 h.1
  have hbz : bk S (n + 1) z = 0 := by
    unfold bk
    rw [num_none (P := fun j => S j < S z) (fun j _ x => by omega), num_none (fun j hj x => by have := hzu j (by omega) (by omega); omega)]
  have hg := gob_lt (S := S) (show 0 < n + 1 by omega)
  have hd : ∀ i j, i < j → j < n + 1 → gob S (n + 1) i ≠ gob S (n + 1) j := by
    intro i
    induction i with
    | zero =>
      intro j hij hj q
      obtain ⟨j', rfl⟩ : ∃ j', j = j' + 1 := ⟨j - 1, by omega⟩
      have e : gob S (n + 1) j' = z := bk_inj (hg j') hz (by rw [hbz]; exact q.symm)
      exact h.2 j' hj (by rw [e]; exact hz0)
    | succ i ih =>
      intro j hij hj q
      obtain ⟨j', rfl⟩ : ∃ j', j = j' + 1 := ⟨j - 1, by omega⟩
      exact ih j' (by omega) (by omega) (bk_inj (hg i) (hg j') q)
  have hon : ∀ v, v < n + 1 → ∃ i, i < n + 1 ∧ gob S (n + 1) i = v := fun v hv => ph_onto (fun j _ => hg j) hd hv
  have hn0 : gob S (n + 1) n = z := by
    obtain ⟨i, hi, e⟩ := hon z hz
    by_cases hi' : i = n
    · rw [hi'] at e; exact e
    · exact absurd (by rw [e]; exact hz0) (h.2 i (by omega))
  refine ⟨by rw [hn0]; exact hz0, ?_⟩
  obtain ⟨I, hI⟩ := Classical.axiomOfChoice (r := fun (v i : Nat) => v < n + 1 → (i < n + 1 ∧ gob S (n + 1) i = v)) (fun v => by
    by_cases hv : v < n + 1
    · obtain ⟨i, x⟩ := hon v hv; exact ⟨i, fun _ => x⟩
    · exact ⟨0, fun x => absurd x hv⟩)
  have hTS : ∀ a, a < n + 1 → S (gob S (n + 1) (n - a)) = txb S (n + 1) (prv n a) := by
    intro a ha
    cases a with
    | zero => rw [prv_0, (hT n).mpr (Nat.le_refl n), Nat.sub_zero, hn0]; exact hz0
    | succ a =>
      rw [prv_s]; unfold txb
      rw [if_pos ha, show n + 1 - 2 - a = n - (a + 1) by omega]
  have hRb : ∀ a, a < n + 1 → gob S (n + 1) (n - a) = bk S (n + 1) (gob S (n + 1) (n - nxt n a)) := by
    intro a ha
    unfold nxt
    by_cases e : a = n
    · rw [if_pos e, e, Nat.sub_self, Nat.sub_zero, hn0, hbz]; rfl
    · rw [if_neg e, show n - a = n - (a + 1) + 1 by omega]; rfl
  have hin : ∀ i j, i < n + 1 → j < n + 1 → gob S (n + 1) i = gob S (n + 1) j → i = j := by
    intro i j hi hj e
    by_cases hij : i = j
    · exact hij
    · exfalso
      by_cases hlt : i < j
      · exact hd i j hlt hj e
      · exact hd j i (by omega) hi e.symm
  have hsl : ∀ d a b, n - a ≤ d → a < n + 1 → b < n + 1 → gob S (n + 1) (n - a) < gob S (n + 1) (n - b) → slt (txb S (n + 1)) a b := by
    intro d
    induction d with
    | zero =>
      intro a b hd' ha hb hlt
      have ea : a = n := by omega
      rw [hRb a ha, hRb b hb] at hlt
      have ho := bk_order (hg _) (hg _) hlt
      rw [hTS _ (nxt_lt ha), hTS _ (nxt_lt hb), prv_nxt ha, prv_nxt hb] at ho
      cases ho with
      | inl x => exact slt_lt x
      | inr x =>
        have h0 := (hT a).mpr (by omega)
        have h1 := (hT b).mp (by omega)
        have eb : b = n := by omega
        rw [ea, eb] at hlt; omega
    | succ d ih =>
      intro a b hd' ha hb hlt
      have hlt' := hlt
      rw [hRb a ha, hRb b hb] at hlt
      have ho := bk_order (hg _) (hg _) hlt
      rw [hTS _ (nxt_lt ha), hTS _ (nxt_lt hb), prv_nxt ha, prv_nxt hb] at ho
      cases ho with
      | inl x => exact slt_lt x
      | inr x =>
        by_cases ea : a = n
        · have h0 := (hT a).mpr (by omega)
          have h1 := (hT b).mp (by omega)
          have eb : b = n := by omega
          rw [ea, eb] at hlt'; omega
        · by_cases eb : b = n
          · have h0 := (hT b).mpr (by omega)
            have h1 := (hT a).mp (by omega)
            omega
          · have y := x.2
            unfold nxt at y
            rw [if_neg ea, if_neg eb] at y
            exact slt_up x.1 (ih (a + 1) (b + 1) (by omega) (by omega) (by omega) y)
  refine ⟨fun j => n - I j, fun a => gob S (n + 1) (n - a), ⟨fun j hj => ?_, fun a ha => ?_, fun i j hij hj => ?_⟩, fun j hj => ?_⟩
  · have h1 := hI j hj
    refine ⟨by (try dsimp only); omega, ?_⟩
    show gob S (n + 1) (n - (n - I j)) = j
    rw [show n - (n - I j) = I j by omega]; exact h1.2
  · have h1 := hI _ (hg (n - a))
    have h2 := hin _ _ h1.1 (show n - a < n + 1 by omega) h1.2
    exact ⟨hg _, by (try dsimp only); omega⟩
  · have h1 := hI i (by omega)
    have h2 := hI j hj
    refine hsl n _ _ (by (try dsimp only); omega) (by (try dsimp only); omega) (by (try dsimp only); omega) ?_
    try dsimp only
    rw [show n - (n - I i) = I i by omega, show n - (n - I j) = I j by omega, h1.2, h2.2]; exact hij
  · have h1 := hI j hj
    rw [← hTS _ (show n - I j < n + 1 by omega), show n - (n - I j) = I j by omega, h1.2]
/-- the other way: an image has one 0 -/
theorem Ac_of {S O R : Nat → Nat} {n : Nat} (h : ∀ i, i + 1 < n + 1 → S (gob S (n + 1) i) ≠ 0) (hs : Srt (txb S (n + 1)) n O R) (hi : Img S (txb S (n + 1)) O n) : Ac S (n + 1) := by
  have hT := txb_txt h
  refine ⟨num_one (v := R 0) (hs.2.1 0 (by omega)).1 (fun j hj => ?_), h⟩
  rw [hi j hj, hT]
  constructor
  · intro x
    have hz : O j = 0 := by
      by_cases hz : O j = 0
      · exact hz
      · have := (hs.1 j hj).1
        unfold prv at x; rw [if_neg hz] at x; omega
    have := (hs.1 j hj).2
    rw [hz] at this; exact this.symm
  · intro x
    rw [x, (hs.2.1 0 (by omega)).2, prv_0]; exact Nat.le_refl n
