/-- the suffix at a comes before that at b (T goes on with 0 behind the text) -/
def slt (T : Nat → Nat) (a b : Nat) : Prop := ∃ k, (∀ j, j < k → T (a + j) = T (b + j)) ∧ T (a + k) < T (b + k)
theorem slt_lt {T : Nat → Nat} {a b : Nat} (h : T a < T b) : slt T a b := ⟨0, fun j hj => by omega, h⟩
theorem slt_up {T : Nat → Nat} {a b : Nat} (h : T a = T b) (hs : slt T (a + 1) (b + 1)) : slt T a b := by
  obtain ⟨k, h1, h2⟩ := hs
  refine ⟨k + 1, fun j hj => ?_, ?_⟩
  · cases j with
    | zero => exact h
    | succ j =>
      have := h1 j (by omega)
      rw [show a + 1 + j = a + (j + 1) by omega, show b + 1 + j = b + (j + 1) by omega] at this
      exact this
  · rw [show a + 1 + k = a + (k + 1) by omega, show b + 1 + k = b + (k + 1) by omega] at h2
    exact h2
theorem slt_inv {T : Nat → Nat} {a b : Nat} (h : slt T a b) : T a < T b ∨ (T a = T b ∧ slt T (a + 1) (b + 1)) := by
  obtain ⟨k, h1, h2⟩ := h
  cases k with
  | zero => exact Or.inl h2
  | succ k =>
    refine Or.inr ⟨h1 0 (by omega), k, fun j hj => ?_, ?_⟩
    · rw [show a + 1 + j = a + (j + 1) by omega, show b + 1 + j = b + (j + 1) by omega]; exact h1 (j + 1) (by omega)
    · rw [show a + 1 + k = a + (k + 1) by omega, show b + 1 + k = b + (k + 1) by omega]; exact h2
theorem slt_iff {T : Nat → Nat} {a b : Nat} : slt T a b ↔ T a < T b ∨ (T a = T b ∧ slt T (a + 1) (b + 1)) :=
  ⟨slt_inv, fun h => h.elim slt_lt (fun h => slt_up h.1 h.2)⟩
theorem slt_irr {T : Nat → Nat} {a : Nat} : ¬ slt T a a := by
  intro ⟨k, _, h⟩; omega
theorem slt_tr {T : Nat → Nat} {a b c : Nat} (h : slt T a b) (g : slt T b c) : slt T a c := by
  obtain ⟨k1, h1, h2⟩ := h
  obtain ⟨k2, g1, g2⟩ := g
  by_cases hk : k1 < k2
  · exact ⟨k1, fun j hj => (h1 j hj).trans (g1 j (by omega)), by rw [← g1 k1 hk]; exact h2⟩
  · by_cases hk' : k1 = k2
    · subst hk'; exact ⟨k1, fun j hj => (h1 j hj).trans (g1 j hj), Nat.lt_trans h2 g2⟩
    · exact ⟨k2, fun j hj => (h1 j (by omega)).trans (g1 j hj), by rw [h1 k2 (by omega)]; exact g2⟩
theorem slt_as {T : Nat → Nat} {a b : Nat} (h : slt T a b) : ¬ slt T b a := fun g => slt_irr (slt_tr h g)
/-- T is a text of n symbols: 0 stands behind it alone -/
def Txt (T : Nat → Nat) (n : Nat) : Prop := ∀ q, T q = 0 ↔ n ≤ q
theorem slt_tot {T : Nat → Nat} {n : Nat} (hT : Txt T n) : ∀ (d a b : Nat), n - a ≤ d → a ≤ n → b ≤ n → a ≠ b → slt T a b ∨ slt T b a := by
  intro d
  induction d with
  | zero =>
    intro a b hd ha hb hab
    have h1 := (hT a).mpr (by omega)
    have h2 : T b ≠ 0 := fun q => by have := (hT b).mp q; omega
    exact Or.inl (slt_lt (by omega))
  | succ d ih =>
    intro a b hd ha hb hab
    by_cases h1 : T a < T b
    · exact Or.inl (slt_lt h1)
    · by_cases h2 : T b < T a
      · exact Or.inr (slt_lt h2)
      · have e : T a = T b := by omega
        by_cases hz : T a = 0
        · have h3 := (hT a).mp hz
          have h4 := (hT b).mp (by omega)
          omega
        · have h3 : ¬ n ≤ a := fun q => hz ((hT a).mpr q)
          have h4 : ¬ n ≤ b := fun q => hz (e.trans ((hT b).mpr q))
          cases ih (a + 1) (b + 1) (by omega) (by omega) (by omega) (by omega) with
          | inl x => exact Or.inl (slt_up e x)
          | inr x => exact Or.inr (slt_up e.symm x)
/-- O lays the suffixes 0 .. n in order, R finds them there -/
def Srt (T : Nat → Nat) (n : Nat) (O R : Nat → Nat) : Prop :=
  (∀ j, j < n + 1 → O j < n + 1 ∧ R (O j) = j) ∧ (∀ a, a < n + 1 → R a < n + 1 ∧ O (R a) = a) ∧ (∀ i j, i < j → j < n + 1 → slt T (O i) (O j))
theorem Srt.lt {T O R : Nat → Nat} {n : Nat} (h : Srt T n O R) {i j : Nat} (hi : i < n + 1) (hj : j < n + 1) : slt T (O i) (O j) ↔ i < j := by
  constructor
  · intro hs
    by_cases h1 : i < j
    · exact h1
    · by_cases h2 : i = j
      · subst h2; exact absurd hs slt_irr
      · exact absurd (h.2.2 j i (by omega) hi) (slt_as hs)
  · intro hij; exact h.2.2 i j hij hj
theorem Srt.rank {T O R : Nat → Nat} {n : Nat} (h : Srt T n O R) {a : Nat} (ha : a < n + 1) : R a = num (fun b => slt T b a) (n + 1) := by
  rw [← num_bij (P := fun b => slt T b a) h.1 h.2.1]
  have e : num (fun j => slt T (O j) a) (n + 1) = num (fun j => j < R a ∧ True) (n + 1) := num_congr _ (fun j hj => by
    have h1 := h.lt hj (h.2.1 a ha).1
    rw [(h.2.1 a ha).2] at h1
    exact ⟨fun x => ⟨h1.mp x, trivial⟩, fun x => h1.mpr x.1⟩)
  have hr := (h.2.1 a ha).1
  rw [e, num_below (fun _ => True) (show R a ≤ n + 1 by omega), num_all (fun _ _ => trivial)]
theorem Srt.same {T O R O' R' : Nat → Nat} {n : Nat} (h : Srt T n O R) (g : Srt T n O' R') : (∀ a, a < n + 1 → R a = R' a) ∧ (∀ j, j < n + 1 → O j = O' j) := by
  have e : ∀ a, a < n + 1 → R a = R' a := fun a ha => by rw [h.rank ha, g.rank ha]
  refine ⟨e, fun j hj => ?_⟩
  have h1 := h.1 j hj
  have h2 := g.2.1 (O j) h1.1
  rw [← e (O j) h1.1, h1.2] at h2
  exact h2.2.symm
/-- the place before, round the end -/
def prv (n a : Nat) : Nat := if a = 0 then n else a - 1
def nxt (n a : Nat) : Nat := if a = n then 0 else a + 1
theorem prv_0 (n : Nat) : prv n 0 = n := rfl
theorem prv_s (n a : Nat) : prv n (a + 1) = a := by unfold prv; rw [if_neg (by omega)]; omega
theorem prv_lt {n a : Nat} (h : a < n + 1) : prv n a < n + 1 := by unfold prv; split <;> omega
theorem nxt_lt {n a : Nat} (h : a < n + 1) : nxt n a < n + 1 := by unfold nxt; split <;> omega
theorem nxt_prv {n a : Nat} (h : a < n + 1) : nxt n (prv n a) = a := by
  unfold nxt prv
  by_cases h0 : a = 0
  · rw [if_pos h0, if_pos rfl]; omega
  · rw [if_neg h0, if_neg (by omega)]; omega
theorem prv_nxt {n a : Nat} (h : a < n + 1) : prv n (nxt n a) = a := by
  unfold nxt prv
  by_cases h0 : a = n
  · rw [if_pos h0, if_pos rfl]; omega
  · rw [if_neg h0, if_neg (by omega)]; omega
/-- S is the image: at each row the symbol before its suffix -/
def Img (S T O : Nat → Nat) (n : Nat) : Prop := ∀ j, j < n + 1 → S j = T (prv n (O j))
/-- counting over the rows is counting over the places -/
theorem Srt.over {T O R : Nat → Nat} {n : Nat} (h : Srt T n O R) (P : Nat → Prop) : num (fun j => P (prv n (O j))) (n + 1) = num P (n + 1) :=
  num_bij (P := P) (f := fun j => prv n (O j)) (g := fun v => R (nxt n v))
    (fun j hj => ⟨prv_lt (h.1 j hj).1, by (try dsimp only); rw [nxt_prv (h.1 j hj).1]; exact (h.1 j hj).2⟩)
    (fun v hv => ⟨(h.2.1 _ (nxt_lt hv)).1, by (try dsimp only); rw [(h.2.1 _ (nxt_lt hv)).2]; exact prv_nxt hv⟩)
theorem Srt.last {T O R : Nat → Nat} {n : Nat} (hT : Txt T n) (h : Srt T n O R) : R n = 0 := by
  rw [h.rank (by omega)]
  refine num_none (fun b hb hs => ?_)
  have h0 := (hT n).mpr (Nat.le_refl n)
  cases slt_inv hs with
  | inl x => omega
  | inr x => have h1 := (hT b).mp (by omega); have h2 : b = n := by omega
             subst h2; exact slt_irr hs
/-- where back leads from row k -/
noncomputable def bk (S : Nat → Nat) (m k : Nat) : Nat := num (fun j => S j < S k) m + num (fun j => S j = S k) k
theorem bk_lt {S : Nat → Nat} {m k : Nat} (h : k < m) : bk S m k < m := by
  have h1 := num_or (P := fun j => S j < S k) (Q := fun j => S j = S k) (m := m) (fun j _ x => by omega)
  have h2 := num_le (fun j => S j < S k ∨ S j = S k) m
  have h3 := num_lt (P := fun j => S j = S k) h rfl
  unfold bk; omega
/-- back is in the order of the symbols, and of the rows among the same -/
theorem bk_mono {S : Nat → Nat} {m i k : Nat} (hi : i < m) (hk : k < m) (h : S i < S k ∨ (S i = S k ∧ i < k)) : bk S m i < bk S m k := by
  unfold bk
  cases h with
  | inl h =>
    have h1 := num_or (P := fun j => S j < S i) (Q := fun j => S j = S i) (m := m) (fun j _ x => by omega)
    have h2 := num_imp (P := fun j => S j < S i ∨ S j = S i) (Q := fun j => S j < S k) m (fun j _ x => by omega)
    have h3 := num_lt (P := fun j => S j = S i) hi rfl
    omega
  | inr h =>
    have h1 := num_lt (P := fun j => S j = S i) h.2 rfl
    rw [h.1] at h1
    rw [h.1]; omega
theorem bk_inj {S : Nat → Nat} {m i k : Nat} (hi : i < m) (hk : k < m) (h : bk S m i = bk S m k) : i = k := by
  by_cases e : i = k
  · exact e
  · exfalso
    have h1 : (S i < S k ∨ (S i = S k ∧ i < k)) ∨ (S k < S i ∨ (S k = S i ∧ k < i)) := by omega
    cases h1 with
    | inl x => have := bk_mono hi hk x; omega
    | inr x => have := bk_mono hk hi x; omega
theorem bk_order {S : Nat → Nat} {m i k : Nat} (hi : i < m) (hk : k < m) (h : bk S m i < bk S m k) : S i < S k ∨ (S i = S k ∧ i < k) := by
  by_cases e : i = k
  · subst e; omega
  · have h1 : (S i < S k ∨ (S i = S k ∧ i < k)) ∨ (S k < S i ∨ (S k = S i ∧ k < i)) := by omega
    cases h1 with
    | inl x => exact x
    | inr x => have := bk_mono hk hi x; omega
/-- back goes one place back -/
theorem Srt.back {S T O R : Nat → Nat} {n : Nat} (hT : Txt T n) (h : Srt T n O R) (hS : Img S T O n) {a : Nat} (ha : a < n + 1) : bk S (n + 1) (R a) = R (prv n a) := by
  have hra := h.2.1 a ha
  have hsa : S (R a) = T (prv n a) := by rw [hS _ hra.1, hra.2]
  unfold bk
  rw [hsa]
  have e1 : num (fun j => S j < T (prv n a)) (n + 1) = num (fun b => T b < T (prv n a)) (n + 1) := by
    rw [← h.over (fun b => T b < T (prv n a))]
    exact num_congr _ (fun j hj => by rw [hS j hj])
  rw [e1]
  cases a with
  | zero =>
    rw [prv_0, h.last hT]
    have h0 := (hT n).mpr (Nat.le_refl n)
    rw [h0, num_none (P := fun b => T b < 0) (fun j _ x => by omega), num_none (fun j hj x => ?_)]
    have hj' : j < n + 1 := by omega
    rw [hS j hj'] at x
    have h1 := (hT _).mp x
    have h2 : O j = 0 := by
      by_cases hz : O j = 0
      · exact hz
      · have h3 := (h.1 j hj').1
        unfold prv at h1; rw [if_neg hz] at h1; omega
    have h3 := (h.1 j hj').2
    rw [h2] at h3; omega
  | succ a =>
    rw [prv_s]
    rw [h.rank (show a < n + 1 by omega)]
    have e2 : num (fun b => slt T b a) (n + 1) = num (fun b => T b < T a ∨ (T b = T a ∧ slt T (b + 1) (a + 1))) (n + 1) :=
      num_congr _ (fun b _ => slt_iff)
    rw [e2, num_or (fun j _ x => by omega), ← num_below (fun j => S j = T a) (show R (a + 1) ≤ n + 1 by omega),
      ← h.over (fun b => T b = T a ∧ slt T (b + 1) (a + 1))]
    congr 1
    refine num_congr _ (fun j hj => ?_)
    have hc : T a ≠ 0 := fun q => by have := (hT a).mp q; omega
    have hl := h.lt hj hra.1
    rw [hra.2] at hl
    rw [hS j hj]
    constructor
    · intro x
      refine ⟨x.2, ?_⟩
      have hz : O j ≠ 0 := fun q => by
        rw [q, prv_0] at x; have := (hT n).mpr (Nat.le_refl n); omega
      have e3 : prv n (O j) + 1 = O j := by unfold prv; rw [if_neg hz]; omega
      rw [e3]; exact hl.mpr x.1
    · intro x
      refine ⟨?_, x.1⟩
      have hz : O j ≠ 0 := fun q => by
        have y := x.1
        rw [q, prv_0] at y; have := (hT n).mpr (Nat.le_refl n); omega
      have e3 : prv n (O j) + 1 = O j := by unfold prv; rw [if_neg hz]; omega
      have y := x.2
      rw [e3] at y; exact hl.mp y
