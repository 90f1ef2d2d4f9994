theorem fo_bk (S : Nat → Nat) {m k : Nat} (h : k ≤ m) : num (fun i => S i < S k ∨ (S i = S k ∧ i < k)) m = bk S m k := by
  unfold bk
  rw [num_or (fun j _ x => by omega), ← num_below (fun i => S i = S k) h]
  congr 1
  exact num_congr _ (fun j _ => ⟨fun x => ⟨x.2, x.1⟩, fun x => ⟨x.2, x.1⟩⟩)
/-- the guess is good: the 0 comes last -/
def Gg (S : Nat → Nat) (m : Nat) : Prop := (∀ i, i + 1 < m → S (gob S m i) ≠ 0) ∧ S (gob S m (m - 1)) = 0
theorem Ac_Gg {S : Nat → Nat} {m : Nat} (h : Ac S m) : Gg S m := by
  cases m with
  | zero => have := h.1; rw [num_0] at this; omega
  | succ n => exact ⟨h.2, (Ac_srt h).1⟩
theorem txb_lt {S : Nat → Nat} (h : ∀ k, S k < 28) (m : Nat) : ∀ q, txb S m q < 28 := fun q => by
  unfold txb; split
  · exact h _
  · omega
/-- a good guess whose order gives the same image -/
theorem Ac_iff {S O R I : Nat → Nat} {n : Nat} (hg : Gg S (n + 1)) (hs : Srt (txb S (n + 1)) n O R) (hI : ∀ j, j < n + 1 → I j = cod (txb S (n + 1) (prv n (O j)))) (h28 : ∀ k, S k < 28) :
    Ac S (n + 1) ↔ ∀ j, j < n + 1 → I j = cod (S j) := by
  have h28' := txb_lt h28 (n + 1)
  constructor
  · intro ha j hj
    obtain ⟨_, O', R', hs', hi'⟩ := Ac_srt ha
    rw [hI j hj, hi' j hj, (hs.same hs').2 j hj]
  · intro h
    refine Ac_of hg.1 hs (fun j hj => ?_)
    exact cod_inj (h28 _) (h28' _) ((h j hj).symm.trans (hI j hj))
theorem gu_step {S M X : Nat → Nat} {d q k : Nat} (h0 : 0 < q) (hq : q < d) (hM : ∀ i, i < d → M i = cod (S i)) (hk : k = gob S d (d - 1 - q)) (hX : ∀ x, q ≤ x → x < d - 1 → X x = cod (txb S d x)) :
    ∀ x, q - 1 ≤ x → x < d - 1 → upN X (q - 1) (M k) x = cod (txb S d x) := by
  intro x h1 h2
  by_cases e : x = q - 1
  · rw [e, upN_s, hM k (by rw [hk]; exact gob_lt (by omega) _), hk]
    unfold txb
    rw [if_pos (by omega), show d - 2 - (q - 1) = d - 1 - q by omega]
  · rw [upN_o e]; exact hX x (by omega) h2
theorem gu_gob {S : Nat → Nat} {d q k : Nat} (h0 : 0 < q) (hq : q < d) (hk : k = gob S d (d - 1 - q)) : bk S d k = gob S d (d - 1 - (q - 1)) := by
  rw [hk, show d - 1 - (q - 1) = d - 1 - q + 1 by omega]; rfl
theorem cod36 {a : Nat} (h : a < 28) : cod a = 36 ↔ a = 0 := by
  have h' : ∀ a, a < 28 → (cod a = 36 ↔ a = 0) := by decide +kernel
  exact h' a h
theorem cod124 {a : Nat} (h : a < 28) : cod a = 124 ↔ a = 1 := by
  have h' : ∀ a, a < 28 → (cod a = 124 ↔ a = 1) := by decide +kernel
  exact h' a h
def GuI (S : Nat → Nat) (d q gd : Nat) : Prop := (gd = 1 ∧ ∀ i, i < d - 1 - q → S (gob S d i) ≠ 0) ∨ (gd = 0 ∧ ¬ ∀ i, i + 1 < d → S (gob S d i) ≠ 0)
theorem GuI_0 (S : Nat → Nat) (d : Nat) : GuI S d (d - 1) 1 := Or.inl ⟨rfl, fun i hi => by omega⟩
theorem GuI_le {S : Nat → Nat} {d q gd : Nat} (h : GuI S d q gd) : gd ≤ 1 := by rcases h with h | h <;> omega
theorem gu_a {S : Nat → Nat} {d q gd : Nat} (h : GuI S d q gd) (h0 : gd = 0) : GuI S d (q - 1) 0 := by
  rcases h with h | h
  · omega
  · exact Or.inr ⟨rfl, h.2⟩
theorem gu_b {S : Nat → Nat} {d q k : Nat} (h28 : ∀ k, S k < 28) (hk : k = gob S d (d - 1 - q)) (hc : cod (S k) = 36) (h0 : 0 < q) (hq : q < d) : GuI S d (q - 1) 0 :=
  Or.inr ⟨rfl, fun a => a (d - 1 - q) (by omega) (by rw [← hk]; exact (cod36 (h28 k)).mp hc)⟩
theorem gu_c {S : Nat → Nat} {d q gd k : Nat} (h28 : ∀ k, S k < 28) (h : GuI S d q gd) (hg : ¬ gd = 0) (hk : k = gob S d (d - 1 - q)) (hc : ¬ cod (S k) = 36) (h0 : 0 < q) (hq : q < d) : GuI S d (q - 1) 1 := by
  rcases h with h | h
  · refine Or.inl ⟨rfl, fun i hi => ?_⟩
    by_cases e : i = d - 1 - q
    · rw [e, ← hk]; exact fun z => hc ((cod36 (h28 k)).mpr z)
    · exact h.2 i (by omega)
  · omega
theorem gu_y {S : Nat → Nat} {d gd k : Nat} (h28 : ∀ k, S k < 28) (h : GuI S d 0 gd) (hg : ¬ gd = 0) (hk : k = gob S d (d - 1)) (hc : cod (S k) = 36) : Gg S d := by
  rcases h with h | h
  · exact ⟨fun i hi => h.2 i (by omega), by rw [← hk]; exact (cod36 (h28 k)).mp hc⟩
  · omega
theorem gu_n {S : Nat → Nat} {d gd k : Nat} (h28 : ∀ k, S k < 28) (h : GuI S d 0 gd) (hk : k = gob S d (d - 1)) (hx : gd = 0 ∨ ¬ cod (S k) = 36) : ¬ Gg S d := by
  intro g
  rcases hx with hx | hx
  · rcases h with h | h
    · omega
    · exact h.2 g.1
  · exact hx ((cod36 (h28 k)).mpr (by rw [hk]; exact g.2))
