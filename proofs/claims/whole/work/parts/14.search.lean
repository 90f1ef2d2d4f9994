/-- one step of the backward search -/
theorem bs_step {S T O R : Nat → Nat} {n c lo hi : Nat} {P : Nat → Prop} (hT : Txt T n) (hs : Srt T n O R) (hS : Img S T O n) (hc : c ≠ 0) (hl : lo ≤ n + 1) (hh : hi ≤ n + 1)
    (h : ∀ r, r < n + 1 → ((lo ≤ r ∧ r < hi) ↔ P (O r))) :
    ∀ r, r < n + 1 → ((num (fun j => S j < c) (n + 1) + num (fun j => S j = c) lo ≤ r ∧ r < num (fun j => S j < c) (n + 1) + num (fun j => S j = c) hi) ↔ (T (O r) = c ∧ P (O r + 1))) := by
  intro r hr
  have ha := hs.1 r hr
  have hr0 := hs.2.1 _ (nxt_lt ha.1)
  have eS : S (R (nxt n (O r))) = T (O r) := by rw [hS _ hr0.1, hr0.2, prv_nxt ha.1]
  have er := hs.back hT hS (nxt_lt ha.1)
  rw [prv_nxt ha.1, ha.2] at er
  unfold bk at er
  rw [eS] at er
  by_cases e : T (O r) = c
  · have hn : O r ≠ n := fun q => hc (by rw [← e, q]; exact (hT n).mpr (Nat.le_refl n))
    have ex : nxt n (O r) = O r + 1 := by unfold nxt; rw [if_neg hn]
    rw [ex] at er eS hr0
    rw [e] at er eS
    have hp := h _ hr0.1
    rw [hr0.2] at hp
    rw [← hp]
    constructor
    · intro x
      refine ⟨e, ?_, ?_⟩
      · by_cases hlt : R (O r + 1) < lo
        · have := num_lt (P := fun j => S j = c) hlt eS; omega
        · omega
      · by_cases hlt : R (O r + 1) < hi
        · exact hlt
        · have := num_mono (fun j => S j = c) (show hi ≤ R (O r + 1) by omega); omega
    · intro x
      have h1 := num_mono (fun j => S j = c) x.2.1
      have h2 := num_lt (P := fun j => S j = c) x.2.2 eS
      omega
  · refine ⟨fun x => ?_, fun x => absurd x.1 e⟩
    exfalso
    by_cases hlt : T (O r) < c
    · have h1 := num_or (P := fun j => S j < T (O r)) (Q := fun j => S j = T (O r)) (m := n + 1) (fun j _ y => by omega)
      have h2 := num_imp (P := fun j => S j < T (O r) ∨ S j = T (O r)) (Q := fun j => S j < c) (n + 1) (fun j _ y => by omega)
      have h3 := num_lt (P := fun j => S j = T (O r)) hr0.1 eS
      omega
    · have h1 := num_or (P := fun j => S j < c) (Q := fun j => S j = c) (m := n + 1) (fun j _ y => by omega)
      have h2 := num_imp (P := fun j => S j < c ∨ S j = c) (Q := fun j => S j < T (O r)) (n + 1) (fun j _ y => by omega)
      have h3 := num_mono (fun j => S j = c) hh
      omega
/-- the letters W j .. W (k-1) stand at a -/
def occ (T W : Nat → Nat) (k j a : Nat) : Prop := ∀ i, j ≤ i → i < k → T (a + (i - j)) = W i
theorem occ_end (T W : Nat → Nat) (k a : Nat) : occ T W k k a := fun i h1 h2 => by omega
theorem occ_step {T W : Nat → Nat} {k j a : Nat} (hj : j < k) : occ T W k j a ↔ (T a = W j ∧ occ T W k (j + 1) (a + 1)) := by
  constructor
  · intro h
    refine ⟨?_, fun i h1 h2 => ?_⟩
    · have := h j (Nat.le_refl j) hj
      rw [Nat.sub_self, Nat.add_zero] at this; exact this
    · have := h i (by omega) h2
      rw [show a + 1 + (i - (j + 1)) = a + (i - j) by omega]; exact this
  · intro h i h1 h2
    by_cases e : i = j
    · rw [e, Nat.sub_self, Nat.add_zero]; exact h.1
    · have := h.2 i (by omega) h2
      rw [show a + 1 + (i - (j + 1)) = a + (i - j) by omega] at this; exact this
/-- what rows lo .. hi - 1 are, when the letters from j on have been searched -/
def Bs (T W O : Nat → Nat) (n k j lo hi : Nat) : Prop := lo ≤ hi ∧ hi ≤ n + 1 ∧ ∀ r, r < n + 1 → ((lo ≤ r ∧ r < hi) ↔ occ T W k j (O r))
theorem Bs_0 (T W O : Nat → Nat) (n k : Nat) : Bs T W O n k k 0 (n + 1) :=
  ⟨by omega, Nat.le_refl _, fun r hr => ⟨fun _ => occ_end T W k (O r), fun _ => ⟨by omega, hr⟩⟩⟩
theorem Bs_step {S T W O R : Nat → Nat} {n k j lo hi : Nat} (hT : Txt T n) (hs : Srt T n O R) (hS : Img S T O n) (hj : j < k) (hw : W j ≠ 0) (h : Bs T W O n k (j + 1) lo hi) :
    Bs T W O n k j (num (fun x => S x < W j) (n + 1) + num (fun x => S x = W j) lo) (num (fun x => S x < W j) (n + 1) + num (fun x => S x = W j) hi) := by
  refine ⟨?_, ?_, fun r hr => ?_⟩
  · have := num_mono (fun x => S x = W j) h.1; omega
  · have h1 := num_or (P := fun x => S x < W j) (Q := fun x => S x = W j) (m := n + 1) (fun j _ y => by omega)
    have h2 := num_le (fun x => S x < W j ∨ S x = W j) (n + 1)
    have h3 := num_mono (fun x => S x = W j) h.2.1
    omega
  · rw [bs_step hT hs hS hw (by have := h.1; have := h.2.1; omega) h.2.1 h.2.2 r hr, occ_step hj]
theorem Bs_num {T W O R : Nat → Nat} {n k lo hi : Nat} (hs : Srt T n O R) (h : Bs T W O n k 0 lo hi) : hi - lo = num (occ T W k 0) (n + 1) := by
  rw [← num_bij (P := occ T W k 0) hs.1 hs.2.1, ← num_from h.1 h.2.1]
  exact num_congr _ (fun r hr => h.2.2 r hr)
/-- letters are no 0: what occurs lies in the text -/
theorem occ_in {T W : Nat → Nat} {n k a : Nat} (hT : Txt T n) (hk : 0 < k) (hw : ∀ i, i < k → W i ≠ 0) (h : occ T W k 0 a) : a + k ≤ n := by
  have h1 := h (k - 1) (by omega) (by omega)
  have h2 := hw (k - 1) (by omega)
  by_cases hle : n ≤ a + (k - 1 - 0)
  · rw [(hT _).mpr hle] at h1; omega
  · omega
