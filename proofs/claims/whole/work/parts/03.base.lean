/-! what the walker's rows use -/
def nA (S : Nat → Nat) : Nat → Int32 := fun j => nI (S j)
def pA (S : Nat → Nat) : Nat → Int32 := fun j => nI (S j) - 1
theorem nA_at (S : Nat → Nat) (k : Nat) : nA S k = nI (S k) := rfl
theorem pA_at (S : Nat → Nat) (k : Nat) : pA S k = nI (S k) - 1 := rfl
theorem pA_0 : nA (fun _ => 0) = pA (fun _ => 1) := by funext j; show nI 0 = nI 1 - 1; decide
def upN (S : Nat → Nat) (k v : Nat) : Nat → Nat := fun j => if j = k then v else S j
theorem upN_s (S : Nat → Nat) (k v : Nat) : upN S k v k = v := if_pos rfl
theorem upN_o {S : Nat → Nat} {k v j : Nat} (h : j ≠ k) : upN S k v j = S j := if_neg h
theorem upN_lt {S : Nat → Nat} {k v b : Nat} (h : ∀ j, S j < b) (hv : v < b) : ∀ j, upN S k v j < b := fun j => by
  by_cases e : j = k
  · rw [e, upN_s]; exact hv
  · rw [upN_o e]; exact h j
theorem nA_upd (S : Nat → Nat) (k v : Nat) : upd (nA S) k (nI v) = nA (upN S k v) := by
  funext j; unfold upd nA upN; by_cases h : j = k <;> simp [h]
theorem pA_upd (S : Nat → Nat) (k v : Nat) : upd (pA S) k (nI v - 1) = pA (upN S k v) := by
  funext j; unfold upd pA upN; by_cases h : j = k <;> simp [h]
theorem nA_cpy (S T : Nat → Nat) (sp dp n : Nat) : va_cpy (nA S) (nA T) sp dp n = nA (va_cpy S T sp dp n) := by
  funext j; unfold va_cpy nA; by_cases h : dp ≤ j ∧ j < dp + n <;> simp [h]
theorem cpy_lt {S T : Nat → Nat} {sp dp n b : Nat} (h : ∀ j, S j < b) (g : ∀ j, T j < b) : ∀ j, va_cpy S T sp dp n j < b := fun j => by
  unfold va_cpy; split
  · exact h _
  · exact g _
theorem bw_inc (k d : Nat) : nI k + Int32.ofInt d = nI (k + d) := by
  rw [← nI_add]; rfl
theorem bw_dec (k : Nat) : nI k + Int32.ofInt (-1) = nI k - 1 := by
  show nI k + (-1) = nI k - 1
  rw [Int32.sub_eq_add_neg]
theorem bw_p1 (k : Nat) : nI k - 1 + nI 1 = nI k := by
  show nI k - 1 + 1 = nI k
  rw [Int32.sub_add_cancel]
theorem bw_pinc (k : Nat) : nI k - 1 + Int32.ofInt 1 = nI k := by
  show nI k - 1 + 1 = nI k
  rw [Int32.sub_add_cancel]
theorem bw_n1 (k : Nat) : nI k - nI 1 = nI k - 1 := rfl
theorem bw_pn {k : Nat} (h : 0 < k) : nI k - 1 = nI (k - 1) := by
  obtain ⟨j, rfl⟩ : ∃ j, k = j + 1 := ⟨k - 1, by omega⟩
  rw [nI_pred, Nat.add_sub_cancel]
theorem bw_add_np (a b : Nat) : nI a + (nI b - 1) = nI (a + b) - 1 := by
  rw [← nI_add, Int32.sub_eq_add_neg, Int32.sub_eq_add_neg, Int32.add_assoc]
theorem bw_add_pn (a b : Nat) : nI a - 1 + nI b = nI (a + b) - 1 := by
  rw [Int32.add_comm, bw_add_np, Nat.add_comm]
theorem bw_sub_pn {a b : Nat} (h : b ≤ a) : nI a - 1 - nI b = nI (a - b) - 1 := by
  obtain ⟨d, rfl⟩ := Nat.exists_eq_add_of_le h
  rw [Nat.add_sub_cancel_left, ← nI_add, Int32.sub_eq_add_neg, Int32.sub_eq_add_neg, Int32.sub_eq_add_neg, Int32.add_comm (nI b), Int32.add_assoc, Int32.add_assoc, Int32.add_comm (nI b), Int32.add_assoc, Int32.add_left_neg, Int32.add_zero]
theorem bw_ne0 {n : Nat} (h0 : 0 < n) (h : n < 2 ^ 31) : ¬ nI n = 0 := nI_ne0 h0 h
theorem bw_pt {b : Nat} (h : b < 2 ^ 31) : (nI b - 1).toInt = (b : Int) - 1 := by
  cases b with
  | zero => decide
  | succ b => rw [nI_pred, nI_toInt (by omega)]; omega
theorem bw_lt_nn {a b : Nat} (ha : a < 2 ^ 31) (hb : b < 2 ^ 31) : nI a < nI b ↔ a < b := nI_ltI ha hb
theorem bw_le_nn {a b : Nat} (ha : a < 2 ^ 31) (hb : b < 2 ^ 31) : nI a ≤ nI b ↔ a ≤ b := nI_leI ha hb
theorem bw_eq_nn {a b : Nat} (ha : a < 2 ^ 31) (hb : b < 2 ^ 31) : nI a = nI b ↔ a = b := nI_eq ha hb
theorem bw_lt_np {a b : Nat} (ha : a < 2 ^ 31) (hb : b < 2 ^ 31) : nI a < nI b - 1 ↔ a + 1 < b := by
  rw [Int32.lt_iff_toInt_lt, bw_pt hb, nI_toInt ha]; omega
theorem bw_le_np {a b : Nat} (ha : a < 2 ^ 31) (hb : b < 2 ^ 31) : nI a ≤ nI b - 1 ↔ a + 1 ≤ b := by
  rw [Int32.le_iff_toInt_le, bw_pt hb, nI_toInt ha]; omega
theorem bw_eq_np {a b : Nat} (ha : a < 2 ^ 31) (hb : b < 2 ^ 31) : nI a = nI b - 1 ↔ a + 1 = b := by
  rw [← Int32.toInt_inj, bw_pt hb, nI_toInt ha]; omega
theorem bw_lt_pn {a b : Nat} (ha : a < 2 ^ 31) (hb : b < 2 ^ 31) : nI a - 1 < nI b ↔ a < b + 1 := by
  rw [Int32.lt_iff_toInt_lt, bw_pt ha, nI_toInt hb]; omega
theorem bw_le_pn {a b : Nat} (ha : a < 2 ^ 31) (hb : b < 2 ^ 31) : nI a - 1 ≤ nI b ↔ a ≤ b + 1 := by
  rw [Int32.le_iff_toInt_le, bw_pt ha, nI_toInt hb]; omega
theorem bw_eq_pn {a b : Nat} (ha : a < 2 ^ 31) (hb : b < 2 ^ 31) : nI a - 1 = nI b ↔ a = b + 1 := by
  rw [← Int32.toInt_inj, bw_pt ha, nI_toInt hb]; omega
theorem bw_lt_pp {a b : Nat} (ha : a < 2 ^ 31) (hb : b < 2 ^ 31) : nI a - 1 < nI b - 1 ↔ a < b := by
  rw [Int32.lt_iff_toInt_lt, bw_pt ha, bw_pt hb]; omega
theorem bw_le_pp {a b : Nat} (ha : a < 2 ^ 31) (hb : b < 2 ^ 31) : nI a - 1 ≤ nI b - 1 ↔ a ≤ b := by
  rw [Int32.le_iff_toInt_le, bw_pt ha, bw_pt hb]; omega
theorem bw_eq_pp {a b : Nat} (ha : a < 2 ^ 31) (hb : b < 2 ^ 31) : nI a - 1 = nI b - 1 ↔ a = b := by
  rw [← Int32.toInt_inj, bw_pt ha, bw_pt hb]; omega
theorem bw_min {a b : Nat} (ha : a < 2 ^ 31) (hb : b < 2 ^ 31) : (if nI b < nI a then nI b else nI a) = nI (min a b) := by
  by_cases h : b < a
  · rw [if_pos ((nI_ltI hb ha).mpr h), Nat.min_eq_right (by omega)]
  · rw [if_neg (fun q => h ((nI_ltI hb ha).mp q)), Nat.min_eq_left (by omega)]
/-- an int that isn't negative -/
theorem bw_nn {x : Int32} (h : ¬ x < 0) : ∃ k, k < 2 ^ 31 ∧ x = nI k := by
  have h1 : 0 ≤ x.toInt := by
    rw [Int32.lt_iff_toInt_lt, Int32.toInt_zero] at h; omega
  have h2 := x.toInt_lt
  refine ⟨x.toInt.toNat, by omega, ?_⟩
  rw [← Int32.toInt_inj, nI_toInt (by omega)]; omega
section WL
variable {p : Program} {l : Launch} {e : Env} {R : Room} {s : State} {m : MethodId} {args : Array Value} {below : List Frame} {meth : Method} {c : Code} {cells slots : Nat} {Q : State → Prop}
/-- a loop: a state of it has a measure that falls -/
theorem wl_loop {σ : Type} (pc : Nat) (st : List Value) (μ : σ → Nat) (I : σ → Heap → List Loc → Array Slot → Prop)
    (step : ∀ (a : σ) (H : Heap) (locs : List Loc) (ls : Array Slot), I a H locs ls → (∀ (b : σ) (H' : Heap) (locs' : List Loc) (ls' : Array Slot), I b H' locs' ls' → μ b < μ a → W p l e R s m args below meth c H' locs' cells slots Q (F0 m pc ls' st)) → W p l e R s m args below meth c H locs cells slots Q (F0 m pc ls st))
    (a : σ) {H : Heap} {locs : List Loc} {ls : Array Slot} (h : I a H locs ls) : W p l e R s m args below meth c H locs cells slots Q (F0 m pc ls st) := by
  have key : ∀ (n : Nat) (a : σ) (H : Heap) (locs : List Loc) (ls : Array Slot), μ a < n → I a H locs ls → W p l e R s m args below meth c H locs cells slots Q (F0 m pc ls st) := by
    intro n
    induction n with
    | zero => intro a H locs ls h; omega
    | succ n ih => intro a H locs ls hm hI; exact step a H locs ls hI (fun b H' locs' ls' hb hlt => ih b H' locs' ls' (by omega) hb)
  exact key (μ a + 1) a H locs ls (by omega) h
/-- a place that several roads come to: what follows is walked once -/
theorem wl_cut {σ : Type} (pc : Nat) (st : σ → List Value) (I : σ → Heap → List Loc → Array Slot → Prop) {H : Heap} {locs : List Loc} {g : JFrame}
    (k1 : ∀ (a : σ) (H' : Heap) (locs' : List Loc) (ls' : Array Slot), I a H' locs' ls' → W p l e R s m args below meth c H' locs' cells slots Q (F0 m pc ls' (st a)))
    (k2 : (∀ (a : σ) (H' : Heap) (locs' : List Loc) (ls' : Array Slot), I a H' locs' ls' → W p l e R s m args below meth c H' locs' cells slots Q (F0 m pc ls' (st a))) → W p l e R s m args below meth c H locs cells slots Q g) : W p l e R s m args below meth c H locs cells slots Q g := k2 k1
end WL
theorem bw_i2l {n : Nat} (h : n < 2 ^ 31) : (nI n).toInt64 = lN n := by
  apply Int64.toInt_inj.mp
  rw [Int32.toInt_toInt64, nI_toInt h, lN_toInt h]
theorem bw_rng {x : Int32} {a b : Nat} (h1 : ¬ x < nI a) (h2 : ¬ nI b < x) (ha : a < 2 ^ 31 := by decide) (hb : b < 2 ^ 31 := by decide) : ∃ v, a ≤ v ∧ v ≤ b ∧ x = nI v := by
  rw [Int32.lt_iff_toInt_lt, nI_toInt ha] at h1
  rw [Int32.lt_iff_toInt_lt, nI_toInt hb] at h2
  refine ⟨x.toInt.toNat, by omega, by omega, ?_⟩
  rw [← Int32.toInt_inj, nI_toInt (by omega)]; omega
theorem bw_04 {x : Int32} (h1 : ¬ x < 0) (h2 : ¬ nI 4 < x) : ∃ v, v ≤ 4 ∧ x = nI v ∧ nI 1 = nI 1 := by
  obtain ⟨v, _, h, e⟩ := bw_rng (a := 0) (b := 4) h1 h2
  exact ⟨v, h, e, rfl⟩
theorem bw_no04 {x : Int32} (h : x < 0 ∨ nI 4 < x) : ∀ v, v ≤ 4 → x ≠ nI v := by
  intro v hv e
  subst e
  rcases h with h | h
  · exact nI_pos (by omega) h
  · rw [nI_ltI (by omega) (by omega)] at h; omega
theorem bw_neg {x : Int32} {n : Nat} (h : x < 0) (hn : n ≤ 2 ^ 31 := by omega) : ∀ v, v < n → x ≠ nI v := fun v hv e => by
  subst e; exact nI_pos (by omega) h
theorem bw_decn {k : Nat} (h : 0 < k) : nI k + Int32.ofInt (-1) = nI (k - 1) := by rw [bw_dec, bw_pn h]
theorem bw_nrg {x : Int32} {a b : Nat} (h : x < nI a ∨ nI b < x) (hb : b < 2 ^ 31 := by decide) : ∀ v, a ≤ v → v ≤ b → x ≠ nI v := by
  intro v h1 h2 e
  subst e
  rcases h with h | h
  · rw [nI_ltI (by omega) (by omega)] at h; omega
  · rw [nI_ltI (by omega) (by omega)] at h; omega
