def neq (a b : Nat) : Nat := if a = b then 0 else 1
/-- a row of distances, one letter on: both ends fixed, or the beginning free -/
def lvr (W : Nat → Nat) (D : Nat → Nat) (c : Nat) : Nat → Nat
  | 0 => D 0 + 1
  | j + 1 => min (min (D j + neq (W j) c) (D (j + 1) + 1)) (lvr W D c j + 1)
def svr (W : Nat → Nat) (D : Nat → Nat) (c : Nat) : Nat → Nat
  | 0 => D 0
  | j + 1 => min (D j + neq (W j) c) (min (D (j + 1)) (svr W D c j) + 1)
def Lr (W T : Nat → Nat) (b : Nat) : Nat → Nat → Nat
  | 0 => fun j => j
  | i + 1 => lvr W (Lr W T b i) (T (b + i))
def Sr (W T : Nat → Nat) (a : Nat) : Nat → Nat → Nat
  | 0 => fun j => j
  | i + 1 => svr W (Sr W T a i) (T (a + i))
theorem Sr_0 (W T : Nat → Nat) (a : Nat) : ∀ e, Sr W T a e 0 = 0
  | 0 => rfl
  | e + 1 => by show Sr W T a e 0 = 0; exact Sr_0 W T a e
theorem Sr_min (W T : Nat → Nat) (a : Nat) : ∀ e j, (∀ b, b ≤ e → Sr W T a e j ≤ Lr W T (a + b) (e - b) j) ∧ (∃ b, b ≤ e ∧ Sr W T a e j = Lr W T (a + b) (e - b) j) := by
  intro e
  induction e with
  | zero =>
    intro j
    refine ⟨fun b hb => ?_, 0, Nat.le_refl 0, rfl⟩
    have e : b = 0 := by omega
    subst e; exact Nat.le_refl _
  | succ e ih =>
    intro j
    induction j with
    | zero =>
      refine ⟨fun b hb => by rw [Sr_0]; omega, e + 1, Nat.le_refl _, ?_⟩
      rw [Sr_0, Nat.sub_self]; rfl
    | succ j jh =>
      have hs : Sr W T a (e + 1) (j + 1) = min (Sr W T a e j + neq (W j) (T (a + e))) (min (Sr W T a e (j + 1)) (Sr W T a (e + 1) j) + 1) := rfl
      have hl : ∀ b, b ≤ e → Lr W T (a + b) (e + 1 - b) (j + 1) = min (min (Lr W T (a + b) (e - b) j + neq (W j) (T (a + e))) (Lr W T (a + b) (e - b) (j + 1) + 1)) (Lr W T (a + b) (e + 1 - b) j + 1) := by
        intro b hb
        rw [show e + 1 - b = e - b + 1 by omega]
        show min (min (Lr W T (a + b) (e - b) j + neq (W j) (T (a + b + (e - b)))) (Lr W T (a + b) (e - b) (j + 1) + 1)) (lvr W (Lr W T (a + b) (e - b)) (T (a + b + (e - b))) j + 1) = _
        rw [show a + b + (e - b) = a + e by omega]
        show _ = min _ (lvr W (Lr W T (a + b) (e - b)) (T (a + b + (e - b))) j + 1)
        rw [show a + b + (e - b) = a + e by omega]
      have hlow : ∀ b, b ≤ e + 1 → Sr W T a (e + 1) (j + 1) ≤ Lr W T (a + b) (e + 1 - b) (j + 1) := by
        intro b hb
        by_cases hb' : b ≤ e
        · rw [hs, hl b hb']
          have h1 := (ih j).1 b hb'
          have h2 := (ih (j + 1)).1 b hb'
          have h3 := jh.1 b hb
          omega
        · have eb : b = e + 1 := by omega
          have h3 := jh.1 (e + 1) (Nat.le_refl _)
          rw [eb, hs, Nat.sub_self]
          rw [Nat.sub_self] at h3
          show _ ≤ j + 1
          have h4 : Sr W T a (e + 1) j ≤ j := h3
          omega
      refine ⟨hlow, ?_⟩
      have hcase : Sr W T a (e + 1) (j + 1) = Sr W T a e j + neq (W j) (T (a + e)) ∨ Sr W T a (e + 1) (j + 1) = Sr W T a e (j + 1) + 1 ∨ Sr W T a (e + 1) (j + 1) = Sr W T a (e + 1) j + 1 := by
        rw [hs]; omega
      rcases hcase with h | h | h
      · obtain ⟨b, hb, hbe⟩ := (ih j).2
        refine ⟨b, by omega, ?_⟩
        have h1 := hlow b (by omega)
        have h2 := hl b hb
        omega
      · obtain ⟨b, hb, hbe⟩ := (ih (j + 1)).2
        refine ⟨b, by omega, ?_⟩
        have h1 := hlow b (by omega)
        have h2 := hl b hb
        omega
      · obtain ⟨b, hb, hbe⟩ := jh.2
        refine ⟨b, hb, ?_⟩
        have h1 := hlow b hb
        by_cases hb' : b ≤ e
        · have h2 := hl b hb'
          omega
        · have eb : b = e + 1 := by omega
          rw [eb, Nat.sub_self] at h1 hbe ⊢
          have h4 : Sr W T a (e + 1) j = j := hbe
          show _ = j + 1
          omega
/-- the least over the first B beginnings, with k for the empty list -/
def lst (W T : Nat → Nat) (a k : Nat) : Nat → Nat → Nat
  | 0, _ => k
  | B + 1, e => if B < e then min (Lr W T (a + B) (e - B) k) (lst W T a k B e) else lst W T a k B e
theorem lst_le (W T : Nat → Nat) (a k e : Nat) : ∀ B, lst W T a k B e ≤ k ∧ ∀ b, b < B → b < e → lst W T a k B e ≤ Lr W T (a + b) (e - b) k
  | 0 => ⟨Nat.le_refl _, fun b h _ => by omega⟩
  | B + 1 => by
    have ih := lst_le W T a k e B
    show (if B < e then min (Lr W T (a + B) (e - B) k) (lst W T a k B e) else lst W T a k B e) ≤ k ∧ ∀ b, b < B + 1 → b < e → (if B < e then min (Lr W T (a + B) (e - B) k) (lst W T a k B e) else lst W T a k B e) ≤ Lr W T (a + b) (e - b) k
    by_cases h : B < e
    · rw [if_pos h]
      refine ⟨by omega, fun b hb hbe => ?_⟩
      by_cases eb : b = B
      · rw [eb]; omega
      · have := ih.2 b (by omega) hbe; omega
    · rw [if_neg h]
      exact ⟨ih.1, fun b hb hbe => ih.2 b (by omega) hbe⟩
theorem lst_is (W T : Nat → Nat) (a k e : Nat) : ∀ B, lst W T a k B e = k ∨ ∃ b, b < B ∧ b < e ∧ lst W T a k B e = Lr W T (a + b) (e - b) k
  | 0 => Or.inl rfl
  | B + 1 => by
    have ih := lst_is W T a k e B
    show (if B < e then min (Lr W T (a + B) (e - B) k) (lst W T a k B e) else lst W T a k B e) = k ∨ ∃ b, b < B + 1 ∧ b < e ∧ (if B < e then min (Lr W T (a + B) (e - B) k) (lst W T a k B e) else lst W T a k B e) = Lr W T (a + b) (e - b) k
    by_cases h : B < e
    · rw [if_pos h]
      by_cases hm : Lr W T (a + B) (e - B) k ≤ lst W T a k B e
      · exact Or.inr ⟨B, by omega, h, by omega⟩
      · have e1 : min (Lr W T (a + B) (e - B) k) (lst W T a k B e) = lst W T a k B e := by omega
        rw [e1]
        exact ih.elim Or.inl (fun ⟨b, h1, h2, h3⟩ => Or.inr ⟨b, by omega, h2, h3⟩)
    · rw [if_neg h]
      exact ih.elim Or.inl (fun ⟨b, h1, h2, h3⟩ => Or.inr ⟨b, by omega, h2, h3⟩)
theorem lst_Sr (W T : Nat → Nat) (a k : Nat) {e B : Nat} (h : e ≤ B) : lst W T a k B e = Sr W T a e k := by
  have h1 := lst_le W T a k e B
  have h2 := lst_is W T a k e B
  have h3 := Sr_min W T a e k
  have hk : Sr W T a e k ≤ k := by
    have := h3.1 e (Nat.le_refl e)
    rw [Nat.sub_self] at this; exact this
  have ha : Sr W T a e k ≤ lst W T a k B e := by
    cases h2 with
    | inl x => omega
    | inr x => obtain ⟨b, hb, hbe, x⟩ := x; have := h3.1 b (by omega); omega
  have hb : lst W T a k B e ≤ Sr W T a e k := by
    obtain ⟨b, hb, x⟩ := h3.2
    by_cases eb : b = e
    · rw [eb, Nat.sub_self] at x
      have x' : Sr W T a e k = k := x
      omega
    · have := h1.2 b (by omega) (by omega); omega
  omega
/-- the distances over a text with bars -/
def Er (W T : Nat → Nat) : Nat → Nat → Nat
  | 0 => fun j => j
  | q + 1 => if T q = 1 then (fun j => j) else svr W (Er W T q) (T q)
theorem Er_Sr (W T : Nat → Nat) {a : Nat} (ha : a = 0 ∨ T (a - 1) = 1) : ∀ e, (∀ q, a ≤ q → q < a + e → T q ≠ 1) → Er W T (a + e) = Sr W T a e
  | 0, _ => by
    cases a with
    | zero => rfl
    | succ a =>
      have h : T a = 1 := by rcases ha with h | h; · omega
                             · exact h
      show (if T a = 1 then (fun j => j) else svr W (Er W T a) (T a)) = _
      rw [if_pos h]; rfl
  | e + 1, h => by
    have ih := Er_Sr W T ha e (fun q h1 h2 => h q h1 (by omega))
    show (if T (a + e) = 1 then (fun j => j) else svr W (Er W T (a + e)) (T (a + e))) = svr W (Sr W T a e) (T (a + e))
    rw [if_neg (h (a + e) (by omega) (by omega)), ih]
theorem svr_le (W D : Nat → Nat) (c : Nat) (h0 : D 0 = 0) : ∀ j, svr W D c j ≤ j
  | 0 => by show D 0 ≤ 0; omega
  | j + 1 => by
    have := svr_le W D c h0 j
    show min (D j + neq (W j) c) (min (D (j + 1)) (svr W D c j) + 1) ≤ j + 1
    omega
theorem Er_le (W T : Nat → Nat) : ∀ q, Er W T q 0 = 0 ∧ ∀ j, Er W T q j ≤ j
  | 0 => ⟨rfl, fun j => Nat.le_refl j⟩
  | q + 1 => by
    have ih := Er_le W T q
    show (if T q = 1 then (fun j => j) else svr W (Er W T q) (T q)) 0 = 0 ∧ ∀ j, (if T q = 1 then (fun j => j) else svr W (Er W T q) (T q)) j ≤ j
    by_cases h : T q = 1
    · rw [if_pos h]; exact ⟨rfl, fun j => Nat.le_refl j⟩
    · rw [if_neg h]; exact ⟨ih.1, svr_le W _ _ ih.1⟩
