theorem pw_lt {w k : Nat} (h : Pat w k) (hw : w < 2 ^ 64) : ∀ i, pw w i < 28 := fun i => by
  by_cases e : i < k
  · exact (pw_cod h e).2.1
  · have hz : by8 w i = 0 := by
      by_cases e8 : i < 8
      · exact h.2.2.2 i (by omega) e8
      · unfold by8
        have h1 : w < 2 ^ (8 * i) := Nat.lt_of_lt_of_le hw (Nat.pow_le_pow_right (by decide) (by omega))
        rw [Nat.div_eq_of_lt h1]
    unfold pw; rw [hz]; omega
theorem lv_step {W D Rq : Nat → Nat} {c j co : Nat} (h1 : 1 ≤ j) (hd : co = D (j - 1)) (hj : Rq j = D j) (hp : Rq (j - 1) = lvr W D c (j - 1)) :
    min (min (co + neq (W (j - 1)) c) (Rq j + 1)) (Rq (j - 1) + 1) = lvr W D c j := by
  obtain ⟨i, rfl⟩ : ∃ i, j = i + 1 := ⟨j - 1, by omega⟩
  rw [Nat.add_sub_cancel] at hd hp ⊢
  rw [hd, hj, hp]; rfl
theorem lvr_le (W D : Nat → Nat) (c : Nat) : ∀ j, lvr W D c j ≤ D j + 1
  | 0 => Nat.le_refl _
  | j + 1 => by
    show min (min (D j + neq (W j) c) (D (j + 1) + 1)) (lvr W D c j + 1) ≤ _
    omega
theorem Lr_le (W T : Nat → Nat) (b : Nat) : ∀ i j, Lr W T b i j ≤ i + j
  | 0, j => by show j ≤ 0 + j; omega
  | i + 1, j => by
    have ih := Lr_le W T b i j
    have := lvr_le W (Lr W T b i) (T (b + i)) j
    show lvr W (Lr W T b i) (T (b + i)) j ≤ i + 1 + j
    omega
/-- the least over the beginnings, while those of b are being added up to end p -/
theorem ls_ok {W T L : Nat → Nat} {fr my b x p v N : Nat} (hb : fr ≤ b) (hp : b ≤ p) (hx : x = p + 1 - fr)
    (h : ∀ e, e ≤ N → L e = (if e ≤ p - fr then lst W T fr my (b - fr + 1) e else lst W T fr my (b - fr) e)) (hv : v = min (Lr W T b (p + 1 - b) my) (L x)) :
    ∀ e, e ≤ N → upN L x v e = (if e ≤ p + 1 - fr then lst W T fr my (b - fr + 1) e else lst W T fr my (b - fr) e) := by
  intro e hN
  by_cases he : e = x
  · rw [he] at hN
    rw [he, upN_s, if_pos (by omega), hv, h x hN, if_neg (by omega)]
    show _ = (if b - fr < x then min (Lr W T (fr + (b - fr)) (x - (b - fr)) my) (lst W T fr my (b - fr) x) else lst W T fr my (b - fr) x)
    rw [if_pos (by omega), show p + 1 - b = x - (b - fr) by omega, show fr + (b - fr) = b by omega]
  · rw [upN_o he, h e hN]
    by_cases h1 : e ≤ p - fr
    · rw [if_pos h1, if_pos (by omega)]
    · rw [if_neg h1, if_neg (by omega)]
theorem ls_0 {W T L : Nat → Nat} {fr my b N : Nat} (h : ∀ e, e ≤ N → L e = lst W T fr my (b - fr) e) : ∀ e, e ≤ N → L e = (if e ≤ b - fr then lst W T fr my (b - fr + 1) e else lst W T fr my (b - fr) e) := by
  intro e hN
  rw [h e hN]
  by_cases h1 : e ≤ b - fr
  · rw [if_pos h1]
    show _ = (if b - fr < e then min (Lr W T (fr + (b - fr)) (e - (b - fr)) my) (lst W T fr my (b - fr) e) else lst W T fr my (b - fr) e)
    rw [if_neg (by omega)]
  · rw [if_neg h1]
theorem lr_next {W T Rp Rn : Nat → Nat} {b p my : Nat} (hb : b ≤ p) (h : ∀ i, i ≤ my → Rp i = Lr W T b (p - b) i) (hn : ∀ i, i ≤ my → Rn i = lvr W Rp (T p) i) : ∀ i, i ≤ my → Rn i = Lr W T b (p + 1 - b) i := by
  intro i hi
  rw [hn i hi, show p + 1 - b = p - b + 1 by omega]
  show _ = lvr W (Lr W T b (p - b)) (T (b + (p - b))) i
  rw [show b + (p - b) = p by omega]
  exact lvr_congr i (fun x hx => h x (by omega)) (fun _ _ => rfl)
/-- the number found before place q, and none of them is number xi -/
def Fnd (P : Nat → Prop) (xi : Int32) (q f : Nat) : Prop := f = num P q ∧ ∀ v, v < q → P v → xi ≠ nI (num P v)
theorem Fnd_0 (P : Nat → Prop) (xi : Int32) : Fnd P xi 0 0 := ⟨rfl, fun v h => by omega⟩
theorem Fnd_y {P : Nat → Prop} {xi : Int32} {q f : Nat} (h : Fnd P xi q f) (hp : P q) (hx : ¬ nI f = xi) : Fnd P xi (q + 1) (f + 1) :=
  ⟨num_sy hp h.1, fun v hv hq => if e : v = q then (by subst e; rw [← h.1]; exact fun z => hx z.symm) else h.2 v (by omega) hq⟩
theorem Fnd_n {P : Nat → Prop} {xi : Int32} {q f : Nat} (h : Fnd P xi q f) (hp : ¬ P q) : Fnd P xi (q + 1) f :=
  ⟨num_sn hp h.1, fun v hv hq => if e : v = q then (by subst e; exact absurd hq hp) else h.2 v (by omega) hq⟩
theorem gs_all (T : Nat → Nat) (mm : Nat) : gs T (mm - 1) (sqs T mm) = mm := by
  cases mm with
  | zero => show gs T 0 (min 0 1 + nb T 0) = 0; rw [nb_0]; exact gs_0 T 0
  | succ n => rw [sqs_1, Nat.add_sub_cancel, gs_end T (by omega)]
