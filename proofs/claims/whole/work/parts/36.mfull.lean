/-- what the reference holds -/
def MSt (T : Nat → Nat) (mm : Nat) (Mx Od Ia : Nat → Nat) : Prop := (∀ k, T k < 28) ∧ ∀ nn, mm = nn + 1 → Txt T nn ∧ (∀ q, q < nn → Mx q = cod (T q)) ∧ (∃ R, Srt T nn Od R) ∧ (∀ j, j < nn + 1 → Ia j = cod (T (prv nn (Od j))))
theorem MSt_x {T Mx Od Ia : Nat → Nat} {mm : Nat} (h : MSt T mm Mx Od Ia) : ∀ q, q + 1 < mm → Mx q = cod (T q) := fun q hq => (h.2 (mm - 1) (by omega)).2.1 q (by omega)
theorem MSt_t {T Mx Od Ia : Nat → Nat} {mm : Nat} (h : MSt T mm Mx Od Ia) : ∀ nn, mm = nn + 1 → Txt T nn := fun nn e => (h.2 nn e).1
def BOk (D : Nat → Nat) (d : Nat) : Prop := d ≤ 96 ∧ ∀ k, k < d → D k ≠ 0
def BoI (D : Nat → Nat) (d k pl : Nat) : Prop := (pl = 1 ∧ d ≤ 96 ∧ ∀ i, i < k → D i ≠ 0) ∨ (pl = 0 ∧ ¬ BOk D d)
theorem BoI_0 (D : Nat → Nat) {d : Nat} (h : d ≤ 96) : BoI D d 0 1 := Or.inl ⟨rfl, h, fun i hi => by omega⟩
theorem BoI_x (D : Nat → Nat) {d k : Nat} (h : ¬ d ≤ 96) : BoI D d k 0 := Or.inr ⟨rfl, fun b => h b.1⟩
theorem BoI_y {D : Nat → Nat} {d k pl : Nat} (h : BoI D d k pl) (h0 : ¬ pl = 0) (hk : D k ≠ 0) : BoI D d (k + 1) 1 := by
  rcases h with h | h
  · exact Or.inl ⟨rfl, h.2.1, fun i hi => if e : i = k then (by rw [e]; exact hk) else h.2.2 i (by omega)⟩
  · exact absurd h.1 h0
theorem BoI_n {D : Nat → Nat} {d k : Nat} (hk : k < d) (h : D k = 0) : BoI D d (k + 1) 0 := Or.inr ⟨rfl, fun b => b.2 k hk h⟩
theorem BoI_z {D : Nat → Nat} {d k pl : Nat} (h : BoI D d k pl) (h0 : pl = 0) : BoI D d (k + 1) 0 := by
  rcases h with h | h
  · omega
  · exact Or.inr ⟨rfl, h.2⟩
theorem BoI_le {D : Nat → Nat} {d k pl : Nat} (h : BoI D d k pl) : pl ≤ 1 := by rcases h with h | h <;> omega
theorem BoI_yes {D : Nat → Nat} {d k pl : Nat} (h : BoI D d k pl) (h0 : ¬ pl = 0) (hk : d ≤ k) : BOk D d := by
  rcases h with h | h
  · exact ⟨h.2.1, fun i hi => h.2.2 i (by omega)⟩
  · exact absurd h.1 h0
theorem BoI_no {D : Nat → Nat} {d k pl : Nat} (h : BoI D d k pl) (h0 : pl = 0) : ¬ BOk D d := by
  rcases h with h | h
  · omega
  · exact h.2
theorem txd_lt {D : Nat → Nat} (h : ∀ k, D k < 28) (d : Nat) : ∀ q, txd D d q < 28 := fun q => by
  unfold txd; split
  · exact h q
  · omega
theorem txd_at {D : Nat → Nat} {d q : Nat} (h : q < d) : txd D d q = D q := if_pos h
theorem txb_txt' {S : Nat → Nat} {d : Nat} (h0 : 0 < d) (hg : Gg S d) : Txt (txb S d) (d - 1) := by
  obtain ⟨n, rfl⟩ : ∃ n, d = n + 1 := ⟨d - 1, by omega⟩
  exact txb_txt hg.1
/-- comparing the image with the draft -/
def LdI (I D : Nat → Nat) (d k gd : Nat) : Prop := (gd = 1 ∧ ∀ j, j < k → I j = cod (D j)) ∨ (gd = 0 ∧ ¬ ∀ j, j < d → I j = cod (D j))
theorem LdI_0 (I D : Nat → Nat) (d : Nat) : LdI I D d 0 1 := Or.inl ⟨rfl, fun j h => by omega⟩
theorem LdI_y {I D : Nat → Nat} {d k gd : Nat} (h : LdI I D d k gd) (h0 : ¬ gd = 0) (e : I k = cod (D k)) : LdI I D d (k + 1) 1 := by
  rcases h with h | h
  · exact Or.inl ⟨rfl, fun j hj => if q : j = k then (by rw [q]; exact e) else h.2 j (by omega)⟩
  · exact absurd h.1 h0
theorem LdI_n {I D : Nat → Nat} {d k : Nat} (hk : k < d) (e : ¬ I k = cod (D k)) : LdI I D d (k + 1) 0 := Or.inr ⟨rfl, fun a => e (a k hk)⟩
theorem LdI_z {I D : Nat → Nat} {d k gd : Nat} (h : LdI I D d k gd) (h0 : gd = 0) : LdI I D d (k + 1) 0 := by
  rcases h with h | h
  · omega
  · exact Or.inr ⟨rfl, h.2⟩
theorem LdI_le {I D : Nat → Nat} {d k gd : Nat} (h : LdI I D d k gd) : gd ≤ 1 := by rcases h with h | h <;> omega
theorem LdI_Ac {S O I : Nat → Nat} {d k gd : Nat} (h0 : 0 < d) (hg : Gg S d) (hs : ∃ R, Srt (txb S d) (d - 1) O R) (hI : ∀ j, j < d - 1 + 1 → I j = cod (txb S d (prv (d - 1) (O j)))) (h28 : ∀ k, S k < 28)
    (h : LdI I S d k gd) (hk : d ≤ k) : (¬ gd = 0 → Ac S d) ∧ (gd = 0 → ¬ Ac S d) := by
  obtain ⟨R, hs⟩ := hs
  obtain ⟨n, rfl⟩ : ∃ n, d = n + 1 := ⟨d - 1, by omega⟩
  rw [Nat.add_sub_cancel] at hs hI
  have hx := Ac_iff hg hs hI h28
  rcases h with h | h
  · exact ⟨fun _ => hx.mpr (fun j hj => h.2 j (by omega)), fun z => by omega⟩
  · exact ⟨fun z => absurd h.1 z, fun _ a => h.2 (hx.mp a)⟩
theorem Ac_0 (S : Nat → Nat) : ¬ Ac S 0 := fun h => by have := h.1; rw [num_0] at this; omega
/-- the step that is taken -/
def SpR (x : Int32) (sp : Nat) : Prop := (x = nI sp ∧ 2 ≤ sp ∧ sp ≤ 16) ∨ (sp = 4 ∧ ∀ k, 2 ≤ k → k ≤ 16 → x ≠ nI k)
theorem SpR_in {x : Int32} {sp : Nat} (h : SpR x sp) : 2 ≤ sp ∧ sp ≤ 16 := by rcases h with h | h <;> omega
theorem SpR_uniq {x : Int32} {a b : Nat} (h : SpR x a) (g : SpR x b) : a = b := by
  rcases h with h | h <;> rcases g with g | g
  · have e := h.1.symm.trans g.1
    rw [nI_eq (by omega) (by omega)] at e; exact e
  · exact absurd h.1 (g.2 a h.2.1 h.2.2)
  · exact absurd g.1 (h.2 b g.2.1 g.2.2)
  · omega
theorem MSt_mk {T Mx Od Ia : Nat → Nat} {n : Nat} (h28 : ∀ k, T k < 28) (hT : Txt T n) (hX : ∀ q, q < n → Mx q = cod (T q)) (hS : ∃ R, Srt T n Od R) (hI : ∀ j, j < n + 1 → Ia j = cod (T (prv n (Od j)))) : MSt T (n + 1) Mx Od Ia := by
  refine ⟨h28, fun nn e => ?_⟩
  obtain rfl : n = nn := by omega
  exact ⟨hT, hX, hS, hI⟩
theorem MSt_0 {T Mx Od Ia : Nat → Nat} (h28 : ∀ k, T k < 28) : MSt T 0 Mx Od Ia := ⟨h28, fun nn e => by omega⟩
theorem MSt_mk' {T Mx Od Ia : Nat → Nat} {m : Nat} (h0 : 0 < m) (h28 : ∀ k, T k < 28) (hT : Txt T (m - 1)) (hX : ∀ q, q < m - 1 → Mx q = cod (T q)) (hS : ∃ R, Srt T (m - 1) Od R) (hI : ∀ j, j < m - 1 + 1 → Ia j = cod (T (prv (m - 1) (Od j)))) : MSt T m Mx Od Ia := by
  obtain ⟨n, rfl⟩ : ∃ n, m = n + 1 := ⟨m - 1, by omega⟩
  exact MSt_mk h28 hT hX hS hI
theorem bw_nlt {x y : Int32} (h : x ≤ y) : ¬ y < x := by
  rw [Int32.le_iff_toInt_le] at h; rw [Int32.lt_iff_toInt_lt]; omega
theorem bw_lt' {x y : Int32} (h : ¬ x ≤ y) : y < x := by
  rw [Int32.le_iff_toInt_le] at h; rw [Int32.lt_iff_toInt_lt]; omega
