/-- what the index holds -/
def XSt (T O R : Nat → Nat) (n : Nat) (S F B : Nat → Nat) (sp : Nat) (Ah Ke Kr Sa : Nat → Nat) (sq : Nat) : Prop :=
  Lnk S F B n ∧ (n = 0 → sq = 0) ∧ ∀ nn, n = nn + 1 → Txt T nn ∧ Srt T nn O R ∧ Img S T O nn ∧ Kept T O R nn sp Ah Ke Kr 0 ∧ sq = nb T nn + 1 ∧ ∀ x, x < nb T nn + 2 → Sa x = gs T nn x
theorem XSt.held {T O R S F B Ah Ke Kr Sa : Nat → Nat} {n sp sq : Nat} (h : XSt T O R n S F B sp Ah Ke Kr Sa sq) : Held S T O R n := fun nn e => ⟨(h.2.2 nn e).1, (h.2.2 nn e).2.1, (h.2.2 nn e).2.2.1⟩
theorem XSt.sq {T O R S F B Ah Ke Kr Sa : Nat → Nat} {n sp sq : Nat} (h : XSt T O R n S F B sp Ah Ke Kr Sa sq) : sq = sqs T n := by
  cases n with
  | zero => rw [h.2.1 rfl]; unfold sqs; simp [nb_0]
  | succ nn => rw [(h.2.2 nn rfl).2.2.2.2.1, sqs_1]
theorem XSt.sa {T O R S F B Ah Ke Kr Sa : Nat → Nat} {n sp sq : Nat} (h : XSt T O R n S F B sp Ah Ke Kr Sa sq) {v : Nat} (hv : v < sqs T n + 1) (hn : 0 < n) : Sa v = gs T (n - 1) v := by
  obtain ⟨nn, rfl⟩ : ∃ nn, n = nn + 1 := ⟨n - 1, by omega⟩
  rw [sqs_1] at hv
  rw [Nat.add_sub_cancel]; exact (h.2.2 nn rfl).2.2.2.2.2 v (by omega)
theorem XSt.ln {T O R S F B Ah Ke Kr Sa : Nat → Nat} {n sp sq : Nat} (h : XSt T O R n S F B sp Ah Ke Kr Sa sq) {v : Nat} (hv : v < sqs T n) : Sa (v + 1) - 1 - Sa v = lns T n v := by
  have h1 := sqs_in hv
  rw [h.sa (show v + 1 < sqs T n + 1 by omega) h1.1, h.sa (show v < sqs T n + 1 by omega) h1.1]; rfl
theorem XSt.lt {T O R S F B Ah Ke Kr Sa : Nat → Nat} {n sp sq : Nat} (h : XSt T O R n S F B sp Ah Ke Kr Sa sq) {v : Nat} (hv : v < sqs T n) : Sa v < Sa (v + 1) := by
  have h1 := sqs_in hv
  rw [h.sa (show v + 1 < sqs T n + 1 by omega) h1.1, h.sa (show v < sqs T n + 1 by omega) h1.1]
  exact sq_next h1.2
theorem wsum_0 {f : Nat → Nat} : ∀ {b : Nat}, (∀ i, i < b → f i = 0) → wsum f b = 0
  | 0, _ => rfl
  | b + 1, h => by
    show wsum f b + f b * 2 ^ (8 * b) = 0
    rw [wsum_0 (fun i hi => h i (by omega)), h b (by omega), Nat.zero_mul]
theorem wsum_ext {f : Nat → Nat} {b : Nat} : ∀ (d : Nat), (∀ i, b ≤ i → i < b + d → f i = 0) → wsum f (b + d) = wsum f b
  | 0, _ => rfl
  | d + 1, h => by
    show wsum f (b + d) + f (b + d) * 2 ^ (8 * (b + d)) = wsum f b
    rw [wsum_ext d (fun i h1 h2 => h i h1 (by omega)), h (b + d) (by omega) (by omega), Nat.zero_mul, Nat.add_zero]
theorem wsum_z {f : Nat → Nat} {b : Nat} (h : f b = 0) : wsum f (b + 1) = wsum f b := by
  show wsum f b + f b * 2 ^ (8 * b) = _
  rw [h, Nat.zero_mul, Nat.add_zero]
theorem imw_y {S : Nat → Nat} {n k i : Nat} (h : 8 * k + i < n) : imw S n k i = cod (S (8 * k + i)) := if_pos h
theorem imw_n {S : Nat → Nat} {n k i : Nat} (h : ¬ 8 * k + i < n) : imw S n k i = 0 := if_neg h
theorem exw_y {T : Nat → Nat} {n v o i : Nat} (h : o + i < lns T n v) : exw T n v o i = cod (T (gs T (n - 1) v + o + i)) := if_pos h
theorem exw_n {T : Nat → Nat} {n v o i : Nat} (h : ¬ o + i < lns T n v) : exw T n v o i = 0 := if_neg h
theorem exw_end {T : Nat → Nat} {n v o b : Nat} (hb : b ≤ 8) (h : 8 ≤ b ∨ lns T n v ≤ o + b) : wsum (exw T n v o) b = wsum (exw T n v o) 8 := by
  rcases h with h | h
  · rw [show b = 8 by omega]
  · have := wsum_ext (f := exw T n v o) (b := b) (8 - b) (fun i h1 h2 => exw_n (by omega))
    rw [show b + (8 - b) = 8 by omega] at this; exact this.symm
theorem bw_lo {x : Int32} {b : Nat} (h1 : ¬ x < 0) (h2 : x < nI b) (hb : b < 2 ^ 31 := by omega) : ∃ k, k < b ∧ x = nI k := by
  obtain ⟨k, hk, e⟩ := bw_nn h1
  refine ⟨k, ?_, e⟩
  rw [e, nI_ltI hk hb] at h2; exact h2
theorem bw_m2 {x : Int32} (h1 : ¬ x < 0) : ¬ x < nI 0 - 1 := by
  rw [Int32.lt_iff_toInt_lt, Int32.toInt_zero] at h1
  rw [Int32.lt_iff_toInt_lt, bw_pt (by decide)]; omega
/-- what occurs occurs before the last place -/
theorem cn_eq {S T O R : Nat → Nat} {w k n : Nat} (hH : Held S T O R n) (hp : Pat w k) : num (occ T (pw w) k 0) n = num (occ T (pw w) k 0) (n - 1) := by
  cases n with
  | zero => rfl
  | succ nn =>
    rw [Nat.add_sub_cancel]
    refine num_n (fun h => ?_)
    have := occ_in (hH nn rfl).1 hp.1 (fun i hi => by have := (pw_cod hp hi).2.2; omega) h
    have := hp.1; omega
theorem occ_lt {S T O R : Nat → Nat} {w k n v : Nat} (hH : Held S T O R n) (hp : Pat w k) (hv : v < n) (h : occ T (pw w) k 0 v) : v + 1 < n := by
  have := occ_in (hH (n - 1) (by omega)).1 hp.1 (fun i hi => by have := (pw_cod hp hi).2.2; omega) h
  have := hp.1; omega
/-- the places found in rows lo .. r - 1 are marked with 0, the others with 5 -/
def Mrk (O E : Nat → Nat) (n lo r : Nat) : Prop := ∀ v, v < n → (E v = 0 ∧ ∃ j, lo ≤ j ∧ j < r ∧ O j = v) ∨ (E v = 5 ∧ ∀ j, lo ≤ j → j < r → O j ≠ v)
theorem Mrk_0 {O E : Nat → Nat} {n lo : Nat} (hn : n ≤ 97) (h : ∀ k, k < 97 → E k = 5) : Mrk O E n lo lo := fun v hv => Or.inr ⟨h v (by omega), fun j h1 h2 => by omega⟩
theorem Mrk_s {O E : Nat → Nat} {n lo r : Nat} (h : Mrk O E n lo r) (hr : lo ≤ r) : Mrk O (upN E (O r) 0) n lo (r + 1) := fun v hv => by
  by_cases e : v = O r
  · rw [e, upN_s]; exact Or.inl ⟨rfl, r, hr, by omega, rfl⟩
  · rw [upN_o e]
    rcases h v hv with q | q
    · obtain ⟨q1, j, h1, h2, h3⟩ := q
      exact Or.inl ⟨q1, j, h1, by omega, h3⟩
    · exact Or.inr ⟨q.1, fun j h1 h2 h3 => if ej : j = r then e (by rw [← h3, ej]) else q.2 j h1 (by omega) h3⟩
theorem Mrk_occ {S T W O R E : Nat → Nat} {n k lo hi : Nat} (hH : Held S T O R n) (hB : Bg T W O n k 0 lo hi) (h : Mrk O E n lo hi) : ∀ v, v < n → ((E v ≤ 0 ↔ occ T W k 0 v) ∧ (E v = 0 ∨ E v = 5)) := fun v hv => by
  obtain ⟨nn, rfl⟩ : ∃ nn, n = nn + 1 := ⟨n - 1, by omega⟩
  obtain ⟨hT, hs, hS⟩ := hH nn rfl
  have hr := hs.2.1 v hv
  have hb := hB.2.2 (R v) hr.1
  rw [hr.2] at hb
  rcases h v hv with q | q
  · obtain ⟨q1, j, h1, h2, h3⟩ := q
    have hj := hB.2.2 j (by have := hB.2.1; omega)
    rw [h3] at hj
    exact ⟨⟨fun _ => hj.mp ⟨h1, h2⟩, fun _ => by omega⟩, Or.inl q1⟩
  · refine ⟨⟨fun z => by omega, fun z => ?_⟩, Or.inr q.1⟩
    have := hb.mpr z
    exact absurd hr.2 (q.2 (R v) this.1 this.2)
/-- one letter on -/
theorem Er_next {W T D Dn : Nat → Nat} {v pk : Nat} (h0 : 0 < v) (h : ∀ i, i ≤ pk → D i = Er W T (v - 1) i) (hn : ∀ i, i ≤ pk → Dn i = if T (v - 1) = 1 then i else svr W D (T (v - 1)) i) : ∀ i, i ≤ pk → Dn i = Er W T v i := by
  obtain ⟨q, rfl⟩ : ∃ q, v = q + 1 := ⟨v - 1, by omega⟩
  rw [Nat.add_sub_cancel] at h hn
  intro i hi
  rw [hn i hi]
  show _ = (if T q = 1 then (fun j => j) else svr W (Er W T q) (T q)) i
  by_cases e : T q = 1
  · rw [if_pos e, if_pos e]
  · rw [if_neg e, if_neg e]; exact svr_congr i (fun x hx => h x (by omega)) (fun _ _ => rfl)
theorem svr_w {W W' D : Nat → Nat} {c k : Nat} (h : ∀ i, i < k → W i = W' i) : ∀ j, j ≤ k → svr W D c j = svr W' D c j := fun j hj => svr_congr j (fun _ _ => rfl) (fun i hi => h i (by omega))
theorem Er_w {W W' T : Nat → Nat} {k : Nat} (h : ∀ i, i < k → W i = W' i) : ∀ v j, j ≤ k → Er W T v j = Er W' T v j
  | 0, _, _ => rfl
  | v + 1, j, hj => by
    show (if T v = 1 then (fun j => j) else svr W (Er W T v) (T v)) j = (if T v = 1 then (fun j => j) else svr W' (Er W' T v) (T v)) j
    by_cases e : T v = 1
    · rw [if_pos e, if_pos e]
    · rw [if_neg e, if_neg e]; exact svr_congr j (fun x hx => Er_w h v x (by omega)) (fun i hi => h i (by omega))
theorem XSt.t28 {T O R S F B Ah Ke Kr Sa : Nat → Nat} {n sp sq : Nat} (h : XSt T O R n S F B sp Ah Ke Kr Sa sq) (hs : ∀ k, S k < 28) (hn : 0 < n) : ∀ q, T q < 28 := by
  obtain ⟨nn, rfl⟩ : ∃ nn, n = nn + 1 := ⟨n - 1, by omega⟩
  obtain ⟨hT, hSr, hIm, _⟩ := h.2.2 nn rfl
  intro q
  by_cases e : nn ≤ q
  · rw [(hT q).mpr e]; omega
  · rw [← held_sym hSr hIm (show q + 1 < nn + 1 by omega)]; exact hs _
theorem XSt.len {T O R S F B Ah Ke Kr Sa : Nat → Nat} {n sp sq : Nat} (_ : XSt T O R n S F B sp Ah Ke Kr Sa sq) {v : Nat} (hv : v < sqs T n) : gs T (n - 1) v + lns T n v + 1 = gs T (n - 1) (v + 1) ∧ gs T (n - 1) (v + 1) ≤ n := by
  have h1 := sqs_in hv
  have h2 := sq_next h1.2
  have h3 := gs_le T (n - 1) (v + 1)
  unfold lns; omega
theorem cn_w {T W : Nat → Nat} {w k n : Nat} (h : ∀ i, i < k → W i = by8 w i - 95) : num (occ T W k 0) n = num (occ T (pw w) k 0) n := num_congr n (fun j _ => occ_congr h)
theorem ex_w {T W E : Nat → Nat} {w k n : Nat} (h : ∀ i, i < k → W i = by8 w i - 95) (hE : ∀ v, v < n → ((E v ≤ 0 ↔ occ T W k 0 v) ∧ (E v = 0 ∨ E v = 5))) : ∀ v, v < n → (E v ≤ 0 ↔ occ T (pw w) k 0 v) := fun v hv => (hE v hv).1.trans (occ_congr h)
theorem ex_num {P Q : Nat → Prop} {n v : Nat} (h : ∀ q, q < n → (P q ↔ Q q)) (hv : v ≤ n) : num P v = num Q v := num_congr v (fun j hj => h j (by omega))
theorem er_w {T W E : Nat → Nat} {w k n : Nat} (h : ∀ i, i < k → W i = by8 w i - 95) (hE : ∀ v, v < n → E v = Er W T v k) : ∀ v, v < n → E v = Er (pw w) T v k := fun v hv => by
  rw [hE v hv]; exact Er_w (W' := pw w) h v k (Nat.le_refl k)
