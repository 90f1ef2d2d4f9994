/-! both answer alike -/
theorem Od_same {T O R S F B Ah Ke Kr Sa Mx Od Ia : Nat → Nat} {n sp sq : Nat} (hX : XSt T O R n S F B sp Ah Ke Kr Sa sq) (hM : MSt T n Mx Od Ia) : ∀ k, k < n → Od k = O k := fun k hk => by
  obtain ⟨nn, rfl⟩ : ∃ nn, n = nn + 1 := ⟨n - 1, by omega⟩
  obtain ⟨_, _, ⟨R', hs⟩, _⟩ := hM.2 nn rfl
  exact (hs.same (hX.2.2 nn rfl).2.1).2 k hk
theorem Ia_same {T O R S F B Ah Ke Kr Sa Mx Od Ia : Nat → Nat} {n sp sq : Nat} (hX : XSt T O R n S F B sp Ah Ke Kr Sa sq) (hM : MSt T n Mx Od Ia) : ∀ k, k < n → Ia k = cod (S k) := fun k hk => by
  have ho := Od_same hX hM k hk
  obtain ⟨nn, rfl⟩ : ∃ nn, n = nn + 1 := ⟨n - 1, by omega⟩
  rw [(hM.2 nn rfl).2.2.2 k hk, ho, (hX.2.2 nn rfl).2.2.1 k hk]
theorem nI_ij {a b : Nat} {x : Int32} (ha : a < 2 ^ 31) (hb : b < 2 ^ 31) (h : x = nI a) (g : x = nI b) : a = b := (nI_eq ha hb).mp (h.symm.trans g)
theorem suf_eq {f g : Nat → Nat} {n : Nat} {xk r r' : Int32} (hn : n ≤ 97) (h : ∀ k, k < n → g k = f k) (h1 : (∃ k, k < n ∧ xk = nI k ∧ r = nI (f k)) ∨ ((∀ k, k < n → xk ≠ nI k) ∧ r = nI 0 - 1))
    (h2 : (∃ k, k < n ∧ xk = nI k ∧ r' = nI (g k)) ∨ ((∀ k, k < n → xk ≠ nI k) ∧ r' = nI 0 - 1)) : r = r' := by
  rcases h1 with ⟨k, a1, a2, a3⟩ | ⟨a1, a2⟩ <;> rcases h2 with ⟨j, b1, b2, b3⟩ | ⟨b1, b2⟩
  · obtain rfl := nI_ij (by omega) (by omega) a2 b2
    rw [a3, b3, h k a1]
  · exact absurd a2 (b1 k a1)
  · exact absurd b2 (a1 j b1)
  · rw [a2, b2]
theorem im_eq {f : Nat → Nat} {xk : Int32} {r r' : Int64} (h1 : (∃ k, k < 13 ∧ xk = nI k ∧ r = lN (f k)) ∨ ((∀ k, k < 13 → xk ≠ nI k) ∧ r = lN 0))
    (h2 : (∃ k, k < 13 ∧ xk = nI k ∧ r' = lN (f k)) ∨ ((∀ k, k < 13 → xk ≠ nI k) ∧ r' = lN 0)) : r = r' := by
  rcases h1 with ⟨k, a1, a2, a3⟩ | ⟨a1, a2⟩ <;> rcases h2 with ⟨j, b1, b2, b3⟩ | ⟨b1, b2⟩
  · obtain rfl := nI_ij (by omega) (by omega) a2 b2
    rw [a3, b3]
  · exact absurd a2 (b1 k a1)
  · exact absurd b2 (a1 j b1)
  · rw [a2, b2]
theorem isS_lt {v : Nat} (h : isS v) : v < 2 ^ 31 := by unfold isS at h; omega
theorem rk_eq {f : Nat → Nat → Nat} {n : Nat} {xs xi r r' : Int32} (hn : n ≤ 97) (h1 : (∃ v i, isS v ∧ xs = nI v ∧ i ≤ n ∧ xi = nI i ∧ r = nI (f v i)) ∨ ((∀ v i, isS v → xs = nI v → i ≤ n → xi ≠ nI i) ∧ r = nI 0 - 1))
    (h2 : (∃ v i, isS v ∧ xs = nI v ∧ i ≤ n ∧ xi = nI i ∧ r' = nI (f v i)) ∨ ((∀ v i, isS v → xs = nI v → i ≤ n → xi ≠ nI i) ∧ r' = nI 0 - 1)) : r = r' := by
  rcases h1 with ⟨v, i, a1, a2, a3, a4, a5⟩ | ⟨a1, a2⟩ <;> rcases h2 with ⟨v', i', b1, b2, b3, b4, b5⟩ | ⟨b1, b2⟩
  · obtain rfl := nI_ij (isS_lt a1) (isS_lt b1) a2 b2
    obtain rfl := nI_ij (by omega) (by omega) a4 b4
    rw [a5, b5]
  · exact absurd a4 (b1 v i a1 a2 a3)
  · exact absurd b4 (a1 v' i' b1 b2 b3)
  · rw [a2, b2]
theorem len_eq {f : Nat → Nat} {m : Nat} {xs r r' : Int32} (hm : m ≤ 97) (h1 : (∃ v, v < m ∧ xs = nI v ∧ r = nI (f v)) ∨ ((∀ v, v < m → xs ≠ nI v) ∧ r = nI 0 - 1))
    (h2 : (∃ v, v < m ∧ xs = nI v ∧ r' = nI (f v)) ∨ ((∀ v, v < m → xs ≠ nI v) ∧ r' = nI 0 - 1)) : r = r' := suf_eq hm (fun _ _ => rfl) h1 h2
theorem ex_eq {f : Nat → Nat → Nat} {g : Nat → Nat} {m : Nat} {xs xo : Int32} {r r' : Int64} (hm : m ≤ 97) (hg : ∀ v, v < m → g v ≤ 97) (h1 : (∃ v o, v < m ∧ xs = nI v ∧ o < g v ∧ xo = nI o ∧ r = lN (f v o)) ∨ ((∀ v o, v < m → xs = nI v → o < g v → xo ≠ nI o) ∧ r = lN 0))
    (h2 : (∃ v o, v < m ∧ xs = nI v ∧ o < g v ∧ xo = nI o ∧ r' = lN (f v o)) ∨ ((∀ v o, v < m → xs = nI v → o < g v → xo ≠ nI o) ∧ r' = lN 0)) : r = r' := by
  rcases h1 with ⟨v, i, a1, a2, a3, a4, a5⟩ | ⟨a1, a2⟩ <;> rcases h2 with ⟨v', i', b1, b2, b3, b4, b5⟩ | ⟨b1, b2⟩
  · obtain rfl := nI_ij (by omega) (by omega) a2 b2
    have := hg v a1
    obtain rfl := nI_ij (by omega) (by omega) a4 b4
    rw [a5, b5]
  · exact absurd a4 (b1 v i a1 a2 a3)
  · exact absurd b4 (a1 v' i' b1 b2 b3)
  · rw [a2, b2]
theorem cnt_eq {w : Nat} {f : Nat → Nat} {r r' : Int32} (h1 : (∃ k, Pat w k ∧ r = nI (f k)) ∨ ((∀ k, ¬ Pat w k) ∧ r = nI 0 - 1)) (h2 : (∃ k, Pat w k ∧ r' = nI (f k)) ∨ ((∀ k, ¬ Pat w k) ∧ r' = nI 0 - 1)) : r = r' := by
  rcases h1 with ⟨k, a1, a2⟩ | ⟨a1, a2⟩ <;> rcases h2 with ⟨j, b1, b2⟩ | ⟨b1, b2⟩
  · obtain rfl := Pat_uniq a1 b1; rw [a2, b2]
  · exact absurd a1 (b1 k)
  · exact absurd b1 (a1 j)
  · rw [a2, b2]
/-- of those with P at most one has number i -/
theorem num_ij {P : Nat → Prop} {a b : Nat} (ha : P a) (hb : P b) (h : num P a = num P b) : a = b := by
  by_cases h1 : a < b
  · have := num_lt h1 ha; omega
  · by_cases h2 : b < a
    · have := num_lt h2 hb; omega
    · omega
theorem plc_eq {w n : Nat} {P : Nat → Nat → Prop} {f : Nat → Nat} {xi r r' : Int32} (hn : n ≤ 97)
    (h1 : (∃ k v, Pat w k ∧ v + 1 < n ∧ P k v ∧ xi = nI (num (P k) v) ∧ r = nI (f v)) ∨ ((∀ k v, Pat w k → v + 1 < n → P k v → xi ≠ nI (num (P k) v)) ∧ r = nI 0 - 1))
    (h2 : (∃ k v, Pat w k ∧ v + 1 < n ∧ P k v ∧ xi = nI (num (P k) v) ∧ r' = nI (f v)) ∨ ((∀ k v, Pat w k → v + 1 < n → P k v → xi ≠ nI (num (P k) v)) ∧ r' = nI 0 - 1)) : r = r' := by
  rcases h1 with ⟨k, v, a1, a2, a3, a4, a5⟩ | ⟨a1, a2⟩ <;> rcases h2 with ⟨k', v', b1, b2, b3, b4, b5⟩ | ⟨b1, b2⟩
  · obtain rfl := Pat_uniq a1 b1
    have e1 := num_le (P k) v
    have e2 := num_le (P k) v'
    obtain rfl := num_ij a3 b3 (nI_ij (by omega) (by omega) a4 b4)
    rw [a5, b5]
  · exact absurd a4 (b1 k v a1 a2 a3)
  · exact absurd b4 (a1 k' v' b1 b2 b3)
  · rw [a2, b2]
theorem mts_eq {w : Nat} {f : Nat → Nat → Nat} {xk r r' : Int32} (h1 : (∃ k kk, Pat w k ∧ kk ≤ 4 ∧ xk = nI kk ∧ r = nI (f k kk)) ∨ ((∀ k kk, Pat w k → kk ≤ 4 → xk ≠ nI kk) ∧ r = nI 0 - 1))
    (h2 : (∃ k kk, Pat w k ∧ kk ≤ 4 ∧ xk = nI kk ∧ r' = nI (f k kk)) ∨ ((∀ k kk, Pat w k → kk ≤ 4 → xk ≠ nI kk) ∧ r' = nI 0 - 1)) : r = r' := by
  rcases h1 with ⟨k, v, a1, a2, a3, a4⟩ | ⟨a1, a2⟩ <;> rcases h2 with ⟨k', v', b1, b2, b3, b4⟩ | ⟨b1, b2⟩
  · obtain rfl := Pat_uniq a1 b1
    obtain rfl := nI_ij (by omega) (by omega) a3 b3
    rw [a4, b4]
  · exact absurd a3 (b1 k v a1 a2)
  · exact absurd b3 (a1 k' v' b1 b2)
  · rw [a2, b2]
theorem mat_eq {w n : Nat} {P : Nat → Nat → Nat → Prop} {f : Nat → Nat → Nat} {xk xi r r' : Int32} (hn : n ≤ 97)
    (h1 : (∃ k kk v, Pat w k ∧ kk ≤ 4 ∧ xk = nI kk ∧ v < n ∧ P k kk v ∧ xi = nI (num (P k kk) v) ∧ r = nI (f k v)) ∨ ((∀ k kk v, Pat w k → kk ≤ 4 → xk = nI kk → v < n → P k kk v → xi ≠ nI (num (P k kk) v)) ∧ r = nI 0 - 1))
    (h2 : (∃ k kk v, Pat w k ∧ kk ≤ 4 ∧ xk = nI kk ∧ v < n ∧ P k kk v ∧ xi = nI (num (P k kk) v) ∧ r' = nI (f k v)) ∨ ((∀ k kk v, Pat w k → kk ≤ 4 → xk = nI kk → v < n → P k kk v → xi ≠ nI (num (P k kk) v)) ∧ r' = nI 0 - 1)) : r = r' := by
  rcases h1 with ⟨k, kk, v, a1, a2, a3, a4, a5, a6, a7⟩ | ⟨a1, a2⟩ <;> rcases h2 with ⟨k', kk', v', b1, b2, b3, b4, b5, b6, b7⟩ | ⟨b1, b2⟩
  · obtain rfl := Pat_uniq a1 b1
    obtain rfl := nI_ij (by omega) (by omega) a3 b3
    have e1 := num_le (P k kk) v
    have e2 := num_le (P k kk) v'
    obtain rfl := num_ij a5 b5 (nI_ij (by omega) (by omega) a6 b6)
    rw [a7, b7]
  · exact absurd a6 (b1 k kk v a1 a2 a3 a4 a5)
  · exact absurd b6 (a1 k' kk' v' b1 b2 b3 b4 b5)
  · rw [a2, b2]
theorem lg_cmp_r (x : Int64) : lg_cmp x x = 0 := by
  unfold lg_cmp
  rw [if_neg (fun h => by rw [gt_iff_lt, Int64.lt_iff_toInt_lt] at h; omega), if_pos rfl]
theorem lw_gt {L i : Nat} (hL : L ≤ 2561) (hi : i ≤ 2600) : (nI L - nI 5 < nI i) ↔ L < i + 5 := by
  rw [Int32.lt_iff_toInt_lt, pk_sub_toInt (by omega) (by omega), nI_toInt (by omega)]; omega
theorem ky_of {args : Array Value} {s : State} (h : (Cond.arrayClass .int).before args s = true) : ∃ ky, ArrOfT s ky .int ∧ va_RA s ky .int := by
  obtain ⟨c, k, comp, h1, h2, h3⟩ := Cond.arrayClass_spec h
  exact ⟨c, fun n z => ⟨fun k h => (by cases h), k, h2, comp, h3⟩, h1⟩
theorem XSt_0 {T O R Ah Ke Kr Sa : Nat → Nat} {sp : Nat} : XSt T O R 0 (fun _ => 0) (fun _ => 0) (fun _ => 0) sp Ah Ke Kr Sa 0 :=
  ⟨⟨fun d _ => (num_0 _).symm, fun k hk => by omega⟩, fun _ => rfl, fun nn e => by omega⟩
theorem lns_le {T O R S F B Ah Ke Kr Sa : Nat → Nat} {n sp sq : Nat} (hX : XSt T O R n S F B sp Ah Ke Kr Sa sq) (hn : n ≤ 97) : ∀ v, v < sqs T n → lns T n v ≤ 97 := fun v hv => by
  have h1 := (hX.len hv).1
  have h2 := (hX.len hv).2
  omega
theorem put_md {w d dp : Nat} {D M Dp Dp2 : Nat → Nat} (h : ∀ k, k < d → M k = cod (D k)) (hok : PutOk w d) (h1 : dp = d + pns w 8) (h2 : Dp = pds w sno D d 8) (h3 : Dp2 = pds w (fun x => x) M d 8) : ∀ k, k < dp → Dp2 k = cod (Dp k) := by
  rw [h1, h2, h3]; exact pds_cod h 8 hok.1
