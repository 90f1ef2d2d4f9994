/-! ===== lN n to 2^64: shifts, and, or, masks, one bit ===== -/
theorem wb_tb (n : Nat) : (lN n).toBitVec = BitVec.ofNat 64 n := rfl
theorem wb_inj {a b : Int64} (h : a.toBitVec = b.toBitVec) : a = b := Int64.toBitVec_inj.mp h
theorem wb_tn {n : Nat} (h : n < 2 ^ 64) : (lN n).toBitVec.toNat = n := by rw [wb_tb, BitVec.toNat_ofNat, Nat.mod_eq_of_lt h]
theorem wb_of (x : Int64) : ∃ n, n < 2 ^ 64 ∧ x = lN n := ⟨x.toBitVec.toNat, x.toBitVec.isLt, wb_inj (by rw [wb_tb]; simp)⟩
theorem wb_of32 (x : Int32) : ∃ n, n < 2 ^ 32 ∧ x = nI n := ⟨x.toBitVec.toNat, x.toBitVec.isLt, Int32.toBitVec_inj.mp (by show _ = BitVec.ofNat 32 _; simp)⟩
theorem wb_c : ∀ k, k < 64 → ((nI k).toInt64 &&& 63) = lN k := by decide +kernel
theorem wb_cu : ∀ k, k < 64 → ((nI k).toInt64.toUInt64 &&& Int64.toUInt64 63) = UInt64.ofNat k := by decide +kernel
theorem wb_sm : ∀ k, k < 64 → (BitVec.ofNat 64 k).smod 64 = BitVec.ofNat 64 k := by decide +kernel
theorem wb_pw {a b : Nat} (h : a ≤ b) : 2 ^ b = 2 ^ a * 2 ^ (b - a) := by rw [← Nat.pow_add]; congr 1; omega
theorem wb_lt2 {a b : Nat} (h : a < b) : 2 ^ a < 2 ^ b := Nat.pow_lt_pow_right (by decide) h
theorem wb_mod (n : Nat) : lN n = lN (n % 2 ^ 64) := wb_inj (by rw [wb_tb, wb_tb]; apply BitVec.eq_of_toNat_eq; rw [BitVec.toNat_ofNat, BitVec.toNat_ofNat, Nat.mod_mod])
theorem wb_shr {n k : Nat} (hn : n < 2 ^ 64) (hk : k < 64) : ((lN n).toUInt64 >>> ((nI k).toInt64.toUInt64 &&& Int64.toUInt64 63)).toInt64 = lN (n / 2 ^ k) := by
  rw [wb_cu k hk]
  apply wb_inj
  apply BitVec.eq_of_toNat_eq
  show ((lN n).toUInt64 >>> UInt64.ofNat k).toNat = (BitVec.ofNat 64 _).toNat
  have h1 : (UInt64.ofNat k).toNat = k := by
    show (BitVec.ofNat 64 k).toNat = k
    rw [BitVec.toNat_ofNat, Nat.mod_eq_of_lt (by omega)]
  have h2 : (lN n).toUInt64.toNat = n := wb_tn hn
  rw [UInt64.toNat_shiftRight, h1, h2, Nat.mod_eq_of_lt hk, Nat.shiftRight_eq_div_pow, BitVec.toNat_ofNat, Nat.mod_eq_of_lt (Nat.lt_of_le_of_lt (Nat.div_le_self _ _) hn)]
theorem wb_shl (n : Nat) {k : Nat} (hk : k < 64) : lN n <<< ((nI k).toInt64 &&& 63) = lN (n * 2 ^ k) := by
  rw [wb_c k hk]
  apply wb_inj
  rw [Int64.toBitVec_shiftLeft, wb_tb, wb_tb, wb_tb, wb_sm k hk]
  apply BitVec.eq_of_toNat_eq
  rw [BitVec.shiftLeft_eq', BitVec.toNat_shiftLeft, BitVec.toNat_ofNat, BitVec.toNat_ofNat, BitVec.toNat_ofNat, Nat.mod_eq_of_lt (show k < 2 ^ 64 by omega), Nat.shiftLeft_eq, Nat.mul_mod, Nat.mod_mod, ← Nat.mul_mod]
theorem wb_and {a b : Nat} (ha : a < 2 ^ 64) (hb : b < 2 ^ 64) : lN a &&& lN b = lN (a &&& b) := by
  apply wb_inj
  rw [Int64.toBitVec_and, wb_tb, wb_tb, wb_tb]
  apply BitVec.eq_of_toNat_eq
  rw [BitVec.toNat_and, BitVec.toNat_ofNat, BitVec.toNat_ofNat, BitVec.toNat_ofNat, Nat.mod_eq_of_lt ha, Nat.mod_eq_of_lt hb, Nat.mod_eq_of_lt (Nat.and_lt_two_pow _ hb)]
theorem wb_or {a b : Nat} (ha : a < 2 ^ 64) (hb : b < 2 ^ 64) : lN a ||| lN b = lN (a ||| b) := by
  apply wb_inj
  rw [Int64.toBitVec_or, wb_tb, wb_tb, wb_tb]
  apply BitVec.eq_of_toNat_eq
  rw [BitVec.toNat_or, BitVec.toNat_ofNat, BitVec.toNat_ofNat, BitVec.toNat_ofNat, Nat.mod_eq_of_lt ha, Nat.mod_eq_of_lt hb, Nat.mod_eq_of_lt (Nat.or_lt_two_pow ha hb)]
theorem wb_mask {n k : Nat} (hn : n < 2 ^ 64) (hk : k < 64) : lN n &&& lN (2 ^ k - 1) = lN (n % 2 ^ k) := by
  rw [wb_and hn (by have := wb_lt2 hk; omega), Nat.and_two_pow_sub_one_eq_mod]
theorem wb_a1 {n : Nat} (hn : n < 2 ^ 64) : lN n &&& 1 = lN (n % 2) := wb_mask (k := 1) hn (by decide)
theorem wb_bit {n k : Nat} (hn : n < 2 ^ 64) (hk : k < 64) : ((lN n).toUInt64 >>> ((nI k).toInt64.toUInt64 &&& Int64.toUInt64 63)).toInt64 &&& 1 = lN (n / 2 ^ k % 2) := by
  rw [wb_shr hn hk, wb_a1 (Nat.lt_of_le_of_lt (Nat.div_le_self _ _) hn)]
/-! ===== lN: masks, 'or' of parts that don't overlap is a sum ===== -/
theorem u_tn {n : Nat} (h : n < 2 ^ 64) : (UInt64.ofNat n).toNat = n := Nat.mod_eq_of_lt h
theorem g_and {a b c : Nat} (ha : a < 2 ^ 64) (hb : b < 2 ^ 64) (hc : a &&& b = c) : lN a &&& lN b = lN c := by
  subst hc
  have h : UInt64.ofNat a &&& UInt64.ofNat b = UInt64.ofNat (a &&& b) := UInt64.toNat_inj.mp (by rw [UInt64.toNat_and, u_tn ha, u_tn hb, u_tn (Nat.and_lt_two_pow a hb)])
  have h2 := congrArg UInt64.toInt64 h
  exact h2
theorem g_and1 {a : Nat} (ha : a < 2 ^ 64) : lN a &&& 1 = lN (a % 2) := g_and (b := 1) ha (by decide) (Nat.and_two_pow_sub_one_eq_mod a 1)
theorem g_mask {a s p : Nat} (hp : 2 ^ s = p) (hs : s < 64) (ha : a < 2 ^ 64) : lN a &&& lN (p - 1) = lN (a % p) := by
  subst hp
  have := Nat.pow_lt_pow_right (show 1 < 2 by decide) hs
  exact g_and ha (by omega) (Nat.and_two_pow_sub_one_eq_mod a s)
theorem g_or {k p a b : Nat} (hp : 2 ^ k = p) (ha : a < p) (h : b * p + a < 2 ^ 64) : lN (b * p) ||| lN a = lN (b * p + a) := by
  subst hp
  have h1 : b * 2 ^ k ||| a = b * 2 ^ k + a := by rw [← Nat.shiftLeft_eq, Nat.shiftLeft_add_eq_or_of_lt ha]
  have h3 : UInt64.ofNat (b * 2 ^ k) ||| UInt64.ofNat a = UInt64.ofNat (b * 2 ^ k + a) := UInt64.toNat_inj.mp (by rw [UInt64.toNat_or, u_tn (by omega), u_tn (by omega), u_tn h, h1])
  have h2 := congrArg UInt64.toInt64 h3
  exact h2
theorem g_or' {k p a b : Nat} (hp : 2 ^ k = p) (ha : a < p) (h : a + b * p < 2 ^ 64) : lN a ||| lN (b * p) = lN (a + b * p) := by
  rw [Int64.or_comm, g_or hp ha (by omega), Nat.add_comm]
theorem g_ushr {a k p : Nat} {y : UInt64} (hy : y = UInt64.ofNat k) (hk : k < 64) (hp : 2 ^ k = p) (ha : a < 2 ^ 64) : ((lN a).toUInt64 >>> y).toInt64 = lN (a / p) := by
  subst hy hp
  have h : UInt64.ofNat a >>> UInt64.ofNat k = UInt64.ofNat (a / 2 ^ k) := UInt64.toNat_inj.mp (by rw [UInt64.toNat_shiftRight, u_tn ha, u_tn (by omega), u_tn (Nat.lt_of_le_of_lt (Nat.div_le_self _ _) ha), Nat.mod_eq_of_lt hk, Nat.shiftRight_eq_div_pow])
  have h2 := congrArg UInt64.toInt64 h
  exact h2
theorem g_shl {a k p : Nat} {y : Int64} (hy : y.toBitVec.smod 64 = BitVec.ofNat 64 k) (hk : k < 64) (hp : 2 ^ k = p) (ha : a < 2 ^ 64) : lN a <<< y = lN (a * p) := by
  subst hp
  apply Int64.toBitVec_inj.mp
  rw [Int64.toBitVec_shiftLeft, hy]
  apply BitVec.eq_of_toNat_eq
  have hb : (lN a).toBitVec.toNat = a := Nat.mod_eq_of_lt ha
  have hk' : (BitVec.ofNat 64 k).toNat = k := Nat.mod_eq_of_lt (by omega)
  have h : ((lN a).toBitVec <<< BitVec.ofNat 64 k).toNat = (a * 2 ^ k) % 2 ^ 64 := by simp only [BitVec.shiftLeft_eq', BitVec.toNat_shiftLeft, hb, hk', Nat.shiftLeft_eq]
  exact h
/-- byte k of a word -/
def by8 (w k : Nat) : Nat := w / 2 ^ (8 * k) % 256
theorem by8_lt (w k : Nat) : by8 w k < 256 := Nat.mod_lt _ (by decide)
theorem cd_at {w b : Nat} (hw : w < 2 ^ 64) (hb : b < 8) : (((lN w).toUInt64 >>> ((nI (8 * b)).toInt64.toUInt64 &&& Int64.toUInt64 63)).toInt64).toInt32 &&& nI 255 = nI (by8 w b) := by
  rw [wb_shr hw (by omega), lN_i, pk_and _ 8 (by decide)]
  congr 1
  show (w / 2 ^ (8 * b)) % 2 ^ 32 % 2 ^ 8 = w / 2 ^ (8 * b) % 256
  omega
theorem by_sar {w s : Nat} (hw : w < 2 ^ 64) (hs : s ≤ 56) : (lN w >>> lN s) &&& lN 255 = lN (w / 2 ^ s % 256) := by
  apply wb_inj
  rw [Int64.toBitVec_and, Int64.toBitVec_shiftRight, wb_tb, wb_tb, wb_tb, wb_tb, wb_sm s (by omega)]
  apply BitVec.eq_of_getLsbD_eq
  intro i hi
  rw [BitVec.getLsbD_and, BitVec.sshiftRight_eq', BitVec.getLsbD_sshiftRight, BitVec.toNat_ofNat, Nat.mod_eq_of_lt (show s < 2 ^ 64 by omega)]
  have e1 : (BitVec.ofNat 64 255).getLsbD i = decide (i < 8) := by
    rw [BitVec.getLsbD_ofNat, show (255 : Nat) = 2 ^ 8 - 1 by decide, Nat.testBit_two_pow_sub_one]; simp [hi]
  have e2 : (BitVec.ofNat 64 (w / 2 ^ s % 256)).getLsbD i = (decide (i < 8) && w.testBit (s + i)) := by
    rw [BitVec.getLsbD_ofNat, show (256 : Nat) = 2 ^ 8 by decide, Nat.testBit_mod_two_pow, Nat.testBit_div_two_pow]; simp [hi, Nat.add_comm]
  rw [e1, e2]
  by_cases h8 : i < 8
  · rw [if_pos (by omega), BitVec.getLsbD_ofNat]
    simp [h8, hi, show s + i < 64 by omega]
  · simp [h8]
theorem cd_by {w k : Nat} (hw : w < 2 ^ 64) (hk : k < 8) : ((lN w >>> ((nI (8 * k)).toInt64 &&& 63)) &&& 255).toInt32 = nI (by8 w k) := by
  have e := by_sar hw (show 8 * k ≤ 56 by omega)
  rw [wb_c _ (by omega)]
  have e3 : (255 : Int64) = lN 255 := by decide
  rw [e3, e, lN_i]; rfl
/-- the word of bytes f 0, f 1 .. -/
def wsum (f : Nat → Nat) : Nat → Nat
  | 0 => 0
  | b + 1 => wsum f b + f b * 2 ^ (8 * b)
theorem wsum_lt {f : Nat → Nat} : ∀ {b : Nat}, (∀ i, i < b → f i < 256) → wsum f b < 2 ^ (8 * b)
  | 0, _ => Nat.lt_of_lt_of_le (show 0 < 1 by decide) (Nat.le_refl 1)
  | b + 1, h => by
    have ih := wsum_lt (f := f) (b := b) (fun i hi => h i (by omega))
    have h1 := Nat.mul_le_mul_right (2 ^ (8 * b)) (show f b ≤ 255 by have := h b (by omega); omega)
    have h2 : 2 ^ (8 * (b + 1)) = 256 * 2 ^ (8 * b) := by rw [show 8 * (b + 1) = 8 * b + 8 by omega, Nat.pow_add]; omega
    show wsum f b + f b * 2 ^ (8 * b) < _
    omega
theorem wsum_congr {f g : Nat → Nat} : ∀ {b : Nat}, (∀ i, i < b → f i = g i) → wsum f b = wsum g b
  | 0, _ => rfl
  | b + 1, h => by
    show wsum f b + f b * 2 ^ (8 * b) = wsum g b + g b * 2 ^ (8 * b)
    rw [wsum_congr (fun i hi => h i (by omega)), h b (by omega)]
theorem wsum_or {f : Nat → Nat} {b : Nat} (h : ∀ i, i < b + 1 → f i < 256) (hb : b < 8) : lN (wsum f b) ||| lN (f b * 2 ^ (8 * b)) = lN (wsum f (b + 1)) := by
  have h1 := wsum_lt (f := f) (b := b) (fun i hi => h i (by omega))
  have h2 := wsum_lt (f := f) (b := b + 1) h
  have h3 : 2 ^ (8 * (b + 1)) ≤ 2 ^ 64 := Nat.pow_le_pow_right (by decide) (by omega)
  have h4 : wsum f (b + 1) = wsum f b + f b * 2 ^ (8 * b) := rfl
  rw [g_or' (k := 8 * b) rfl h1 (by omega), h4]
/-- the same from the top -/
def hor (f : Nat → Nat) : Nat → Nat → Nat
  | _, 0 => 0
  | b, d + 1 => hor f (b + 1) d * 256 + f b
theorem hor_lt {f : Nat → Nat} : ∀ {d b : Nat}, (∀ i, f i < 256) → hor f b d < 2 ^ (8 * d)
  | 0, _, _ => Nat.lt_of_lt_of_le (show 0 < 1 by decide) (Nat.le_refl 1)
  | d + 1, b, h => by
    have ih := hor_lt (f := f) (d := d) (b := b + 1) h
    have h1 := h b
    have h2 : 2 ^ (8 * (d + 1)) = 256 * 2 ^ (8 * d) := by rw [show 8 * (d + 1) = 8 * d + 8 by omega, Nat.pow_add]; omega
    show hor f (b + 1) d * 256 + f b < _
    omega
theorem wsum_hor (f : Nat → Nat) : ∀ (d b : Nat), wsum f (b + d) = wsum f b + hor f b d * 2 ^ (8 * b)
  | 0, b => by simp [hor]
  | d + 1, b => by
    have ih := wsum_hor f d (b + 1)
    rw [show b + (d + 1) = b + 1 + d by omega, ih]
    show wsum f b + f b * 2 ^ (8 * b) + hor f (b + 1) d * 2 ^ (8 * (b + 1)) = wsum f b + (hor f (b + 1) d * 256 + f b) * 2 ^ (8 * b)
    rw [show 8 * (b + 1) = 8 * b + 8 by omega, Nat.pow_add, Nat.add_mul, show (2 : Nat) ^ 8 = 256 by decide, Nat.mul_assoc, Nat.mul_comm 256]
    omega
theorem hor_or {f : Nat → Nat} {b d : Nat} (h : ∀ i, f i < 256) (hd : d < 8) : (lN (hor f (b + 1) d) <<< ((nI 8).toInt64 &&& 63)) ||| lN (f b) = lN (hor f b (d + 1)) := by
  have h1 := hor_lt (d := d + 1) (b := b) h
  have h3 : 2 ^ (8 * (d + 1)) ≤ 2 ^ 64 := Nat.pow_le_pow_right (by decide) (by omega)
  have h4 : hor f b (d + 1) = hor f (b + 1) d * 256 + f b := rfl
  rw [wb_shl _ (by decide), show (2 : Nat) ^ 8 = 256 by decide, g_or (k := 8) (by decide) (h b) (by omega), h4]
/-- the codes of the symbols -/
def cod (k : Nat) : Nat := if k = 0 then 36 else if k = 1 then 124 else 95 + k
theorem cod_lt {k : Nat} (h : k < 28) : cod k < 125 := by unfold cod; split; · omega
                                                          · split <;> omega
theorem cod_pos (k : Nat) : 36 ≤ cod k := by unfold cod; split; · omega
                                             · split <;> omega
theorem cod_inj : ∀ {a b : Nat}, a < 28 → b < 28 → cod a = cod b → a = b := by
  have h : ∀ a, a < 28 → ∀ b, b < 28 → cod a = cod b → a = b := by decide +kernel
  intro a b ha hb; exact h a ha b hb
/-- the symbol of a code, 0 where there is none -/
def sno (c : Nat) : Nat := if c = 36 then 0 else if c = 124 then 1 else c - 95
def isS (c : Nat) : Prop := c = 36 ∨ c = 124 ∨ (97 ≤ c ∧ c ≤ 122)
theorem cod_sno {c : Nat} (h : isS c) : sno c < 28 ∧ cod (sno c) = c := by
  unfold isS at h
  unfold sno cod
  by_cases h1 : c = 36
  · rw [if_pos h1, if_pos rfl]; exact ⟨by decide, h1.symm⟩
  · by_cases h2 : c = 124
    · rw [if_neg h1, if_pos h2, if_neg (by decide), if_pos rfl]; exact ⟨by decide, h2.symm⟩
    · rw [if_neg h1, if_neg h2, if_neg (by omega), if_neg (by omega)]; omega
theorem isS_cod {k : Nat} (h : k < 28) : isS (cod k) ∧ sno (cod k) = k := by
  unfold isS sno cod
  by_cases h1 : k = 0
  · rw [if_pos h1, if_pos rfl]; exact ⟨Or.inl rfl, h1.symm⟩
  · by_cases h2 : k = 1
    · rw [if_neg h1, if_pos h2, if_neg (by decide), if_pos rfl]; exact ⟨Or.inr (Or.inl rfl), h2.symm⟩
    · rw [if_neg h1, if_neg h2, if_neg (by omega), if_neg (by omega)]; exact ⟨by omega, by omega⟩
theorem bw_noS {x : Int32} (h0 : ¬ x = nI 36) (h1 : ¬ x = nI 124) (h2 : x < nI 97 ∨ nI 122 < x) : ∀ v, isS v → x ≠ nI v := by
  intro v hs e
  subst e
  rcases hs with h | h | h
  · exact h0 (by rw [h])
  · exact h1 (by rw [h])
  · rcases h2 with h2 | h2
    · rw [nI_ltI (by omega) (by omega)] at h2; omega
    · rw [nI_ltI (by omega) (by omega)] at h2; omega
/-- the worth of a code, in the order of the symbols -/
def wor (v : Nat) : Nat := if v = 36 then 0 else if v = 124 then 1 else v
theorem wor_lt {a b : Nat} (ha : a < 28) (hb : b < 28) : wor (cod a) < wor (cod b) ↔ a < b := by
  have h : ∀ a, a < 28 → ∀ b, b < 28 → (wor (cod a) < wor (cod b) ↔ a < b) := by decide +kernel
  exact h a ha b hb
theorem wor_eq {a b : Nat} (ha : a < 28) (hb : b < 28) : wor (cod a) = wor (cod b) ↔ a = b := by
  have h : ∀ a, a < 28 → ∀ b, b < 28 → (wor (cod a) = wor (cod b) ↔ a = b) := by decide +kernel
  exact h a ha b hb
