theorem num_sy {P : Nat → Prop} {k f : Nat} (h : P k) (hf : f = num P k) : f + 1 = num P (k + 1) := by rw [num_y h, hf]
theorem num_sn {P : Nat → Prop} {k f : Nat} (h : ¬ P k) (hf : f = num P k) : f = num P (k + 1) := by rw [num_n h, hf]
theorem num_ls (S : Nat → Nat) (c m : Nat) : num (fun j => S j < c + 1) m = num (fun j => S j < c) m + num (fun j => S j = c) m := by
  rw [← num_or (fun j _ x => by omega)]
  exact num_congr _ (fun j _ => by omega)
theorem num_ls_le (S : Nat → Nat) (c m k : Nat) (h : k ≤ m) : num (fun j => S j < c) m + num (fun j => S j = c) k ≤ m := by
  have h1 := num_or (P := fun j => S j < c) (Q := fun j => S j = c) (m := m) (fun j _ x => by omega)
  have h2 := num_le (fun j => S j < c ∨ S j = c) m
  have h3 := num_mono (fun j => S j = c) h
  omega
/-- firsts and back of an image -/
def Lnk (S F B : Nat → Nat) (n : Nat) : Prop := (∀ d, d < 28 → F d = num (fun j => S j < d) n) ∧ (∀ k, k < n → B k = bk S n k)
theorem lk_F {S F : Nat → Nat} {n c r : Nat} (h : ∀ d, d < c → F d = num (fun j => S j < d) n) (hr : r = num (fun j => S j < c) n) :
    ∀ d, d < c + 1 → upN F c r d = num (fun j => S j < d) n := by
  intro d hd
  by_cases e : d = c
  · rw [e, upN_s, hr]
  · rw [upN_o e]; exact h d (by omega)
theorem lk_B {S B : Nat → Nat} {n c k r : Nat} (h : ∀ x, x < n → (S x < c ∨ (S x = c ∧ x < k)) → B x = bk S n x) (hs : S k = c)
    (hr : r = num (fun j => S j < c) n + num (fun j => S j = c) k) : ∀ x, x < n → (S x < c ∨ (S x = c ∧ x < k + 1)) → upN B k r x = bk S n x := by
  intro x hx hc
  by_cases e : x = k
  · rw [e, upN_s, hr]; unfold bk; rw [hs]
  · rw [upN_o e]; exact h x hx (by omega)
theorem lk_Bn {S B : Nat → Nat} {n c k : Nat} (h : ∀ x, x < n → (S x < c ∨ (S x = c ∧ x < k)) → B x = bk S n x) (hs : ¬ S k = c) :
    ∀ x, x < n → (S x < c ∨ (S x = c ∧ x < k + 1)) → B x = bk S n x := by
  intro x hx hc
  refine h x hx ?_
  by_cases e : x = k
  · rw [e] at hc ⊢; omega
  · omega
theorem lk_r {S : Nat → Nat} {n c r : Nat} (h : r = num (fun j => S j < c) n + num (fun j => S j = c) n) : r = num (fun j => S j < c + 1) n := by rw [num_ls]; exact h
/-- a draft as a text -/
def txd (D : Nat → Nat) (d q : Nat) : Nat := if q < d then D q else 0
theorem txd_txt {D : Nat → Nat} {d : Nat} (h : ∀ q, q < d → D q ≠ 0) : Txt (txd D d) d := fun q => by
  unfold txd
  by_cases e : q < d
  · rw [if_pos e]; exact ⟨fun x => absurd x (h q e), fun x => by omega⟩
  · rw [if_neg e]; exact ⟨fun _ => by omega, fun _ => rfl⟩
theorem txt_from {T : Nat → Nat} {d k : Nat} (h : Txt T d) (hk : k ≤ d) : Txt (fun q => T (k + q)) (d - k) := fun q => by
  show T (k + q) = 0 ↔ _
  rw [h (k + q)]; omega
/-- one symbol put before -/
theorem mk_step {S T S2 : Nat → Nat} {d k er n row v : Nat} (hT : Txt T d) (h0 : 0 < k) (hk : k ≤ d) (hn : n = d - k + 1) (hv : T (k - 1) = v) (hB : Bwt S (fun q => T (k + q)) (d - k) er)
    (hrow : row = 1 + num (fun j => upN S er v j < v) n + num (fun j => upN S er v j = v) er)
    (h2 : S2 = upN (va_cpy (upN S er v) (upN S er v) row (row + 1) (n - row)) row 0) : Bwt S2 (fun q => T (k - 1 + q)) (d - (k - 1)) row := by
  subst hv
  have e1 : (fun q => T (k - 1 + (q + 1))) = (fun q => T (k + q)) := by funext q; congr 1; omega
  have e2 : d - (k - 1) = d - k + 1 := by omega
  have hT' := txt_from hT (show k - 1 ≤ d by omega)
  rw [e2] at hT' ⊢
  subst hn
  refine Bwt_put (S := S) (S1 := upN S er (T (k - 1))) (er := er) hT' ?_ ?_ ?_ ?_
  · show Bwt S (fun q => T (k - 1 + (q + 1))) (d - k) er
    rw [e1]; exact hB
  · intro j; rfl
  · exact hrow
  · intro j hj
    rw [h2]
    by_cases h3 : j < row
    · rw [if_pos h3, upN_o (by omega), pk_cpy_out (by omega)]
    · rw [if_neg h3]
      by_cases h4 : j = row
      · rw [if_pos h4, h4, upN_s]
      · rw [if_neg h4, upN_o h4, pk_cpy_in (by omega) (by omega)]; congr 1; omega
theorem mk_0 {S T : Nat → Nat} {d : Nat} (hT : Txt T d) (h : S 0 = 0) : Bwt S (fun q => T (d + q)) (d - d) 0 := by
  have hT' := txt_from hT (Nat.le_refl d)
  rw [Nat.sub_self] at hT' ⊢
  exact Bwt_0 hT' h
theorem mk_end {S T : Nat → Nat} {d er : Nat} (h : Bwt S (fun q => T (0 + q)) (d - 0) er) : ∃ O R, Srt T d O R ∧ Img S T O d := by
  have e : (fun q => T (0 + q)) = T := by funext q; rw [Nat.zero_add]
  rw [e, Nat.sub_zero] at h
  obtain ⟨O, R, h1, h2, _⟩ := h
  exact ⟨O, R, h1, h2⟩
theorem mk_row {S : Nat → Nat} {c er n : Nat} (he : er < n) : 1 + num (fun j => upN S er c j < c) n + num (fun j => upN S er c j = c) er ≤ n := by
  have h1 := num_or (P := fun j => upN S er c j < c) (Q := fun j => upN S er c j = c) (m := n) (fun j _ x => by omega)
  have h2 := num_le (fun j => upN S er c j < c ∨ upN S er c j = c) n
  have h3 := num_lt (P := fun j => upN S er c j = c) he (upN_s S er c)
  omega
theorem slt_at {T : Nat → Nat} {a b k : Nat} (h : ∀ j, j < k → T (a + j) = T (b + j)) (hd : T (a + k) ≠ T (b + k)) : slt T a b ↔ T (a + k) < T (b + k) := by
  constructor
  · intro hs
    by_cases hlt : T (a + k) < T (b + k)
    · exact hlt
    · exfalso
      exact slt_as hs ⟨k, fun j hj => (h j hj).symm, by omega⟩
  · intro hlt; exact ⟨k, h, hlt⟩
/-- what the index holds: nothing, or a text with its order and image -/
def Held (S T O R : Nat → Nat) (m : Nat) : Prop := ∀ n, m = n + 1 → Txt T n ∧ Srt T n O R ∧ Img S T O n
/-- the way back, as it is gone -/
theorem held_back {S T O R F B : Nat → Nat} {n : Nat} (hT : Txt T n) (h : Srt T n O R) (hS : Img S T O n) (hL : Lnk S F B (n + 1)) {a : Nat} (ha : a < n + 1) : B (R a) = R (prv n a) := by
  rw [hL.2 _ (h.2.1 a ha).1]; exact h.back hT hS ha
/-- where the places are kept (ke: place + 1, 0 for none) -/
def Kept (T O R : Nat → Nat) (n st : Nat) (ah ke kr : Nat → Nat) (lo : Nat) : Prop :=
  (∀ a, lo ≤ a → a < n + 1 → ke (R a) = if a % st = 0 then a + 1 else 0) ∧ (∀ a, lo ≤ a → a < n + 1 → ah (R (prv n a)) = R a) ∧ (∀ a, lo ≤ a → a < n + 1 → a % st = 0 → kr (a / st) = R a)
theorem R_inj {T O R : Nat → Nat} {n a b : Nat} (h : Srt T n O R) (ha : a < n + 1) (hb : b < n + 1) (e : R a = R b) : a = b := by
  have h1 := (h.2.1 a ha).2
  rw [e, (h.2.1 b hb).2] at h1; exact h1.symm
theorem prv_inj {n a b : Nat} (ha : a < n + 1) (hb : b < n + 1) (e : prv n a = prv n b) : a = b := by
  have h1 := nxt_prv ha
  rw [e, nxt_prv hb] at h1; exact h1.symm
theorem kp_ke {T O R ke : Nat → Nat} {n st k v : Nat} (h : Srt T n O R) (hk : k < n + 1) (hv : v = if k % st = 0 then k + 1 else 0)
    (g : ∀ a, k + 1 ≤ a → a < n + 1 → ke (R a) = if a % st = 0 then a + 1 else 0) : ∀ a, k ≤ a → a < n + 1 → upN ke (R k) v (R a) = if a % st = 0 then a + 1 else 0 := by
  intro a h1 h2
  by_cases e : a = k
  · rw [e, upN_s, hv]
  · rw [upN_o (fun q => e (R_inj h h2 hk q))]; exact g a (by omega) h2
theorem kp_ah {T O R ah : Nat → Nat} {n k : Nat} (h : Srt T n O R) (hk : k < n + 1)
    (g : ∀ a, k + 1 ≤ a → a < n + 1 → ah (R (prv n a)) = R a) : ∀ a, k ≤ a → a < n + 1 → upN ah (R (prv n k)) (R k) (R (prv n a)) = R a := by
  intro a h1 h2
  by_cases e : a = k
  · rw [e, upN_s]
  · rw [upN_o (fun q => e (prv_inj h2 hk (R_inj h (prv_lt h2) (prv_lt hk) q)))]; exact g a (by omega) h2
theorem kp_kr {T O R kr : Nat → Nat} {n st k : Nat} (hst : 0 < st) (hk : k < n + 1) (hz : k % st = 0)
    (g : ∀ a, k + 1 ≤ a → a < n + 1 → a % st = 0 → kr (a / st) = R a) : ∀ a, k ≤ a → a < n + 1 → a % st = 0 → upN kr (k / st) (R k) (a / st) = R a := by
  intro a h1 h2 h3
  by_cases e : a = k
  · rw [e, upN_s]
  · have h4 : a / st ≠ k / st := fun q => e (by
      have h5 := Nat.div_add_mod a st
      have h6 := Nat.div_add_mod k st
      rw [q, h3] at h5; rw [hz] at h6; omega)
    rw [upN_o h4]; exact g a (by omega) h2 h3
theorem kp_krn {R kr : Nat → Nat} {n st k : Nat} (hz : ¬ k % st = 0)
    (g : ∀ a, k + 1 ≤ a → a < n + 1 → a % st = 0 → kr (a / st) = R a) : ∀ a, k ≤ a → a < n + 1 → a % st = 0 → kr (a / st) = R a := by
  intro a h1 h2 h3
  by_cases e : a = k
  · rw [e] at h3; exact absurd h3 hz
  · exact g a (by omega) h2 h3
/-- what rows lo .. hi - 1 of n are, when the letters from j on have been searched -/
def Bg (T W O : Nat → Nat) (n k j lo hi : Nat) : Prop := lo ≤ hi ∧ hi ≤ n ∧ ∀ r, r < n → ((lo ≤ r ∧ r < hi) ↔ occ T W k j (O r))
theorem Bg_0 (T W O : Nat → Nat) (n k : Nat) : Bg T W O n k k 0 n :=
  ⟨by omega, Nat.le_refl _, fun r hr => ⟨fun _ => occ_end T W k (O r), fun _ => ⟨by omega, hr⟩⟩⟩
theorem Bg_step {S T W O R : Nat → Nat} {n k j lo hi : Nat} (hH : Held S T O R n) (hj : j < k) (hw : W j ≠ 0) (h : Bg T W O n k (j + 1) lo hi) :
    Bg T W O n k j (num (fun x => S x < W j) n + num (fun x => S x = W j) lo) (num (fun x => S x < W j) n + num (fun x => S x = W j) hi) := by
  cases n with
  | zero =>
    have e1 : hi = 0 := by have := h.2.1; omega
    have e2 : lo = 0 := by have := h.1; omega
    subst e1 e2
    exact ⟨Nat.le_refl _, by rw [num_0, num_0]; exact Nat.le_refl _, fun r hr => by omega⟩
  | succ n =>
    obtain ⟨hT, hs, hS⟩ := hH n rfl
    exact Bs_step hT hs hS hj hw h
theorem Bg_num {S T W O R : Nat → Nat} {n k lo hi : Nat} (hH : Held S T O R n) (h : Bg T W O n k 0 lo hi) : hi - lo = num (occ T W k 0) n := by
  cases n with
  | zero => have := h.2.1; rw [num_0]; omega
  | succ n => obtain ⟨hT, hs, hS⟩ := hH n rfl; exact Bs_num hs h
theorem sv_step {W D Dq : Nat → Nat} {c j dg x : Nat} (h1 : 1 ≤ j) (hd : dg = D (j - 1)) (hx : x = neq (W (j - 1)) c) (hj : Dq j = D j) (hp : Dq (j - 1) = svr W D c (j - 1)) :
    min (dg + x) (min (Dq j) (Dq (j - 1)) + 1) = svr W D c j := by
  obtain ⟨i, rfl⟩ : ∃ i, j = i + 1 := ⟨j - 1, by omega⟩
  rw [Nat.add_sub_cancel] at hd hx hp ⊢
  rw [hd, hx, hj, hp]; rfl
/-- w is a pattern of k letters -/
def Pat (w k : Nat) : Prop := 0 < k ∧ k ≤ 8 ∧ (∀ i, i < k → 97 ≤ by8 w i ∧ by8 w i ≤ 122) ∧ (∀ i, k ≤ i → i < 8 → by8 w i = 0)
/-- the first b bytes read: k letters, then zeros -/
def PatP (w b k : Nat) (W : Nat → Nat) : Prop := (∀ i, i < k → (97 ≤ by8 w i ∧ by8 w i ≤ 122) ∧ W i = by8 w i - 95) ∧ (∀ i, k ≤ i → i < b → by8 w i = 0)
theorem PatP_0 (w : Nat) (W : Nat → Nat) : PatP w 0 0 W := ⟨fun i h => by omega, fun i _ h => by omega⟩
theorem PatP_z {w b k : Nat} {W : Nat → Nat} (h : PatP w b k W) (hz : by8 w b = 0) : PatP w (b + 1) k W :=
  ⟨h.1, fun i h1 h2 => by by_cases e : i = b; · rw [e]; exact hz
                          · exact h.2 i h1 (by omega)⟩
theorem sno_let {v : Nat} (h : isS v) (h2 : ¬ sno v < 2) : 97 ≤ v ∧ v ≤ 122 ∧ sno v = v - 95 := by
  unfold isS at h
  unfold sno at h2 ⊢
  by_cases e1 : v = 36
  · rw [if_pos e1] at h2; omega
  · by_cases e2 : v = 124
    · rw [if_neg e1, if_pos e2] at h2; omega
    · rw [if_neg e1, if_neg e2]; omega
theorem PatP_y {w b k : Nat} {W : Nat → Nat} (h : PatP w b k W) (hs : isS (by8 w b)) (h2 : ¬ sno (by8 w b) < 2) (hk : k = b) : PatP w (b + 1) (k + 1) (upN W k (sno (by8 w b))) := by
  subst hk
  have h3 := sno_let hs h2
  refine ⟨fun i hi => ?_, fun i h1 h2 => by omega⟩
  by_cases e : i = k
  · rw [e, upN_s]; exact ⟨⟨h3.1, h3.2.1⟩, h3.2.2⟩
  · rw [upN_o e]; exact h.1 i (by omega)
theorem Pat_no {w b k : Nat} {W : Nat → Nat} (h : PatP w b k W) (hb : b < 8) (hn : by8 w b ≠ 0) (hx : ¬ (97 ≤ by8 w b ∧ by8 w b ≤ 122) ∨ (k ≠ b ∧ k ≤ b)) : ∀ x, ¬ Pat w x := by
  intro x hp
  by_cases e : b < x
  · rcases hx with hx | hx
    · exact hx (hp.2.2.1 b e)
    · have h1 := h.2 k (Nat.le_refl k) (by omega)
      have h2 := hp.2.2.1 k (by omega)
      omega
  · exact hn (hp.2.2.2 b (by omega) hb)
theorem Pat_end {w k : Nat} {W : Nat → Nat} (h : PatP w 8 k W) (hk : k ≤ 8) : (0 < k → Pat w k) ∧ (k = 0 → ∀ x, ¬ Pat w x) :=
  ⟨fun h0 => ⟨h0, hk, fun i hi => (h.1 i hi).1, h.2⟩, fun h0 x hp => by
    have h1 := h.2 0 (by omega) (by omega)
    have h2 := hp.2.2.1 0 hp.1
    omega⟩
theorem Pat_uniq {w a b : Nat} (ha : Pat w a) (hb : Pat w b) : a = b := by
  by_cases h1 : a < b
  · have h2 := ha.2.2.2 a (Nat.le_refl a) (by have := hb.2.1; omega)
    have h3 := hb.2.2.1 a h1
    omega
  · by_cases h4 : b < a
    · have h2 := hb.2.2.2 b (Nat.le_refl b) (by have := ha.2.1; omega)
      have h3 := ha.2.2.1 b h4
      omega
    · omega
theorem sno_nl {v : Nat} (h : sno v < 2) : ¬ (97 ≤ v ∧ v ≤ 122) := by
  intro q
  unfold sno at h
  rw [if_neg (by omega), if_neg (by omega)] at h; omega
/-- going back to a kept place -/
theorem kp_mod {a s st : Nat} (hst : 0 < st) (hs : s ≤ a % st) (h : ¬ (a - s) % st = 0) : s + 1 ≤ a % st := by
  by_cases e : s = a % st
  · exfalso; apply h
    have h1 := Nat.div_add_mod a st
    rw [e, show a - a % st = st * (a / st) by omega]; exact Nat.mul_mod_right st (a / st)
  · omega
theorem kp_lo {a st : Nat} : (a - a % st) % st = 0 ∧ (0 < st → (a - a % st) / st = a / st) := by
  have h1 := Nat.div_add_mod a st
  have e : a - a % st = st * (a / st) := by omega
  rw [e]
  exact ⟨Nat.mul_mod_right st (a / st), fun h => Nat.mul_div_cancel_left _ h⟩
/-- the symbol before place a + 1, read at its row -/
theorem held_sym {S T O R : Nat → Nat} {n a : Nat} (h : Srt T n O R) (hS : Img S T O n) (ha : a + 1 < n + 1) : S (R (a + 1)) = T a := by
  rw [hS _ (h.2.1 _ ha).1, (h.2.1 _ ha).2, prv_s]
/-- the starts of the sequences found so far -/
theorem st_bar {T G : Nat → Nat} {n pl : Nat} (h1 : 1 ≤ pl) (h2 : pl < n + 1) (hb : T (pl - 1) = 1) (h : ∀ s, s < nb T (pl - 1) + 1 → G s = gs T n s) :
    nb T pl = nb T (pl - 1) + 1 ∧ ∀ s, s < nb T (pl - 1) + 1 + 1 → upN G (nb T (pl - 1) + 1) pl s = gs T n s := by
  obtain ⟨q, rfl⟩ : ∃ q, pl = q + 1 := ⟨pl - 1, by omega⟩
  rw [Nat.add_sub_cancel] at hb h ⊢
  refine ⟨nb_y hb, fun s hs => ?_⟩
  by_cases e : s = nb T q + 1
  · rw [e, upN_s, gs_bar hb h2]
  · rw [upN_o e]; exact h s (by omega)
theorem st_no {T : Nat → Nat} {pl : Nat} (h1 : 1 ≤ pl) (hb : ¬ T (pl - 1) = 1) : nb T pl = nb T (pl - 1) := by
  obtain ⟨q, rfl⟩ : ∃ q, pl = q + 1 := ⟨pl - 1, by omega⟩
  rw [Nat.add_sub_cancel] at hb ⊢; exact nb_n hb
theorem st_end {T G : Nat → Nat} {n : Nat} (h : ∀ s, s < nb T n + 1 → G s = gs T n s) : ∀ s, s < nb T n + 2 → upN G (nb T n + 1) (n + 1) s = gs T n s := by
  intro s hs
  by_cases e : s = nb T n + 1
  · rw [e, upN_s, gs_end T (by omega)]
  · rw [upN_o e]; exact h s (by omega)
theorem kp_y {T O R ah ke kr : Nat → Nat} {n st k rw' : Nat} (h : Srt T n O R) (hst : 0 < st) (h0 : 0 < k) (hk : k ≤ n + 1) (hz : (k - 1) % st = 0) (hr : rw' = R (k - 1)) (g : Kept T O R n st ah ke kr k) :
    Kept T O R n st (upN ah (R (prv n (k - 1))) rw') (upN ke rw' (k - 1 + 1)) (upN kr ((k - 1) / st) rw') (k - 1) := by
  have e9 : k - 1 + 1 = k := by omega
  subst hr
  exact ⟨kp_ke h (by omega) (by rw [if_pos hz]) (by rw [e9]; exact g.1), kp_ah h (by omega) (by rw [e9]; exact g.2.1), kp_kr (T := T) (O := O) hst (by omega) hz (by rw [e9]; exact g.2.2)⟩
theorem kp_n {T O R ah ke kr : Nat → Nat} {n st k rw' : Nat} (h : Srt T n O R) (h0 : 0 < k) (hk : k ≤ n + 1) (hz : ¬ (k - 1) % st = 0) (hr : rw' = R (k - 1)) (g : Kept T O R n st ah ke kr k) :
    Kept T O R n st (upN ah (R (prv n (k - 1))) rw') (upN ke rw' 0) kr (k - 1) := by
  have e9 : k - 1 + 1 = k := by omega
  subst hr
  exact ⟨kp_ke h (by omega) (by rw [if_neg hz]) (by rw [e9]; exact g.1), kp_ah h (by omega) (by rw [e9]; exact g.2.1), kp_krn hz (by rw [e9]; exact g.2.2)⟩
theorem kp_if {b : Prop} [Decidable b] {x v : Nat} (h : x = if b then v + 1 else 0) (h0 : ¬ x = 0) : x = v + 1 := by
  split at h <;> omega
theorem prv_p {n k : Nat} (h : 0 < k) : prv n k = k - 1 := by unfold prv; rw [if_neg (by omega)]
