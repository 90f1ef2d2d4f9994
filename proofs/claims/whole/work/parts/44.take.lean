theorem XSt_mk {T O R S F B Ah Ke Kr Sa : Nat → Nat} {n sp sq : Nat} (hL : Lnk S F B (n + 1)) (hT : Txt T n) (hS : Srt T n O R) (hI : Img S T O n) (hK : Kept T O R n sp Ah Ke Kr 0) (hq : sq = nb T n + 1) (hg : ∀ x, x < nb T n + 2 → Sa x = gs T n x) : XSt T O R (n + 1) S F B sp Ah Ke Kr Sa sq := by
  refine ⟨hL, fun e => by omega, fun nn e => ?_⟩
  obtain rfl : n = nn := by omega
  exact ⟨hT, hS, hI, hK, hq, hg⟩
theorem bk_congr {S S' : Nat → Nat} {m k : Nat} (h : ∀ j, j < m → S j = S' j) (hk : k < m) : bk S m k = bk S' m k := by
  unfold bk
  rw [h k hk, num_congr (P := fun j => S j < S' k) (Q := fun j => S' j < S' k) m (fun j hj => by rw [h j hj]), num_congr (P := fun j => S j = S' k) (Q := fun j => S' j = S' k) k (fun j hj => by rw [h j (by omega)])]
theorem gob_congr {S S' : Nat → Nat} {m : Nat} (h : ∀ j, j < m → S j = S' j) (hm : 0 < m) : ∀ i, gob S m i = gob S' m i
  | 0 => rfl
  | i + 1 => by
    show bk S m (gob S m i) = bk S' m (gob S' m i)
    rw [bk_congr h (gob_lt hm i), gob_congr h hm i]
theorem txb_congr {S S' : Nat → Nat} {m : Nat} (h : ∀ j, j < m → S j = S' j) (hm : 0 < m) : txb S m = txb S' m := by
  funext q
  unfold txb
  rw [h _ (gob_lt hm _), gob_congr h hm]
theorem Ac_congr {S S' : Nat → Nat} {m : Nat} (h : ∀ j, j < m → S j = S' j) : Ac S m ↔ Ac S' m := by
  cases m with
  | zero => exact ⟨fun a => absurd a (Ac_0 S), fun a => absurd a (Ac_0 S')⟩
  | succ n =>
    unfold Ac
    rw [num_congr (P := fun j => S j = 0) (Q := fun j => S' j = 0) (n + 1) (fun j hj => by rw [h j hj])]
    have hg := gob_congr h (show 0 < n + 1 by omega)
    constructor
    · intro a
      refine ⟨a.1, fun i hi => ?_⟩
      rw [← hg, ← h _ (gob_lt (by omega) i)]; exact a.2 i hi
    · intro a
      refine ⟨a.1, fun i hi => ?_⟩
      rw [h _ (gob_lt (by omega) i), hg]; exact a.2 i hi
/-- what an accepted draft gives -/
theorem Ac_take {S D : Nat → Nat} {d : Nat} (h : ∀ j, j < d → S j = D j) (ha : Ac S d) : Ac D d ∧ ∃ n O R, d = n + 1 ∧ Txt (txb D d) n ∧ Srt (txb D d) n O R ∧ Img S (txb D d) O n := by
  have hd := (Ac_congr h).mp ha
  cases d with
  | zero => exact absurd ha (Ac_0 S)
  | succ n =>
    obtain ⟨_, O, R, hs, hi⟩ := Ac_srt ha
    rw [txb_congr h (by omega)] at hs hi
    exact ⟨hd, n, O, R, rfl, txb_txt hd.2, hs, hi⟩
theorem XSt_of {T O R S F B Ah Ke Kr Sa : Nat → Nat} {d n sp sq : Nat} (e : d = n + 1) (hL : Lnk S F B d) (hT : Txt T n) (hS : Srt T n O R) (hI : Img S T O n) (hK : Kept T O R n sp Ah Ke Kr 0) (hq : sq = nb T n + 1) (hg : ∀ x, x < nb T n + 2 → Sa x = gs T n x) : XSt T O R d S F B sp Ah Ke Kr Sa sq := by
  subst e; exact XSt_mk hL hT hS hI hK hq hg
