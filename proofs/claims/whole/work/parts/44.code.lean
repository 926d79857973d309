/-! ===== coding: differences, codes, streams of bits ===== -/
def wdL : List Nat := [0, 4, 6, 8, 10, 12, 16, 20, 24, 32]
def wd (c : Nat) : Nat := wdL.getD c 32
theorem wd_tab : ∀ c, c < 10 → qk_wid.getD c 0 = nI (wd c) := by decide +kernel
theorem wd_le (c : Nat) : wd c ≤ 32 := by
  by_cases h : c < 10
  · exact (by decide : ∀ c, c < 10 → wd c ≤ 32) c h
  · unfold wd
    rw [List.getD_eq_getElem?_getD, List.getElem?_eq_none (by show 10 ≤ c; omega)]
    exact Nat.le_refl _
def fitB (d : Int32) (w : Nat) : Bool := if w = 0 then decide (d = 0) else decide (-(2 ^ (w - 1) : Int) ≤ d.toInt ∧ d.toInt < (2 ^ (w - 1) : Int))
theorem fitB_32 (d : Int32) : fitB d 32 = true := by
  have h1 := Int32.le_toInt d
  have h2 := Int32.toInt_lt d
  unfold fitB
  rw [if_neg (by decide), decide_eq_true]
  exact ⟨by simpa using h1, by simpa using h2⟩
theorem fitI_gen {d : Int32} {k : Nat} {s : Int32} (hs : (s.toBitVec.smod 32).toNat = k) (hk : k ≤ 31) : d >>> s = d >>> ((31 : Int32) &&& 31) ↔ -(2 ^ k : Int) ≤ d.toInt ∧ d.toInt < (2 ^ k : Int) := by
  have h1 := Int32.le_toInt d
  have h2 := Int32.toInt_lt d
  have e31 := pk_shr d ((31 : Int32) &&& 31) 31 (by decide)
  have ek := pk_shr d s k hs
  rw [← Int32.toInt_inj, e31, ek, Int.shiftRight_eq_div_pow, Int.shiftRight_eq_div_pow]
  have hp : (0 : Int) < ((2 ^ k : Nat) : Int) := by exact_mod_cast Nat.two_pow_pos k
  have hcast : ((2 : Int) ^ k) = ((2 ^ k : Nat) : Int) := by simp
  rw [hcast]
  generalize hP : ((2 ^ k : Nat) : Int) = P at *
  have e31' : d.toInt / ((2 ^ 31 : Nat) : Int) = if d.toInt < 0 then -1 else 0 := by
    split <;> omega
  rw [e31']
  have hdm := Int.emod_add_mul_ediv d.toInt P
  have hm0 := Int.emod_nonneg d.toInt (show P ≠ 0 by omega)
  have hm1 := Int.emod_lt_of_pos d.toInt hp
  constructor
  · intro h
    rw [h] at hdm
    split at hdm
    · constructor <;> omega
    · constructor <;> omega
  · rintro ⟨ha, hb⟩
    split
    · apply Int.le_antisymm
      · have : d.toInt / P < 0 := Int.ediv_neg_of_neg_of_pos (by assumption) hp
        omega
      · exact (Int.le_ediv_iff_mul_le hp).mpr (by omega)
    · exact Int.ediv_eq_zero_of_lt (by omega) hb
theorem fitsIn_iff {d : Int32} {c : Nat} (hc : c < 10) (h0 : ¬ wd c = 0) : qi_shr d (nI (wd c) - 1) = qi_shr d 31 ↔ fitB d (wd c) = true := by
  unfold fitB
  rw [if_neg h0, decide_eq_true_iff]
  have hs : ∀ c, c < 10 → ¬ wd c = 0 → (((nI (wd c) - 1) &&& 31).toBitVec.smod 32).toNat = wd c - 1 := by decide +kernel
  exact fitI_gen (hs c hc h0) (by have := wd_le c; omega)
def lcF (d : Int32) : Nat → Nat → Nat
  | 0, c => c
  | n + 1, c => if fitB d (wd c) then c else lcF d n (c + 1)
def lc (c : Nat) (d : Int32) : Nat := lcF d (9 - c) c
theorem lcF_le (d : Int32) : ∀ n c, lcF d n c ≤ c + n
  | 0, c => Nat.le_refl _
  | n + 1, c => by
    unfold lcF
    split
    · omega
    · have := lcF_le d n (c + 1); omega
theorem lc_le {c : Nat} (h : c ≤ 9) (d : Int32) : lc c d ≤ 9 := by
  have := lcF_le d (9 - c) c
  unfold lc
  omega
theorem lc_9 (d : Int32) : lc 9 d = 9 := rfl
theorem lc_yes {c : Nat} {d : Int32} (h : fitB d (wd c) = true) : lc c d = c := by
  unfold lc
  cases 9 - c with
  | zero => rfl
  | succ n => rw [lcF, if_pos h]
theorem lc_no {c : Nat} {d : Int32} (hc : c < 9) (h : ¬ fitB d (wd c) = true) : lc c d = lc (c + 1) d := by
  unfold lc
  rw [show 9 - c = (9 - (c + 1)) + 1 by omega, lcF, if_neg h]
def dif (S : Nat → Int32) (fi k : Nat) : Int32 := if k = 1 then S (fi + 1) - S fi else S (fi + k) - S (fi + k - 1) - (S (fi + k - 1) - S (fi + k - 2))
def cod (S : Nat → Int32) (fi k : Nat) : Nat → Nat
  | 0 => 0
  | m + 1 => lc (cod S fi k m) (dif S fi (k + m))
theorem cod_le (S : Nat → Int32) (fi k m : Nat) : cod S fi k m ≤ 9 := by
  induction m with
  | zero => exact Nat.zero_le _
  | succ m ih => exact lc_le ih _
abbrev Strm : Type := Nat × (Nat → Bool)
def app (st : Strm) (v w : Nat) : Strm := (st.1 + w, fun p => if st.1 ≤ p ∧ p < st.1 + w then v.testBit (st.1 + w - 1 - p) else st.2 p)
def eD (D : Nat → Int32) (w : Nat) (st : Strm) : Nat → Strm
  | 0 => st
  | m + 1 => app (eD D w st m) (vN (D m)) w
def eB (S : Nat → Int32) (fi : Nat) (st : Strm) (k m : Nat) : Strm := eD (fun i => dif S fi (k + i)) (wd (cod S fi k m)) (app st (cod S fi k m) 4) m
def eN (S : Nat → Int32) (fi : Nat) : Nat → Strm
  | 0 => (160, fun _ => false)
  | b + 1 => eB S fi (eN S fi b) (15 * b + 1) 15
def eF (S : Nat → Int32) (fi n : Nat) : Strm := if (n - 1) % 15 = 0 then eN S fi ((n - 1) / 15) else eB S fi (eN S fi ((n - 1) / 15)) (15 * ((n - 1) / 15) + 1) ((n - 1) % 15)
def szP (S : Nat → Int32) (fi n : Nat) : Nat := 24 + ((eF S fi n).1 - 160 + 7) / 8
theorem eD_1 (D : Nat → Int32) (w : Nat) (st : Strm) (m : Nat) : (eD D w st m).1 = st.1 + m * w := by
  induction m with
  | zero => simp [eD]
  | succ m ih => rw [eD, app, ih, Nat.succ_mul]; simp only; omega
theorem eB_1 (S : Nat → Int32) (fi : Nat) (st : Strm) (k m : Nat) : (eB S fi st k m).1 = st.1 + 4 + m * wd (cod S fi k m) := by
  unfold eB
  rw [eD_1]
  rfl
theorem eN_ge (S : Nat → Int32) (fi b : Nat) : 160 ≤ (eN S fi b).1 := by
  induction b with
  | zero => exact Nat.le_refl _
  | succ b ih => rw [eN, eB_1]; omega
theorem eF_1 (S : Nat → Int32) (fi : Nat) {b i : Nat} (hi : i < 15) : (eF S fi (15 * b + i + 1 + 1)).1 = (eN S fi b).1 + 4 + (i + 1) * wd (cod S fi (15 * b + 1) (i + 1)) := by
  unfold eF
  by_cases h : i = 14
  · subst h
    rw [if_pos (by omega), show (15 * b + 14 + 1 + 1 - 1) / 15 = b + 1 by omega, eN, eB_1]
  · rw [if_neg (by omega), show (15 * b + i + 1 + 1 - 1) / 15 = b by omega, show (15 * b + i + 1 + 1 - 1) % 15 = i + 1 by omega, eB_1]
/-- no bits beyond the end -/
def sOK (st : Strm) : Prop := ∀ p, st.1 ≤ p → st.2 p = false
theorem app_ok {st : Strm} (h : sOK st) (v w : Nat) : sOK (app st v w) := by
  intro p hp
  have hp' : st.1 + w ≤ p := hp
  show (if st.1 ≤ p ∧ p < st.1 + w then v.testBit (st.1 + w - 1 - p) else st.2 p) = false
  rw [if_neg (by omega)]
  exact h p (by omega)
theorem eD_ok {D : Nat → Int32} {w : Nat} {st : Strm} (h : sOK st) (m : Nat) : sOK (eD D w st m) := by
  induction m with
  | zero => exact h
  | succ m ih => exact app_ok ih _ _
theorem eB_ok {S : Nat → Int32} {fi : Nat} {st : Strm} (h : sOK st) (k m : Nat) : sOK (eB S fi st k m) := eD_ok (app_ok h _ _) m
theorem eN_ok (S : Nat → Int32) (fi b : Nat) : sOK (eN S fi b) := by
  induction b with
  | zero => exact fun _ _ => rfl
  | succ b ih => exact eB_ok ih _ _
theorem eF_ok (S : Nat → Int32) (fi n : Nat) : sOK (eF S fi n) := by
  unfold eF
  split
  · exact eN_ok _ _ _
  · exact eB_ok (eN_ok _ _ _) _ _
theorem eD_congr {D D' : Nat → Int32} {w : Nat} {st : Strm} {m : Nat} (h : ∀ i, i < m → D i = D' i) : eD D w st m = eD D' w st m := by
  induction m with
  | zero => rfl
  | succ m ih => rw [eD, eD, ih (fun i hi => h i (by omega)), h m (by omega)]
theorem dif_congr {S S' : Nat → Int32} {fi n k : Nat} (h : ∀ i, fi ≤ i → i < fi + n → S i = S' i) (h1 : 1 ≤ k) (hk : k < n) : dif S fi k = dif S' fi k := by
  unfold dif
  split
  · rw [h _ (by omega) (by omega), h _ (by omega) (by omega)]
  · rw [h _ (by omega) (by omega), h _ (by omega) (by omega), h (fi + k - 2) (by omega) (by omega)]
theorem cod_congr {S S' : Nat → Int32} {fi n k m : Nat} (h : ∀ i, fi ≤ i → i < fi + n → S i = S' i) (h1 : 1 ≤ k) (hk : k + m ≤ n) : cod S fi k m = cod S' fi k m := by
  induction m with
  | zero => rfl
  | succ m ih => rw [cod, cod, ih (by omega), dif_congr h (by omega) (by omega)]
theorem eB_congr {S S' : Nat → Int32} {fi n k m : Nat} {st : Strm} (h : ∀ i, fi ≤ i → i < fi + n → S i = S' i) (h1 : 1 ≤ k) (hk : k + m ≤ n) : eB S fi st k m = eB S' fi st k m := by
  unfold eB
  rw [cod_congr h h1 hk]
  exact eD_congr (fun i hi => dif_congr h (by omega) (by omega))
theorem eN_congr {S S' : Nat → Int32} {fi n b : Nat} (h : ∀ i, fi ≤ i → i < fi + n → S i = S' i) (hb : 15 * b + 1 ≤ n) : eN S fi b = eN S' fi b := by
  induction b with
  | zero => rfl
  | succ b ih => rw [eN, eN, ih (by omega), eB_congr h (by omega) (by omega)]
theorem eF_congr {S S' : Nat → Int32} {fi n : Nat} (h : ∀ i, fi ≤ i → i < fi + n → S i = S' i) (hn : 1 ≤ n) : eF S fi n = eF S' fi n := by
  unfold eF
  split
  · exact eN_congr h (by omega)
  · rw [eN_congr h (by omega)]
    exact eB_congr h (by omega) (by omega)
theorem szP_congr {S S' : Nat → Int32} {fi n : Nat} (h : ∀ i, fi ≤ i → i < fi + n → S i = S' i) (hn : 1 ≤ n) : szP S fi n = szP S' fi n := by
  unfold szP
  rw [eF_congr h hn]
/-- what is read out of a row where something was put -/
theorem getN_bits {r : Nat → Nat} {p n v : Nat} (h : ∀ i, i < n → rbit r (p + i) = v.testBit (n - 1 - i)) : getN r p n = v % 2 ^ n := by
  apply Nat.eq_of_testBit_eq
  intro j
  rw [Nat.testBit_mod_two_pow]
  have key : ∀ m, m ≤ n → ∀ j, (getN r p m).testBit j = (decide (j < m) && rbit r (p + m - 1 - j)) := by
    intro m
    induction m with
    | zero => intro _ j; simp [getN]
    | succ m ih =>
      intro hm j
      rw [getN]
      cases j with
      | zero =>
        rw [Nat.testBit_zero]
        have hx : rbit r (p + (m + 1) - 1 - 0) = rbit r (p + m) := congrArg (rbit r) (by omega)
        rw [hx]
        cases rbit r (p + m) <;> simp [Nat.add_mod]
      | succ j =>
        rw [Nat.testBit_succ, show (2 * getN r p m + (rbit r (p + m)).toNat) / 2 = getN r p m by have := Bool.toNat_le (rbit r (p + m)); omega, ih (by omega) j]
        congr 1
        · exact decide_eq_decide.mpr (by omega)
        · exact congrArg (rbit r) (by omega)
  rw [key n (Nat.le_refl _) j]
  by_cases hj : j < n
  · rw [decide_eq_true hj, Bool.true_and, Bool.true_and, show p + n - 1 - j = p + (n - 1 - j) by omega, h _ (by omega)]
    congr 1
    omega
  · rw [decide_eq_false hj]; rfl
theorem getN_put {r : Nat → Nat} {a n v : Nat} : getN (putR r a n v) (8 * a) (8 * n) = v % 2 ^ (8 * n) := by
  apply getN_bits
  intro i hi
  rw [rbit_putR, if_pos (by omega)]
  congr 1
  omega
theorem getN_put_ne {r : Nat → Nat} {a n v p m : Nat} (h : p + m ≤ 8 * a ∨ 8 * (a + n) ≤ p) : getN (putR r a n v) p m = getN r p m :=
  getN_congr (fun q h1 h2 => by rw [rbit_putR, if_neg (by omega)])
theorem getN_inj {r r' : Nat → Nat} {p n : Nat} (h : getN r p n = getN r' p n) : ∀ i, i < n → rbit r (p + i) = rbit r' (p + i) := by
  induction n with
  | zero => intro i hi; omega
  | succ n ih =>
    intro i hi
    rw [getN, getN] at h
    have e : getN r p n = getN r' p n ∧ rbit r (p + n) = rbit r' (p + n) := by
      cases h1 : rbit r (p + n) <;> cases h2 : rbit r' (p + n) <;> simp [h1, h2] at h ⊢ <;> omega
    by_cases hin : i = n
    · rw [hin]; exact e.2
    · exact ih e.1 i (by omega)
