/-! ===== the reference: its object, widths, differences, sizes ===== -/
/-- the array in field k of the reference -/
def mA (k : Nat) : Nat := 25 + 16 * k
def moL (s : Nat → Int32) (l : Nat → Int64) : List Value := [.int (s 0), .ref (mA 1), .ref (mA 2), .ref (mA 3), .ref (mA 4), .int (s 5), .ref (mA 6), .ref (mA 7), .ref (mA 8), .ref (mA 9), .ref (mA 10), .int (s 11), .ref (mA 12), .int (s 13), .ref (mA 14), .ref (mA 15), .ref (mA 16), .int (s 17), .ref (mA 18), .ref (mA 19), .ref (mA 20), .int (s 21), .int (s 22), .int (s 23), .int (s 24), .int (s 25), .int (s 26), .int (s 27), .int (s 28), .long (l 29), .long (l 30), .ref (mA 31), .int (s 32), .int (s 33)]
/-- the reference's object: its ints and longs by the numbers of their fields -/
def moO (w : qk_W) (s : Nat → Int32) (l : Nat → Int64) : Prop := wo w 25 11 (moL s l)
theorem moO_f {w w' : qk_W} {s : Nat → Int32} {l : Nat → Int64} (h : moO w s l) (e : w' 25 = w 25) : moO w' s l := wo_f h e
section Mo1
variable {d : Nat} {w : qk_W} {nc ns : Nat} {Q : Option Value ⊕ Nat → qk_W → Nat → Nat → Prop} {s : Nat → Int32} {l : Nat → Int64}
theorem c_widthOf {c : Nat} (hc : c ≤ 9) (hq : Q (.inl (some (.int (nI (wd c))))) w nc ns) : Ev d m_Mo_widthOf 0 [some (.int (nI c))] [] w nc ns Q := by
  refine t_Mo_widthOf_0 (fun g => ?_) (fun g => t_Mo_widthOf_4 ?_)
  · have h0 : c ≠ 0 := fun e => g (by rw [e]; rfl)
    refine t_Mo_widthOf_8 (fun g => ?_) (fun g => t_Mo_widthOf_14 ?_)
    · have h6 := (nI_leI (a := 6) (by omega) (by omega)).mp g
      refine t_Mo_widthOf_22 (fun g => t_Mo_widthOf_37 ?_) (fun g => t_Mo_widthOf_28 ?_)
      · have h9 := (nI_leI (a := 9) (by omega) (by omega)).mp g
        rw [show c = 9 by omega] at hq
        exact hq
      · have h9 : c < 9 := Nat.lt_of_not_le (fun e => g (nI_le e (by omega)))
        rw [show (4 : Int32) * nI c - 8 = nI (wd c) from (by decide +kernel : ∀ c, c < 9 → 6 ≤ c → (4 : Int32) * nI c - 8 = nI (wd c)) c h9 h6]
        exact hq
    · have h6 : c < 6 := Nat.lt_of_not_le (fun e => g (nI_le e (by omega)))
      rw [show (2 : Int32) + 2 * nI c = nI (wd c) from (by decide +kernel : ∀ c, c < 6 → c ≠ 0 → (2 : Int32) + 2 * nI c = nI (wd c)) c h6 h0]
      exact hq
  · rw [show c = 0 from (nI_eq (b := 0) (by omega) (by omega)).mp g] at hq
    exact hq
theorem c_mfits {x : Int32} {c : Nat} (hc : c ≤ 9) (hq : Q (.inl (some (.int (b2i (fitB x (wd c)))))) w nc ns) : Ev d m_Mo_fits 0 [some (.int x), some (.int (nI (wd c)))] [] w nc ns Q := by
  have hw := wd_le c
  refine t_Mo_fits_0 (fun g => t_Mo_fits_37 ?_) (fun g => ?_)
  · rw [show wd c = 32 from (nI_eq (b := 32) (by omega) (by omega)).mp g, fitB_32] at hq
    exact hq
  have h32 : wd c ≠ 32 := fun e => g (by rw [e]; rfl)
  have tab := (by decide +kernel : ∀ c, c ≤ 9 → wd c ≠ 32 → wd c ≠ 0 → (qi_shl 1 (nI (wd c) - 1)).toInt = 2 ^ (wd c - 1) ∧ (-(qi_shl 1 (nI (wd c) - 1))).toInt = -(2 ^ (wd c - 1))) c hc h32
  refine t_Mo_fits_6 (fun g => ?_) (fun g => ?_)
  · have h0 : wd c ≠ 0 := fun e => g (by rw [e]; rfl)
    obtain ⟨t1, t2⟩ := tab h0
    unfold fitB at hq
    rw [if_neg h0] at hq
    refine t_Mo_fits_14 (fun g => absurd ((nI_leI (b := 0) (by omega) (by omega)).mp g) (by omega)) (fun _ => ?_)
    refine t_Mo_fits_18 (fun g => t_Mo_fits_41 ?_) (fun g => ?_)
    · rw [Int32.lt_iff_toInt_lt, t2] at g
      rwa [b2i_f (by simp; omega)] at hq
    · rw [Int32.lt_iff_toInt_lt, t2] at g
      refine t_Mo_fits_28 (fun g2 => t_Mo_fits_41 ?_) (fun g2 => t_Mo_fits_37 ?_)
      · rw [Int32.le_iff_toInt_le, t1] at g2
        rwa [b2i_f (by simp; omega)] at hq
      · rw [Int32.le_iff_toInt_le, t1] at g2
        rwa [b2i_t (by simp; omega)] at hq
  · have h0 : wd c = 0 := (nI_eq (b := 0) (by omega) (by omega)).mp g
    unfold fitB at hq
    rw [if_pos h0] at hq
    refine t_Mo_fits_10 (fun g2 => t_Mo_fits_37 ?_) (fun g2 => t_Mo_fits_14 (fun _ => t_Mo_fits_41 ?_) (fun g3 => absurd (by rw [h0]; decide) g3))
    · rwa [b2i_t (by simp [g2])] at hq
    · rwa [b2i_f (by simp [g2])] at hq
/-- the samples of channel c, from fi on, n of them, are S -/
def smR (w : qk_W) (c : Nat) (S : Nat → Int32) (fi n : Nat) : Prop := ∃ f, wi w (mA 1) 131072 f ∧ ∀ i, fi ≤ i → i < fi + n → f (32768 * c + i) = S i
theorem ix_nI {c i : Nat} : nI c * 32768 + nI i = nI (32768 * c + i) := by
  rw [show (32768 : Int32) = nI 32768 from rfl, pk_mul, nI_add]
  exact congrArg nI (by omega)
theorem c_mdiff {c fi k n : Nat} {S : Nat → Int32} (ho : moO w s l) (h : smR w c S fi n) (hc : c < 4) (h1 : 1 ≤ k) (hk : k < n) (hn : fi + n ≤ 32768) (hq : Q (.inl (some (.int (dif S fi k)))) w nc ns) :
    Ev d m_Mo_difference 0 [some (.ref 25), some (.int (nI c)), some (.int (nI fi)), some (.int (nI k)), none, none] [] w nc ns Q := by
  obtain ⟨f, hf, hS⟩ := h
  have e1 : nI c * 32768 + nI fi + nI k = nI (32768 * c + fi + k) := by rw [ix_nI, nI_add]
  have e2 : nI (32768 * c + fi + k) - 1 = nI (32768 * c + fi + k - 1) := pk_sub (b := 1) (by omega)
  have s1 : f (32768 * c + fi + k) = S (fi + k) := by rw [Nat.add_assoc]; exact hS _ (by omega) (by omega)
  have s2 : f (32768 * c + fi + k - 1) = S (fi + k - 1) := by rw [show 32768 * c + fi + k - 1 = 32768 * c + (fi + k - 1) by omega]; exact hS _ (by omega) (by omega)
  unfold dif at hq
  refine t_Mo_difference_0 ho rfl hf (by rw [e1]; exact vp_in_nI (by omega) (by omega)) (by rw [e1, e2]; exact vp_in_nI (by omega) (by omega)) (fun g => ?_) (fun g => t_Mo_difference_34 ?_)
  · have hk1 : k ≠ 1 := fun e => g (by rw [e]; rfl)
    rw [if_neg hk1] at hq
    rw [e1, e2, nI_clamp (by omega), nI_clamp (by omega), s1, s2]
    have e3 : nI (32768 * c + fi + k) - 2 = nI (32768 * c + fi + k - 2) := pk_sub (b := 2) (by omega)
    have s3 : f (32768 * c + fi + k - 2) = S (fi + k - 2) := by rw [show 32768 * c + fi + k - 2 = 32768 * c + (fi + k - 2) by omega]; exact hS _ (by omega) (by omega)
    refine t_Mo_difference_39 ho rfl hf (by rw [e2]; exact vp_in_nI (by omega) (by omega)) (by rw [e3]; exact vp_in_nI (by omega) (by omega)) ?_
    rw [e2, e3, nI_clamp (by omega), nI_clamp (by omega), s2, s3]
    exact hq
  · have hk1 : k = 1 := (nI_eq (b := 1) (by omega) (by omega)).mp g
    subst hk1
    rw [if_pos rfl] at hq
    rw [e1, e2, nI_clamp (by omega), nI_clamp (by omega), s1, s2]
    exact hq
theorem c_mleast {c fi k m n : Nat} {S : Nat → Int32} (ho : moO w s l) (h : smR w c S fi n) (hc : c < 4) (h1 : 1 ≤ k) (hk : k + m ≤ n) (hn : fi + n ≤ 32768) (hm : 1 ≤ m) (hq : Q (.inl (some (.int (nI (cod S fi k m))))) w nc ns) :
    Ev (d + 1) m_Mo_least 0 [some (.ref 25), some (.int (nI c)), some (.int (nI fi)), some (.int (nI k)), some (.int (nI (k + m - 1))), none, none, none] [] w nc ns Q := by
  refine t_Mo_least_0 rfl ?_
  have key : ∀ t j, j + t = m → ∀ o7, Ev (d + 1) m_Mo_least 6 [some (.ref 25), some (.int (nI c)), some (.int (nI fi)), some (.int (nI k)), some (.int (nI (k + m - 1))), some (.int (nI (cod S fi k j))), some (.int (nI (k + j))), o7] [] w nc ns Q := by
    intro t
    induction t with
    | zero =>
      intro j hj o7
      refine t_Mo_least_6 (fun _ => t_Mo_least_48 ?_) (fun g => absurd (nI_lt (by omega) (by omega)) g)
      rw [show j = m by omega]
      exact hq
    | succ t ih =>
      intro j hj o7
      refine t_Mo_least_6 (fun g => absurd ((nI_ltI (by omega) (by omega)).mp g) (by omega)) (fun _ => ?_)
      refine t_Mo_least_13 ho (Nat.le_of_ble_eq_true rfl) (c_mdiff ho h hc (by omega) (by omega) hn (t_Mo_least_21 rfl ?_))
      have hcd := cod_le S fi k j
      have inner : ∀ u b, b + u = 9 → lc b (dif S fi (k + j)) = cod S fi k (j + 1) → Ev (d + 1) m_Mo_least 23 [some (.ref 25), some (.int (nI c)), some (.int (nI fi)), some (.int (nI k)), some (.int (nI (k + m - 1))), some (.int (nI b)), some (.int (nI (k + j))), some (.int (dif S fi (k + j)))] [] w nc ns Q := by
        intro u
        induction u with
        | zero =>
          intro b hb hl
          have eb : b = 9 := by omega
          subst eb
          refine t_Mo_least_23 (Nat.le_of_ble_eq_true rfl) (c_widthOf (by omega) (t_Mo_least_30 (Nat.le_of_ble_eq_true rfl) (c_mfits (by omega) ?_)))
          rw [show wd 9 = 32 from rfl, fitB_32]
          refine t_Mo_least_33 (fun _ => t_Mo_least_42 rfl ?_) (fun g => absurd g (by decide))
          rw [lc_9] at hl
          rw [nI_1, hl]
          exact ih (j + 1) (by omega) _
        | succ u ihu =>
          intro b hb hl
          refine t_Mo_least_23 (Nat.le_of_ble_eq_true rfl) (c_widthOf (by omega) (t_Mo_least_30 (Nat.le_of_ble_eq_true rfl) (c_mfits (by omega) ?_)))
          cases hf : fitB (dif S fi (k + j)) (wd b) with
          | true =>
            refine t_Mo_least_33 (fun _ => t_Mo_least_42 rfl ?_) (fun g => absurd g (by decide))
            rw [lc_yes hf] at hl
            rw [nI_1, hl]
            exact ih (j + 1) (by omega) _
          | false =>
            refine t_Mo_least_33 (fun g => absurd rfl g) (fun _ => t_Mo_least_36 rfl ?_)
            rw [nI_1]
            exact ihu (b + 1) (by omega) (by rw [← lc_no (by omega) (by rw [hf]; decide)]; exact hl)
      exact inner (9 - cod S fi k j) (cod S fi k j) (by omega) rfl
  exact key m 0 (by omega) _
theorem c_msize {c fi n : Nat} {S : Nat → Int32} (ho : moO w s l) (h : smR w c S fi n) (hc : c < 4) (h1 : 1 ≤ n) (hn : fi + n ≤ 32768) (hb : (eN S fi ((n - 1) / 15)).1 ≤ 100000) (hq : Q (.inl (some (.int (nI (szP S fi n))))) w nc ns) :
    Ev (d + 2) m_Mo_sizeOf 0 [some (.ref 25), some (.int (nI c)), some (.int (nI fi)), some (.int (nI n)), some (.int (nI ((eN S fi ((n - 1) / 15)).1 - 160))), none, none] [] w nc ns Q := by
  have hge := eN_ge S fi ((n - 1) / 15)
  have e1 : nI n - 1 = nI (n - 1) := pk_sub (b := 1) h1
  have e2 : nI (n - 1) / 15 * 15 = nI ((n - 1) / 15 * 15) := by rw [show nI (n - 1) / 15 = nI ((n - 1) / 15) from pk_div (d := 15) (by omega) (by omega) (by omega)]; exact pk_mul _ 15
  have e8 : ∀ b, b < 2 ^ 30 → (24 : Int32) + (nI b + 7) / 8 = nI (24 + (b + 7) / 8) := by
    intro b hb
    rw [show (7 : Int32) = nI 7 from rfl, nI_add, show (8 : Int32) = nI 8 from rfl, pk_div (by omega) (by omega) (by omega), show (24 : Int32) = nI 24 from rfl, nI_add]
  unfold szP eF at hq
  refine t_Mo_sizeOf_0 rfl (fun g => t_Mo_sizeOf_53 ?_) (fun g => ?_)
  · rw [e1, e2] at g
    have := (nI_leI (by omega) (by omega)).mp g
    rw [if_pos (by omega)] at hq
    rw [e8 _ (by omega)]
    exact hq
  · rw [e1, e2] at g
    have hlt : (n - 1) / 15 * 15 < n - 1 := Nat.lt_of_not_le (fun e => g (nI_le e (by omega)))
    rw [if_neg (by omega), eB_1] at hq
    rw [e1, e2]
    refine t_Mo_sizeOf_23 ho (Nat.le_of_ble_eq_true rfl) ?_
    rw [nI_1, e1, pk_sub (show (n - 1) / 15 * 15 ≤ n - 1 by omega)]
    have hcd := cod_le S fi (15 * ((n - 1) / 15) + 1) ((n - 1) % 15)
    have hw := wd_le (cod S fi (15 * ((n - 1) / 15) + 1) ((n - 1) % 15))
    have := c_mleast (d := d) (k := 15 * ((n - 1) / 15) + 1) (m := (n - 1) % 15) (nc := nc) (ns := ns) (Q := fun r w1 nc1 ns1 => match r with | .inl v => Ev (d + 2) m_Mo_sizeOf 45 [some (.ref 25), some (.int (nI c)), some (.int (nI fi)), some (.int (nI n)), some (.int (nI ((eN S fi ((n - 1) / 15)).1 - 160))), some (.int (nI ((n - 1) / 15 * 15))), some (.int (nI ((eN S fi ((n - 1) / 15)).1 - 160)))] (v.toList ++ [.int (nI (n - 1 - (n - 1) / 15 * 15)), .int 4, .int (nI ((eN S fi ((n - 1) / 15)).1 - 160))]) w1 nc1 ns1 Q | .inr x => Q (.inr x) w1 nc1 ns1) ho h hc (by omega) (by omega) hn (by omega) (by
      refine t_Mo_sizeOf_45 (Nat.le_of_ble_eq_true rfl) (c_widthOf hcd (t_Mo_sizeOf_48 rfl ?_))
      have hm : (n - 1) % 15 * wd (cod S fi (15 * ((n - 1) / 15) + 1) ((n - 1) % 15)) ≤ 15 * 32 := Nat.mul_le_mul (by omega) hw
      rw [show n - 1 - (n - 1) / 15 * 15 = (n - 1) % 15 by omega, pk_mul, show (4 : Int32) = nI 4 from rfl, nI_add, nI_add, e8 _ (by omega)]
      rw [show (eN S fi ((n - 1) / 15)).1 - 160 + (4 + (n - 1) % 15 * wd (cod S fi (15 * ((n - 1) / 15) + 1) ((n - 1) % 15))) = (eN S fi ((n - 1) / 15)).1 + 4 + (n - 1) % 15 * wd (cod S fi (15 * ((n - 1) / 15) + 1) ((n - 1) % 15)) - 160 by omega]
      exact hq)
    rw [show 15 * ((n - 1) / 15) + 1 + (n - 1) % 15 - 1 = n - 1 by omega, show 15 * ((n - 1) / 15) + 1 = (n - 1) / 15 * 15 + 1 by omega] at this
    exact this
end Mo1
