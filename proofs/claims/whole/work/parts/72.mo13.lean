/-! ===== rows of messages are determined; streams behind a head; how many packets ===== -/
theorem szP_100 (S : Nat → Int32) (fi : Nat) {n : Nat} (h : n ≤ 100) : szP S fi n ≤ 512 := by
  have hb : (n - 1) / 15 ≤ 6 := by omega
  have h1 := eN_le S fi ((n - 1) / 15)
  unfold szP eF
  split
  · omega
  · rw [eB_1]
    have hw := wd_le (cod S fi (15 * ((n - 1) / 15) + 1) ((n - 1) % 15))
    have hm : (n - 1) % 15 * wd (cod S fi (15 * ((n - 1) / 15) + 1) ((n - 1) % 15)) ≤ 14 * 32 := Nat.mul_le_mul (by omega) hw
    omega
theorem must_100 {x : Chs} (h : mustX x = true) : 100 ≤ opnX x := by
  unfold mustX at h
  rw [Bool.and_eq_true] at h
  have h2 := h.2
  rcases Nat.lt_or_ge (opnX x) 100 with e | e
  · rw [decide_eq_true (szP_100 _ _ (by omega))] at h2
    exact absurd h2 (by decide)
  · exact e
theorem cl1_K {x : Chs} {pc cg : Nat} (h1 : xU x ≤ xC x) (h2 : xF x (xC x) ≤ xT x) : xU (cl1X x pc cg).1 ≤ xC (cl1X x pc cg).1 ∧ xF (cl1X x pc cg).1 (xC (cl1X x pc cg).1) ≤ xT x ∧ xT (cl1X x pc cg).1 = xT x ∧ 100 * (cl1X x pc cg).2 + xF x (xC x) ≤ 100 * cg + xF (cl1X x pc cg).1 (xC (cl1X x pc cg).1) ∧ xA (cl1X x pc cg).1 = xA x ∧ xF x (xC x) ≤ xF (cl1X x pc cg).1 (xC (cl1X x pc cg).1) := by
  unfold cl1X
  by_cases hm : mustX x = true
  · rw [if_pos hm]
    have := must_100 hm
    unfold opnX at this
    show xU x ≤ xC x + 1 ∧ fu (xF x) (xC x + 1) (xT x) (xC x + 1) ≤ xT x ∧ xT x = xT x ∧ 100 * (cg + 1) + xF x (xC x) ≤ 100 * cg + fu (xF x) (xC x + 1) (xT x) (xC x + 1) ∧ xA x = xA x ∧ xF x (xC x) ≤ fu (xF x) (xC x + 1) (xT x) (xC x + 1)
    rw [fu_s]
    exact ⟨by omega, Nat.le_refl _, rfl, by omega, rfl, by omega⟩
  · rw [if_neg hm]
    exact ⟨h1, h2, rfl, Nat.le_refl _, rfl, Nat.le_refl _⟩
theorem cl2_K {x : Chs} {pc cg : Nat} (h1 : xU x ≤ xC x) (h2 : xF x (xC x) ≤ xT x) : xU (cl2X x pc cg).1 ≤ xC (cl2X x pc cg).1 ∧ xF (cl2X x pc cg).1 (xC (cl2X x pc cg).1) ≤ xT x ∧ xT (cl2X x pc cg).1 = xT x ∧ 100 * (cl2X x pc cg).2 + xF x (xC x) ≤ 100 * cg + xF (cl2X x pc cg).1 (xC (cl2X x pc cg).1) ∧ xA (cl2X x pc cg).1 = xA x ∧ xF x (xC x) ≤ xF (cl2X x pc cg).1 (xC (cl2X x pc cg).1) := by
  unfold cl2X
  by_cases hm : opnX x = 1000
  · rw [if_pos hm]
    unfold opnX at hm
    show xU x ≤ xC x + 1 ∧ fu (xF x) (xC x + 1) (xT x) (xC x + 1) ≤ xT x ∧ xT x = xT x ∧ 100 * (cg + 1) + xF x (xC x) ≤ 100 * cg + fu (xF x) (xC x + 1) (xT x) (xC x + 1) ∧ xA x = xA x ∧ xF x (xC x) ≤ fu (xF x) (xC x + 1) (xT x) (xC x + 1)
    rw [fu_s]
    exact ⟨by omega, Nat.le_refl _, rfl, by omega, rfl, by omega⟩
  · rw [if_neg hm]
    exact ⟨h1, h2, rfl, Nat.le_refl _, rfl, Nat.le_refl _⟩
/-- what a sample leaves as it should be; and a hundred samples for each packet that closed by itself -/
theorem take_K {x : Chs} {v : Int32} {pc cg : Nat} (h1 : xU x ≤ xC x) (h2 : xF x (xC x) ≤ xT x) (h4 : opnX x < 1000) :
    xU (takeX x v pc cg).1 ≤ xC (takeX x v pc cg).1 ∧ xF (takeX x v pc cg).1 (xC (takeX x v pc cg).1) ≤ xT x + 1 ∧ xT (takeX x v pc cg).1 = xT x + 1 ∧ opnX (takeX x v pc cg).1 < 1000 ∧ 100 * (takeX x v pc cg).2 + xF x (xC x) ≤ 100 * cg + xF (takeX x v pc cg).1 (xC (takeX x v pc cg).1) ∧ xA (takeX x v pc cg).1 = xA x ∧ xF x (xC x) ≤ xF (takeX x v pc cg).1 (xC (takeX x v pc cg).1) := by
  have ho := take_opn (v := v) (pc := pc) (cg := cg) h4
  obtain ⟨a1, a2, a3, a4, a5, a6⟩ := cl1_K (x := smpX x v) (pc := pc) (cg := cg) h1 h2
  generalize hy : cl1X (smpX x v) pc cg = y at a1 a2 a3 a4 a5 a6
  have e : takeX x v pc cg = cl2X (addX y.1) pc y.2 := by unfold takeX; rw [hy]
  rw [e] at ho ⊢
  obtain ⟨b1, b2, b3, b4, b5, b6⟩ := cl2_K (x := addX y.1) (pc := pc) (cg := y.2) a1 (by show xF y.1 (xC y.1) ≤ xT y.1 + 1; rw [a3]; exact Nat.le_succ_of_le a2)
  have e1 : xT (addX y.1) = xT x + 1 := by show xT y.1 + 1 = _; rw [a3]; rfl
  have e2 : xF (addX y.1) (xC (addX y.1)) = xF y.1 (xC y.1) := rfl
  have e3 : xF (smpX x v) (xC (smpX x v)) = xF x (xC x) := rfl
  rw [e1] at b2 b3
  rw [e2] at b4 b6
  rw [e3] at a4 a6
  exact ⟨b1, b2, b3, ho.1, by omega, b5.trans a5, by omega⟩
theorem chK_take {X : Nat → Chs} {c : Nat} {v : Int32} {pc cg : Nat} (h : chK X) (hc : c < 4) (hT : xT (X c) < 32768) : chK (fu X c (takeX (X c) v pc cg).1) := by
  intro c' hc'
  by_cases e : c' = c
  · subst e
    rw [fu_s]
    obtain ⟨h1, h2, h3, h4⟩ := h c' hc
    obtain ⟨a1, a2, a3, a4, _⟩ := take_K (v := v) (pc := pc) (cg := cg) h1 h2 h4
    exact ⟨a1, by rw [a3]; exact a2, by rw [a3]; omega, a4⟩
  · rw [fu_n _ _ e]; exact h c' hc'
/-- two streams that differ in their heads alone; H is the first one's head -/
def sAg (H : Nat → Bool) (A B : Strm) : Prop := A.1 = B.1 ∧ 160 ≤ A.1 ∧ (∀ p, 160 ≤ p → A.2 p = B.2 p) ∧ ∀ p, p < 160 → A.2 p = H p
theorem sAg_app {H : Nat → Bool} {A B : Strm} (h : sAg H A B) (v w : Nat) : sAg H (app A v w) (app B v w) := by
  obtain ⟨h1, h2, h3, h4⟩ := h
  refine ⟨by show A.1 + w = B.1 + w; rw [h1], by show 160 ≤ A.1 + w; omega, fun p hp => ?_, fun p hp => ?_⟩
  · show (if A.1 ≤ p ∧ p < A.1 + w then v.testBit (A.1 + w - 1 - p) else A.2 p) = (if B.1 ≤ p ∧ p < B.1 + w then v.testBit (B.1 + w - 1 - p) else B.2 p)
    rw [h1, h3 p hp]
  · show (if A.1 ≤ p ∧ p < A.1 + w then v.testBit (A.1 + w - 1 - p) else A.2 p) = H p
    rw [if_neg (by omega)]
    exact h4 p hp
def hdS (c q n old fi v1 v2 : Nat) : Strm := app (app (app (app (app (app (app (0, fun _ => false) c 8) q 8) n 16) old 32) fi 32) v1 32) v2 32
theorem app_at {st : Strm} {v w p : Nat} (h : st.1 + w ≤ p ∨ p < st.1) : (app st v w).2 p = st.2 p := by
  show (if st.1 ≤ p ∧ p < st.1 + w then _ else st.2 p) = _
  rw [if_neg (by omega)]
theorem app_in {st : Strm} {v w i : Nat} (h : i < w) : (app st v w).2 (st.1 + i) = v.testBit (w - 1 - i) := by
  show (if st.1 ≤ st.1 + i ∧ st.1 + i < st.1 + w then v.testBit (st.1 + w - 1 - (st.1 + i)) else st.2 (st.1 + i)) = _
  rw [if_pos (by omega)]
  congr 1
  omega
theorem hdS_bits (c q n old fi v1 v2 : Nat) : (∀ i, i < 8 → (hdS c q n old fi v1 v2).2 (0 + i) = c.testBit (8 - 1 - i)) ∧ (∀ i, i < 8 → (hdS c q n old fi v1 v2).2 (8 + i) = q.testBit (8 - 1 - i)) ∧ (∀ i, i < 16 → (hdS c q n old fi v1 v2).2 (16 + i) = n.testBit (16 - 1 - i)) ∧ (∀ i, i < 32 → (hdS c q n old fi v1 v2).2 (32 + i) = old.testBit (32 - 1 - i)) ∧ (∀ i, i < 32 → (hdS c q n old fi v1 v2).2 (64 + i) = fi.testBit (32 - 1 - i)) ∧ (∀ i, i < 32 → (hdS c q n old fi v1 v2).2 (96 + i) = v1.testBit (32 - 1 - i)) ∧ (∀ i, i < 32 → (hdS c q n old fi v1 v2).2 (128 + i) = v2.testBit (32 - 1 - i)) := by
  have l : ∀ (st : Strm) (v w b i : Nat), st.1 = b → i < w → (app st v w).2 (b + i) = v.testBit (w - 1 - i) := fun st v w b i hb hi => by rw [← hb]; exact app_in hi
  unfold hdS
  refine ⟨fun i hi => ?_, fun i hi => ?_, fun i hi => ?_, fun i hi => ?_, fun i hi => ?_, fun i hi => ?_, fun i hi => ?_⟩
  · rw [app_at (Or.inr (by show 0 + i < 128; omega)), app_at (Or.inr (by show 0 + i < 96; omega)), app_at (Or.inr (by show 0 + i < 64; omega)), app_at (Or.inr (by show 0 + i < 32; omega)), app_at (Or.inr (by show 0 + i < 16; omega)), app_at (Or.inr (by show 0 + i < 8; omega))]
    exact l _ _ _ 0 _ rfl hi
  · rw [app_at (Or.inr (by show 8 + i < 128; omega)), app_at (Or.inr (by show 8 + i < 96; omega)), app_at (Or.inr (by show 8 + i < 64; omega)), app_at (Or.inr (by show 8 + i < 32; omega)), app_at (Or.inr (by show 8 + i < 16; omega))]
    exact l _ _ _ 8 _ rfl hi
  · rw [app_at (Or.inr (by show 16 + i < 128; omega)), app_at (Or.inr (by show 16 + i < 96; omega)), app_at (Or.inr (by show 16 + i < 64; omega)), app_at (Or.inr (by show 16 + i < 32; omega))]
    exact l _ _ _ 16 _ rfl hi
  · rw [app_at (Or.inr (by show 32 + i < 128; omega)), app_at (Or.inr (by show 32 + i < 96; omega)), app_at (Or.inr (by show 32 + i < 64; omega))]
    exact l _ _ _ 32 _ rfl hi
  · rw [app_at (Or.inr (by show 64 + i < 128; omega)), app_at (Or.inr (by show 64 + i < 96; omega))]
    exact l _ _ _ 64 _ rfl hi
  · rw [app_at (Or.inr (by show 96 + i < 128; omega))]
    exact l _ _ _ 96 _ rfl hi
  · exact l _ _ _ 128 _ rfl hi
theorem getN_is {r : Nat → Nat} {p n v : Nat} (hv : v < 2 ^ n) (h : ∀ i, i < n → rbit r (p + i) = v.testBit (n - 1 - i)) : getN r p n = v := by
  rw [getN_bits h, Nat.mod_eq_of_lt hv]
theorem byt_eq {r r' : Nat → Nat} (h : ∀ k, r k < 256) (h' : ∀ k, r' k < 256) {m : Nat} (e : ∀ p, p < 8 * m → rbit r p = rbit r' p) : ∀ k, k < m → r k = r' k :=
  fun k hk => row_ext h h' (fun i hi => e _ (by omega))
/-- the check's bits behind m bytes that are the same -/
theorem chk_eq {r r' : Nat → Nat} {m : Nat} (hb : ∀ k, k < m → r k = r' k) (hc : getN r (8 * m) 32 = vN (crcV r m)) (hc' : getN r' (8 * m) 32 = vN (crcV r' m)) : ∀ i, i < 32 → rbit r (8 * m + i) = rbit r' (8 * m + i) := by
  refine getN_inj ?_
  rw [hc, hc']
  unfold crcV
  rw [crc_congr hb]
theorem rowM_uniq {r r' : Nat → Nat} {c fi n q old : Nat} {S : Nat → Int32} (h : ∀ k, r k < 256) (h' : ∀ k, r' k < 256) (a : rowM r c S fi n q old) (a' : rowM r' c S fi n q old) : ∀ k, k < szP S fi n → r k = r' k := by
  obtain ⟨a1, a2, a3, a4, a5, a6, a7, a8, a9⟩ := a
  obtain ⟨b1, b2, b3, b4, b5, b6, b7, b8, b9⟩ := a'
  have hz : 24 ≤ szP S fi n := by unfold szP; omega
  have lo : ∀ p, p < 160 → rbit r p = rbit r' p := by
    intro p hp
    rcases Nat.lt_or_ge p 8 with e | e
    · have := getN_inj (p := 0) (n := 8) (a1.trans b1.symm) p e; rwa [Nat.zero_add] at this
    rcases Nat.lt_or_ge p 16 with e2 | e2
    · have := getN_inj (a2.trans b2.symm) (p - 8) (by omega); rwa [show 8 + (p - 8) = p by omega] at this
    rcases Nat.lt_or_ge p 32 with e3 | e3
    · have := getN_inj (a3.trans b3.symm) (p - 16) (by omega); rwa [show 16 + (p - 16) = p by omega] at this
    rcases Nat.lt_or_ge p 64 with e4 | e4
    · have := getN_inj (a4.trans b4.symm) (p - 32) (by omega); rwa [show 32 + (p - 32) = p by omega] at this
    rcases Nat.lt_or_ge p 96 with e5 | e5
    · have := getN_inj (a5.trans b5.symm) (p - 64) (by omega); rwa [show 64 + (p - 64) = p by omega] at this
    rcases Nat.lt_or_ge p 128 with e6 | e6
    · have := getN_inj (a6.trans b6.symm) (p - 96) (by omega); rwa [show 96 + (p - 96) = p by omega] at this
    · have := getN_inj (a7.trans b7.symm) (p - 128) (by omega); rwa [show 128 + (p - 128) = p by omega] at this
  have mid : ∀ p, p < 8 * (szP S fi n - 4) → rbit r p = rbit r' p := by
    intro p hp
    rcases Nat.lt_or_ge p 160 with e | e
    · exact lo p e
    · rw [a8 p e hp, b8 p e hp]
  have hi := chk_eq (byt_eq h h' mid) a9 b9
  refine byt_eq h h' (fun p hp => ?_)
  rcases Nat.lt_or_ge p (8 * (szP S fi n - 4)) with e | e
  · exact mid p e
  · have := hi (p - 8 * (szP S fi n - 4)) (by omega)
    rwa [show 8 * (szP S fi n - 4) + (p - 8 * (szP S fi n - 4)) = p by omega] at this
theorem rowE_uniq {r r' : Nat → Nat} {c old : Nat} (h : ∀ k, r k < 256) (h' : ∀ k, r' k < 256) (a : rowE r c old) (a' : rowE r' c old) : ∀ k, k < 24 → r k = r' k := by
  obtain ⟨a1, a2, a3, a4, a5, a6, a7, a9⟩ := a
  obtain ⟨b1, b2, b3, b4, b5, b6, b7, b9⟩ := a'
  have lo : ∀ p, p < 8 * 20 → rbit r p = rbit r' p := by
    intro p hp
    rcases Nat.lt_or_ge p 8 with e | e
    · have := getN_inj (p := 0) (n := 8) (a1.trans b1.symm) p e; rwa [Nat.zero_add] at this
    rcases Nat.lt_or_ge p 16 with e2 | e2
    · have := getN_inj (a2.trans b2.symm) (p - 8) (by omega); rwa [show 8 + (p - 8) = p by omega] at this
    rcases Nat.lt_or_ge p 32 with e3 | e3
    · have := getN_inj (a3.trans b3.symm) (p - 16) (by omega); rwa [show 16 + (p - 16) = p by omega] at this
    rcases Nat.lt_or_ge p 64 with e4 | e4
    · have := getN_inj (a4.trans b4.symm) (p - 32) (by omega); rwa [show 32 + (p - 32) = p by omega] at this
    rcases Nat.lt_or_ge p 96 with e5 | e5
    · have := getN_inj (a5.trans b5.symm) (p - 64) (by omega); rwa [show 64 + (p - 64) = p by omega] at this
    rcases Nat.lt_or_ge p 128 with e6 | e6
    · have := getN_inj (a6.trans b6.symm) (p - 96) (by omega); rwa [show 96 + (p - 96) = p by omega] at this
    · have := getN_inj (a7.trans b7.symm) (p - 128) (by omega); rwa [show 128 + (p - 128) = p by omega] at this
  have hi := chk_eq (m := 20) (byt_eq h h' lo) a9 b9
  refine byt_eq h h' (fun p hp => ?_)
  rcases Nat.lt_or_ge p 160 with e | e
  · exact lo p e
  · have := hi (p - 160) (by omega)
    rwa [show 8 * 20 + (p - 160) = p by omega] at this
theorem rowQ_uniq {r r' : Nat → Nat} {c fm to : Nat} (h : ∀ k, r k < 256) (h' : ∀ k, r' k < 256) (a : rowQ r c fm to) (a' : rowQ r' c fm to) : ∀ k, k < 16 → r k = r' k := by
  obtain ⟨a1, a2, a3, a4, a9⟩ := a
  obtain ⟨b1, b2, b3, b4, b9⟩ := a'
  have lo : ∀ p, p < 8 * 12 → rbit r p = rbit r' p := by
    intro p hp
    rcases Nat.lt_or_ge p 8 with e | e
    · have := getN_inj (p := 0) (n := 8) (a1.trans b1.symm) p e; rwa [Nat.zero_add] at this
    rcases Nat.lt_or_ge p 32 with e3 | e3
    · have := getN_inj (a2.trans b2.symm) (p - 8) (by omega); rwa [show 8 + (p - 8) = p by omega] at this
    rcases Nat.lt_or_ge p 64 with e4 | e4
    · have := getN_inj (a3.trans b3.symm) (p - 32) (by omega); rwa [show 32 + (p - 32) = p by omega] at this
    · have := getN_inj (a4.trans b4.symm) (p - 64) (by omega); rwa [show 64 + (p - 64) = p by omega] at this
  have hi := chk_eq (m := 12) (byt_eq h h' lo) a9 b9
  refine byt_eq h h' (fun p hp => ?_)
  rcases Nat.lt_or_ge p 96 with e | e
  · exact lo p e
  · have := hi (p - 96) (by omega)
    rwa [show 8 * 12 + (p - 96) = p by omega] at this
