/-! ===== the track ===== -/
def tO (c : Nat) : Nat := 20 + c
def tH (c : Nat) : Nat := 36 + c
def tB (c : Nat) : Nat := 52 + c
def tP (c : Nat) : Nat := 68 + c
def tK (c k : Nat) : Nat := 16 * (8 + 3 * k) + 4 + c
def tV (c k : Nat) : Nat := 16 * (9 + 3 * k) + 4 + c
def tQ (c k : Nat) : Nat := 16 * (10 + 3 * k) + 4 + c
/-- names of temporaries -/
def tN (n : Nat) : Nat := 16 * (1 + n) + 11
def hs (H : Nat → Nat) : Nat → Bool := fun n => decide (0 < H n)
def trP (w : qk_W) (c : Nat) (V : Nat → Int32) (H : Nat → Nat) (pm : Nat → Bool) : Prop :=
  (∃ f, wr "QuakeLink$Page" w (tP c) 32 f ∧ ∀ k, k < 32 → f k = if pm k then some (tK c k) else none) ∧
  (∀ k, k < 32 → pm k = false → w (tK c k) = none ∧ w (tV c k) = none ∧ w (tQ c k) = none) ∧
  (∀ k, k < 32 → pm k = true → wo w (tK c k) 10 [.ref (tV c k), .ref (tQ c k)] ∧ ∃ fv fq, wi w (tV c k) 1024 fv ∧ wb w (tQ c k) 1024 fq ∧ ∀ i, i < 1024 → 0 < H (1024 * k + i) → fv i = V (1024 * k + i) ∧ fq i = nI (H (1024 * k + i) - 1)) ∧
  (∀ n, n < 32768 → 0 < H n → pm (n / 1024) = true ∧ H n ≤ 101)
def trR (w : qk_W) (c : Nat) (V : Nat → Int32) (H : Nat → Nat) (old : Nat) (pm : Nat → Bool) : Prop :=
  c < 4 ∧ wo w (tO c) 6 [.ref (tH c), .int (nI old), .ref (tP c)] ∧ nsR w (tH c) (tB c) (hs H) ∧ trP w c V H pm
theorem trP_f {w w' : qk_W} {c : Nat} {V : Nat → Int32} {H : Nat → Nat} {pm : Nat → Bool} (h : trP w c V H pm) (e : ∀ v, v = tP c ∨ (∃ k, v = tK c k ∨ v = tV c k ∨ v = tQ c k) → w' v = w v) : trP w' c V H pm := by
  obtain ⟨⟨f, h1, h2⟩, h3, h4, h5⟩ := h
  refine ⟨⟨f, wr_f h1 (e _ (Or.inl rfl)), h2⟩, fun k a b => ?_, fun k a b => ?_, h5⟩
  · rw [e (tK c k) (Or.inr ⟨k, Or.inl rfl⟩), e (tV c k) (Or.inr ⟨k, Or.inr (Or.inl rfl)⟩), e (tQ c k) (Or.inr ⟨k, Or.inr (Or.inr rfl)⟩)]
    exact h3 k a b
  · obtain ⟨g1, fv, fq, g2, g3, g4⟩ := h4 k a b
    exact ⟨wo_f g1 (e _ (Or.inr ⟨k, Or.inl rfl⟩)), fv, fq, wi_f g2 (e _ (Or.inr ⟨k, Or.inr (Or.inl rfl)⟩)), wb_f g3 (e _ (Or.inr ⟨k, Or.inr (Or.inr rfl)⟩)), g4⟩
theorem trR_f {w w' : qk_W} {c : Nat} {V : Nat → Int32} {H : Nat → Nat} {old : Nat} {pm : Nat → Bool} (h : trR w c V H old pm) (e : ∀ v, v % 16 = 4 + c → w' v = w v) : trR w' c V H old pm := by
  obtain ⟨h1, h2, h3, h4⟩ := h
  refine ⟨h1, wo_f h2 (e _ (by unfold tO; omega)), nsR_f h3 (e _ (by unfold tH; omega)) (e _ (by unfold tB; omega)), trP_f h4 (fun v hv => e v ?_)⟩
  rcases hv with hv | ⟨k, hv | hv | hv⟩ <;> rw [hv]
  · unfold tP; omega
  · unfold tK; omega
  · unfold tV; omega
  · unfold tQ; omega
theorem trR_ns {w : qk_W} {c : Nat} {V : Nat → Int32} {H : Nat → Nat} {old : Nat} {pm : Nat → Bool} (h : trR w c V H old pm) : wo w (tH c) 3 [.ref (tB c), .int (nI (cnt (hs H) 32768))] := by
  obtain ⟨f, g1, _⟩ := h.2.2.1
  exact g1
/-! gaps -/
def nxP (H : Nat → Nat) (s : Nat) : Nat := nxt (fun n => hs H n == true) s
def nxM (H : Nat → Nat) (s : Nat) : Nat := nxt (fun n => hs H n == false) s
def sgf (H : Nat → Nat) (l : Nat) : Nat := if nxP H (nxM H (max l (nxP H 0))) = 32768 then 32768 else nxM H (max l (nxP H 0))
def gst (H : Nat → Nat) : Nat → Nat
  | 0 => sgf H 0
  | i + 1 => if gst H i < 32768 then sgf H (nxP H (gst H i)) else 32768
theorem nxP_le (H : Nat → Nat) {s : Nat} (h : s ≤ 32768) : s ≤ nxP H s ∧ nxP H s ≤ 32768 := ⟨(nxt_spec _ h).1, (nxt_spec _ h).2.1⟩
theorem nxM_le (H : Nat → Nat) {s : Nat} (h : s ≤ 32768) : s ≤ nxM H s ∧ nxM H s ≤ 32768 := ⟨(nxt_spec _ h).1, (nxt_spec _ h).2.1⟩
theorem sgf_le (H : Nat → Nat) {l : Nat} (h : l ≤ 32768) : sgf H l ≤ 32768 ∧ l ≤ sgf H l := by
  have h0 := nxP_le H (s := 0) (by omega)
  have h1 := nxM_le H (s := max l (nxP H 0)) (by omega)
  unfold sgf
  split <;> omega
theorem sgf_lt {H : Nat → Nat} {l : Nat} (hl : l ≤ 32768) (h : sgf H l < 32768) : hs H (sgf H l) = false ∧ nxP H (sgf H l) < 32768 ∧ sgf H l < nxP H (sgf H l) := by
  have h0 := nxP_le H (s := 0) (by omega)
  have h1 := nxM_le H (s := max l (nxP H 0)) (by omega)
  unfold sgf at h ⊢
  split at h
  · omega
  · rename_i g
    rw [if_neg g]
    have h2 := nxP_le H (s := nxM H (max l (nxP H 0))) h1.2
    have h3 := (nxt_spec (fun n => hs H n == false) (s := max l (nxP H 0)) (by omega)).2.2.2 h
    have h4 : hs H (nxM H (max l (nxP H 0))) = false := by unfold nxM; simpa using h3
    refine ⟨h4, by omega, ?_⟩
    rcases Nat.eq_or_lt_of_le h2.1 with e | e
    · have h5 := (nxt_spec (fun n => hs H n == true) (s := nxM H (max l (nxP H 0))) h1.2).2.2.2 (by show nxP H _ < 32768; omega)
      have h6 : hs H (nxP H (nxM H (max l (nxP H 0)))) = true := by have h7 := h5; simp only [beq_iff_eq] at h7; exact h7
      rw [← e, h4] at h6
      cases h6
    · exact e
theorem gst_le (H : Nat → Nat) (i : Nat) : gst H i ≤ 32768 := by
  cases i with
  | zero => exact (sgf_le H (by omega)).1
  | succ i =>
    unfold gst
    split
    · rename_i h; exact (sgf_le H (nxP_le H (by omega)).2).1
    · exact Nat.le_refl _
theorem gst_lt {H : Nat → Nat} {i : Nat} (h : gst H i < 32768) : nxP H (gst H i) < 32768 ∧ gst H i < nxP H (gst H i) := by
  cases i with
  | zero => exact (sgf_lt (by omega) h).2
  | succ i =>
    by_cases g : gst H i < 32768
    · have e : gst H (i + 1) = sgf H (nxP H (gst H i)) := by rw [gst, if_pos g]
      rw [e] at h ⊢
      exact (sgf_lt (nxP_le H (by omega)).2 h).2
    · rw [gst, if_neg g] at h; omega
theorem gst_ge {H : Nat → Nat} : ∀ i, (∀ j, j < i → gst H j < 32768) → i ≤ gst H i := by
  intro i
  induction i with
  | zero => intro _; omega
  | succ i ih =>
    intro h
    have g := h i (by omega)
    have h1 := ih (fun j hj => h j (by omega))
    have h2 := gst_lt g
    have h3 := (sgf_le H (l := nxP H (gst H i)) (by omega)).2
    rw [gst, if_pos g]
    omega
theorem cnt_ins (P : Nat → Bool) (k : Nat) (hp : P k = false) : ∀ n, cnt (fun j => if j = k then true else P j) n = cnt P n + (if k < n then 1 else 0)
  | 0 => rfl
  | n + 1 => by
    rw [cnt, cnt, cnt_ins P k hp n]
    by_cases e : n = k
    · subst e; simp [hp]
    · by_cases e2 : k < n
      · simp [e, e2, show k < n + 1 by omega]; omega
      · simp [e, e2, show ¬ k < n + 1 by omega]
section TrC
variable {d : Nat} {w : qk_W} {nc ns : Nat} {Q : Option Value ⊕ Nat → qk_W → Nat → Nat → Prop} {c old : Nat} {V : Nat → Int32} {H : Nat → Nat} {pm : Nat → Bool}
theorem c_sgf {l : Nat} (h : trR w c V H old pm) (hl : l ≤ 32768) (hq : Q (.inl (some (.int (nI (sgf H l))))) w nc ns) : Ev (d + 2) m_Tr_startOfGapFrom 0 [some (.ref (tO c)), some (.int (nI l)), none] [] w nc ns Q := by
  have hn := trR_ns h
  obtain ⟨h1, h2, h3, h4⟩ := h
  have h0 := nxP_le H (s := 0) (by omega)
  refine t_Tr_startOfGapFrom_0 h2 rfl hn (Nat.le_of_ble_eq_true rfl) (c_next (fl := true) (s := 0) h3 (by omega) ?_)
  refine t_Tr_startOfGapFrom_14 (Nat.le_of_ble_eq_true rfl) (c_max ?_)
  rw [show nxt (fun n => hs H n == true) 0 = nxP H 0 from rfl, imax_nI (by omega) (by omega)]
  have hm := nxM_le H (s := max l (nxP H 0)) (by omega)
  refine t_Tr_startOfGapFrom_17 hn (Nat.le_of_ble_eq_true rfl) (c_next (fl := false) h3 (by omega) ?_)
  rw [show nxt (fun n => hs H n == false) (max l (nxP H 0)) = nxM H (max l (nxP H 0)) from rfl]
  refine t_Tr_startOfGapFrom_21 rfl h2 rfl hn (Nat.le_of_ble_eq_true rfl) (c_next (fl := true) h3 (by omega) ?_)
  rw [show nxt (fun n => hs H n == true) (nxM H (max l (nxP H 0))) = nxP H (nxM H (max l (nxP H 0))) from rfl]
  have hp := nxP_le H hm.2
  refine t_Tr_startOfGapFrom_31 (fun g => t_Tr_startOfGapFrom_41 ?_) (fun g => t_Tr_startOfGapFrom_36 ?_)
  · have : ¬ nxP H (nxM H (max l (nxP H 0))) = 32768 := fun e => g (by rw [e]; rfl)
    unfold sgf at hq
    rwa [if_neg this] at hq
  · have := (nI_eq (b := 32768) (by omega) (by omega)).mp g
    unfold sgf at hq
    rwa [if_pos this] at hq
theorem c_eog {l : Nat} (h : trR w c V H old pm) (hl : l ≤ 32768) (hq : Q (.inl (some (.int (nI (nxP H l) - 1)))) w nc ns) : Ev (d + 2) m_Tr_endOfGap 0 [some (.ref (tO c)), some (.int (nI l))] [] w nc ns Q := by
  have hn := trR_ns h
  obtain ⟨h1, h2, h3, h4⟩ := h
  exact t_Tr_endOfGap_0 h2 rfl hn (Nat.le_of_ble_eq_true rfl) (c_next (fl := true) h3 hl (t_Tr_endOfGap_9 hq))
theorem i_back (n : Nat) : nI n - 1 + 1 = nI n := by
  rw [Int32.sub_add_cancel]
theorem c_gaps (h : trR w c V H old pm) (hq : ∀ n, (∀ i, i < n → gst H i < 32768) → gst H n = 32768 → Q (.inl (some (.int (nI n)))) w nc ns) : Ev (d + 3) m_Tr_howManyGaps 0 [some (.ref (tO c)), none, none] [] w nc ns Q := by
  refine t_Tr_howManyGaps_0 rfl h.2.1 (Nat.le_of_ble_eq_true rfl) (c_sgf (l := 0) h (by omega) (t_Tr_howManyGaps_7 rfl ?_))
  have key : ∀ m i, i + m = 32768 → (∀ j, j < i → gst H j < 32768) → Ev (d + 3) m_Tr_howManyGaps 8 [some (.ref (tO c)), some (.int (nI i)), some (.int (nI (gst H i)))] [] w nc ns Q := by
    intro m
    induction m with
    | zero =>
      intro i hi hj
      have h1 := gst_ge i hj
      have h2 := gst_le H i
      refine t_Tr_howManyGaps_8 (fun _ => t_Tr_howManyGaps_38 (hq i hj (by omega))) (fun g => absurd (nI_le (a := 32768) (by omega) (by omega)) g)
    | succ m ih =>
      intro i hi hj
      have h2 := gst_le H i
      refine t_Tr_howManyGaps_8 (fun g => ?_) (fun g => ?_)
      · have := (nI_leI (a := 32768) (by omega) (by omega)).mp g
        exact t_Tr_howManyGaps_38 (hq i hj (by omega))
      · have hlt : gst H i < 32768 := Nat.lt_of_not_le (fun e => g (nI_le (a := 32768) e (by omega)))
        refine t_Tr_howManyGaps_14 (fun g => absurd ((nI_leI (a := 32768) (by omega) (by omega)).mp g) (by omega)) (fun _ => ?_)
        refine t_Tr_howManyGaps_20 rfl h.2.1 (Nat.le_of_ble_eq_true rfl) (c_eog h h2 ?_)
        refine t_Tr_howManyGaps_29 h.2.1 (Nat.le_of_ble_eq_true rfl) ?_
        rw [i_back]
        refine c_sgf h (nxP_le H h2).2 (t_Tr_howManyGaps_34 rfl ?_)
        rw [nI_1, show sgf H (nxP H (gst H i)) = gst H (i + 1) by rw [gst, if_pos hlt]]
        exact ih (i + 1) (by omega) (fun j hj2 => by
          by_cases e : j = i
          · rw [e]; exact hlt
          · exact hj j (by omega))
  exact key 32768 0 (by omega) (fun j hj => absurd hj (by omega))
theorem c_sog {x : Int32} (h : trR w c V H old pm) (hq0 : x < 0 → Q (.inl (some (.int 32768))) w nc ns) (hq : ∀ i, i < 2 ^ 31 → x = nI i → Q (.inl (some (.int (nI (gst H i))))) w nc ns) : Ev (d + 3) m_Tr_startOfGap 0 [some (.ref (tO c)), some (.int x), none, none] [] w nc ns Q := by
  refine t_Tr_startOfGap_0 (fun g => ?_) (fun g => t_Tr_startOfGap_4 (hq0 (by rw [Int32.le_iff_toInt_le] at g; rw [Int32.lt_iff_toInt_lt]; omega)))
  obtain ⟨i, hi, rfl⟩ := nI_of (x := x) (by rw [Int32.lt_iff_toInt_lt]; rw [Int32.le_iff_toInt_le] at g; omega)
  replace hq := hq i hi rfl
  refine t_Tr_startOfGap_7 h.2.1 (Nat.le_of_ble_eq_true rfl) (c_sgf (l := 0) h (by omega) (t_Tr_startOfGap_12 rfl ?_))
  have stay : ∀ k m, gst H k = 32768 → gst H (k + m) = 32768 := by
    intro k m hk
    induction m with
    | zero => exact hk
    | succ m ih => rw [← Nat.add_assoc, gst, ih, if_neg (by omega)]
  have key : ∀ m k, k + m = i → Ev (d + 3) m_Tr_startOfGap 15 [some (.ref (tO c)), some (.int (nI i)), some (.int (nI (gst H k))), some (.int (nI k))] [] w nc ns Q := by
    intro m
    induction m with
    | zero =>
      intro k hk
      refine t_Tr_startOfGap_15 (fun _ => t_Tr_startOfGap_44 ?_) (fun g => absurd (nI_le (by omega) (by omega)) g)
      rw [show k = i by omega]
      exact hq
    | succ m ih =>
      intro k hk
      have h2 := gst_le H k
      refine t_Tr_startOfGap_15 (fun g => absurd ((nI_leI (by omega) (by omega)).mp g) (by omega)) (fun _ => ?_)
      refine t_Tr_startOfGap_20 (fun g => t_Tr_startOfGap_44 ?_) (fun g => ?_)
      · have := (nI_leI (a := 32768) (by omega) (by omega)).mp g
        rw [show gst H k = 32768 by omega, ← stay k (m + 1) (by omega), hk]
        exact hq
      · have hlt : gst H k < 32768 := Nat.lt_of_not_le (fun e => g (nI_le (a := 32768) e (by omega)))
        refine t_Tr_startOfGap_26 h.2.1 (Nat.le_of_ble_eq_true rfl) (c_eog h h2 ?_)
        refine t_Tr_startOfGap_32 h.2.1 (Nat.le_of_ble_eq_true rfl) ?_
        rw [i_back]
        refine c_sgf h (nxP_le H h2).2 (t_Tr_startOfGap_37 rfl ?_)
        rw [nI_1, show sgf H (nxP H (gst H k)) = gst H (k + 1) by rw [gst, if_pos hlt]]
        exact ih (k + 1) (by omega)
  exact key i 0 (by omega)
theorem sIn_hs {x : Int32} (h : sIn (hs H) x = true) : ∃ n, n < 32768 ∧ x = nI n ∧ 0 < H n := by
  unfold sIn at h
  have h1 := (Bool.and_eq_true _ _).mp h
  have h2 := (Bool.and_eq_true _ _).mp h1.1
  obtain ⟨n, hn, rfl⟩ := nI_of (of_decide_eq_true h2.1)
  have h3 := (nI_ltI (b := 32768) hn (by omega)).mp (of_decide_eq_true h2.2)
  have h4 := h1.2
  rw [nI_clamp hn] at h4
  exact ⟨n, h3, rfl, of_decide_eq_true h4⟩
theorem div1024 {n : Nat} (h : n < 2 ^ 31) : nI n / 1024 = nI (n / 1024) := pk_div (d := 1024) h (by omega) (by omega)
theorem rem1024 {n : Nat} (h : n < 2 ^ 31) : qi_rem (nI n) 1024 = nI (n % 1024) := rem_nI (b := 1024) h (by omega) (by omega)
theorem c_page {n : Nat} (h2 : wo w (tO c) 6 [.ref (tH c), .int (nI old), .ref (tP c)]) (h4 : trP w c V H pm) (hn : n < 32768) (hp : pm (n / 1024) = true) (hq : Q (.inl (some (.ref (tK c (n / 1024))))) w nc ns) : Ev d m_Tr_page 0 [some (.ref (tO c)), some (.int (nI n)), none] [] w nc ns Q := by
  obtain ⟨⟨f, g1, g2⟩, g3, g4, g5⟩ := h4
  have e := div1024 (n := n) (by omega)
  have e2 : f (nI (n / 1024)).toNatClampNeg = some (tK c (n / 1024)) := by rw [nI_clamp (by omega), g2 _ (by omega), if_pos hp]
  refine t_Tr_page_0 h2 rfl g1 (by rw [e]; exact vp_in_nI (by omega) (by omega)) (by rw [e]; exact e2) ?_
  rw [e]
  exact t_Tr_page_28 h2 rfl g1 (vp_in_nI (by omega) (by omega)) e2 hq
theorem c_valueOf {x : Int32} (h : trR w c V H old pm) (hq1 : ∀ n, n < 32768 → x = nI n → 0 < H n → Q (.inl (some (.int (V n)))) w nc ns) (hq0 : sIn (hs H) x = false → Q (.inl (some (.int 0))) w nc ns) :
    Ev (d + 1) m_Tr_valueOf 0 [some (.ref (tO c)), some (.int x)] [] w nc ns Q := by
  have hn := trR_ns h
  obtain ⟨h1, h2, h3, h4⟩ := h
  refine t_Tr_valueOf_0 h2 rfl hn (Nat.le_of_ble_eq_true rfl) (c_contains h3 ?_)
  refine t_Tr_valueOf_8 (fun g => t_Tr_valueOf_28 (hq0 ?_)) (fun g => ?_)
  · cases hb : sIn (hs H) x with
    | false => rfl
    | true => rw [hb] at g; exact absurd g (by decide)
  · have hb : sIn (hs H) x = true := by
      cases hb : sIn (hs H) x with
      | true => rfl
      | false => rw [hb] at g; exact absurd rfl g
    obtain ⟨n, n1, rfl, n2⟩ := sIn_hs hb
    have hp := (h4.2.2.2 n n1 n2).1
    obtain ⟨g1, fv, fq, g2, g3, g4⟩ := h4.2.2.1 (n / 1024) (by omega) hp
    have e := rem1024 (n := n) (by omega)
    refine t_Tr_valueOf_11 h2 (Nat.le_of_ble_eq_true rfl) (c_page h2 h4 n1 hp (t_Tr_valueOf_16 g1 rfl g2 (by rw [e]; exact vp_in_nI (by omega) (by omega)) ?_))
    rw [e, nI_clamp (by omega), (g4 (n % 1024) (by omega) (by rw [show 1024 * (n / 1024) + n % 1024 = n by omega]; exact n2)).1, show 1024 * (n / 1024) + n % 1024 = n by omega]
    exact hq1 n n1 rfl n2
theorem c_qualityOf {x : Int32} (h : trR w c V H old pm) (hq1 : ∀ n, n < 32768 → x = nI n → 0 < H n → Q (.inl (some (.int (nI (H n - 1))))) w nc ns) (hq0 : sIn (hs H) x = false → Q (.inl (some (.int (-1)))) w nc ns) :
    Ev (d + 1) m_Tr_qualityOf 0 [some (.ref (tO c)), some (.int x)] [] w nc ns Q := by
  have hn := trR_ns h
  obtain ⟨h1, h2, h3, h4⟩ := h
  refine t_Tr_qualityOf_0 h2 rfl hn (Nat.le_of_ble_eq_true rfl) (c_contains h3 ?_)
  refine t_Tr_qualityOf_8 (fun g => t_Tr_qualityOf_28 (hq0 ?_)) (fun g => ?_)
  · cases hb : sIn (hs H) x with
    | false => rfl
    | true => rw [hb] at g; exact absurd g (by decide)
  · have hb : sIn (hs H) x = true := by
      cases hb : sIn (hs H) x with
      | true => rfl
      | false => rw [hb] at g; exact absurd rfl g
    obtain ⟨n, n1, rfl, n2⟩ := sIn_hs hb
    have hp := (h4.2.2.2 n n1 n2).1
    obtain ⟨g1, fv, fq, g2, g3, g4⟩ := h4.2.2.1 (n / 1024) (by omega) hp
    have e := rem1024 (n := n) (by omega)
    refine t_Tr_qualityOf_11 h2 (Nat.le_of_ble_eq_true rfl) (c_page h2 h4 n1 hp (t_Tr_qualityOf_16 g1 rfl g3 (by rw [e]; exact vp_in_nI (by omega) (by omega)) ?_))
    rw [e, nI_clamp (by omega), (g4 (n % 1024) (by omega) (by rw [show 1024 * (n / 1024) + n % 1024 = n by omega]; exact n2)).2, show 1024 * (n / 1024) + n % 1024 = n by omega]
    exact hq1 n n1 rfl n2
/-- a page for a number: it is there, or it is made -/
theorem c_pageM {n : Nat} (hc : c < 4) (h2 : wo w (tO c) 6 [.ref (tH c), .int (nI old), .ref (tP c)]) (h4 : trP w c V H pm) (hn : n < 32768)
    (hq : ∀ w' pm', (∀ v, v % 16 ≠ 4 + c ∨ v = tO c ∨ v = tH c ∨ v = tB c → w' v = w v) → trP w' c V H pm' → pm' (n / 1024) = true → (∀ k, pm k = true → pm' k = true) → cnt pm 32 ≤ cnt pm' 32 → Q (.inl (some (.ref (tK c (n / 1024))))) w' (nc + 3 * (cnt pm' 32 - cnt pm 32)) (ns + 2050 * (cnt pm' 32 - cnt pm 32))) :
    Ev (d + 2) m_Tr_page 0 [some (.ref (tO c)), some (.int (nI n)), none] [] w nc ns Q := by
  cases hp : pm (n / 1024) with
  | true =>
    have := hq w pm (fun _ _ => rfl) h4 hp (fun _ h => h) (Nat.le_refl _)
    rw [Nat.sub_self] at this
    exact c_page h2 h4 hn hp this
  | false =>
    have h4' := h4
    obtain ⟨⟨f, g1, g2⟩, g3, g4, g5⟩ := h4
    have hk : n / 1024 < 32 := by omega
    have hcnt : cnt (fun k => if k = n / 1024 then true else pm k) 32 = cnt pm 32 + 1 := by
      rw [cnt_ins pm (n / 1024) hp 32, if_pos hk]
    obtain ⟨n1, n2, n3⟩ := g3 _ hk hp
    have e := div1024 (n := n) (by omega)
    generalize hkk : n / 1024 = k at *
    have cl : (nI k).toNatClampNeg = k := nI_clamp (by omega)
    refine t_Tr_page_0n h2 rfl g1 (by rw [e]; exact vp_in_nI (by omega) (by omega)) (by rw [e, cl, g2 _ hk, hp]; rfl) ?_
    rw [e]
    refine t_Tr_page_15 (tK c k) (by unfold tK; omega) n1 h2 rfl (es_w (fun w1 e1 f1 => ?_))
    refine t_Tr_page_23 (Nat.le_of_ble_eq_true rfl) ?_
    refine t_Pg_init_0 (Nat.le_of_ble_eq_true rfl) ?_
    refine t_Pg_init_4 rfl (tV c k) (by unfold tV; omega) (by rw [f1 _ (by unfold tV tK; omega)]; exact n2) (es_w (fun w2 e2 f2 => ?_))
    refine t_Pg_init_10 rfl ⟨by unfold tK; omega, (f2 _ (by unfold tV tK; omega)).trans e1⟩ (Nat.le_of_ble_eq_true rfl) (qk_fitA _ _) (es_w (fun w3 e3 f3 => ?_))
    refine t_Pg_init_13 rfl (tQ c k) (by unfold tQ; omega) (by rw [f3 _ (by unfold tQ tK; omega), f2 _ (by unfold tQ tV; omega), f1 _ (by unfold tQ tK; omega)]; exact n3) (es_w (fun w4 e4 f4 => ?_))
    refine t_Pg_init_19 rfl ⟨by unfold tK; omega, (f4 _ (by unfold tQ tK; omega)).trans e3⟩ (Nat.le_of_ble_eq_true rfl) (qk_fitA _ _) (es_w (fun w5 e5 f5 => t_Pg_init_22 ?_))
    have fA : ∀ v, v ≠ tK c k → v ≠ tV c k → v ≠ tQ c k → w5 v = w v := fun v a b q => by rw [f5 v a, f4 v q, f3 v a, f2 v b, f1 v a]
    have o5 : wo w5 (tK c k) 10 [.ref (tV c k), .ref (tQ c k)] := ⟨by unfold tK; omega, e5⟩
    have v5 : wi w5 (tV c k) 1024 (fun _ => 0) := by
      show w5 _ = _
      rw [f5 _ (by unfold tV tK; omega), f4 _ (by unfold tV tQ; omega), f3 _ (by unfold tV tK; omega)]
      exact e2
    have q5 : wb w5 (tQ c k) 1024 (fun _ => 0) := ⟨by unfold tQ; omega, (f5 _ (by unfold tQ tK; omega)).trans e4⟩
    refine t_Tr_page_27 (wr_f g1 (fA _ (by unfold tP tK; omega) (by unfold tP tV; omega) (by unfold tP tQ; omega))) (vp_in_nI hk (by omega)) o5 (es_w (fun w6 e6 f6 => ?_))
    rw [cl] at e6
    have r6 : wr "QuakeLink$Page" w6 (tP c) 32 (va_up f k (some (tK c k))) := ⟨g1.1, e6⟩
    have h26 := wo_f h2 (show w6 (tO c) = w (tO c) by rw [f6 _ (by unfold tO tP; omega), fA _ (by unfold tO tK; omega) (by unfold tO tV; omega) (by unfold tO tQ; omega)])
    obtain ⟨pm', p1, p2, p3⟩ : ∃ pm' : Nat → Bool, pm' k = true ∧ (∀ j, j ≠ k → pm' j = pm j) ∧ cnt pm' 32 = cnt pm 32 + 1 := ⟨_, by simp, fun j hj => by simp [hj], hcnt⟩
    have hres := hq w6 pm' (fun v hv => ?_) ⟨⟨_, r6, fun j hj => ?_⟩, fun j hj hpj => ?_, fun j hj hpj => ?_, fun m hm hm2 => ?_⟩ p1 (fun j hj => by
      by_cases ej : j = k
      · rw [ej]; exact p1
      · rw [p2 j ej]; exact hj) (by omega)
    · rw [p3, show cnt pm 32 + 1 - cnt pm 32 = 1 by omega] at hres
      exact t_Tr_page_28 h26 rfl r6 (vp_in_nI hk (by omega)) (by rw [cl, va_up_self]) hres
    · have hne : v ≠ tP c ∧ v ≠ tK c k ∧ v ≠ tV c k ∧ v ≠ tQ c k := by
        refine ⟨?_, ?_, ?_, ?_⟩ <;> rintro rfl <;> rcases hv with hv | hv | hv | hv <;> first | exact hv (by unfold tP; omega) | exact hv (by unfold tK; omega) | exact hv (by unfold tV; omega) | exact hv (by unfold tQ; omega) | (unfold tP tO at hv; omega) | (unfold tP tH at hv; omega) | (unfold tP tB at hv; omega) | (unfold tK tO at hv; omega) | (unfold tK tH at hv; omega) | (unfold tK tB at hv; omega) | (unfold tV tO at hv; omega) | (unfold tV tH at hv; omega) | (unfold tV tB at hv; omega) | (unfold tQ tO at hv; omega) | (unfold tQ tH at hv; omega) | (unfold tQ tB at hv; omega)
      rw [f6 v hne.1, fA v hne.2.1 hne.2.2.1 hne.2.2.2]
    · by_cases ej : j = k
      · rw [ej, va_up_self, p1]; rfl
      · rw [va_up_ne _ _ ej, g2 j hj, p2 j ej]
    · have ej : j ≠ k := fun ej => by rw [ej, p1] at hpj; cases hpj
      rw [p2 j ej] at hpj
      rw [f6 _ (by unfold tK tP; omega), f6 _ (by unfold tV tP; omega), f6 _ (by unfold tQ tP; omega), fA _ (by unfold tK; omega) (by unfold tK tV; omega) (by unfold tK tQ; omega), fA _ (by unfold tV tK; omega) (by unfold tV; omega) (by unfold tV tQ; omega), fA _ (by unfold tQ tK; omega) (by unfold tQ tV; omega) (by unfold tQ; omega)]
      exact g3 j hj hpj
    · by_cases ej : j = k
      · subst ej
        refine ⟨wo_f o5 (f6 _ (by unfold tK tP; omega)), _, _, wi_f v5 (f6 _ (by unfold tV tP; omega)), wb_f q5 (f6 _ (by unfold tQ tP; omega)), fun i hi hH => ?_⟩
        have := (g5 (1024 * j + i) (by omega) hH).1
        rw [show (1024 * j + i) / 1024 = j by omega, hp] at this
        cases this
      · rw [p2 j ej] at hpj
        obtain ⟨k1, fv, fq, k2, k3, k4⟩ := g4 j hj hpj
        exact ⟨wo_f k1 (by rw [f6 _ (by unfold tK tP; omega), fA _ (by unfold tK; omega) (by unfold tK tV; omega) (by unfold tK tQ; omega)]), fv, fq, wi_f k2 (by rw [f6 _ (by unfold tV tP; omega), fA _ (by unfold tV tK; omega) (by unfold tV; omega) (by unfold tV tQ; omega)]), wb_f k3 (by rw [f6 _ (by unfold tQ tP; omega), fA _ (by unfold tQ tK; omega) (by unfold tQ tV; omega) (by unfold tQ; omega)]), k4⟩
    · have := g5 m hm hm2
      refine ⟨?_, this.2⟩
      by_cases ej : m / 1024 = k
      · rw [ej]; exact p1
      · rw [p2 _ ej]; exact this.1
end TrC
