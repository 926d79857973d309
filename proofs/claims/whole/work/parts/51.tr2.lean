/-! ===== the track: clashes and keeping ===== -/
def hU (H : Nat → Nat) (fi k q1 : Nat) : Nat → Nat := fun n => if 0 < H n then H n else if fi ≤ n ∧ n < fi + k then q1 else 0
def vU (V : Nat → Int32) (H : Nat → Nat) (fi k : Nat) (val : Nat → Int32) : Nat → Int32 := fun n => if 0 < H n then V n else if fi ≤ n ∧ n < fi + k then val (n - fi) else V n
section Tr2
variable {d : Nat} {w : qk_W} {nc ns : Nat} {Q : Option Value ⊕ Nat → qk_W → Nat → Nat → Prop} {c old ms rw' z n fi : Nat} {V : Nat → Int32} {H : Nat → Nat} {pm : Nat → Bool} {r : Nat → Nat} {val : Nat → Int32}
theorem c_clashes (hk : wk w) (h : trR w c V H old pm) (hm : meR w ms rw' r z) (hr1 : ms % 16 = 8) (hr2 : rw' % 16 = 8) (hz : 24 ≤ z) (hz2 : z ≤ 512) (hfi : getN r 64 32 = fi) (hn : getN r 16 16 = n) (hle : fi + n ≤ 32768)
    (hdec : ∀ k, k < n → ∃ s, dec r (8 * (z - 4)) (nI (getN r 96 32)) k = some s ∧ s.2.2.2 = val k) (ht : w (tN nc) = none)
    (hq1 : (∃ k, k < n ∧ 0 < H (fi + k) ∧ V (fi + k) ≠ val k) → ∀ w', fr [tN nc] w w' → Q (.inl (some (.int 1))) w' (nc + 1) (ns + 9))
    (hq0 : (∀ k, k < n → 0 < H (fi + k) → V (fi + k) = val k) → ∀ w', fr [tN nc] w w' → Q (.inl (some (.int 0))) w' (nc + 1) (ns + 9)) :
    Ev (d + 3) m_Tr_clashes 0 [some (.ref (tO c)), some (.ref ms), none, none, none, none] [] w nc ns Q := by
  have hc := h.1
  refine t_Tr_clashes_0 (tN nc) (by unfold tN; omega) ht (es_w (fun w1 e1 f1 => ?_))
  have m1 := meR_f hm (f1 _ (by unfold tN; omega)) (f1 _ (by unfold tN; omega))
  refine t_Tr_clashes_3 (Nat.le_of_ble_eq_true rfl) (c_De_init m1 hz hz2 ⟨by unfold tN; omega, e1⟩ (by unfold tN; omega) (by unfold tN; omega) (fun w2 f2 d2 => ?_))
  have fT : fr [tN nc] w w2 := fun v hv => (f2 v hv).trans (f1 v (fun e => hv (by simp [e])))
  have m2 := meR_f hm (fT _ (by simp; unfold tN; omega)) (fT _ (by simp; unfold tN; omega))
  refine t_Tr_clashes_8 rfl rfl m2.1 (Nat.le_of_ble_eq_true rfl) (c_value (at' := 8) m2 (by omega) ?_)
  refine t_Tr_clashes_15 rfl m2.1 (Nat.le_of_ble_eq_true rfl) (c_number (at' := 2) (n := 2) m2 (by omega) (by omega) ?_)
  refine t_Tr_clashes_23 rfl ?_
  rw [show 8 * 8 = 64 from rfl, show 8 * 2 = 16 from rfl, hfi, hn, lN_i, nI_add]
  have key : ∀ m k, k + m = n → ∀ w3, fr [tN nc] w w3 → (k < n → ∃ s, dec r (8 * (z - 4)) (nI (getN r 96 32)) k = some s ∧ deR w3 (tN nc) ms rw' r z k s) → (∀ j, j < k → 0 < H (fi + j) → V (fi + j) = val j) →
      Ev (d + 3) m_Tr_clashes 30 [some (.ref (tO c)), some (.ref ms), some (.ref (tN nc)), some (.int (nI fi)), some (.int (nI (fi + n))), some (.int (nI (fi + k)))] [] w3 (nc + 1) (ns + 9) Q := by
    intro m
    induction m with
    | zero =>
      intro k hkn w3 f3 _ hj
      exact t_Tr_clashes_30 (fun _ => t_Tr_clashes_75 (hq0 (fun j hj2 => hj j (by omega)) w3 f3)) (fun g => absurd (nI_le (by omega) (by omega)) g)
    | succ m ih =>
      intro k hkn w3 f3 hds hj
      obtain ⟨s, hs1, hs2⟩ := hds (by omega)
      obtain ⟨s', hs3, hs4⟩ := hdec k (by omega)
      rw [hs1] at hs3
      cases hs3
      have tr3 := trR_f h (fun v hv => f3 v (by simp; unfold tN; omega))
      have hk3 : wk w3 := wk_12 hk (f3 1 (by simp; unfold tN; omega)) (f3 2 (by simp; unfold tN; omega))
      have ds2 := hs2
      obtain ⟨_, pl, tb, _, X, dw, _⟩ := ds2
      have go : (0 < H (fi + k) → V (fi + k) = val k) → Ev (d + 3) m_Tr_clashes 64 [some (.ref (tO c)), some (.ref ms), some (.ref (tN nc)), some (.int (nI fi)), some (.int (nI (fi + n))), some (.int (nI (fi + k)))] [] w3 (nc + 1) (ns + 9) Q := by
        intro hok
        refine t_Tr_clashes_64 dw (Nat.le_of_ble_eq_true rfl) (c_advance hk3 hs2 (fun s4 h4 w4 f4 d4 => ?_) (fun h4 w4 f4 => ?_))
        · refine t_Tr_clashes_68 rfl ?_
          rw [nI_1, Nat.add_assoc]
          refine ih (k + 1) (by omega) w4 (fr_trans f3 f4) (fun _ => ⟨s4, by rw [dec, hs1]; exact h4, d4⟩) (fun j hj2 => ?_)
          by_cases e : j = k
          · rw [e]; exact hok
          · exact hj j (by omega)
        · refine t_Tr_clashes_68 rfl ?_
          rw [nI_1, Nat.add_assoc]
          refine ih (k + 1) (by omega) w4 (fr_trans f3 f4) (fun hlt => ?_) (fun j hj2 => ?_)
          · obtain ⟨s5, hs5, _⟩ := hdec (k + 1) hlt
            rw [dec, hs1] at hs5
            have : (some s).bind (dstep r (8 * (z - 4)) (k + 1)) = dstep r (8 * (z - 4)) (k + 1) s := rfl
            rw [this, h4] at hs5
            cases hs5
          · by_cases e : j = k
            · rw [e]; exact hok
            · exact hj j (by omega)
      refine t_Tr_clashes_30 (fun g => absurd ((nI_leI (by omega) (by omega)).mp g) (by omega)) (fun _ => ?_)
      refine t_Tr_clashes_37 tr3.2.1 rfl (trR_ns tr3) (Nat.le_of_ble_eq_true rfl) (c_contains tr3.2.2.1 ?_)
      rw [sIn_nI (by omega), decide_eq_true (show fi + k < 32768 by omega), Bool.true_and]
      refine t_Tr_clashes_46 (fun g => ?_) (fun g => ?_)
      · refine go (fun hpos => ?_)
        rw [b2i_t (show hs H (fi + k) = true from decide_eq_true hpos)] at g
        exact absurd g (by decide)
      · have hpos : 0 < H (fi + k) := by
          by_cases e : 0 < H (fi + k)
          · exact e
          · rw [b2i_f (show ¬ hs H (fi + k) = true by unfold hs; simp [e])] at g
            exact absurd rfl g
        refine t_Tr_clashes_49 tr3.2.1 (Nat.le_of_ble_eq_true rfl) (c_valueOf tr3 (fun x hx1 hx2 hx3 => ?_) (fun g0 => ?_))
        · have hx : fi + k = x := (nI_eq (by omega) (by omega)).mp hx2
          subst hx
          refine t_Tr_clashes_55 dw rfl (fun g2 => go (fun _ => by rw [g2]; exact hs4)) (fun g2 => t_Tr_clashes_62 (hq1 ⟨k, by omega, hpos, fun e => g2 (by rw [e]; exact hs4.symm)⟩ w3 f3))
        · rw [sIn_nI (by omega), decide_eq_true (show fi + k < 32768 by omega), Bool.true_and] at g0
          unfold hs at g0
          rw [decide_eq_true hpos] at g0
          cases g0
  exact key n 0 (by omega) w2 fT (fun _ => ⟨_, rfl, d2⟩) (fun j hj => absurd hj (by omega))
theorem nB_nI {n : Nat} (h : n < 128) : nB n = nI n := by
  have := (by decide +kernel : ∀ n, n < 128 → nB n = nI n) n h
  exact this
theorem c_keep (hk : wk w) (h : trR w c V H old pm) (hm : meR w ms rw' r z) (hr1 : ms % 16 = 8) (hr2 : rw' % 16 = 8) (hz : 24 ≤ z) (hz2 : z ≤ 512) (hfi : getN r 64 32 = fi) (hn : getN r 16 16 = n) (hn1 : 1 ≤ n) (hle : fi + n ≤ 32768) (hqu : r 1 ≤ 100)
    (hdec : ∀ k, k < n → ∃ s, dec r (8 * (z - 4)) (nI (getN r 96 32)) k = some s ∧ s.2.2.2 = val k) (ht : w (tN nc) = none)
    (hq : ∀ w' pm', (∀ v, v % 16 ≠ 4 + c → v ≠ tN nc → w' v = w v) → trR w' c (vU V H fi n val) (hU H fi n (r 1 + 1)) old pm' → cnt pm 32 ≤ cnt pm' 32 → Q (.inl (some (.int (nI (cnt (hs (hU H fi n (r 1 + 1))) 32768 - cnt (hs H) 32768))))) w' (nc + 1 + 3 * (cnt pm' 32 - cnt pm 32)) (ns + 9 + 2050 * (cnt pm' 32 - cnt pm 32))) :
    Ev (d + 3) m_Tr_keep 0 [some (.ref (tO c)), some (.ref ms), none, none, none, none, none, none] [] w nc ns Q := by
  have hc := h.1
  refine t_Tr_keep_0 (tN nc) (by unfold tN; omega) ht (es_w (fun w1 e1 f1 => ?_))
  have m1 := meR_f hm (f1 _ (by unfold tN; omega)) (f1 _ (by unfold tN; omega))
  refine t_Tr_keep_3 (Nat.le_of_ble_eq_true rfl) (c_De_init m1 hz hz2 ⟨by unfold tN; omega, e1⟩ (by unfold tN; omega) (by unfold tN; omega) (fun w2 f2 d2 => ?_))
  have fT : fr [tN nc] w w2 := fun v hv => (f2 v hv).trans (f1 v (fun e => hv (by simp [e])))
  have m2 := meR_f hm (fT _ (by simp; unfold tN; omega)) (fT _ (by simp; unfold tN; omega))
  have m2' := m2
  obtain ⟨k1, ⟨ff, k2, k3, k4⟩, k5⟩ := m2'
  refine t_Tr_keep_8 rfl rfl k1 rfl k2 (vp_in_nI (n := 1) (by omega) (by omega)) rfl (Nat.le_of_ble_eq_true rfl) (c_value (at' := 8) m2 (by omega) ?_)
  rw [show (1 : Int32).toNatClampNeg = 1 from rfl, k3 1 (by omega), nB_nI (show r 1 < 128 by omega)]
  refine t_Tr_keep_22 rfl m2.1 (Nat.le_of_ble_eq_true rfl) (c_number (at' := 2) (n := 2) m2 (by omega) (by omega) ?_)
  refine t_Tr_keep_32 rfl ?_
  rw [show 8 * 8 = 64 from rfl, show 8 * 2 = 16 from rfl, hfi, hn, lN_i, nI_add]
  have key : ∀ m k, k + m = n → ∀ w3 pm3 o7, (∀ v, v % 16 ≠ 4 + c → v ≠ tN nc → w3 v = w v) → wo w3 (tO c) 6 [.ref (tH c), .int (nI old), .ref (tP c)] → nsR w3 (tH c) (tB c) (hs H) → trP w3 c (vU V H fi k val) (hU H fi k (r 1 + 1)) pm3 → cnt pm 32 ≤ cnt pm3 32 → (k < n → ∃ s, dec r (8 * (z - 4)) (nI (getN r 96 32)) k = some s ∧ deR w3 (tN nc) ms rw' r z k s) →
      Ev (d + 3) m_Tr_keep 40 [some (.ref (tO c)), some (.ref ms), some (.ref (tN nc)), some (.int (nI (r 1))), some (.int (nI fi)), some (.int (nI (fi + n))), some (.int (nI (fi + k))), o7] [] w3 (nc + 1 + 3 * (cnt pm3 32 - cnt pm 32)) (ns + 9 + 2050 * (cnt pm3 32 - cnt pm 32)) Q := by
    intro m
    induction m with
    | zero =>
      intro k hkn w3 pm3 o7 f3 o3 n3 p3 c3 _
      have ek : k = n := by omega
      subst ek
      refine t_Tr_keep_40 (fun _ => ?_) (fun g => absurd (nI_le (Nat.le_refl _) (by omega)) g)
      have n3' := n3
      obtain ⟨nf, no, _⟩ := n3'
      refine t_Tr_keep_107 o3 rfl no (Nat.le_of_ble_eq_true rfl) ?_
      rw [show (1 : Int32) = nI 1 from rfl, pk_sub (by omega)]
      refine c_include n3 (by omega) (by omega) (fun w4 f4 n4 => t_Tr_keep_120 ?_)
      have e : ∀ x, x < 32768 → insR (hs H) fi (fi + k - 1) x = hs (hU H fi k (r 1 + 1)) x := by
        intro x hx
        unfold insR hs hU
        by_cases e0 : 0 < H x
        · rw [if_pos e0, decide_eq_true e0]; rfl
        · rw [if_neg e0, decide_eq_false e0, Bool.false_or]
          by_cases e1 : fi ≤ x ∧ x < fi + k
          · rw [if_pos e1, decide_eq_true e1.1, decide_eq_true (show x ≤ fi + k - 1 by omega), decide_eq_true (by omega)]; rfl
          · rw [if_neg e1, decide_eq_false (Nat.lt_irrefl 0), ← Bool.decide_and]
            exact decide_eq_false (by omega)
      rw [cnt_congr e]
      refine hq w4 pm3 (fun v v1 v2 => ?_) ⟨hc, wo_f o3 (f4 _ (by simp; unfold tO tH tB; omega)), nsR_c n4 e, trP_f p3 (fun v hv => f4 v ?_)⟩ c3
      · rw [f4 v (by simp; unfold tH tB; omega)]
        exact f3 v v1 v2
      · rcases hv with hv | ⟨j, hv | hv | hv⟩ <;> rw [hv] <;> simp
        · unfold tP tH tB; omega
        · unfold tK tH tB; omega
        · unfold tV tH tB; omega
        · unfold tQ tH tB; omega
    | succ m ih =>
      intro k hkn w3 pm3 o7 f3 o3 n3 p3 c3 hds
      obtain ⟨s, hs1, hs2⟩ := hds (by omega)
      obtain ⟨s', hs3, hs4⟩ := hdec k (by omega)
      rw [hs1] at hs3
      cases hs3
      have hk3 : wk w3 := wk_12 hk (f3 1 (by omega) (by unfold tN; omega)) (f3 2 (by omega) (by unfold tN; omega))
      -- the rest of a round
      have go : ∀ w4 pm4 o7, (∀ v, v % 16 ≠ 4 + c → v ≠ tN nc → w4 v = w v) → wo w4 (tO c) 6 [.ref (tH c), .int (nI old), .ref (tP c)] → nsR w4 (tH c) (tB c) (hs H) → trP w4 c (vU V H fi (k + 1) val) (hU H fi (k + 1) (r 1 + 1)) pm4 → cnt pm 32 ≤ cnt pm4 32 → deR w4 (tN nc) ms rw' r z k s → wk w4 →
          Ev (d + 3) m_Tr_keep 96 [some (.ref (tO c)), some (.ref ms), some (.ref (tN nc)), some (.int (nI (r 1))), some (.int (nI fi)), some (.int (nI (fi + n))), some (.int (nI (fi + k))), o7] [] w4 (nc + 1 + 3 * (cnt pm4 32 - cnt pm 32)) (ns + 9 + 2050 * (cnt pm4 32 - cnt pm 32)) Q := by
        intro w4 pm4 o7 f4 o4 n4 p4 c4 d4 hk4
        have d4' := d4
        obtain ⟨_, pl, tb, _, X, dw, _⟩ := d4'
        have fr5 : ∀ {w5 : qk_W}, fr [tN nc] w4 w5 → (∀ v, v % 16 ≠ 4 + c → v ≠ tN nc → w5 v = w v) ∧ wo w5 (tO c) 6 [.ref (tH c), .int (nI old), .ref (tP c)] ∧ nsR w5 (tH c) (tB c) (hs H) ∧ trP w5 c (vU V H fi (k + 1) val) (hU H fi (k + 1) (r 1 + 1)) pm4 := by
          intro w5 f5
          refine ⟨fun v v1 v2 => by rw [f5 v (by simp [v2])]; exact f4 v v1 v2, wo_f o4 (f5 _ (by simp; unfold tO tN; omega)), nsR_f n4 (f5 _ (by simp; unfold tH tN; omega)) (f5 _ (by simp; unfold tB tN; omega)), trP_f p4 (fun v hv => f5 v ?_)⟩
          rcases hv with hv | ⟨j, hv | hv | hv⟩ <;> rw [hv] <;> simp
          · unfold tP tN; omega
          · unfold tK tN; omega
          · unfold tV tN; omega
          · unfold tQ tN; omega
        refine t_Tr_keep_96 dw (Nat.le_of_ble_eq_true rfl) (c_advance hk4 d4 (fun s5 h5 w5 f5 d5 => ?_) (fun h5 w5 f5 => ?_))
        · refine t_Tr_keep_100 rfl ?_
          rw [nI_1, Nat.add_assoc]
          obtain ⟨a1, a2, a3, a4⟩ := fr5 f5
          exact ih (k + 1) (by omega) w5 pm4 _ a1 a2 a3 a4 c4 (fun _ => ⟨s5, by rw [dec, hs1]; exact h5, d5⟩)
        · refine t_Tr_keep_100 rfl ?_
          rw [nI_1, Nat.add_assoc]
          obtain ⟨a1, a2, a3, a4⟩ := fr5 f5
          refine ih (k + 1) (by omega) w5 pm4 _ a1 a2 a3 a4 c4 (fun hlt => ?_)
          obtain ⟨s6, hs6, _⟩ := hdec (k + 1) hlt
          rw [dec, hs1] at hs6
          have : (some s).bind (dstep r (8 * (z - 4)) (k + 1)) = dstep r (8 * (z - 4)) (k + 1) s := rfl
          rw [this, h5] at hs6
          cases hs6
      have n3' := n3
      obtain ⟨nf, no, _⟩ := n3'
      refine t_Tr_keep_40 (fun g => absurd ((nI_leI (by omega) (by omega)).mp g) (by omega)) (fun _ => ?_)
      refine t_Tr_keep_47 o3 rfl no (Nat.le_of_ble_eq_true rfl) (c_contains n3 ?_)
      rw [sIn_nI (by omega), decide_eq_true (show fi + k < 32768 by omega), Bool.true_and]
      refine t_Tr_keep_56 (fun g => ?_) (fun g => ?_)
      · have hpos : 0 < H (fi + k) := by
          by_cases e : 0 < H (fi + k)
          · exact e
          · rw [b2i_f (show ¬ hs H (fi + k) = true by unfold hs; simp [e])] at g
            exact absurd rfl g
        refine go w3 pm3 _ f3 o3 n3 ?_ c3 hs2 hk3
        have eH : hU H fi (k + 1) (r 1 + 1) = hU H fi k (r 1 + 1) := by
          funext x
          unfold hU
          by_cases e0 : 0 < H x
          · rw [if_pos e0, if_pos e0]
          · rw [if_neg e0, if_neg e0]
            have : x ≠ fi + k := fun e => e0 (by rw [e]; exact hpos)
            by_cases e1 : fi ≤ x ∧ x < fi + k
            · rw [if_pos e1, if_pos (by omega)]
            · rw [if_neg e1, if_neg (by omega)]
        have eV : vU V H fi (k + 1) val = vU V H fi k val := by
          funext x
          unfold vU
          by_cases e0 : 0 < H x
          · rw [if_pos e0, if_pos e0]
          · rw [if_neg e0, if_neg e0]
            have : x ≠ fi + k := fun e => e0 (by rw [e]; exact hpos)
            by_cases e1 : fi ≤ x ∧ x < fi + k
            · rw [if_pos e1, if_pos (by omega)]
            · rw [if_neg e1, if_neg (by omega)]
        rw [eH, eV]
        exact p3
      · have hz0 : H (fi + k) = 0 := by
          by_cases e : 0 < H (fi + k)
          · rw [b2i_t (show hs H (fi + k) = true from decide_eq_true e)] at g
            exact absurd g (by decide)
          · omega
        refine t_Tr_keep_59 o3 (Nat.le_of_ble_eq_true rfl) (c_pageM hc o3 p3 (show fi + k < 32768 by omega) (fun w4 pm4 f4 p4 hp4 hmo hcn => ?_))
        rw [show nc + 1 + 3 * (cnt pm3 32 - cnt pm 32) + 3 * (cnt pm4 32 - cnt pm3 32) = nc + 1 + 3 * (cnt pm4 32 - cnt pm 32) by omega, show ns + 9 + 2050 * (cnt pm3 32 - cnt pm 32) + 2050 * (cnt pm4 32 - cnt pm3 32) = ns + 9 + 2050 * (cnt pm4 32 - cnt pm 32) by omega]
        have d4 := deR_f (w' := w4) hs2 (fun x hx => f4 x (Or.inl (by rcases hx with e | e | e <;> rw [e] <;> first | (unfold tN; omega) | omega)))
        have d4' := d4
        obtain ⟨_, pl, tb, _, X, dw, _⟩ := d4'
        have p4' := p4
        obtain ⟨⟨f, g1, g2⟩, g3, g4, g5⟩ := p4'
        obtain ⟨q1, fv, fq, q2, q3, q4⟩ := g4 ((fi + k) / 1024) (by omega) hp4
        have er := rem1024 (n := fi + k) (by omega)
        have hsv : s.2.2.2 = val k := hs4
        refine t_Tr_keep_65 rfl q1 rfl dw rfl q2 (by rw [er]; exact vp_in_nI (by omega) (by omega)) (by unfold tV; omega) (es_w (fun w5 e5 f5 => ?_))
        rw [er, nI_clamp (by omega), hsv] at e5
        refine t_Tr_keep_83 (wo_f q1 (f5 _ (by unfold tK tV; omega))) rfl (wb_f q3 (f5 _ (by unfold tQ tV; omega))) (by rw [er]; exact vp_in_nI (by omega) (by omega)) (es_w (fun w6 e6 f6 => ?_))
        rw [er, nI_clamp (by omega), show (Int32.toInt8 (nI (r 1))).toInt32 = nI (r 1) from nB_nI (show r 1 < 128 by omega)] at e6
        generalize hkk : (fi + k) / 1024 = kk at *
        generalize hii : (fi + k) % 1024 = ii at *
        have hki : fi + k = 1024 * kk + ii := by omega
        have fW : ∀ v, v ≠ tV c kk → v ≠ tQ c kk → w6 v = w4 v := fun v a b => (f6 v b).trans (f5 v a)
        have fAll : ∀ v, v % 16 ≠ 4 + c → v ≠ tN nc → w6 v = w v := fun v v1 v2 => by
          rw [fW v (by rintro rfl; exact v1 (by unfold tV; omega)) (by rintro rfl; exact v1 (by unfold tQ; omega)), f4 v (Or.inl v1)]
          exact f3 v v1 v2
        refine go w6 pm4 _ fAll (wo_f o3 ?_) (nsR_f n3 ?_ ?_) ⟨⟨f, wr_f g1 (fW _ (by unfold tP tV; omega) (by unfold tP tQ; omega)), g2⟩, fun j hj hpj => ?_, fun j hj hpj => ?_, fun x hx1 hx2 => ?_⟩ (by omega) (deR_f d4 (fun x hx => fW x ?_ ?_)) (wk_12 hk (fAll 1 (by omega) (by unfold tN; omega)) (fAll 2 (by omega) (by unfold tN; omega)))
        · rw [fW _ (by unfold tO tV; omega) (by unfold tO tQ; omega), f4 _ (Or.inr (Or.inl rfl))]
        · rw [fW _ (by unfold tH tV; omega) (by unfold tH tQ; omega), f4 _ (Or.inr (Or.inr (Or.inl rfl)))]
        · rw [fW _ (by unfold tB tV; omega) (by unfold tB tQ; omega), f4 _ (Or.inr (Or.inr (Or.inr rfl)))]
        · have ej : j ≠ kk := fun e => by rw [e, hp4] at hpj; cases hpj
          rw [fW _ (by unfold tK tV; omega) (by unfold tK tQ; omega), fW _ (by unfold tV; omega) (by unfold tV tQ; omega), fW _ (by unfold tQ tV; omega) (by unfold tQ; omega)]
          exact g3 j hj hpj
        · by_cases ej : j = kk
          · subst ej
            refine ⟨wo_f q1 (fW _ (by unfold tK tV; omega) (by unfold tK tQ; omega)), upd fv ii (val k), upd fq ii (nI (r 1)), (f6 _ (by unfold tV tQ; omega)).trans e5, ⟨by unfold tQ; omega, e6⟩, fun i hi hH => ?_⟩
            by_cases e : i = ii
            · subst e
              rw [pk_us, pk_us, ← hki]
              unfold vU hU
              rw [if_neg (show ¬ 0 < H (fi + k) by omega), if_neg (show ¬ 0 < H (fi + k) by omega), if_pos (show fi ≤ fi + k ∧ fi + k < fi + (k + 1) by omega), if_pos (show fi ≤ fi + k ∧ fi + k < fi + (k + 1) by omega), show fi + k - fi = k by omega]
              exact ⟨rfl, by rw [show r 1 + 1 - 1 = r 1 by omega]⟩
            · rw [pk_un e, pk_un e]
              have eH : hU H fi (k + 1) (r 1 + 1) (1024 * j + i) = hU H fi k (r 1 + 1) (1024 * j + i) := by
                unfold hU
                by_cases e0 : 0 < H (1024 * j + i)
                · rw [if_pos e0, if_pos e0]
                · rw [if_neg e0, if_neg e0]
                  by_cases e1 : fi ≤ 1024 * j + i ∧ 1024 * j + i < fi + k
                  · rw [if_pos e1, if_pos (by omega)]
                  · rw [if_neg e1, if_neg (by omega)]
              have eV : vU V H fi (k + 1) val (1024 * j + i) = vU V H fi k val (1024 * j + i) := by
                unfold vU
                by_cases e0 : 0 < H (1024 * j + i)
                · rw [if_pos e0, if_pos e0]
                · rw [if_neg e0, if_neg e0]
                  by_cases e1 : fi ≤ 1024 * j + i ∧ 1024 * j + i < fi + k
                  · rw [if_pos e1, if_pos (by omega)]
                  · rw [if_neg e1, if_neg (by omega)]
              rw [eH] at hH ⊢
              rw [eV]
              exact q4 i hi hH
          · obtain ⟨z1, fv', fq', z2, z3, z4⟩ := g4 j hj hpj
            refine ⟨wo_f z1 (fW _ (by unfold tK tV; omega) (by unfold tK tQ; omega)), fv', fq', wi_f z2 (fW _ (by unfold tV; omega) (by unfold tV tQ; omega)), wb_f z3 (fW _ (by unfold tQ tV; omega) (by unfold tQ; omega)), fun i hi hH => ?_⟩
            have eH : hU H fi (k + 1) (r 1 + 1) (1024 * j + i) = hU H fi k (r 1 + 1) (1024 * j + i) := by
              unfold hU
              by_cases e0 : 0 < H (1024 * j + i)
              · rw [if_pos e0, if_pos e0]
              · rw [if_neg e0, if_neg e0]
                by_cases e1 : fi ≤ 1024 * j + i ∧ 1024 * j + i < fi + k
                · rw [if_pos e1, if_pos (by omega)]
                · rw [if_neg e1, if_neg (by omega)]
            have eV : vU V H fi (k + 1) val (1024 * j + i) = vU V H fi k val (1024 * j + i) := by
              unfold vU
              by_cases e0 : 0 < H (1024 * j + i)
              · rw [if_pos e0, if_pos e0]
              · rw [if_neg e0, if_neg e0]
                by_cases e1 : fi ≤ 1024 * j + i ∧ 1024 * j + i < fi + k
                · rw [if_pos e1, if_pos (by omega)]
                · rw [if_neg e1, if_neg (by omega)]
            rw [eH] at hH ⊢
            rw [eV]
            exact z4 i hi hH
        · by_cases e : x = fi + k
          · subst e
            rw [hkk]
            refine ⟨hp4, ?_⟩
            unfold hU
            rw [if_neg (by omega), if_pos (by omega)]
            omega
          · have eH : hU H fi (k + 1) (r 1 + 1) x = hU H fi k (r 1 + 1) x := by
              unfold hU
              by_cases e0 : 0 < H x
              · rw [if_pos e0, if_pos e0]
              · rw [if_neg e0, if_neg e0]
                by_cases e1 : fi ≤ x ∧ x < fi + k
                · rw [if_pos e1, if_pos (by omega)]
                · rw [if_neg e1, if_neg (by omega)]
            rw [eH] at hx2 ⊢
            exact g5 x hx1 hx2
        · rcases hx with e | e | e <;> rw [e] <;> unfold tV <;> first | (unfold tN; omega) | omega
        · rcases hx with e | e | e <;> rw [e] <;> unfold tQ <;> first | (unfold tN; omega) | omega
  have tr2 := trR_f h (fun v hv => fT v (by simp; unfold tN; omega))
  have e0H : hU H fi 0 (r 1 + 1) = H := by
    funext x
    unfold hU
    by_cases e0 : 0 < H x
    · rw [if_pos e0]
    · rw [if_neg e0, if_neg (by omega)]; omega
  have e0V : vU V H fi 0 val = V := by
    funext x
    unfold vU
    by_cases e0 : 0 < H x
    · rw [if_pos e0]
    · rw [if_neg e0, if_neg (by omega)]
  have := key n 0 (by omega) w2 pm none (fun v v1 v2 => fT v (by simp [v2])) tr2.2.1 tr2.2.2.1 (by rw [e0H, e0V]; exact tr2.2.2.2) (Nat.le_refl _) (fun _ => ⟨_, rfl, d2⟩)
  rw [Nat.sub_self] at this
  exact this
theorem c_Tr_init {v0 v2 : Value} (hc : c < 4) (h : wo w (tO c) 6 [v0, .int 0, v2]) (h1 : w (tH c) = none) (h2 : w (tB c) = none) (h3 : w (tP c) = none) (h4 : ∀ k, k < 32 → w (tK c k) = none ∧ w (tV c k) = none ∧ w (tQ c k) = none)
    (hq : ∀ w', frR (4 + c) w w' → trR w' c V (fun _ => 0) 0 (fun _ => false) → Q (.inl none) w' (nc + 3) (ns + 1058)) :
    Ev (d + 2) m_Tr_init 0 [some (.ref (tO c))] [] w nc ns Q := by
  refine t_Tr_init_0 (Nat.le_of_ble_eq_true rfl) ?_
  refine t_Tr_init_4 rfl (tH c) (by unfold tH; omega) h1 (es_w (fun w1 e1 f1 => ?_))
  refine t_Tr_init_8 (Nat.le_of_ble_eq_true rfl) (c_Ns_init (tB c) ⟨by unfold tH; omega, e1⟩ (by unfold tB; omega) (by rw [f1 _ (by unfold tH tB; omega)]; exact h2) (fun w2 f2 n2 => ?_))
  have e2 : ∀ v, v ≠ tH c → v ≠ tB c → w2 v = w v := fun v a b => (f2 v (by simp [a, b])).trans (f1 v a)
  refine t_Tr_init_12 rfl (wo_f h (e2 _ (by unfold tO tH; omega) (by unfold tO tB; omega))) (Nat.le_of_ble_eq_true rfl) (qk_fitL _ _) (es_w (fun w3 e3 f3 => ?_))
  refine t_Tr_init_15 rfl (tP c) (by unfold tP; omega) (by rw [f3 _ (by unfold tP tO; omega), e2 _ (by unfold tP tH; omega) (by unfold tP tB; omega)]; exact h3) (es_w (fun w4 e4 f4 => ?_))
  refine t_Tr_init_21 rfl ⟨by unfold tO; omega, (f4 _ (by unfold tO tP; omega)).trans e3⟩ (Nat.le_of_ble_eq_true rfl) (qk_fitA _ _) (es_w (fun w5 e5 f5 => t_Tr_init_24 ?_))
  have eE : ∀ v, v ≠ tO c → v ≠ tP c → w5 v = w2 v := fun v a b => by rw [f5 v a, f4 v b, f3 v a]
  have hs0 : hs (fun _ => 0) = fun _ => false := by funext x; rfl
  refine hq w5 (fun v hv => ?_) ⟨hc, ⟨by unfold tO; omega, e5⟩, ?_, ⟨⟨fun _ => none, ⟨by unfold tP; omega, (f5 _ (by unfold tP tO; omega)).trans e4⟩, fun k _ => rfl⟩, fun k a _ => ?_, fun k _ b => (by cases b), fun x _ b => absurd (show 0 < 0 from b) (Nat.lt_irrefl 0)⟩⟩
  · rw [eE v (by rintro rfl; exact hv (by unfold tO; omega)) (by rintro rfl; exact hv (by unfold tP; omega))]
    exact e2 v (by rintro rfl; exact hv (by unfold tH; omega)) (by rintro rfl; exact hv (by unfold tB; omega))
  · rw [hs0]
    exact nsR_f n2 (eE _ (by unfold tH tO; omega) (by unfold tH tP; omega)) (eE _ (by unfold tB tO; omega) (by unfold tB tP; omega))
  · rw [eE _ (by unfold tK tO; omega) (by unfold tK tP; omega), eE _ (by unfold tV tO; omega) (by unfold tV tP; omega), eE _ (by unfold tQ tO; omega) (by unfold tQ tP; omega), e2 _ (by unfold tK tH; omega) (by unfold tK tB; omega), e2 _ (by unfold tV tH; omega) (by unfold tV tB; omega), e2 _ (by unfold tQ tH; omega) (by unfold tQ tB; omega)]
    exact h4 k a
end Tr2
