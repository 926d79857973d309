/-! ===== the reference: what it sends ===== -/
theorem sub1 {a : Nat} (h : 1 ≤ a) : nI a - 1 = nI (a - 1) := pk_sub (b := 1) h
/-- the stream behind b blocks of a packet with n samples -/
def gB (S : Nat → Int32) (fi n b : Nat) : Strm := if 15 * b ≤ n - 1 then eN S fi b else eF S fi n
theorem gB_end {S : Nat → Int32} {fi n b : Nat} (h : n - 1 ≤ 15 * b) : gB S fi n b = eF S fi n := by
  unfold gB
  split
  · unfold eF
    rw [if_pos (by omega), show (n - 1) / 15 = b by omega]
  · rfl
theorem gB_step {S : Nat → Int32} {fi n b : Nat} (h : 15 * b < n - 1) : gB S fi n (b + 1) = eB S fi (eN S fi b) (15 * b + 1) (min 15 (n - 1 - 15 * b)) := by
  unfold gB
  split
  · rw [show min 15 (n - 1 - 15 * b) = 15 by omega]; rfl
  · unfold eF
    rw [if_neg (by omega), show (n - 1) / 15 = b by omega, show min 15 (n - 1 - 15 * b) = (n - 1) % 15 by omega]
theorem gB_eq {S : Nat → Int32} {fi n b : Nat} (h : 15 * b < n - 1) : gB S fi n b = eN S fi b := by
  unfold gB
  rw [if_pos (by omega)]
theorem gB_le {S : Nat → Int32} {fi n : Nat} : ∀ u b, n - 1 ≤ 15 * (b + u) → (gB S fi n b).1 ≤ (eF S fi n).1
  | 0, b, h => by rw [gB_end (by omega)]; exact Nat.le_refl _
  | u + 1, b, h => by
    rcases Nat.lt_or_ge (15 * b) (n - 1) with e | e
    · refine Nat.le_trans ?_ (gB_le u (b + 1) (by omega))
      rw [gB_step e, gB_eq e, eB_1]
      omega
    · rw [gB_end e]; exact Nat.le_refl _
section Mo15
variable {d : Nat} {w : qk_W} {nc ns : Nat} {Q : Option Value ⊕ Nat → qk_W → Nat → Nat → Prop} {s : Nat → Int32} {l : Nat → Int64} {X : Nat → Chs} {np pc : Nat} {R : Nat → Nat → Nat} {L : Nat → Nat} {T : Nat → Bool} {sl : Nat}
/-- while a row is written: A is what stands in it -/
def wrS (w0 : qk_W) (s0 : Nat → Int32) (l : Nat → Int64) (R0 : Nat → Nat → Nat) (T : Nat → Bool) (j : Nat) (w : qk_W) (A : Strm) : Prop :=
  (∀ v, v ≠ 25 → v ≠ mA 14 → v ≠ mA 16 → w v = w0 v) ∧ (∃ s, moO w s l ∧ s 24 = nI j ∧ s 25 = nI A.1 ∧ ∀ k, k ≠ 24 → k ≠ 25 → s k = s0 k) ∧
  (∃ R, arR w R ∧ (∀ i, i ≠ j → R i = R0 i) ∧ ∀ p, p < 4096 → rbit (R j) p = A.2 p) ∧ sOK A ∧ thR w (fu T j false)
theorem c_mputW {w0 : qk_W} {s0 : Nat → Int32} {j n : Nat} {x : Int32} {A : Strm} (h : wrS w0 s0 l R T j w A) (hj : j < 64) (hn : n ≤ 32) (hb : A.1 + n ≤ 4096) (hq : ∀ w', wrS w0 s0 l R T j w' (app A (vN x) n) → Q (.inl none) w' nc ns) :
    Ev d m_Mo_put 0 [some (.ref 25), some (.int x), some (.int (nI n)), none, none] [] w nc ns Q := by
  obtain ⟨h1, ⟨s1, o1, s24, s25, hs⟩, ⟨R1, a1, hR, hbit⟩, hok, hT⟩ := h
  refine c_mputS o1 s24 s25 a1 hbit hok hj hn hb (fun w2 R2 g2 o2 a2 hR2 hb2 => hq w2 ⟨fun v v1 v2 v3 => by rw [g2 v v1 v2]; exact h1 v v1 v2 v3, ⟨_, o2, ?_, fu_s _ _ _, fun k k1 k2 => by rw [fu_n _ _ k2]; exact hs k k1 k2⟩, ⟨R2, a2, fun i hi => by rw [hR2 i hi]; exact hR i hi, hb2⟩, app_ok hok _ _, thR_f hT (g2 _ (mA_25 (by omega)) (mA_ne (by omega)))⟩)
  rw [fu_n _ _ (by omega)]
  exact s24
theorem c_mbeginW (ho : moO w s l) (ha : maR w s sl R L T) (hq : ∀ w', wrS w s l R T (sl % 64) w' (0, fun _ => false) → Q (.inl none) w' nc ns) : Ev d m_Mo_begin 0 [some (.ref 25), none] [] w nc ns Q := by
  obtain ⟨h17, hsl, har, hln, hth, hK⟩ := ha
  refine c_mbegin ho h17 hsl har hth (fun w2 R2 g2 o2 a2 hR2 hb2 t2 => hq w2 ⟨g2, ⟨_, o2, ?_, fu_s _ _ _, fun k k1 k2 => by rw [fu_n _ _ k2, fu_n _ _ k1]⟩, ⟨R2, a2, hR2, hb2⟩, fun p _ => rfl, t2⟩)
  rw [fu_n _ _ (by omega), fu_s]
theorem c_mendW {w0 : qk_W} {s0 : Nat → Int32} {A : Strm} (h : wrS w0 s0 l R T (sl % 64) w A) (ha : maR w0 s0 sl R L T) (hsl : sl + 1 < 2 ^ 30) (hA : A.1 ≤ 4064) (hA2 : 96 ≤ A.1)
    (hq : ∀ w' R' s', (∀ v, v ≠ 25 → v ≠ mA 14 → v ≠ mA 15 → v ≠ mA 16 → w' v = w0 v) → moO w' s' l → (∀ k, k ≠ 17 → k ≠ 24 → k ≠ 25 → s' k = s0 k) → maR w' s' (sl + 1) R' (fu L (sl % 64) ((A.1 + 7) / 8 + 4)) (fu T (sl % 64) false) → (∀ i, i ≠ sl % 64 → R' i = R i) → (∀ p, p < 8 * ((A.1 + 7) / 8) → rbit (R' (sl % 64)) p = A.2 p) → getN (R' (sl % 64)) (8 * ((A.1 + 7) / 8)) 32 = vN (crcV (R' (sl % 64)) ((A.1 + 7) / 8)) → Q (.inl (some (.int (nI sl)))) w' nc ns) :
    Ev (d + 1) m_Mo_end 0 [some (.ref 25)] [] w nc ns Q := by
  obtain ⟨h1, ⟨s1, o1, s24, s25, hs⟩, ⟨R1, a1, hR, hbit⟩, hok, hT⟩ := h
  obtain ⟨h17, _, har, hln, hth, hK⟩ := ha
  have hj : sl % 64 < 64 := Nat.mod_lt _ (by omega)
  refine c_mend (sl := sl) o1 s24 s25 (by rw [hs 17 (by omega) (by omega)]; exact h17) (by omega) a1 (lnR_f hln (h1 _ (mA_25 (by omega)) (mA_ne (by omega)) (mA_ne (by omega)))) hbit hok hj hA (fun w2 R2 s2 g2 o2 s217 hs2 a2 hR2 hb2 l2 => ?_)
  have lo : ∀ p, p < 8 * ((A.1 + 7) / 8) → rbit (R2 (sl % 64)) p = A.2 p := by
    intro p hp
    rw [hb2 p (by omega), app_at (Or.inr hp)]
    rfl
  have hby : ∀ k, k < (A.1 + 7) / 8 → R1 (sl % 64) k = R2 (sl % 64) k := by
    obtain ⟨_, _, _, r1⟩ := a1
    obtain ⟨_, _, _, r2⟩ := a2
    refine byt_eq (r1 _) (r2 _) (fun p hp => ?_)
    rw [hbit p (by omega), lo p hp]
  refine hq w2 R2 s2 (fun v v1 v2 v3 v4 => by rw [g2 v v1 v2 v3]; exact h1 v v1 v2 v4) o2 (fun k k1 k2 k3 => by rw [hs2 k k1 k3]; exact hs k k2 k3) ⟨s217, by omega, a2, l2, thR_f hT (g2 _ (mA_25 (by omega)) (mA_ne (by omega)) (mA_ne (by omega))), ?_⟩ (fun i hi => by rw [hR2 i hi]; exact hR i hi) lo ?_
  · intro j' hj' hs'
    by_cases e : j' = sl % 64
    · rw [e, fu_s]; omega
    · rw [fu_n _ _ e]
      exact hK j' hj' (by omega)
  · unfold crcV
    rw [← crc_congr hby]
    refine getN_is (vN_lt _) (fun i hi => ?_)
    rw [hb2 _ (by omega)]
    exact app_in (st := pad A) hi
/-- the row holds the head H and then the stream -/
theorem c_mmsend {c t : Nat} (h : msR w s l X np pc) (hI : chI (xS (X c)) (xT (X c)) (xC (X c)) (xF (X c)) (xQ (X c)) (xU (X c))) (ha : maR w s sl R L T) (hsl : sl + 1 < 2 ^ 30) (hc : c < 4) (ht : t < xC (X c)) (hnp : np ≤ 4096)
    (hq : ∀ w' R' s', (∀ v, v ≠ 25 → v ≠ mA 14 → v ≠ mA 15 → v ≠ mA 16 → w' v = w v) → moO w' s' l → (∀ k, k ≠ 17 → k ≠ 24 → k ≠ 25 → s' k = s k) → maR w' s' (sl + 1) R' (fu L (sl % 64) (szP (xS (X c)) (xF (X c) t) (xF (X c) (t + 1) - xF (X c) t))) (fu T (sl % 64) false) → (∀ i, i ≠ sl % 64 → R' i = R i) → rowM (R' (sl % 64)) c (xS (X c)) (xF (X c) t) (xF (X c) (t + 1) - xF (X c) t) (xQ (X c) t) (xF (X c) (xC (X c) - 32)) → Q (.inl (some (.int (nI sl)))) w' nc ns) :
    Ev (d + 2) m_Mo_send 0 [some (.ref 25), some (.int (nI (xO (X c) t))), none, none, none, none, none, none, none] [] w nc ns Q := by
  obtain ⟨ho, h11, h5, hsm, ⟨f4, hmc, h4⟩, hpl⟩ := id h
  obtain ⟨f1, w1, hf1⟩ := hsm
  obtain ⟨f6, f7, f8, f9, f10, w6, w7, w8, w9, w10, hP⟩ := id hpl
  obtain ⟨p1, p2, p3, p4, p5, p6⟩ := hP.1 c hc t ht
  obtain ⟨i1, i2, i3, i4, i5, i6, i7⟩ := id hI
  obtain ⟨j1, j2, j3, j4⟩ := i2 t ht
  have m1 := chI_mono hI (xC (X c)) (Nat.le_refl _) (t + 1) (by omega)
  have m2 := chI_mono hI (xC (X c)) (Nat.le_refl _) (xC (X c) - 32) (by omega)
  have hj : sl % 64 < 64 := Nat.mod_lt _ (by omega)
  have pin : vp_in (nI (xO (X c) t)) 4096 := vp_in_nI (by omega) (by omega)
  have pcl : (nI (xO (X c) t)).toNatClampNeg = xO (X c) t := nI_clamp (by omega)
  generalize hfi : xF (X c) t = fi at *
  generalize hn : xF (X c) (t + 1) - fi = n at *
  generalize hold : xF (X c) (xC (X c) - 32) = old at *
  generalize hS : xS (X c) = S at *
  have hn1 : 1 ≤ n := by omega
  have hfn : fi + n ≤ xT (X c) := by omega
  have hF1 : (eF S fi n).1 ≤ 4064 := by unfold szP at j3; omega
  have hF2 := eF_ge S fi n
  refine t_Mo_send_0 ho rfl w6 pin rfl w7 pin rfl w8 pin (Nat.le_of_ble_eq_true rfl) (c_mbeginW ho ha (fun w2 k2 => ?_))
  rw [pcl, p2, p3, p4]
  have fA : ∀ {w3 A a}, wrS w s l R T (sl % 64) w3 A → 0 < a → a ≠ 14 → a ≠ 16 → w3 (mA a) = w (mA a) := fun {w3 A a} k h0 h1 h2 => k.1 _ (mA_25 h0) (mA_ne h1) (mA_ne h2)
  obtain ⟨s2, o2, _⟩ := id k2.2.1
  refine t_Mo_send_26 o2 (Nat.le_of_ble_eq_true rfl) (c_mputW (n := 8) k2 hj (by omega) (by show 0 + 8 ≤ 4096; omega) (fun w3 k3 => ?_))
  rw [vN_nI (by omega)] at k3
  obtain ⟨s3, o3, _⟩ := id k3.2.1
  refine t_Mo_send_33 o3 rfl (wi_f w9 (fA k3 (by omega) (by omega) (by omega))) pin (Nat.le_of_ble_eq_true rfl) ?_
  rw [pcl, p5]
  refine c_mputW (n := 8) k3 hj (by omega) (by show 0 + 8 + 8 ≤ 4096; omega) (fun w4 k4 => ?_)
  rw [vN_nI (by omega)] at k4
  obtain ⟨s4, o4, _⟩ := id k4.2.1
  refine t_Mo_send_45 o4 (Nat.le_of_ble_eq_true rfl) (c_mputW (n := 16) k4 hj (by omega) (by show 0 + 8 + 8 + 16 ≤ 4096; omega) (fun w5 k5 => ?_))
  rw [vN_nI (by omega)] at k5
  obtain ⟨s5, o5, _, _, hs5⟩ := id k5.2.1
  refine t_Mo_send_53 o5 (Nat.le_of_ble_eq_true rfl) (c_moldest o5 (by rw [hs5 11 (by omega) (by omega)]; exact h11) (plR_f hpl (fun k a b => fA k5 (by omega) (by omega) (by omega))) hc hnp i1 ?_)
  rw [hold]
  refine t_Mo_send_59 o5 (Nat.le_of_ble_eq_true rfl) (c_mputW (n := 32) k5 hj (by omega) (by show 0 + 8 + 8 + 16 + 32 ≤ 4096; omega) (fun w6' k6 => ?_))
  rw [vN_nI (by omega)] at k6
  obtain ⟨s6, o6, _⟩ := id k6.2.1
  refine t_Mo_send_64 o6 (Nat.le_of_ble_eq_true rfl) (c_mputW (n := 32) k6 hj (by omega) (by show 0 + 8 + 8 + 16 + 32 + 32 ≤ 4096; omega) (fun w7' k7 => ?_))
  rw [vN_nI (by omega)] at k7
  obtain ⟨s7, o7, _⟩ := id k7.2.1
  refine t_Mo_send_71 o7 rfl (wi_f w1 (fA k7 (by omega) (by omega) (by omega))) (by rw [ix_nI]; exact vp_in_nI (by omega) (by omega)) (Nat.le_of_ble_eq_true rfl) ?_
  rw [ix_nI, nI_clamp (by omega), hf1 c hc fi (by omega), hS]
  refine c_mputW (n := 32) k7 hj (by omega) (by show 0 + 8 + 8 + 16 + 32 + 32 + 32 ≤ 4096; omega) (fun w8' k8 => ?_)
  obtain ⟨s8, o8, _⟩ := id k8.2.1
  have ei : nI c * 32768 + nI fi + nI n - 1 = nI (32768 * c + (fi + n - 1)) := by
    rw [ix_nI, nI_add, sub1 (by omega)]
    exact congrArg nI (by omega)
  refine t_Mo_send_88 o8 rfl (wi_f w1 (fA k8 (by omega) (by omega) (by omega))) (by rw [ei]; exact vp_in_nI (by omega) (by omega)) (Nat.le_of_ble_eq_true rfl) ?_
  rw [ei, nI_clamp (by omega), hf1 c hc (fi + n - 1) (by omega), hS]
  refine c_mputW (n := 32) k8 hj (by omega) (by show 0 + 8 + 8 + 16 + 32 + 32 + 32 + 32 ≤ 4096; omega) (fun w9' k9 => t_Mo_send_110 rfl ?_)
  have kH : wrS w s l R T (sl % 64) w9' (hdS c (xQ (X c) t) n old fi (vN (S fi)) (vN (S (fi + n - 1)))) := k9
  generalize hHH : hdS c (xQ (X c) t) n old fi (vN (S fi)) (vN (S (fi + n - 1))) = H at kH
  have hH1 : H.1 = 160 := by rw [← hHH]; rfl
  have smw : ∀ {w3 A}, wrS w s l R T (sl % 64) w3 A → smR w3 c S fi n := fun {w3 A} k => ⟨f1, wi_f w1 (fA k (by omega) (by omega) (by omega)), fun i a b => by rw [hf1 c hc i (by omega), hS]⟩
  -- the end
  have fin : ∀ (w3 : qk_W) (A : Strm) (o5 o6 o7 o8 : Option Value), wrS w s l R T (sl % 64) w3 A → sAg H.2 A (eF S fi n) → Ev (d + 2) m_Mo_send 205 [some (.ref 25), some (.int (nI (xO (X c) t))), some (.int (nI c)), some (.int (nI fi)), some (.int (nI n)), o5, o6, o7, o8] [] w3 nc ns Q := by
    intro w3 A o5 o6 o7 o8 k ag
    obtain ⟨g1, g2, g3, g4⟩ := ag
    obtain ⟨s3, o3, _⟩ := id k.2.1
    refine t_Mo_send_205 o3 (Nat.le_of_ble_eq_true rfl) (c_mendW k ha hsl (by omega) (by omega) (fun w4 R4 s4 e4 o4 hs4 m4 hR4 lo4 ck4 => t_Mo_send_209 ?_))
    have hz : szP S fi n = (A.1 + 7) / 8 + 4 := by unfold szP; omega
    have hz4 : szP S fi n - 4 = (A.1 + 7) / 8 := by omega
    rw [← hz] at m4
    refine hq w4 R4 s4 e4 o4 hs4 m4 hR4 ?_
    have hb := hdS_bits c (xQ (X c) t) n old fi (vN (S fi)) (vN (S (fi + n - 1)))
    rw [hHH] at hb
    have gH : ∀ p, p < 160 → rbit (R4 (sl % 64)) p = H.2 p := fun p hp => by rw [lo4 p (by omega), g4 p hp]
    obtain ⟨b1, b2, b3, b4, b5, b6, b7⟩ := hb
    refine ⟨getN_is (by omega) (fun i hi => ?_), getN_is (by omega) (fun i hi => ?_), getN_is (by omega) (fun i hi => ?_), getN_is (by omega) (fun i hi => ?_), getN_is (by omega) (fun i hi => ?_), getN_is (vN_lt _) (fun i hi => ?_), getN_is (vN_lt _) (fun i hi => ?_), fun p p1 p2 => ?_, ?_⟩
    · rw [gH _ (by omega)]; exact b1 i hi
    · rw [gH _ (by omega)]; exact b2 i hi
    · rw [gH _ (by omega)]; exact b3 i hi
    · rw [gH _ (by omega)]; exact b4 i hi
    · rw [gH _ (by omega)]; exact b5 i hi
    · rw [gH _ (by omega)]; exact b6 i hi
    · rw [gH _ (by omega)]; exact b7 i hi
    · rw [hz4] at p2
      rw [lo4 p p2, g3 p p1]
    · rw [hz4]; exact ck4
  -- the blocks
  have blk : ∀ u b, n - 1 ≤ 15 * (b + u) → ∀ (w3 : qk_W) (A : Strm) (o6 o7 o8 : Option Value), wrS w s l R T (sl % 64) w3 A → sAg H.2 A (gB S fi n b) → 15 * b ≤ n + 15 → Ev (d + 2) m_Mo_send 113 [some (.ref 25), some (.int (nI (xO (X c) t))), some (.int (nI c)), some (.int (nI fi)), some (.int (nI n)), some (.int (nI (15 * b + 1))), o6, o7, o8] [] w3 nc ns Q := by
    intro u
    induction u with
    | zero =>
      intro b hb w3 A o6 o7 o8 k ag hbn
      refine t_Mo_send_113 (fun _ => ?_) (fun g => absurd (nI_le (by omega) (by omega)) g)
      rw [gB_end (by omega)] at ag
      exact fin w3 A _ _ _ _ k ag
    | succ u ih =>
      intro b hb w3 A o6 o7 o8 k ag hbn
      refine t_Mo_send_113 (fun g => ?_) (fun g => ?_)
      · have := (nI_leI (by omega) (by omega)).mp g
        rw [gB_end (by omega)] at ag
        exact fin w3 A _ _ _ _ k ag
      · have hlt : 15 * b + 1 < n := Nat.lt_of_not_le (fun e => g (nI_le e (by omega)))
        have hle := gB_le (S := S) (fi := fi) (n := n) u (b + 1) (by omega)
        have hst := gB_step (S := S) (fi := fi) (n := n) (b := b) (by omega)
        rw [gB_eq (by omega)] at ag
        have hm : min 15 (n - 1 - 15 * b) ≤ 15 ∧ 1 ≤ min 15 (n - 1 - 15 * b) ∧ 15 * b + 1 + min 15 (n - 1 - 15 * b) ≤ n := by omega
        have hmm : min 15 (n - 1 - 15 * b) = if n - 1 ≤ 15 * b + 15 then n - 1 - 15 * b else 15 := by split <;> omega
        generalize hmg : min 15 (n - 1 - 15 * b) = m at hst hm hmm
        rw [hst, eB_1] at hle
        -- behind the code's choice
        have aft : ∀ (o7 o8 : Option Value), Ev (d + 2) m_Mo_send 156 [some (.ref 25), some (.int (nI (xO (X c) t))), some (.int (nI c)), some (.int (nI fi)), some (.int (nI n)), some (.int (nI (15 * b + 1))), some (.int (nI (15 * b + 1 + m - 1))), o7, o8] [.int (nI (cod S fi (15 * b + 1) m))] w3 nc ns Q := by
          intro o7 o8
          have hcd := cod_le S fi (15 * b + 1) m
          obtain ⟨s3, o3, _⟩ := id k.2.1
          have hA1 : A.1 = (eN S fi b).1 := ag.1
          refine t_Mo_send_156 rfl o3 (Nat.le_of_ble_eq_true rfl) (c_mputW (n := 4) k hj (by omega) (by omega) (fun w4 k4 => t_Mo_send_165 rfl ?_))
          rw [vN_nI (by omega)] at k4
          have ag4 := sAg_app ag (cod S fi (15 * b + 1) m) 4
          have inner : ∀ r q, q + r = m → ∀ (w5 : qk_W) (A5 : Strm), wrS w s l R T (sl % 64) w5 A5 → sAg H.2 A5 (eD (fun i => dif S fi (15 * b + 1 + i)) (wd (cod S fi (15 * b + 1) m)) (app (eN S fi b) (cod S fi (15 * b + 1) m) 4) q) → Ev (d + 2) m_Mo_send 169 [some (.ref 25), some (.int (nI (xO (X c) t))), some (.int (nI c)), some (.int (nI fi)), some (.int (nI n)), some (.int (nI (15 * b + 1))), some (.int (nI (15 * b + 1 + m - 1))), some (.int (nI (cod S fi (15 * b + 1) m))), some (.int (nI (15 * b + 1 + q)))] [] w5 nc ns Q := by
            intro r
            induction r with
            | zero =>
              intro q hqr w5 A5 k5 ag5
              refine t_Mo_send_169 (fun _ => t_Mo_send_199 rfl ?_) (fun g => absurd (nI_lt (by omega) (by omega)) g)
              have eq : q = m := by omega
              subst eq
              rw [show (15 : Int32) = nI 15 from rfl, nI_add, show 15 * b + 1 + 15 = 15 * (b + 1) + 1 by omega]
              exact ih (b + 1) (by omega) w5 A5 _ _ _ k5 (by rw [hst]; exact ag5) (by omega)
            | succ r ihr =>
              intro q hqr w5 A5 k5 ag5
              obtain ⟨s5, o5, _⟩ := id k5.2.1
              refine t_Mo_send_169 (fun g => absurd ((nI_ltI (by omega) (by omega)).mp g) (by omega)) (fun _ => ?_)
              refine t_Mo_send_176 o5 (Nat.le_of_ble_eq_true rfl) (c_mdiff o5 (smw k5) hc (by omega) (by omega) (by omega) (t_Mo_send_185 (Nat.le_of_ble_eq_true rfl) (c_widthOf hcd (t_Mo_send_190 o5 (Nat.le_of_ble_eq_true rfl) ?_))))
              have hwd := wd_le (cod S fi (15 * b + 1) m)
              have hA5 : A5.1 = (eN S fi b).1 + 4 + q * wd (cod S fi (15 * b + 1) m) := by rw [ag5.1, eD_1]; rfl
              have hmul : (q + 1) * wd (cod S fi (15 * b + 1) m) ≤ m * wd (cod S fi (15 * b + 1) m) := Nat.mul_le_mul_right _ (by omega)
              rw [Nat.add_mul, Nat.one_mul] at hmul
              refine c_mputW k5 hj hwd (by omega) (fun w6' k6 => t_Mo_send_193 rfl ?_)
              rw [nI_1]
              exact ihr (q + 1) (by omega) w6' _ k6 (sAg_app ag5 _ _)
          exact inner m 0 (by omega) w4 _ k4 ag4
        obtain ⟨s3, o3, _⟩ := id k.2.1
        refine t_Mo_send_120 (fun g2 => ?_) (fun g2 => ?_)
        · have g3 : n - 1 ≤ 15 * b + 1 + 14 := by
            rw [sub1 (by omega), show (14 : Int32) = nI 14 from rfl, nI_add] at g2
            exact (nI_leI (by omega) (by omega)).mp g2
          rw [if_pos (by omega)] at hmm
          have e1 : nI n - 1 = nI (15 * b + 1 + m - 1) := by rw [sub1 (by omega)]; exact congrArg nI (by omega)
          refine t_Mo_send_140 rfl o3 (Nat.le_of_ble_eq_true rfl) ?_
          rw [e1]
          exact c_mleast o3 (smw k) hc (by omega) (by omega) (by omega) (by omega) (aft _ _)
        · have g3 : ¬ n - 1 ≤ 15 * b + 1 + 14 := fun e => g2 (by rw [sub1 (by omega), show (14 : Int32) = nI 14 from rfl, nI_add]; exact nI_le e (by omega))
          rw [if_neg (by omega)] at hmm
          have e1 : nI (15 * b + 1) + 14 = nI (15 * b + 1 + m - 1) := by rw [show (14 : Int32) = nI 14 from rfl, nI_add]; exact congrArg nI (by omega)
          refine t_Mo_send_132 o3 (Nat.le_of_ble_eq_true rfl) ?_
          rw [e1]
          exact c_mleast o3 (smw k) hc (by omega) (by omega) (by omega) (by omega) (aft _ _)
  have hag : sAg H.2 H (gB S fi n 0) := by
    unfold gB
    rw [if_pos (by omega)]
    refine ⟨hH1, by omega, fun p hp => ?_, fun p _ => rfl⟩
    obtain ⟨_, _, _, hok, _⟩ := kH
    rw [hok p (by omega)]
    rfl
  exact blk n 0 (by omega) w9' H _ _ _ kH hag (by omega)
end Mo15
