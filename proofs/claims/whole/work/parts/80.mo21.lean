/-! ===== the reference: gaps, gap, ask ===== -/
theorem gst_stay {H : Nat → Nat} {k : Nat} (h : gst H k = 32768) : ∀ m, gst H (k + m) = 32768
  | 0 => h
  | m + 1 => by
    show (if gst H (k + m) < 32768 then _ else 32768) = 32768
    rw [gst_stay h m, if_neg (by omega)]
theorem gst_uniq {H : Nat → Nat} {n m : Nat} (h1 : ∀ i, i < n → gst H i < 32768) (h2 : gst H n = 32768) (g1 : ∀ i, i < m → gst H i < 32768) (g2 : gst H m = 32768) : n = m := by
  rcases Nat.lt_trichotomy n m with e | e | e
  · have := g1 n e; omega
  · exact e
  · have := h1 m e; omega
section Mo21
variable {d : Nat} {w : qk_W} {nc ns : Nat} {Q : Option Value ⊕ Nat → qk_W → Nat → Nat → Prop} {s : Nat → Int32} {l : Nat → Int64} {R : Nat → Nat → Nat} {L : Nat → Nat} {T : Nat → Bool} {sl : Nat} {Y : Nat → Trs}
theorem c_mthrown (ho : moO w s l) (hq : Q (.inl (some (.int (s 0)))) w nc ns) : Ev d m_Mo_thrown 0 [some (.ref 25)] [] w nc ns Q := t_Mo_thrown_0 ho rfl hq
theorem c_mgaps {x : Int32} (ho : moO w s l) (h : hvR w Y)
    (hq1 : ∀ c n, c < 4 → x = nI c → (∀ i, i < n → gst (yH (Y c)) i < 32768) → gst (yH (Y c)) n = 32768 → ∀ w' s', (∀ v, v ≠ 25 → w' v = w v) → moO w' s' l → s' 0 = 0 → (∀ k, 0 < k → k < 24 → s' k = s k) → Q (.inl (some (.int (nI n)))) w' nc ns)
    (hq0 : (∀ c, c < 4 → x ≠ nI c) → ∀ w', (∀ v, v ≠ 25 → w' v = w v) → moO w' (fu s 0 1) l → Q (.inl (some (.int 0))) w' nc ns) :
    Ev (d + 2) m_Mo_gaps 0 [some (.ref 25), some (.int x), none, none] [] w nc ns Q := by
  refine t_Mo_gaps_0 rfl (Nat.le_of_ble_eq_true rfl) (c_misCh (fun c hc e => ?_) (fun hn => ?_))
  · subst e
    refine t_Mo_gaps_5 (fun g => absurd g (by decide)) (fun _ => t_Mo_gaps_8 ho (Nat.le_of_ble_eq_true rfl) (es_w (fun w1 e1 g1 => ?_)))
    rw [moL_0] at e1
    have o1 : moO w1 (fu s 0 0) l := ⟨by decide, e1⟩
    refine t_Mo_gaps_16 o1 rfl (fun _ => ?_) (fun g => absurd (by rw [fu_s]; decide) g)
    have loop : ∀ m n, n + m = 32768 → (∀ i, i < n → gst (yH (Y c)) i < 32768) → ∀ (w2 : qk_W) (s2 : Nat → Int32) (b : Bool), (∀ v, v ≠ 25 → w2 v = w v) → moO w2 s2 l → s2 0 = 0 → (∀ k, 0 < k → k < 24 → s2 k = s k) → (b = true → gst (yH (Y c)) n < 32768 ∧ s2 33 = nI (nxP (yH (Y c)) (gst (yH (Y c)) n) - 1)) → (b = false → gst (yH (Y c)) n = 32768) →
        Ev (d + 2) m_Mo_gaps 34 [some (.ref 25), some (.int (nI c)), some (.int (nI n)), some (.int (b2i b))] [] w2 nc ns Q := by
      intro m
      induction m with
      | zero =>
        intro n hn hall w2 s2 b g2 o2 h0 hs hb1 hb0
        have hge := gst_ge (H := yH (Y c)) n hall
        cases b with
        | true => exact absurd (hb1 rfl).1 (by omega)
        | false => exact t_Mo_gaps_34 (fun _ => t_Mo_gaps_56 (hq1 c n hc rfl hall (hb0 rfl) w2 s2 g2 o2 h0 hs)) (fun g => absurd rfl g)
      | succ m ih =>
        intro n hn hall w2 s2 b g2 o2 h0 hs hb1 hb0
        cases b with
        | false => exact t_Mo_gaps_34 (fun _ => t_Mo_gaps_56 (hq1 c n hc rfl hall (hb0 rfl) w2 s2 g2 o2 h0 hs)) (fun g => absurd rfl g)
        | true =>
          obtain ⟨hlt, h33⟩ := hb1 rfl
          have hg := gst_lt hlt
          refine t_Mo_gaps_34 (fun g => absurd g (by decide)) (fun _ => t_Mo_gaps_38 rfl o2 rfl (Nat.le_of_ble_eq_true rfl) ?_)
          rw [h33, nI_1, nI_1, show nxP (yH (Y c)) (gst (yH (Y c)) n) - 1 + 1 = nxP (yH (Y c)) (gst (yH (Y c)) n) by omega]
          have hall' : ∀ i, i < n + 1 → gst (yH (Y c)) i < 32768 := fun i hi => by
            by_cases e : i = n
            · rw [e]; exact hlt
            · exact hall i (by omega)
          have hnext : gst (yH (Y c)) (n + 1) = sgf (yH (Y c)) (nxP (yH (Y c)) (gst (yH (Y c)) n)) := by
            show (if gst (yH (Y c)) n < 32768 then _ else 32768) = _
            rw [if_pos hlt]
          refine c_misGap o2 (hvR_f h (g2 _ (mA_25 (by omega))) (g2 _ (mA_25 (by omega)))) hc (by omega) (fun hs1 w3 s3 g3 o3 hs3 h32 h33' => t_Mo_gaps_52 rfl ?_) (fun hs1 w3 s3 g3 o3 hs3 => t_Mo_gaps_52 rfl ?_)
          · exact ih (n + 1) (by omega) hall' w3 s3 true (fun v hv => (g3 v hv).trans (g2 v hv)) o3 (by rw [hs3 0 (by omega) (by omega)]; exact h0) (fun k k0 k1 => by rw [hs3 k (by omega) (by omega)]; exact hs k k0 k1) (fun _ => by rw [hnext]; exact ⟨hs1, h33'⟩) (fun e => absurd e (by decide))
          · exact ih (n + 1) (by omega) hall' w3 s3 false (fun v hv => (g3 v hv).trans (g2 v hv)) o3 (by rw [hs3 0 (by omega) (by omega)]; exact h0) (fun k k0 k1 => by rw [hs3 k (by omega) (by omega)]; exact hs k k0 k1) (fun e => absurd e (by decide)) (fun _ => by rw [hnext]; exact hs1)
    have s10 : fu s 0 0 0 = 0 := fu_s _ _ _
    have s1k : ∀ k, 0 < k → k < 24 → fu s 0 0 k = s k := fun k k0 k1 => fu_n _ _ (by omega)
    refine t_Mo_gaps_25 rfl o1 (Nat.le_of_ble_eq_true rfl) (c_misGap (fm := 0) o1 (hvR_f h (g1 _ (mA_25 (by omega))) (g1 _ (mA_25 (by omega)))) hc (by omega) (fun hs1 w3 s3 g3 o3 hs3 h32 h33' => t_Mo_gaps_33 rfl ?_) (fun hs1 w3 s3 g3 o3 hs3 => t_Mo_gaps_33 rfl ?_))
    · exact loop 32768 0 (by omega) (fun i hi => absurd hi (by omega)) w3 s3 true (fun v hv => (g3 v hv).trans (g1 v hv)) o3 (by rw [hs3 0 (by omega) (by omega)]; exact s10) (fun k k0 k1 => by rw [hs3 k (by omega) (by omega)]; exact s1k k k0 k1) (fun _ => ⟨hs1, h33'⟩) (fun e => absurd e (by decide))
    · exact loop 32768 0 (by omega) (fun i hi => absurd hi (by omega)) w3 s3 false (fun v hv => (g3 v hv).trans (g1 v hv)) o3 (by rw [hs3 0 (by omega) (by omega)]; exact s10) (fun k k0 k1 => by rw [hs3 k (by omega) (by omega)]; exact s1k k k0 k1) (fun e => absurd e (by decide)) (fun _ => hs1)
  · refine t_Mo_gaps_5 (fun _ => t_Mo_gaps_12 ho (Nat.le_of_ble_eq_true rfl) (es_w (fun w1 e1 g1 => ?_))) (fun g => absurd rfl g)
    rw [moL_0] at e1
    have o1 : moO w1 (fu s 0 1) l := ⟨by decide, e1⟩
    exact t_Mo_gaps_16 o1 rfl (fun g => absurd (show (1 : Int32) ≤ 0 by rw [fu_s] at g; exact g) (by decide)) (fun _ => t_Mo_gaps_23 (hq0 hn w1 g1 o1))
theorem c_mgap {x y : Int32} {fl : Bool} (ho : moO w s l) (h : hvR w Y)
    (hq1 : ∀ c i, c < 4 → x = nI c → i < 2 ^ 31 → y = nI i → gst (yH (Y c)) i < 32768 → ∀ w' s', (∀ v, v ≠ 25 → w' v = w v) → moO w' s' l → s' 0 = 0 → (∀ k, 0 < k → k < 24 → s' k = s k) → Q (.inl (some (.int (if fl then nI (nxP (yH (Y c)) (gst (yH (Y c)) i) - 1) else nI (gst (yH (Y c)) i))))) w' nc ns)
    (hq2 : ∀ c, c < 4 → x = nI c → (∀ i, i < 2 ^ 31 → y = nI i → gst (yH (Y c)) i = 32768) → ∀ w' s', (∀ v, v ≠ 25 → w' v = w v) → moO w' s' l → s' 0 = 1 → (∀ k, 0 < k → k < 24 → s' k = s k) → Q (.inl (some (.int 0))) w' nc ns)
    (hq0 : (∀ c, c < 4 → x ≠ nI c) → ∀ w' s', (∀ v, v ≠ 25 → w' v = w v) → moO w' s' l → s' 0 = 1 → (∀ k, 0 < k → k < 24 → s' k = s k) → Q (.inl (some (.int 0))) w' nc ns) :
    Ev (d + 2) m_Mo_gap 0 [some (.ref 25), some (.int x), some (.int y), some (.int (b2i fl)), none, none] [] w nc ns Q := by
  -- no such gap
  have no : (∀ w' s', (∀ v, v ≠ 25 → w' v = w v) → moO w' s' l → s' 0 = 1 → (∀ k, 0 < k → k < 24 → s' k = s k) → Q (.inl (some (.int 0))) w' nc ns) → ∀ (w2 : qk_W) (s2 : Nat → Int32) (o5 : Option Value), (∀ v, v ≠ 25 → w2 v = w v) → moO w2 s2 l → (∀ k, 0 < k → k < 24 → s2 k = s k) → Ev (d + 2) m_Mo_gap 76 [some (.ref 25), some (.int x), some (.int y), some (.int (b2i fl)), some (.int 0), o5] [] w2 nc ns Q := by
    intro hq w2 s2 o5 g2 o2 hs2
    refine t_Mo_gap_76 rfl (fun _ => t_Mo_gap_86 o2 (Nat.le_of_ble_eq_true rfl) (es_w (fun w3 e3 g3 => ?_))) (fun g => absurd rfl g)
    rw [moL_0] at e3
    have o3 : moO w3 (fu s2 0 1) l := ⟨by decide, e3⟩
    exact t_Mo_gap_90 o3 rfl (fun g => absurd (show (1 : Int32) ≤ 0 by rw [fu_s] at g; exact g) (by decide)) (fun _ => t_Mo_gap_97 (hq w3 _ (fun v hv => (g3 v hv).trans (g2 v hv)) o3 (fu_s _ _ _) (fun k k0 k1 => by rw [fu_n _ _ (by omega)]; exact hs2 k k0 k1)))
  have bad : (∀ w' s', (∀ v, v ≠ 25 → w' v = w v) → moO w' s' l → s' 0 = 1 → (∀ k, 0 < k → k < 24 → s' k = s k) → Q (.inl (some (.int 0))) w' nc ns) → Ev (d + 2) m_Mo_gap 16 [some (.ref 25), some (.int x), some (.int y), some (.int (b2i fl)), none, none] [.ref 25] w nc ns Q := by
    intro hq
    refine t_Mo_gap_16 ho (Nat.le_of_ble_eq_true rfl) (es_w (fun w1 e1 g1 => ?_))
    rw [moL_0] at e1
    have o1 : moO w1 (fu s 0 1) l := ⟨by decide, e1⟩
    have s1k : ∀ k, 0 < k → k < 24 → fu s 0 1 k = s k := fun k k0 k1 => fu_n _ _ (by omega)
    refine t_Mo_gap_20 o1 rfl (fun _ => t_Mo_gap_40 rfl ?_) (fun g => absurd (show (1 : Int32) = 0 by rw [fu_s] at g; exact g) (by decide))
    exact t_Mo_gap_46 (fun _ => no hq w1 _ _ g1 o1 s1k) (fun _ => t_Mo_gap_52 (fun _ => no hq w1 _ _ g1 o1 s1k) (fun g => absurd rfl g))
  refine t_Mo_gap_0 rfl (Nat.le_of_ble_eq_true rfl) (c_misCh (fun c hc e => ?_) (fun hn => ?_))
  · subst e
    refine t_Mo_gap_5 (fun g => absurd g (by decide)) (fun _ => t_Mo_gap_8 (fun g => ?_) (fun g => ?_))
    · refine bad (hq2 c hc rfl (fun i hi e => ?_))
      rw [e] at g
      exact absurd g (nI_pos hi)
    · obtain ⟨i, hi, ey⟩ := nI_of g
      subst ey
      have hqa := hq1 c i hc rfl hi rfl
      have hqb : gst (yH (Y c)) i = 32768 → _ := fun hg => hq2 c hc rfl (fun i' hi' e => by rw [← (nI_eq hi hi').mp e]; exact hg)
      clear hq0 hq1 hq2 bad
      refine t_Mo_gap_12 ho (Nat.le_of_ble_eq_true rfl) (es_w (fun w1 e1 g1 => ?_))
      rw [moL_0] at e1
      have o1 : moO w1 (fu s 0 0) l := ⟨by decide, e1⟩
      have s1k : ∀ k, 0 < k → k < 24 → fu s 0 0 k = s k := fun k k0 k1 => fu_n _ _ (by omega)
      refine t_Mo_gap_20 o1 rfl (fun g => absurd (fu_s _ _ _) g) (fun _ => ?_)
      have loop : ∀ m k, k + m = i → ∀ (w2 : qk_W) (s2 : Nat → Int32) (b : Bool), (∀ v, v ≠ 25 → w2 v = w v) → moO w2 s2 l → (∀ k, 0 < k → k < 24 → s2 k = s k) → (b = true → gst (yH (Y c)) k < 32768 ∧ s2 32 = nI (gst (yH (Y c)) k) ∧ s2 33 = nI (nxP (yH (Y c)) (gst (yH (Y c)) k) - 1)) → (b = false → gst (yH (Y c)) k = 32768) →
          Ev (d + 2) m_Mo_gap 46 [some (.ref 25), some (.int (nI c)), some (.int (nI i)), some (.int (b2i fl)), some (.int (b2i b)), some (.int (nI k))] [] w2 nc ns Q := by
        intro m
        induction m with
        | zero =>
          intro k hk w2 s2 b g2 o2 hs hb1 hb0
          have ek : k = i := by omega
          subst ek
          refine t_Mo_gap_46 (fun _ => ?_) (fun g => absurd (nI_le (Nat.le_refl _) hi) g)
          cases b with
          | false => exact no (hqb (hb0 rfl)) w2 s2 _ g2 o2 hs
          | true =>
            obtain ⟨hlt, h32, h33⟩ := hb1 rfl
            refine t_Mo_gap_76 rfl (fun g => absurd g (by decide)) (fun _ => t_Mo_gap_82 o2 (Nat.le_of_ble_eq_true rfl) (es_w (fun w3 e3 g3 => ?_)))
            rw [moL_0] at e3
            have o3 : moO w3 (fu s2 0 0) l := ⟨by decide, e3⟩
            have fin := hqa hlt w3 _ (fun v hv => (g3 v hv).trans (g2 v hv)) o3 (fu_s _ _ _) (fun k k0 k1 => by rw [fu_n _ _ (by omega)]; exact hs k k0 k1)
            refine t_Mo_gap_90 o3 rfl (fun _ => ?_) (fun g => absurd (by rw [fu_s]; decide) g)
            cases fl with
            | true =>
              refine t_Mo_gap_101 (fun g => absurd g (by decide)) (fun _ => t_Mo_gap_105 o3 rfl ?_)
              rw [fu_n _ _ (by omega), h33]
              exact fin
            | false =>
              refine t_Mo_gap_101 (fun _ => t_Mo_gap_112 o3 rfl ?_) (fun g => absurd rfl g)
              rw [fu_n _ _ (by omega), h32]
              exact fin
        | succ m ih =>
          intro k hk w2 s2 b g2 o2 hs hb1 hb0
          refine t_Mo_gap_46 (fun g => absurd ((nI_leI (by omega) (by omega)).mp g) (by omega)) (fun _ => ?_)
          cases b with
          | false =>
            have hg : gst (yH (Y c)) i = 32768 := by
              have := gst_stay (hb0 rfl) (m + 1)
              rwa [hk] at this
            exact t_Mo_gap_52 (fun _ => no (hqb hg) w2 s2 _ g2 o2 hs) (fun g => absurd rfl g)
          | true =>
            obtain ⟨hlt, h32, h33⟩ := hb1 rfl
            have hg := gst_lt hlt
            refine t_Mo_gap_52 (fun g => absurd g (by decide)) (fun _ => t_Mo_gap_57 o2 rfl (Nat.le_of_ble_eq_true rfl) ?_)
            rw [h33, nI_1, show nxP (yH (Y c)) (gst (yH (Y c)) k) - 1 + 1 = nxP (yH (Y c)) (gst (yH (Y c)) k) by omega]
            have hnext : gst (yH (Y c)) (k + 1) = sgf (yH (Y c)) (nxP (yH (Y c)) (gst (yH (Y c)) k)) := by
              show (if gst (yH (Y c)) k < 32768 then _ else 32768) = _
              rw [if_pos hlt]
            refine c_misGap o2 (hvR_f h (g2 _ (mA_25 (by omega))) (g2 _ (mA_25 (by omega)))) hc (by omega) (fun hs1 w3 s3 g3 o3 hs3 h32' h33' => t_Mo_gap_68 rfl ?_) (fun hs1 w3 s3 g3 o3 hs3 => t_Mo_gap_68 rfl ?_)
            · rw [nI_1]
              exact ih (k + 1) (by omega) w3 s3 true (fun v hv => (g3 v hv).trans (g2 v hv)) o3 (fun k k0 k1 => by rw [hs3 k (by omega) (by omega)]; exact hs k k0 k1) (fun _ => by rw [hnext]; exact ⟨hs1, h32', h33'⟩) (fun e => absurd e (by decide))
            · rw [nI_1]
              exact ih (k + 1) (by omega) w3 s3 false (fun v hv => (g3 v hv).trans (g2 v hv)) o3 (fun k k0 k1 => by rw [hs3 k (by omega) (by omega)]; exact hs k k0 k1) (fun e => absurd e (by decide)) (fun _ => by rw [hnext]; exact hs1)
      refine t_Mo_gap_27 o1 (Nat.le_of_ble_eq_true rfl) (c_misGap (fm := 0) o1 (hvR_f h (g1 _ (mA_25 (by omega))) (g1 _ (mA_25 (by omega)))) hc (by omega) (fun hs1 w3 s3 g3 o3 hs3 h32 h33' => t_Mo_gap_33 (fun g => absurd g (by decide)) (fun _ => t_Mo_gap_36 rfl ?_)) (fun hs1 w3 s3 g3 o3 hs3 => t_Mo_gap_33 (fun _ => t_Mo_gap_40 rfl ?_) (fun g => absurd rfl g)))
      · exact loop i 0 (by omega) w3 s3 true (fun v hv => (g3 v hv).trans (g1 v hv)) o3 (fun k k0 k1 => by rw [hs3 k (by omega) (by omega)]; exact s1k k k0 k1) (fun _ => ⟨hs1, h32, h33'⟩) (fun e => absurd e (by decide))
      · exact loop i 0 (by omega) w3 s3 false (fun v hv => (g3 v hv).trans (g1 v hv)) o3 (fun k k0 k1 => by rw [hs3 k (by omega) (by omega)]; exact s1k k k0 k1) (fun e => absurd e (by decide)) (fun _ => hs1)
  · exact t_Mo_gap_5 (fun _ => bad (hq0 hn)) (fun g => absurd rfl g)
def hdQ (c fm to : Nat) : Strm := app (app (app (app (0, fun _ => false) c 8) 0 24) fm 32) to 32
theorem c_mask (ho : moO w s l) (h : hvR w Y) (hoh : ohR w Y) (hY : ∀ c, c < 4 → yO (Y c) ≤ 32768) (ha : maR w s sl R L T) (hsl : sl + 1 < 2 ^ 30)
    (hq0 : (∀ c, c < 4 → sgY (Y c) = 32768) → ∀ w' s', (∀ v, v ≠ 25 → w' v = w v) → moO w' s' l → (∀ k, 0 < k → k < 24 → s' k = s k) → Q (.inl (some (.int (-1)))) w' nc ns)
    (hq1 : ∀ c, c < 4 → sgY (Y c) < 32768 → (∀ c', c' < 4 → sgY (Y c) ≤ sgY (Y c')) → (∀ c', c' < c → sgY (Y c) < sgY (Y c')) → ∀ w' R' s', (∀ v, v ≠ 25 → v ≠ mA 14 → v ≠ mA 15 → v ≠ mA 16 → w' v = w v) → moO w' s' l → (∀ k, 0 < k → k < 24 → k ≠ 17 → s' k = s k) → maR w' s' (sl + 1) R' (fu L (sl % 64) 16) (fu T (sl % 64) false) → (∀ i, i ≠ sl % 64 → R' i = R i) → rowQ (R' (sl % 64)) c (sgY (Y c)) (nxP (yH (Y c)) (sgY (Y c)) - 1) → Q (.inl (some (.int (nI sl)))) w' nc ns) :
    Ev (d + 2) m_Mo_ask 0 [some (.ref 25), none, none, none, none] [] w nc ns Q := by
  obtain ⟨f20, w20, hf20⟩ := hoh
  refine t_Mo_ask_0 ho (Nat.le_of_ble_eq_true rfl) (es_w (fun w1 e1 g1 => t_Mo_ask_5 rfl ?_))
  rw [moL_0] at e1
  have o1 : moO w1 (fu s 0 0) l := ⟨by decide, e1⟩
  have s1k : ∀ k, 0 < k → k < 24 → fu s 0 0 k = s k := fun k k0 k1 => fu_n _ _ (by omega)
  have hsg : ∀ c, c < 4 → sgY (Y c) ≤ 32768 := fun c hc => (sgf_le (yH (Y c)) (hY c hc)).1
  -- the best is known
  have fin : ∀ (w2 : qk_W) (s2 : Nat → Int32) (c : Nat) (o4 : Option Value), (∀ v, v ≠ 25 → w2 v = w v) → moO w2 s2 l → (∀ k, 0 < k → k < 24 → s2 k = s k) → c < 4 → sgY (Y c) < 32768 → (∀ c', c' < 4 → sgY (Y c) ≤ sgY (Y c')) → (∀ c', c' < c → sgY (Y c) < sgY (Y c')) → Ev (d + 2) m_Mo_ask 67 [some (.ref 25), some (.int (nI c)), some (.int (nI (sgY (Y c)))), some (.int (nI (nxP (yH (Y c)) (sgY (Y c)) - 1))), o4] [] w2 nc ns Q := by
    intro w2 s2 c o4 g2 o2 hs2 hc hlt hmn hst
    have hx := sgf_lt (hY c hc) hlt
    have hx2 : nxP (yH (Y c)) (sgY (Y c)) < 32768 := hx.2.1
    have hj : sl % 64 < 64 := Nat.mod_lt _ (by omega)
    have a2 : maR w2 s2 sl R L T := maR_f ha (hs2 17 (by omega) (by omega)) (g2 _ (mA_25 (by omega))) (g2 _ (mA_25 (by omega))) (g2 _ (mA_25 (by omega)))
    have v0 : vN (0 : Int32) = 0 := by decide
    refine t_Mo_ask_67 (fun _ => ?_) (fun g => absurd (nI_le (a := 0) (Nat.zero_le _) (by omega)) g)
    refine t_Mo_ask_73 o2 (Nat.le_of_ble_eq_true rfl) (c_mbeginW o2 a2 (fun w3 k3 => ?_))
    obtain ⟨s3, o3, _⟩ := id k3.2.1
    refine t_Mo_ask_77 o3 (Nat.le_of_ble_eq_true rfl) (c_mputW (n := 8) k3 hj (by omega) (by show 0 + 8 ≤ 4096; omega) (fun w4 k4 => ?_))
    rw [vN_nI (by omega)] at k4
    obtain ⟨s4, o4, _⟩ := id k4.2.1
    refine t_Mo_ask_84 o4 (Nat.le_of_ble_eq_true rfl) (c_mputW (n := 24) k4 hj (by omega) (by show 0 + 8 + 24 ≤ 4096; omega) (fun w5 k5 => ?_))
    rw [v0] at k5
    obtain ⟨s5, o5, _⟩ := id k5.2.1
    refine t_Mo_ask_91 o5 (Nat.le_of_ble_eq_true rfl) (c_mputW (n := 32) k5 hj (by omega) (by show 0 + 8 + 24 + 32 ≤ 4096; omega) (fun w6 k6 => ?_))
    rw [vN_nI (by omega)] at k6
    obtain ⟨s6, o6, _⟩ := id k6.2.1
    refine t_Mo_ask_98 o6 (Nat.le_of_ble_eq_true rfl) (c_mputW (n := 32) k6 hj (by omega) (by show 0 + 8 + 24 + 32 + 32 ≤ 4096; omega) (fun w7 k7 => ?_))
    rw [vN_nI (by omega)] at k7
    have kH : wrS w2 s2 l R T (sl % 64) w7 (hdQ c (sgY (Y c)) (nxP (yH (Y c)) (sgY (Y c)) - 1)) := k7
    obtain ⟨s7, o7, _⟩ := id kH.2.1
    refine t_Mo_ask_105 o7 (Nat.le_of_ble_eq_true rfl) (c_mendW kH a2 hsl (by show 96 ≤ 4064; omega) (by show 96 ≤ 96; omega) (fun w8 R8 s8 e8 o8 hs8 m8 hR8 lo8 ck8 => t_Mo_ask_109 ?_))
    have e12 : ((hdQ c (sgY (Y c)) (nxP (yH (Y c)) (sgY (Y c)) - 1)).1 + 7) / 8 = 12 := by show (96 + 7) / 8 = 12; rfl
    rw [e12] at m8 lo8 ck8
    refine hq1 c hc hlt hmn hst w8 R8 s8 (fun v v1 v2 v3 v4 => by rw [e8 v v1 v2 v3 v4]; exact g2 v v1) o8 (fun k k0 k1 k2 => by rw [hs8 k k2 (by omega) (by omega)]; exact hs2 k k0 k1) m8 hR8 ?_
    have l' : ∀ (st : Strm) (v w b i : Nat), st.1 = b → i < w → (app st v w).2 (b + i) = v.testBit (w - 1 - i) := fun st v w b i hb hi => by rw [← hb]; exact app_in hi
    refine ⟨getN_is (by omega) (fun i hi => ?_), getN_is (by omega) (fun i hi => ?_), getN_is (by omega) (fun i hi => ?_), getN_is (by omega) (fun i hi => ?_), ck8⟩
    · rw [lo8 _ (by omega)]
      unfold hdQ
      rw [app_at (Or.inr (by show 0 + i < 64; omega)), app_at (Or.inr (by show 0 + i < 32; omega)), app_at (Or.inr (by show 0 + i < 8; omega))]
      exact l' _ _ _ 0 _ rfl hi
    · rw [lo8 _ (by omega)]
      unfold hdQ
      rw [app_at (Or.inr (by show 8 + i < 64; omega)), app_at (Or.inr (by show 8 + i < 32; omega))]
      exact l' _ _ _ 8 _ rfl hi
    · rw [lo8 _ (by omega)]
      unfold hdQ
      rw [app_at (Or.inr (by show 32 + i < 64; omega))]
      exact l' _ _ _ 32 _ rfl hi
    · rw [lo8 _ (by omega)]
      unfold hdQ
      exact l' _ _ _ 64 _ rfl hi
  -- the walk along the channels: b is the best so far, if any
  have loop : ∀ m c, c + m = 4 → ∀ (w2 : qk_W) (s2 : Nat → Int32) (x1 x2 x3 : Int32), (∀ v, v ≠ 25 → w2 v = w v) → moO w2 s2 l → (∀ k, 0 < k → k < 24 → s2 k = s k) →
      ((x1 = -1 ∧ ∀ c', c' < c → sgY (Y c') = 32768) ∨ ∃ b, b < c ∧ x1 = nI b ∧ x2 = nI (sgY (Y b)) ∧ x3 = nI (nxP (yH (Y b)) (sgY (Y b)) - 1) ∧ sgY (Y b) < 32768 ∧ (∀ c', c' < c → sgY (Y b) ≤ sgY (Y c')) ∧ (∀ c', c' < b → sgY (Y b) < sgY (Y c'))) →
      Ev (d + 2) m_Mo_ask 14 [some (.ref 25), some (.int x1), some (.int x2), some (.int x3), some (.int (nI c))] [] w2 nc ns Q := by
    intro m
    induction m with
    | zero =>
      intro c hcm w2 s2 x1 x2 x3 g2 o2 hs2 hb
      have e4 : c = 4 := by omega
      subst e4
      refine t_Mo_ask_14 (fun _ => ?_) (fun g => absurd (by decide) g)
      rcases hb with ⟨e1, hall⟩ | ⟨b, hb4, e1, e2, e3, hlt, hmn, hst⟩
      · subst e1
        exact t_Mo_ask_67 (fun g => absurd g (by decide)) (fun _ => t_Mo_ask_71 (hq0 hall w2 s2 g2 o2 hs2))
      · rw [e1, e2, e3]
        exact fin w2 s2 b _ g2 o2 hs2 hb4 hlt hmn hst
    | succ m ih =>
      intro c hcm w2 s2 x1 x2 x3 g2 o2 hs2 hb
      have hc4 : c < 4 := by omega
      have ccl : (nI c).toNatClampNeg = c := nI_clamp (by omega)
      have hsc := hsg c hc4
      have hyo := hY c hc4
      refine t_Mo_ask_14 (fun g => absurd ((nI_leI (a := 4) (by omega) (by omega)).mp g) (by omega)) (fun _ => ?_)
      refine t_Mo_ask_20 o2 rfl (wi_f w20 (g2 _ (mA_25 (by omega)))) (vp_in_nI hc4 (by omega)) (Nat.le_of_ble_eq_true rfl) ?_
      rw [ccl, hf20 c hc4]
      refine c_misGap o2 (hvR_f h (g2 _ (mA_25 (by omega))) (g2 _ (mA_25 (by omega)))) hc4 hyo (fun hs1 w3 s3 g3 o3 hs3 h32 h33 => ?_) (fun hs1 w3 s3 g3 o3 hs3 => ?_)
      · have g3' : ∀ v, v ≠ 25 → w3 v = w v := fun v hv => (g3 v hv).trans (g2 v hv)
        have hs3' : ∀ k, 0 < k → k < 24 → s3 k = s k := fun k k0 k1 => by rw [hs3 k (by omega) (by omega)]; exact hs2 k k0 k1
        have hs1' : sgY (Y c) < 32768 := hs1
        have tk : (∀ c', c' < c → sgY (Y c) < sgY (Y c')) → Ev (d + 2) m_Mo_ask 48 [some (.ref 25), some (.int x1), some (.int x2), some (.int x3), some (.int (nI c))] [] w3 nc ns Q := by
          intro hlt
          refine t_Mo_ask_48 rfl o3 rfl rfl ?_
          rw [h32, h33, nI_1]
          refine ih (c + 1) (by omega) w3 s3 _ _ _ g3' o3 hs3' (Or.inr ⟨c, by omega, rfl, rfl, rfl, hs1', fun c' hc' => ?_, hlt⟩)
          by_cases e : c' = c
          · rw [e]; exact Nat.le_refl _
          · exact Nat.le_of_lt (hlt c' (by omega))
        refine t_Mo_ask_33 (fun g => absurd g (by decide)) (fun _ => ?_)
        rcases hb with ⟨e1, hall⟩ | ⟨b, hb4, e1, e2, e3, hlt, hmn, hst⟩
        · subst e1
          exact t_Mo_ask_36 (fun _ => tk (fun c' hc' => by rw [hall c' hc']; exact hs1')) (fun g => absurd (by decide) g)
        · refine t_Mo_ask_36 (fun g => ?_) (fun _ => t_Mo_ask_40 o3 rfl (fun g => t_Mo_ask_61 rfl ?_) (fun g => tk (fun c' hc' => ?_)))
          · rw [e1] at g
            exact absurd g (nI_pos (by omega))
          · rw [e2, h32] at g
            have hle : sgY (Y b) ≤ sgY (Y c) := (nI_leI (by omega) (show sgY (Y c) < 2 ^ 31 by omega)).mp g
            rw [nI_1]
            refine ih (c + 1) (by omega) w3 s3 _ _ _ g3' o3 hs3' (Or.inr ⟨b, by omega, e1, e2, e3, hlt, fun c' hc' => ?_, hst⟩)
            by_cases e : c' = c
            · rw [e]; exact hle
            · exact hmn c' (by omega)
          · rw [e2, h32] at g
            have hgt : sgY (Y c) < sgY (Y b) := Nat.lt_of_not_le (fun z => g (nI_le z (show sgY (Y c) < 2 ^ 31 by omega)))
            have := hmn c' hc'
            omega
      · have hs1' : sgY (Y c) = 32768 := hs1
        refine t_Mo_ask_33 (fun _ => t_Mo_ask_61 rfl ?_) (fun g => absurd rfl g)
        rw [nI_1]
        refine ih (c + 1) (by omega) w3 s3 _ _ _ (fun v hv => (g3 v hv).trans (g2 v hv)) o3 (fun k k0 k1 => by rw [hs3 k (by omega) (by omega)]; exact hs2 k k0 k1) ?_
        rcases hb with ⟨e1, hall⟩ | ⟨b, hb4, e1, e2, e3, hlt, hmn, hst⟩
        · refine Or.inl ⟨e1, fun c' hc' => ?_⟩
          by_cases e : c' = c
          · rw [e]; exact hs1'
          · exact hall c' (by omega)
        · refine Or.inr ⟨b, by omega, e1, e2, e3, hlt, fun c' hc' => ?_, hst⟩
          by_cases e : c' = c
          · rw [e, hs1']; exact Nat.le_of_lt hlt
          · exact hmn c' (by omega)
  exact loop 4 0 (by omega) w1 _ (-1) 0 0 g1 o1 s1k (Or.inl ⟨rfl, fun c' hc' => absurd hc' (by omega)⟩)
end Mo21
