/-! ===== QuakeLink: beginnings, channels, samples ===== -/
theorem lgI_lt (x y : Int64) : lg_cmp x y < 0 ↔ x < y := by
  unfold lg_cmp
  split
  · rename_i h
    refine ⟨fun e => absurd e (by decide), fun e => ?_⟩
    rw [Int64.lt_iff_toInt_lt] at e
    have h' : y < x := h
    rw [Int64.lt_iff_toInt_lt] at h'
    omega
  · rename_i h
    have h' : ¬ y < x := h
    rw [Int64.lt_iff_toInt_lt] at h'
    split
    · rename_i h2
      refine ⟨fun e => absurd e (by decide), fun e => ?_⟩
      rw [h2, Int64.lt_iff_toInt_lt] at e
      omega
    · rename_i h2
      refine ⟨fun _ => ?_, fun _ => by decide⟩
      rw [Int64.lt_iff_toInt_lt]
      have : x.toInt ≠ y.toInt := fun e => h2 (Int64.toInt_inj.mp e)
      omega
theorem lgI_ge (x y : Int64) : 0 ≤ lg_cmp x y ↔ y ≤ x := by
  have h := lgI_lt x y
  rw [Int64.lt_iff_toInt_lt, Int32.lt_iff_toInt_lt] at h
  rw [Int64.le_iff_toInt_le, Int32.le_iff_toInt_le]
  have : (0 : Int32).toInt = 0 := rfl
  omega
theorem t64 (x : Int32) : x.toInt64.toInt = x.toInt := Int32.toInt_toInt64 x
theorem tN16 (n : Nat) : 16 ≤ tN n := by unfold tN; omega
def exW (w w' : qk_W) (n ci : Nat) : Prop := fr [tN n] w w' ∧ w' (tN n) = some (.inr (ci, []))
theorem exW_set {w : qk_W} {n ci : Nat} : exW w (qk_set w (tN n) (.inr (ci, []))) n ci := ⟨fr_set fr_refl (by simp), qk_set_eq _ _ _⟩
section QC
variable {d : Nat} {w : qk_W} {nc ns : Nat} {Q : Option Value ⊕ Nat → qk_W → Nat → Nat → Prop} {X : Nat → Chs} {pc bad cg : Nat} {lw : Bool} {Y : Nat → Trs} {rej cla : Nat}
def qO (w : qk_W) : Prop := wo w gQ 0 [.ref gS, .ref aO, .ref gE]
theorem c_isCh {x : Int32} (hq1 : ∀ c, c < 4 → x = nI c → Q (.inl (some (.int 1))) w nc ns) (hq0 : (∀ c, c < 4 → x ≠ nI c) → Q (.inl (some (.int 0))) w nc ns) : Ev d m_Q_isChannel 0 [some (.long (Int32.toInt64 x)), none] [] w nc ns Q := by
  have e4 : (4 : Int64).toInt = 4 := by decide
  have e0 : (0 : Int64).toInt = 0 := by decide
  refine t_Q_isChannel_0 (fun g => t_Q_isChannel_18 (hq0 (fun c hc e => ?_))) (fun g => ?_)
  · rw [lgI_lt, Int64.lt_iff_toInt_lt, t64, e, nI_toInt (by omega), e0] at g
    omega
  · rw [lgI_lt, Int64.lt_iff_toInt_lt, t64, e0] at g
    obtain ⟨c, hc, rfl⟩ := nI_of (x := x) (by rw [Int32.lt_iff_toInt_lt]; exact g)
    refine t_Q_isChannel_6 (fun g => t_Q_isChannel_18 (hq0 (fun c' hc' e => ?_))) (fun g => t_Q_isChannel_14 (hq1 c ?_ rfl))
    · rw [lgI_ge, Int64.le_iff_toInt_le, t64, nI_toInt hc, e4] at g
      have := (nI_eq hc (by omega)).mp e
      omega
    · rw [lgI_ge, Int64.le_iff_toInt_le, t64, nI_toInt hc, e4] at g
      omega
theorem c_chOf {x : Int32} (hO : qO w) (h : stR w X pc bad cg lw) (ht : tmpI w nc) (hq1 : ∀ c, c < 4 → x = nI c → Q (.inl (some (.ref (cO c)))) w nc ns) (hq0 : (∀ c, c < 4 → x ≠ nI c) → ∀ w', exW w w' nc 12 → Q (.inr (tN nc)) w' (nc + 1) (ns + 6)) :
    Ev (d + 6) m_Q_channelOf 0 [some (.ref gQ), some (.int x)] [] w nc ns Q := by
  obtain ⟨ho, ⟨f, h2, h3⟩, h4⟩ := h
  refine t_Q_channelOf_0 (Nat.le_of_ble_eq_true rfl) (c_isCh (fun c hc e => ?_) (fun hn => ?_))
  · refine t_Q_channelOf_5 (fun _ => ?_) (fun g => absurd g (by decide))
    subst e
    exact t_Q_channelOf_18 hO rfl ho rfl h2 (vp_in_nI hc (by omega)) (by rw [nI_clamp (by omega)]; exact h3 c hc) (hq1 c hc rfl)
  · exact t_Q_channelOf_5 (fun g => absurd rfl g) (fun _ => t_Q_channelOf_8 (tN nc) (tN16 _) (ht nc (Nat.le_refl _)) (hq0 hn _ exW_set))
theorem c_trOf {x : Int32} (hO : qO w) (h : ceR w Y rej cla) (ht : tmpI w nc) (hq1 : ∀ c, c < 4 → x = nI c → Q (.inl (some (.ref (tO c)))) w nc ns) (hq0 : (∀ c, c < 4 → x ≠ nI c) → ∀ w', exW w w' nc 12 → Q (.inr (tN nc)) w' (nc + 1) (ns + 6)) :
    Ev (d + 6) m_Q_trackOf 0 [some (.ref gQ), some (.int x)] [] w nc ns Q := by
  obtain ⟨ho, ⟨f, h2, h3⟩, h4⟩ := h
  refine t_Q_trackOf_0 (Nat.le_of_ble_eq_true rfl) (c_isCh (fun c hc e => ?_) (fun hn => ?_))
  · refine t_Q_trackOf_5 (fun _ => ?_) (fun g => absurd g (by decide))
    subst e
    exact t_Q_trackOf_18 hO rfl ho rfl h2 (vp_in_nI hc (by omega)) (by rw [nI_clamp (by omega)]; exact h3 c hc) (hq1 c hc rfl)
  · exact t_Q_trackOf_5 (fun g => absurd rfl g) (fun _ => t_Q_trackOf_8 (tN nc) (tN16 _) (ht nc (Nat.le_refl _)) (hq0 hn _ exW_set))
theorem c_refuse {c n : Nat} {x : Chs} (h : chT w c x) (hn : n ≤ 2000) (ht : tmpI w nc) (hq1 : xT x + n ≤ 32768 → Q (.inl none) w nc ns) (hq0 : ¬ xT x + n ≤ 32768 → ∀ w', exW w w' nc 13 → Q (.inr (tN nc)) w' (nc + 1) (ns + 6)) :
    Ev (d + 6) m_Q_refuseBeyondLimit 0 [some (.ref (cO c)), some (.int (nI n))] [] w nc ns Q := by
  have htk := h.2.1.2.2.2.1
  refine t_Q_refuseBeyondLimit_0 (chT_O h) rfl (fun g => t_Q_refuseBeyondLimit_21 (hq1 ?_)) (fun g => t_Q_refuseBeyondLimit_11 (tN nc) (tN16 _) (ht nc (Nat.le_refl _)) (hq0 (fun e => g ?_) _ exW_set))
  · rw [nI_add] at g
    exact (nI_leI (b := 32768) (by omega) (by omega)).mp g
  · rw [nI_add]
    exact nI_le (b := 32768) e (by decide)
theorem c_Qsample {x v : Int32} (hk : wk w) (hO : qO w) (h : stR w X pc bad cg lw) (ht : tmpI w nc) (hop : ∀ c, c < 4 → opnX (X c) < 1000) (hp : pc ≤ 100)
    (hq1 : ∀ c, c < 4 → x = nI c → xT (X c) < 32768 → ∀ w', (∀ v, v % 16 ≠ 12 + c → v ≠ gS → w' v = w v) → stO w' pc bad (takeX (X c) v pc cg).2 lw → chT w' c (takeX (X c) v pc cg).1 → mkC (X c) ≤ mkC (takeX (X c) v pc cg).1 → Q (.inl (some (.int (nI (xT (X c)))))) w' (nc + 4 * (mkC (takeX (X c) v pc cg).1 - mkC (X c))) (ns + 539 * (mkC (takeX (X c) v pc cg).1 - mkC (X c))))
    (hq2 : ∀ c, c < 4 → x = nI c → xT (X c) = 32768 → ∀ w', exW w w' nc 13 → Q (.inr (tN nc)) w' (nc + 1) (ns + 6))
    (hq0 : (∀ c, c < 4 → x ≠ nI c) → ∀ w', exW w w' nc 12 → Q (.inr (tN nc)) w' (nc + 1) (ns + 6)) :
    Ev (d + 8) m_Q_sample 0 [some (.ref gQ), some (.int x), some (.int v), none, none] [] w nc ns Q := by
  refine t_Q_sample_0 hO (Nat.le_of_ble_eq_true rfl) (c_chOf hO h ht (fun c hc e => ?_) (fun hn w' hw' => hq0 hn w' hw'))
  have hch := h.2.2 c hc
  have htk := hch.2.1.2.2.2.1
  refine t_Q_sample_5 rfl (Nat.le_of_ble_eq_true rfl) (c_refuse (n := 1) hch (by omega) ht (fun hle => ?_) (fun hle w' hw' => hq2 c hc e (by omega) w' hw'))
  exact t_Q_sample_11 (chT_O hch) rfl hO rfl h.1 (Nat.le_of_ble_eq_true rfl) (c_take hk h.1 hch (by omega) (hop c hc) hp (fun w1 f1 o1 c1 m1 => t_Q_sample_26 (hq1 c hc e (by omega) w1 f1 o1 c1 m1)))
/-- many samples -/
def manyX (pc : Nat) : Nat → Chs × Nat → Int32 → Int32 → Int32 → Chs × Nat
  | 0, s, _, _, _ => s
  | n + 1, s, v, st, tu => manyX pc n (takeX s.1 v pc s.2) (v + st) (st + tu) tu
theorem opn_cls (y : Chs) (pc cg : Nat) : opnX (clsX y pc cg) = 0 := by
  unfold opnX
  show xT y - fu (xF y) (xC y + 1) (xT y) (xC y + 1) = 0
  rw [fu_s]
  omega
theorem opn_cl1 (y : Chs) (pc cg : Nat) : opnX (cl1X y pc cg).1 ≤ opnX y ∧ xT (cl1X y pc cg).1 = xT y := by
  unfold cl1X
  split
  · exact ⟨by show opnX (clsX y pc cg) ≤ _; rw [opn_cls]; omega, rfl⟩
  · exact ⟨Nat.le_refl _, rfl⟩
theorem opn_add (y : Chs) : opnX (addX y) ≤ opnX y + 1 := by
  unfold opnX
  show xT y + 1 - xF y (xC y) ≤ _
  omega
theorem take_opn {x : Chs} {v : Int32} {pc cg : Nat} (h : opnX x < 1000) : opnX (takeX x v pc cg).1 < 1000 ∧ xT (takeX x v pc cg).1 = xT x + 1 := by
  have h1 := opn_cl1 (smpX x v) pc cg
  have h2 := opn_add (cl1X (smpX x v) pc cg).1
  have h3 : opnX (smpX x v) = opnX x := rfl
  have h4 : xT (addX (cl1X (smpX x v) pc cg).1) = xT x + 1 := by show xT (cl1X (smpX x v) pc cg).1 + 1 = _; rw [h1.2]; rfl
  unfold takeX cl2X
  split
  · exact ⟨by show opnX (clsX _ _ _) < _; rw [opn_cls]; omega, h4⟩
  · exact ⟨by show opnX (addX _) < _; omega, h4⟩
theorem c_Qsamples {x v st tu nn : Int32} (hk : wk w) (hO : qO w) (h : stR w X pc bad cg lw) (ht : tmpI w nc) (hop : ∀ c, c < 4 → opnX (X c) < 1000) (hp : pc ≤ 100)
    (hq1 : ∀ c n, c < 4 → x = nI c → nn = nI n → 1 ≤ n → n ≤ 2000 → xT (X c) + n ≤ 32768 → ∀ w', (∀ v, v % 16 ≠ 12 + c → v ≠ gS → w' v = w v) → stO w' pc bad (manyX pc n (X c, cg) v st tu).2 lw → chT w' c (manyX pc n (X c, cg) v st tu).1 → mkC (X c) ≤ mkC (manyX pc n (X c, cg) v st tu).1 → Q (.inl (some (.int (nI (xT (X c)))))) w' (nc + 4 * (mkC (manyX pc n (X c, cg) v st tu).1 - mkC (X c))) (ns + 539 * (mkC (manyX pc n (X c, cg) v st tu).1 - mkC (X c))))
    (hq2 : ∀ c n, c < 4 → x = nI c → nn = nI n → 1 ≤ n → n ≤ 2000 → ¬ xT (X c) + n ≤ 32768 → ∀ w', exW w w' nc 13 → Q (.inr (tN nc)) w' (nc + 1) (ns + 6))
    (hq3 : ∀ c, c < 4 → x = nI c → (∀ n, 1 ≤ n → n ≤ 2000 → nn ≠ nI n) → ∀ w', exW w w' nc 14 → Q (.inr (tN nc)) w' (nc + 1) (ns + 6))
    (hq0 : (∀ c, c < 4 → x ≠ nI c) → ∀ w', exW w w' nc 12 → Q (.inr (tN nc)) w' (nc + 1) (ns + 6)) :
    Ev (d + 8) m_Q_samples 0 [some (.ref gQ), some (.int x), some (.int nn), some (.int v), some (.int st), some (.int tu), none, none, none, none, none] [] w nc ns Q := by
  refine t_Q_samples_0 hO (Nat.le_of_ble_eq_true rfl) (c_chOf hO h ht (fun c hc e => ?_) (fun hn w' hw' => hq0 hn w' hw'))
  have hch := h.2.2 c hc
  have htk := hch.2.1.2.2.2.1
  have bad3 : (∀ n, 1 ≤ n → n ≤ 2000 → nn ≠ nI n) → ∀ {o6 o7 o8 o9 o10}, Ev (d + 8) m_Q_samples 19 [some (.ref gQ), some (.int x), some (.int nn), some (.int v), some (.int st), some (.int tu), o6, o7, o8, o9, o10] [] w nc ns Q := fun hn _ _ _ _ _ => t_Q_samples_19 (tN nc) (tN16 _) (ht nc (Nat.le_refl _)) (hq3 c hc e hn _ exW_set)
  have e1 : (1 : Int32).toInt = 1 := rfl
  have e2 : (2000 : Int32).toInt = 2000 := rfl
  refine t_Q_samples_5 rfl rfl (fun g => bad3 (fun n n1 n2 en => ?_)) (fun g => ?_)
  · rw [en, Int32.lt_iff_toInt_lt, nI_toInt (by omega), e1] at g
    omega
  obtain ⟨n, hn, rfl⟩ := nI_of (x := nn) (by rw [Int32.lt_iff_toInt_lt] at g ⊢; rw [e1] at g; have : (0 : Int32).toInt = 0 := rfl; omega)
  rw [Int32.lt_iff_toInt_lt, nI_toInt hn, e1] at g
  refine t_Q_samples_12 (fun g2 => ?_) (fun g2 => bad3 (fun n' n1 n2 en => ?_))
  · rw [Int32.le_iff_toInt_le, nI_toInt hn, e2] at g2
    refine t_Q_samples_29 (Nat.le_of_ble_eq_true rfl) (c_refuse hch (by omega) ht (fun hle => ?_) (fun hle w' hw' => hq2 c n hc e rfl (by omega) (by omega) hle w' hw'))
    refine t_Q_samples_35 (chT_O hch) rfl ?_
    have key : ∀ m k y cg1 w1 v1 s1, k + m = n → (∀ v, v % 16 ≠ 12 + c → v ≠ gS → w1 v = w v) → stO w1 pc bad cg1 lw → chT w1 c y → opnX y < 1000 → xT y = xT (X c) + k → mkC (X c) ≤ mkC y → manyX pc m (y, cg1) v1 s1 tu = manyX pc n (X c, cg) v st tu →
        Ev (d + 8) m_Q_samples 52 [some (.ref gQ), some (.int x), some (.int (nI n)), some (.int v), some (.int st), some (.int tu), some (.ref (cO c)), some (.int (nI (xT (X c)))), some (.int v1), some (.int s1), some (.int (nI k))] [] w1 (nc + 4 * (mkC y - mkC (X c))) (ns + 539 * (mkC y - mkC (X c))) Q := by
      intro m
      induction m with
      | zero =>
        intro k y cg1 w1 v1 s1 hkm f1 o1 c1 hop1 htk1 hm1 hend
        refine t_Q_samples_52 (fun _ => t_Q_samples_89 ?_) (fun g => absurd (nI_le (by omega) (by omega)) g)
        have := hq1 c n hc e rfl (by omega) (by omega) hle w1 f1
        rw [← hend] at this
        exact this o1 c1 hm1
      | succ m ih =>
        intro k y cg1 w1 v1 s1 hkm f1 o1 c1 hop1 htk1 hm1 hend
        refine t_Q_samples_52 (fun g => absurd ((nI_leI (by omega) (by omega)).mp g) (by omega)) (fun _ => ?_)
        have hO1 : qO w1 := wo_f hO (f1 gQ (by unfold gQ; omega) (by decide))
        have hk1 : wk w1 := wk_12 hk (f1 1 (by omega) (by decide)) (f1 2 (by omega) (by decide))
        refine t_Q_samples_58 hO1 rfl o1 (Nat.le_of_ble_eq_true rfl) (c_take (v := v1) hk1 o1 c1 (by omega) hop1 hp (fun w2 f2 o2 c2 m2 => ?_))
        have ho2 := take_opn (v := v1) (pc := pc) (cg := cg1) hop1
        refine t_Q_samples_69 rfl ?_
        rw [nI_1, show nc + 4 * (mkC y - mkC (X c)) + 4 * (mkC (takeX y v1 pc cg1).1 - mkC y) = nc + 4 * (mkC (takeX y v1 pc cg1).1 - mkC (X c)) by omega, show ns + 539 * (mkC y - mkC (X c)) + 539 * (mkC (takeX y v1 pc cg1).1 - mkC y) = ns + 539 * (mkC (takeX y v1 pc cg1).1 - mkC (X c)) by omega]
        exact ih (k + 1) _ _ w2 _ _ (by omega) (fun v a b => by rw [f2 v a b]; exact f1 v a b) o2 c2 ho2.1 (by rw [ho2.2]; omega) (by omega) hend
    have := key n 0 (X c) cg w v st (by omega) (fun _ _ _ => rfl) h.1 hch (hop c hc) rfl (Nat.le_refl _) rfl
    rw [Nat.sub_self] at this
    exact this
  · rw [Int32.le_iff_toInt_le, nI_toInt hn, e2] at g2
    have := (nI_eq hn (by omega)).mp en
    omega
theorem c_Qquality {x : Int32} (hO : qO w) (ho : stO w pc bad cg lw) (ht : tmpI w nc)
    (hq1 : ∀ p, p ≤ 100 → x = nI p → ∀ w', (∀ v, v ≠ gS → w' v = w v) → stO w' p bad cg lw → Q (.inl none) w' nc ns)
    (hq0 : (∀ p, p ≤ 100 → x ≠ nI p) → ∀ w', exW w w' nc 14 → Q (.inr (tN nc)) w' (nc + 1) (ns + 6)) :
    Ev (d + 8) m_Q_quality 0 [some (.ref gQ), some (.int x)] [] w nc ns Q := by
  refine t_Q_quality_0 (fun g => t_Q_quality_10 (tN nc) (tN16 _) (ht nc (Nat.le_refl _)) (hq0 (fun p hp e => ?_) _ exW_set)) (fun g => ?_)
  · rw [e] at g; exact nI_pos (n := p) (by omega) g
  obtain ⟨p, hp, rfl⟩ := nI_of g
  refine t_Q_quality_4 (fun g => ?_) (fun g => t_Q_quality_10 (tN nc) (tN16 _) (ht nc (Nat.le_refl _)) (hq0 (fun p' hp' e => ?_) _ exW_set))
  · have hle := (nI_leI (b := 100) hp (by omega)).mp g
    exact t_Q_quality_20 hO rfl ho (Nat.le_of_ble_eq_true rfl) (es_w (fun w1 e1 f1 => t_Q_quality_28 (hq1 p hle rfl w1 f1 ⟨by decide, e1⟩)))
  · have := (nI_eq hp (by omega)).mp e
    exact g (nI_le (b := 100) (by omega) (by decide))
theorem c_Qflush {x : Int32} (hk : wk w) (hO : qO w) (h : stR w X pc bad cg lw) (ht : tmpI w nc) (hp : pc ≤ 100)
    (hq1 : ∀ c, c < 4 → x = nI c → 0 < opnX (X c) → ∀ w', (∀ v, v % 16 ≠ 12 + c → v ≠ gS → w' v = w v) → stO w' pc bad (cg + 1) lw → chT w' c (clsX (X c) pc cg) → Q (.inl (some (.int (nI (opnX (X c)))))) w' nc ns)
    (hq2 : ∀ c, c < 4 → x = nI c → opnX (X c) = 0 → Q (.inl (some (.int 0))) w nc ns)
    (hq0 : (∀ c, c < 4 → x ≠ nI c) → ∀ w', exW w w' nc 12 → Q (.inr (tN nc)) w' (nc + 1) (ns + 6)) :
    Ev (d + 8) m_Q_flush 0 [some (.ref gQ), some (.int x), none, none] [] w nc ns Q := by
  refine t_Q_flush_0 hO (Nat.le_of_ble_eq_true rfl) (c_chOf hO h ht (fun c hc e => ?_) (fun hn w' hw' => hq0 hn w' hw'))
  have hch := h.2.2 c hc
  have i3 := hch.2.1.2.2.1
  have htk := hch.2.1.2.2.2.1
  refine t_Q_flush_5 rfl (chT_O hch) (Nat.le_of_ble_eq_true rfl) (c_inOpen hch.2.2.1 i3 ?_)
  refine t_Q_flush_10 rfl (fun g => t_Q_flush_23 ?_) (fun g => ?_)
  · have h0 : xT (X c) - xF (X c) (xC (X c)) ≤ 0 := (nI_leI (b := 0) (by omega) (by omega)).mp g
    rw [show xT (X c) - xF (X c) (xC (X c)) = 0 by omega]
    exact hq2 c hc e (by unfold opnX; omega)
  · have h0 : 0 < xT (X c) - xF (X c) (xC (X c)) := by
      rcases Nat.eq_zero_or_pos (xT (X c) - xF (X c) (xC (X c))) with e | e
      · rw [e] at g; exact absurd (by decide) g
      · exact e
    exact t_Q_flush_15 hO rfl h.1 (Nat.le_of_ble_eq_true rfl) (c_Stclose hk h.1 hch (by omega) hp (fun w1 f1 o1 c1 => t_Q_flush_23 (hq1 c hc e h0 w1 f1 o1 c1)))
end QC
