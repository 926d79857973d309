/-! ===== the station: turns and requests ===== -/
def fwX (x : Chs) : Nat := max (xU x) (xC x - 32)
def wtX (x : Chs) : Prop := fwX x < xC x
def laX (x : Chs) : Nat := nxt (fun n => xA x n == true) 0
def setU (x : Chs) (u : Nat) : Chs := (xS x, xT x, xC x, xF x, xQ x, xO x, u, xA x)
def setA (x : Chs) (A : Nat → Bool) : Chs := (xS x, xT x, xC x, xF x, xQ x, xO x, xU x, A)
theorem lgc_gt {a b : Nat} (ha : a < 2 ^ 63) (hb : b < 2 ^ 63) : 0 < lg_cmp (lN a) (lN b) ↔ b < a := by
  rw [← pk_lLT hb ha]
  unfold lg_cmp
  split
  · rename_i h; exact ⟨fun _ => h, fun _ => by decide⟩
  · rename_i h
    split
    · exact ⟨fun h1 => absurd h1 (by decide), fun h1 => absurd h1 h⟩
    · exact ⟨fun h1 => absurd h1 (by decide), fun h1 => absurd h1 h⟩
theorem lgc_eq (x y : Int64) : lg_cmp x y = 0 ↔ x = y := by
  unfold lg_cmp
  split
  · rename_i h
    exact ⟨fun e => absurd e (by decide), fun e => by rw [e] at h; exact absurd h (Int64.lt_irrefl)⟩
  · split
    · rename_i h; exact ⟨fun _ => h, fun _ => rfl⟩
    · rename_i h; exact ⟨fun e => absurd e (by decide), fun e => absurd e h⟩
theorem lgc_lt {a b : Nat} (ha : a < 2 ^ 63) (hb : b < 2 ^ 63) : lg_cmp (lN a) (lN b) < 0 ↔ a < b := by
  unfold lg_cmp
  split
  · rename_i h
    replace h : b < a := (pk_lLT hb ha).mp h
    exact ⟨fun e => absurd e (by decide), fun e => by omega⟩
  · rename_i h
    replace h : ¬ b < a := fun e => h ((pk_lLT hb ha).mpr e)
    split
    · rename_i h2
      rw [pk_lEQ ha hb] at h2
      exact ⟨fun e => absurd e (by decide), fun e => by omega⟩
    · rename_i h2
      rw [pk_lEQ ha hb] at h2
      exact ⟨fun _ => by omega, fun _ => by decide⟩
theorem lgc_ge {a b : Nat} (ha : a < 2 ^ 63) (hb : b < 2 ^ 63) : 0 ≤ lg_cmp (lN a) (lN b) ↔ b ≤ a := by
  have h := lgc_lt ha hb
  constructor
  · intro g
    apply Nat.le_of_not_lt
    intro e
    have := h.mpr e
    rw [Int32.lt_iff_toInt_lt] at this
    rw [Int32.le_iff_toInt_le] at g
    omega
  · intro g
    rw [Int32.le_iff_toInt_le]
    have : ¬ lg_cmp (lN a) (lN b) < 0 := fun e => by have := h.mp e; omega
    rw [Int32.lt_iff_toInt_lt] at this
    omega
def rqB (r : Nat → Nat) (z : Nat) : Prop := z = 16 ∧ nI (getN r 96 32) = crcV r 12 ∧ getN r 0 8 < 4 ∧ getN r 8 24 = 0 ∧ getN r 32 32 ≤ getN r 64 32
section St2
variable {d : Nat} {w : qk_W} {nc ns : Nat} {Q : Option Value ⊕ Nat → qk_W → Nat → Nat → Prop} {pc bad cg : Nat} {lw : Bool} {X : Nat → Chs}
theorem c_isChannelL {a : Nat} (ha : a < 2 ^ 62) (hq : Q (.inl (some (.int (b2i (decide (a < 4)))))) w nc ns) : Ev d m_Q_isChannel 0 [some (.long (lN a)), none] [] w nc ns Q := by
  refine t_Q_isChannel_0 (fun g => absurd ((lgc_lt (b := 0) (by omega) (by omega)).mp g) (by omega)) (fun _ => ?_)
  refine t_Q_isChannel_6 (fun g => t_Q_isChannel_18 ?_) (fun g => t_Q_isChannel_14 ?_)
  · have := (lgc_ge (a := a) (b := 4) (by omega) (by omega)).mp g
    rwa [b2i_f (by simp; omega)] at hq
  · have : ¬ 4 ≤ a := fun e => g ((lgc_ge (a := a) (b := 4) (by omega) (by omega)).mpr e)
    rwa [b2i_t (by simp; omega)] at hq
theorem c_ofw {c : Nat} {x : Chs} (h : chT w c x) (hw : wtX x) (hq : Q (.inl (some (.int (nI (xO x (fwX x)))))) w nc ns) : Ev (d + 4) m_Ch_orderOfFirstThatWaits 0 [some (.ref (cO c))] [] w nc ns Q := by
  have hcl := chI_cl h.2.1
  have hus := h.2.1.2.2.2.2.2.2
  have hmk := mkN_le (xC x) (xF x (xC x)) (xT x)
  have hw' : max (xU x) (xC x - 32) < xC x := hw
  refine t_Ch_orderOfFirstThatWaits_0 (chT_O h) (Nat.le_of_ble_eq_true rfl) (c_firstThatWaits h.2.2.1 (by omega) (by omega) ?_)
  refine t_Ch_orderOfFirstThatWaits_5 (chT_O h) (Nat.le_of_ble_eq_true rfl) (c_packet h.2.2.1 (by omega) (by omega) ?_)
  obtain ⟨_, _, _, _, _, _, _, pk, _⟩ := h.2.2.2.1.2 (max (xU x) (xC x - 32)) hw' (by omega) (by omega)
  exact t_Ch_orderOfFirstThatWaits_8 pk.1 rfl hq
theorem wt_dec (x : Chs) : wtX x ↔ 0 < xC x - fwX x := by unfold wtX; omega
def smW (X : Nat → Chs) : Nat → Nat
  | 0 => 0
  | n + 1 => smW X n + (xC (X n) - fwX (X n))
theorem c_StWaits (h : stR w X pc bad cg lw) (hq : Q (.inl (some (.int (nI (smW X 4))))) w nc ns) : Ev (d + 5) m_St_howManyWait 0 [some (.ref gS), none, none] [] w nc ns Q := by
  obtain ⟨ho, ⟨f, h2, h3⟩, h4⟩ := h
  refine t_St_howManyWait_0 rfl ?_
  have key : ∀ m c, c + m = 4 → Ev (d + 5) m_St_howManyWait 4 [some (.ref gS), some (.int (nI (smW X c))), some (.int (nI c))] [] w nc ns Q := by
    intro m
    induction m with
    | zero =>
      intro c hc
      refine t_St_howManyWait_4 (fun _ => t_St_howManyWait_27 ?_) (fun g => absurd (nI_le (a := 4) (by omega) (by omega)) g)
      rw [show c = 4 by omega]
      exact hq
    | succ m ih =>
      intro c hc
      refine t_St_howManyWait_4 (fun g => absurd ((nI_leI (a := 4) (by omega) (by omega)).mp g) (by omega)) (fun _ => ?_)
      refine t_St_howManyWait_9 ho rfl h2 (vp_in_nI (by omega) (by omega)) (by rw [nI_clamp (by omega)]; exact h3 c (by omega)) (chT_O (h4 c (by omega))) (Nat.le_of_ble_eq_true rfl) (c_howManyWait (h4 c (by omega)) ?_)
      refine t_St_howManyWait_19 rfl ?_
      rw [nI_add, nI_1]
      exact ih (c + 1) (by omega)
  exact key 4 0 (by omega)
theorem c_StFirst (h : stR w X pc bad cg lw) (hod : ∀ c, c < 4 → ∀ s, s < xC (X c) → xO (X c) s < 2 ^ 30)
    (hq0 : (∀ c, c < 4 → ¬ wtX (X c)) → Q (.inl (some .null)) w nc ns)
    (hq1 : ∀ c, c < 4 → wtX (X c) → (∀ c', c' < 4 → wtX (X c') → xO (X c) (fwX (X c)) ≤ xO (X c') (fwX (X c'))) → Q (.inl (some (.ref (cO c)))) w nc ns) :
    Ev (d + 5) m_St_firstThatWaits 0 [some (.ref gS), none, none, none, none] [] w nc ns Q := by
  obtain ⟨ho, ⟨f, h2, h3⟩, h4⟩ := h
  refine t_St_firstThatWaits_0 rfl ?_
  have key : ∀ m c, c + m = 4 → ∀ o4, ((∀ c', c' < c → ¬ wtX (X c')) → ∀ x2, Ev (d + 5) m_St_firstThatWaits 6 [some (.ref gS), some .null, some (.int x2), some (.int (nI c)), o4] [] w nc ns Q) ∧
      (∀ b, b < c → wtX (X b) → (∀ c', c' < c → wtX (X c') → xO (X b) (fwX (X b)) ≤ xO (X c') (fwX (X c'))) → Ev (d + 5) m_St_firstThatWaits 6 [some (.ref gS), some (.ref (cO b)), some (.int (nI (xO (X b) (fwX (X b))))), some (.int (nI c)), o4] [] w nc ns Q) := by
    intro m
    induction m with
    | zero =>
      intro c hc o4
      have ec : c = 4 := by omega
      subst ec
      refine ⟨fun hn x2 => ?_, fun b hb hw hmin => ?_⟩
      · exact t_St_firstThatWaits_6 (fun _ => t_St_firstThatWaits_60 rfl (hq0 hn)) (fun g => absurd (nI_le (a := 4) (by omega) (by omega)) g)
      · exact t_St_firstThatWaits_6 (fun _ => t_St_firstThatWaits_60 rfl (hq1 b hb hw hmin)) (fun g => absurd (nI_le (a := 4) (by omega) (by omega)) g)
    | succ m ih =>
      intro c hc o4
      have hcl := chI_cl (h4 c (by omega)).2.1
      have hx3 : f (nI c).toNatClampNeg = some (cO c) := by rw [nI_clamp (by omega)]; exact h3 c (by omega)
      refine ⟨fun hn x2 => ?_, fun b hb hw hmin => ?_⟩
      · refine t_St_firstThatWaits_6 (fun g => absurd ((nI_leI (a := 4) (by omega) (by omega)).mp g) (by omega)) (fun _ => ?_)
        refine t_St_firstThatWaits_11 ho rfl h2 (vp_in_nI (by omega) (by omega)) hx3 (chT_O (h4 c (by omega))) (Nat.le_of_ble_eq_true rfl) (c_howManyWait (h4 c (by omega)) ?_)
        refine t_St_firstThatWaits_20 (fun g => t_St_firstThatWaits_54 rfl ?_) (fun g => ?_)
        · have h0 : xC (X c) - fwX (X c) ≤ 0 := (nI_leI (b := 0) (by unfold fwX; omega) (by omega)).mp g
          rw [nI_1]
          refine (ih (c + 1) (by omega) _).1 (fun c' hc' => ?_) x2
          by_cases e : c' = c
          · rw [e, wt_dec]; omega
          · exact hn c' (by omega)
        · have hwc : wtX (X c) := (wt_dec _).mpr (by
            rcases Nat.eq_zero_or_pos (xC (X c) - fwX (X c)) with e | e
            · exact absurd (by show nI (xC (X c) - fwX (X c)) ≤ 0; rw [e]; decide) g
            · exact e)
          refine t_St_firstThatWaits_23 ho rfl h2 (vp_in_nI (by omega) (by omega)) hx3 (chT_O (h4 c (by omega))) (Nat.le_of_ble_eq_true rfl) (c_ofw (h4 c (by omega)) hwc ?_)
          refine t_St_firstThatWaits_32n rfl (t_St_firstThatWaits_44 ho rfl h2 (vp_in_nI (by omega) (by omega)) hx3 ?_)
          rw [nI_1]
          refine (ih (c + 1) (by omega) _).2 c (by omega) hwc (fun c' hc' hw' => ?_)
          by_cases e : c' = c
          · rw [e]; exact Nat.le_refl _
          · exact absurd hw' (hn c' (by omega))
      · refine t_St_firstThatWaits_6 (fun g => absurd ((nI_leI (a := 4) (by omega) (by omega)).mp g) (by omega)) (fun _ => ?_)
        refine t_St_firstThatWaits_11 ho rfl h2 (vp_in_nI (by omega) (by omega)) hx3 (chT_O (h4 c (by omega))) (Nat.le_of_ble_eq_true rfl) (c_howManyWait (h4 c (by omega)) ?_)
        refine t_St_firstThatWaits_20 (fun g => t_St_firstThatWaits_54 rfl ?_) (fun g => ?_)
        · have h0 : xC (X c) - fwX (X c) ≤ 0 := (nI_leI (b := 0) (by unfold fwX; omega) (by omega)).mp g
          rw [nI_1]
          refine (ih (c + 1) (by omega) _).2 b (by omega) hw (fun c' hc' hw' => ?_)
          by_cases e : c' = c
          · rw [e, wt_dec] at hw'; omega
          · exact hmin c' (by omega) hw'
        · have hwc : wtX (X c) := (wt_dec _).mpr (by
            rcases Nat.eq_zero_or_pos (xC (X c) - fwX (X c)) with e | e
            · exact absurd (by show nI (xC (X c) - fwX (X c)) ≤ 0; rw [e]; decide) g
            · exact e)
          have ob := hod b (by omega) (fwX (X b)) hw
          have oc := hod c (by omega) (fwX (X c)) hwc
          refine t_St_firstThatWaits_23 ho rfl h2 (vp_in_nI (by omega) (by omega)) hx3 (chT_O (h4 c (by omega))) (Nat.le_of_ble_eq_true rfl) (c_ofw (h4 c (by omega)) hwc ?_)
          refine t_St_firstThatWaits_32 rfl (t_St_firstThatWaits_38 (fun g2 => t_St_firstThatWaits_54 rfl ?_) (fun g2 => t_St_firstThatWaits_44 ho rfl h2 (vp_in_nI (by omega) (by omega)) hx3 ?_))
          · have hle := (nI_leI (by omega) (by omega)).mp g2
            rw [nI_1]
            refine (ih (c + 1) (by omega) _).2 b (by omega) hw (fun c' hc' hw' => ?_)
            by_cases e : c' = c
            · rw [e]; exact hle
            · exact hmin c' (by omega) hw'
          · have hlt : xO (X c) (fwX (X c)) < xO (X b) (fwX (X b)) := Nat.lt_of_not_le (fun e => g2 (nI_le e (by omega)))
            rw [nI_1]
            refine (ih (c + 1) (by omega) _).2 c (by omega) hwc (fun c' hc' hw' => ?_)
            by_cases e : c' = c
            · rw [e]; exact Nat.le_refl _
            · have := hmin c' (by omega) hw'; omega
  exact (key 4 0 (by omega) none).1 (fun c' hc' => absurd hc' (by omega)) 0
theorem laX_le (x : Chs) : laX x ≤ 32768 := (nxt_spec _ (by omega)).2.1
theorem c_StLeast (h : stR w X pc bad cg lw)
    (hq0 : (∀ c, c < 4 → laX (X c) = 32768) → Q (.inl (some .null)) w nc ns)
    (hq1 : ∀ c, c < 4 → laX (X c) < 32768 → (∀ c', c' < 4 → laX (X c) ≤ laX (X c')) → (∀ c', c' < c → laX (X c) < laX (X c')) → Q (.inl (some (.ref (cO c)))) w nc ns) :
    Ev (d + 2) m_St_leastAsked 0 [some (.ref gS), none, none, none, none] [] w nc ns Q := by
  obtain ⟨ho, ⟨f, h2, h3⟩, h4⟩ := h
  refine t_St_leastAsked_0 rfl ?_
  have key : ∀ m c, c + m = 4 → ∀ o4, ((∀ c', c' < c → laX (X c') = 32768) → Ev (d + 2) m_St_leastAsked 7 [some (.ref gS), some .null, some (.int (nI 32768)), some (.int (nI c)), o4] [] w nc ns Q) ∧
      (∀ b, b < c → laX (X b) < 32768 → (∀ c', c' < c → laX (X b) ≤ laX (X c')) → (∀ c', c' < b → laX (X b) < laX (X c')) → Ev (d + 2) m_St_leastAsked 7 [some (.ref gS), some (.ref (cO b)), some (.int (nI (laX (X b)))), some (.int (nI c)), o4] [] w nc ns Q) := by
    intro m
    induction m with
    | zero =>
      intro c hc o4
      have ec : c = 4 := by omega
      subst ec
      refine ⟨fun hn => ?_, fun b hb hw hmin hst => ?_⟩
      · exact t_St_leastAsked_7 (fun _ => t_St_leastAsked_50 rfl (hq0 hn)) (fun g => absurd (nI_le (a := 4) (by omega) (by omega)) g)
      · exact t_St_leastAsked_7 (fun _ => t_St_leastAsked_50 rfl (hq1 b hb hw hmin hst)) (fun g => absurd (nI_le (a := 4) (by omega) (by omega)) g)
    | succ m ih =>
      intro c hc o4
      have hx3 : f (nI c).toNatClampNeg = some (cO c) := by rw [nI_clamp (by omega)]; exact h3 c (by omega)
      have hl := laX_le (X c)
      have step : ∀ (v1 : Value) (x2 : Int32), (x2 ≤ nI (laX (X c)) → Ev (d + 2) m_St_leastAsked 7 [some (.ref gS), some v1, some (.int x2), some (.int (nI (c + 1))), some (.int (nI (laX (X c))))] [] w nc ns Q) → (¬ x2 ≤ nI (laX (X c)) → Ev (d + 2) m_St_leastAsked 7 [some (.ref gS), some (.ref (cO c)), some (.int (nI (laX (X c)))), some (.int (nI (c + 1))), some (.int (nI (laX (X c))))] [] w nc ns Q) →
          Ev (d + 2) m_St_leastAsked 7 [some (.ref gS), some v1, some (.int x2), some (.int (nI c)), o4] [] w nc ns Q := by
        intro v1 x2 ka kb
        refine t_St_leastAsked_7 (fun g => absurd ((nI_leI (a := 4) (by omega) (by omega)).mp g) (by omega)) (fun _ => ?_)
        refine t_St_leastAsked_12 ho rfl h2 (vp_in_nI (by omega) (by omega)) hx3 (chT_O (h4 c (by omega))) rfl (chR_nsO (h4 c (by omega))) (Nat.le_of_ble_eq_true rfl) (c_next (fl := true) (s := 0) (h4 c (by omega)).2.2.1.2.1 (by omega) ?_)
        refine t_St_leastAsked_26 rfl (fun g => t_St_leastAsked_44 rfl ?_) (fun g => t_St_leastAsked_34 ho rfl h2 (vp_in_nI (by omega) (by omega)) hx3 ?_)
        · rw [nI_1]; exact ka g
        · rw [nI_1]; exact kb g
      refine ⟨fun hn => ?_, fun b hb hw hmin hst => ?_⟩
      · refine step _ _ (fun g => ?_) (fun g => ?_)
        · have := (nI_leI (a := 32768) (by omega) (by omega)).mp g
          refine (ih (c + 1) (by omega) _).1 (fun c' hc' => ?_)
          by_cases e : c' = c
          · rw [e]; omega
          · exact hn c' (by omega)
        · have hlt : laX (X c) < 32768 := Nat.lt_of_not_le (fun e => g (nI_le e (by omega)))
          refine (ih (c + 1) (by omega) _).2 c (by omega) hlt (fun c' hc' => ?_) (fun c' hc' => ?_)
          · by_cases e : c' = c
            · rw [e]; exact Nat.le_refl _
            · rw [hn c' (by omega)]; omega
          · rw [hn c' (by omega)]; omega
      · refine step _ _ (fun g => ?_) (fun g => ?_)
        · have hle := (nI_leI (by omega) (by omega)).mp g
          refine (ih (c + 1) (by omega) _).2 b (by omega) hw (fun c' hc' => ?_) hst
          by_cases e : c' = c
          · rw [e]; exact hle
          · exact hmin c' (by omega)
        · have hlt : laX (X c) < laX (X b) := Nat.lt_of_not_le (fun e => g (nI_le e (by omega)))
          refine (ih (c + 1) (by omega) _).2 c (by omega) (by omega) (fun c' hc' => ?_) (fun c' hc' => ?_)
          · by_cases e : c' = c
            · rw [e]; exact Nat.le_refl _
            · have := hmin c' (by omega); omega
          · have := hmin c' (by omega); omega
  exact (key 4 0 (by omega) none).1 (fun c' hc' => absurd hc' (by omega))
theorem c_isRequest {a rw' z : Nat} {r : Nat → Nat} (hk : wk w) (h : meR w a rw' r z) (hz : 16 ≤ z) (hz2 : z ≤ 512) (hq1 : rqB r z → Q (.inl (some (.int 1))) w nc ns) (hq0 : ¬ rqB r z → Q (.inl (some (.int 0))) w nc ns) :
    Ev (d + 3) m_St_isRequest 0 [some (.ref a)] [] w nc ns Q := by
  have gl : ∀ p n, n ≤ 32 → getN r p n < 2 ^ 32 := fun p n hn => Nat.lt_of_lt_of_le (getN_lt r p n) (Nat.pow_le_pow_right (by omega) hn)
  refine t_St_isRequest_0 h.1 rfl (fun g => t_St_isRequest_60 (hq0 (fun e => g (by rw [e.1]; rfl)))) (fun g => ?_)
  have ez : z = 16 := (nI_eq (b := 16) (by omega) (by omega)).mp g
  subst ez
  refine t_St_isRequest_9 h.1 (Nat.le_of_ble_eq_true rfl) (c_isSealed hk h (by omega) (by omega) ?_)
  refine t_St_isRequest_13 (fun g => t_St_isRequest_60 (hq0 (fun e => ?_))) (fun g => ?_)
  · rw [b2i_t (decide_eq_true e.2.1)] at g; exact absurd g (by decide)
  have e1 : nI (getN r 96 32) = crcV r 12 := by
    by_cases e : nI (getN r 96 32) = crcV r 12
    · exact e
    · rw [b2i_f (by simp; exact e)] at g; exact absurd rfl g
  refine t_St_isRequest_16 h.1 (Nat.le_of_ble_eq_true rfl) (c_number (at' := 0) (n := 1) h (by omega) (by omega) ?_)
  refine t_St_isRequest_22 (Nat.le_of_ble_eq_true rfl) (c_isChannelL (by have := gl (8 * 0) (8 * 1) (by omega); omega) ?_)
  refine t_St_isRequest_25 (fun g => t_St_isRequest_60 (hq0 (fun e => ?_))) (fun g => ?_)
  · rw [b2i_t (decide_eq_true e.2.2.1)] at g; exact absurd g (by decide)
  have e2 : getN r 0 8 < 4 := by
    by_cases e : getN r 0 8 < 4
    · exact e
    · rw [b2i_f (show ¬ decide (getN r (8 * 0) (8 * 1) < 4) = true by simp; omega)] at g; exact absurd rfl g
  refine t_St_isRequest_28 h.1 (Nat.le_of_ble_eq_true rfl) (c_number (at' := 1) (n := 3) h (by omega) (by omega) ?_)
  refine t_St_isRequest_34 (fun g => t_St_isRequest_60 (hq0 (fun e => g ((lgc_eq _ _).mpr (by show lN (getN r 8 24) = 0; rw [e.2.2.2.1]; rfl))))) (fun g => ?_)
  have e3 : getN r 8 24 = 0 := (pk_lEQ (b := 0) (by have := gl 8 24 (by omega); omega) (by omega)).mp ((lgc_eq _ _).mp g)
  refine t_St_isRequest_39 h.1 (Nat.le_of_ble_eq_true rfl) (c_number (at' := 4) (n := 4) h (by omega) (by omega) ?_)
  refine t_St_isRequest_45 h.1 (Nat.le_of_ble_eq_true rfl) (c_number (at' := 8) (n := 4) h (by omega) (by omega) ?_)
  have g1 := gl 32 32 (by omega)
  have g2 := gl 64 32 (by omega)
  refine t_St_isRequest_52 (fun g => t_St_isRequest_60 (hq0 (fun e => ?_))) (fun g => t_St_isRequest_56 (hq1 ⟨rfl, e1, e2, e3, ?_⟩))
  · have := (lgc_gt (a := getN r 32 32) (b := getN r 64 32) (by omega) (by omega)).mp g
    have := e.2.2.2.2
    omega
  · exact Nat.le_of_not_lt (fun e => g ((lgc_gt (a := getN r 32 32) (b := getN r 64 32) (by omega) (by omega)).mpr e))
theorem c_StReceive {a rw' z : Nat} {r : Nat → Nat} (hk : wk w) (h : stR w X pc bad cg lw) (hm : meR w a rw' r z) (hz : 16 ≤ z) (hz2 : z ≤ 512)
    (hq1 : rqB r z → ∀ w', frR (12 + getN r 0 8) w w' → chT w' (getN r 0 8) (setA (X (getN r 0 8)) (askR (xA (X (getN r 0 8))) (getN r 32 32) (getN r 64 32) (xF (X (getN r 0 8)) (xC (X (getN r 0 8)))))) → Q (.inl (some (.int (nI (cnt (askR (xA (X (getN r 0 8))) (getN r 32 32) (getN r 64 32) (xF (X (getN r 0 8)) (xC (X (getN r 0 8))))) 32768 - cnt (xA (X (getN r 0 8))) 32768))))) w' nc ns)
    (hq0 : ¬ rqB r z → ∀ w', (∀ v, v ≠ gS → w' v = w v) → stO w' pc (bad + 1) cg lw → Q (.inl (some (.int (-1)))) w' nc ns) :
    Ev (d + 4) m_St_receive 0 [some (.ref gS), some (.ref a), none] [] w nc ns Q := by
  obtain ⟨ho, ⟨f, h2, h3⟩, h4⟩ := h
  have gl : ∀ p n, n ≤ 32 → getN r p n < 2 ^ 32 := fun p n hn => Nat.lt_of_lt_of_le (getN_lt r p n) (Nat.pow_le_pow_right (by omega) hn)
  refine t_St_receive_0 (Nat.le_of_ble_eq_true rfl) (c_isRequest hk hm hz hz2 (fun hr => ?_) (fun hr => ?_))
  · refine t_St_receive_4 (fun _ => ?_) (fun g => absurd g (by decide))
    have hc := hr.2.2.1
    refine t_St_receive_19 ho rfl hm.1 (Nat.le_of_ble_eq_true rfl) (c_number (at' := 0) (n := 1) hm (by omega) (by omega) ?_)
    rw [show 8 * 0 = 0 from rfl, show 8 * 1 = 8 from rfl]
    refine t_St_receive_29 (c6 := cO (getN r 0 8)) h2 (by rw [lN_i]; exact vp_in_nI hc (by omega)) (by rw [lN_i, nI_clamp (by omega)]; exact h3 _ hc) rfl hm.1 (Nat.le_of_ble_eq_true rfl) (c_number (at' := 4) (n := 4) hm (by omega) (by omega) ?_)
    refine t_St_receive_39 hm.1 (Nat.le_of_ble_eq_true rfl) (c_number (at' := 8) (n := 4) hm (by omega) (by omega) ?_)
    exact t_St_receive_46 (chT_O (h4 _ hc)) (Nat.le_of_ble_eq_true rfl) (c_askFor (h4 _ hc) (gl 32 32 (by omega)) (gl 64 32 (by omega)) (fun w1 f1 c1 => t_St_receive_49 (hq1 hr w1 f1 c1)))
  · refine t_St_receive_4 (fun g => absurd rfl g) (fun _ => ?_)
    refine t_St_receive_7 ho rfl (Nat.le_of_ble_eq_true rfl) (es_w (fun w1 e1 f1 => t_St_receive_17 ?_))
    rw [nI_1] at e1
    exact hq0 hr w1 f1 ⟨by unfold gS; omega, e1⟩
theorem c_sendNext {sl : Nat} {R : Nat → Nat → Nat} {L : Nat → Nat} {T : Nat → Bool} (hk : wk w) (h : stR w X pc bad cg lw) (hod : ∀ c, c < 4 → ∀ s, s < xC (X c) → xO (X c) s < 2 ^ 30) (hA : ∀ c, c < 4 → ∀ n, n < 32768 → xA (X c) n = true → n < xF (X c) (xC (X c))) (ha : airR w sl R L T) (hsl : sl < 2 ^ 30)
    (hq1 : ∀ c, c < 4 → wtX (X c) → (∀ c', c' < 4 → wtX (X c') → xO (X c) (fwX (X c)) ≤ xO (X c') (fwX (X c'))) → ((∀ c', c' < 4 → laX (X c') = 32768) ∨ lw = false) → ∀ w' r, (∀ v, v % 16 ≠ 8 → v % 16 ≠ 12 + c → v ≠ gS → w' v = w v) → stO w' pc bad cg true → chT w' c (setU (X c) (fwX (X c) + 1)) → airH w' (sl + 1) R L T (sl % 64) → meR w' (aM (sl % 64)) (aW (sl % 64)) r (szP (xS (X c)) (xF (X c) (fwX (X c))) (xF (X c) (fwX (X c) + 1) - xF (X c) (fwX (X c)))) → rowM r c (xS (X c)) (xF (X c) (fwX (X c))) (xF (X c) (fwX (X c) + 1) - xF (X c) (fwX (X c))) (xQ (X c) (fwX (X c))) (xF (X c) (xC (X c) - 32)) → Q (.inl (some (.int 1))) w' (nc + if sl < 64 then 2 else 0) (ns + if sl < 64 then 514 else 0))
    (hq2 : ∀ c, c < 4 → laX (X c) < 32768 → (∀ c', c' < 4 → laX (X c) ≤ laX (X c')) → (∀ c', c' < c → laX (X c) < laX (X c')) → ((∀ c', c' < 4 → ¬ wtX (X c')) ∨ lw = true) → laX (X c) < xF (X c) (xC (X c) - 32) → ∀ w' r, (∀ v, v % 16 ≠ 8 → v % 16 ≠ 12 + c → v ≠ gS → w' v = w v) → stO w' pc bad cg false → chT w' c (setA (X c) (delR (xA (X c)) 0 (xF (X c) (xC (X c) - 32) - 1))) → airH w' (sl + 1) R L T (sl % 64) → meR w' (aM (sl % 64)) (aW (sl % 64)) r 24 → rowE r c (xF (X c) (xC (X c) - 32)) → Q (.inl (some (.int 1))) w' (nc + if sl < 64 then 2 else 0) (ns + if sl < 64 then 514 else 0))
    (hq3 : ∀ c, c < 4 → laX (X c) < 32768 → (∀ c', c' < 4 → laX (X c) ≤ laX (X c')) → (∀ c', c' < c → laX (X c) < laX (X c')) → ((∀ c', c' < 4 → ¬ wtX (X c')) ∨ lw = true) → xF (X c) (xC (X c) - 32) ≤ laX (X c) → ∀ s, s < xC (X c) → xF (X c) s ≤ laX (X c) → laX (X c) < xF (X c) (s + 1) → ∀ w' r, (∀ v, v % 16 ≠ 8 → v % 16 ≠ 12 + c → v ≠ gS → w' v = w v) → stO w' pc bad cg false → chT w' c (setA (X c) (delR (xA (X c)) (xF (X c) s) (xF (X c) (s + 1) - 1))) → airH w' (sl + 1) R L T (sl % 64) → meR w' (aM (sl % 64)) (aW (sl % 64)) r (szP (xS (X c)) (xF (X c) s) (xF (X c) (s + 1) - xF (X c) s)) → rowM r c (xS (X c)) (xF (X c) s) (xF (X c) (s + 1) - xF (X c) s) (xQ (X c) s) (xF (X c) (xC (X c) - 32)) → Q (.inl (some (.int 1))) w' (nc + if sl < 64 then 2 else 0) (ns + if sl < 64 then 514 else 0))
    (hq0 : (∀ c', c' < 4 → ¬ wtX (X c')) → (∀ c', c' < 4 → laX (X c') = 32768) → Q (.inl (some (.int 0))) w nc ns) :
    Ev (d + 6) m_St_sendNext 0 [some (.ref gS), some (.ref aO), none, none] [] w nc ns Q := by
  have h' := h
  obtain ⟨ho, hA2, h4⟩ := h
  have waiting : ∀ c v3, c < 4 → wtX (X c) → (∀ c', c' < 4 → wtX (X c') → xO (X c) (fwX (X c)) ≤ xO (X c') (fwX (X c'))) → ((∀ c', c' < 4 → laX (X c') = 32768) ∨ lw = false) →
      Ev (d + 6) m_St_sendNext 25 [some (.ref gS), some (.ref aO), some (.ref (cO c)), some v3] [] w nc ns Q := by
    intro c v3 hc hw hmin hor
    refine t_St_sendNext_25 (chT_O (h4 c hc)) (Nat.le_of_ble_eq_true rfl) (c_sendWaiting hk (h4 c hc) hw ha hsl (fun w1 r f1 c1 a1 m1 r1 => ?_))
    have o1 := wo_f ho (f1 gS (by decide) (by unfold gS; omega))
    refine t_St_sendNext_30 o1 (Nat.le_of_ble_eq_true rfl) (es_w (fun w2 e2 f2 => t_St_sendNext_35 ?_))
    refine hq1 c hc hw hmin hor w2 r (fun v v1 v2 v3 => by rw [f2 v v3]; exact f1 v v1 v2) ⟨by unfold gS; omega, e2⟩ (chR_f c1 (fun v hv => f2 v (by unfold gS; omega))) (airH_f a1 (fun v hv => f2 v (by unfold gS; omega))) (meR_f m1 (f2 _ (by unfold aM gS; omega)) (f2 _ (by unfold aW gS; omega))) r1
  have asking : ∀ c v2, c < 4 → laX (X c) < 32768 → (∀ c', c' < 4 → laX (X c) ≤ laX (X c')) → (∀ c', c' < c → laX (X c) < laX (X c')) → ((∀ c', c' < 4 → ¬ wtX (X c')) ∨ lw = true) →
      Ev (d + 6) m_St_sendNext 37 [some (.ref gS), some (.ref aO), v2, some (.ref (cO c))] [] w nc ns Q := by
    intro c v2 hc hl hmin hst hor
    refine t_St_sendNext_37 (t_St_sendNext_41 (chT_O (h4 c hc)) (Nat.le_of_ble_eq_true rfl) (c_sendAsked hk (h4 c hc) hl (hA c hc) ha hsl (fun g w1 r f1 c1 a1 m1 r1 => ?_) (fun g s s1 s3 s4 w1 r f1 c1 a1 m1 r1 => ?_)))
    · have o1 := wo_f ho (f1 gS (by decide) (by unfold gS; omega))
      refine t_St_sendNext_46 o1 (Nat.le_of_ble_eq_true rfl) (es_w (fun w2 e2 f2 => t_St_sendNext_51 ?_))
      exact hq2 c hc hl hmin hst hor g w2 r (fun v v1 v2 v3 => by rw [f2 v v3]; exact f1 v v1 v2) ⟨by unfold gS; omega, e2⟩ (chR_f c1 (fun v hv => f2 v (by unfold gS; omega))) (airH_f a1 (fun v hv => f2 v (by unfold gS; omega))) (meR_f m1 (f2 _ (by unfold aM gS; omega)) (f2 _ (by unfold aW gS; omega))) r1
    · have o1 := wo_f ho (f1 gS (by decide) (by unfold gS; omega))
      refine t_St_sendNext_46 o1 (Nat.le_of_ble_eq_true rfl) (es_w (fun w2 e2 f2 => t_St_sendNext_51 ?_))
      exact hq3 c hc hl hmin hst hor g s s1 s3 s4 w2 r (fun v v1 v2 v3 => by rw [f2 v v3]; exact f1 v v1 v2) ⟨by unfold gS; omega, e2⟩ (chR_f c1 (fun v hv => f2 v (by unfold gS; omega))) (airH_f a1 (fun v hv => f2 v (by unfold gS; omega))) (meR_f m1 (f2 _ (by unfold aM gS; omega)) (f2 _ (by unfold aW gS; omega))) r1
  refine t_St_sendNext_0 ho (Nat.le_of_ble_eq_true rfl) (c_StFirst h' hod (fun hn => ?_) (fun c hc hw hmin => ?_))
  · refine t_St_sendNext_4 rfl rfl ho (Nat.le_of_ble_eq_true rfl) (c_StLeast h' (fun hl => ?_) (fun b hb hl hm hst => ?_))
    · exact t_St_sendNext_9n rfl rfl (t_St_sendNext_37n (t_St_sendNext_53 (hq0 hn hl)))
    · exact t_St_sendNext_9n rfl rfl (asking b _ hb hl hm hst (Or.inl hn))
  · refine t_St_sendNext_4 rfl rfl ho (Nat.le_of_ble_eq_true rfl) (c_StLeast h' (fun hl => ?_) (fun b hb hl hm hst => ?_))
    · exact t_St_sendNext_9 rfl rfl (t_St_sendNext_14n (waiting c _ hc hw hmin (Or.inl hl)))
    · refine t_St_sendNext_9 rfl rfl (t_St_sendNext_14 (t_St_sendNext_18 ho rfl (fun g => ?_) (fun g => ?_)))
      · refine asking b _ hb hl hm hst (Or.inr ?_)
        cases lw with
        | true => rfl
        | false => exact absurd rfl g
      · refine waiting c _ hc hw hmin (Or.inr ?_)
        cases lw with
        | true => exact absurd g (by decide)
        | false => rfl
end St2
