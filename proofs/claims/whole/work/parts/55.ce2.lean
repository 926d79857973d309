/-! ===== the centre: receiving and asking ===== -/
/-- a track's state: values, heard, oldest, pages made -/
abbrev Trs : Type := (Nat → Int32) × (Nat → Nat) × Nat × (Nat → Bool)
def yV (y : Trs) : Nat → Int32 := y.1
def yH (y : Trs) : Nat → Nat := y.2.1
def yO (y : Trs) : Nat := y.2.2.1
def yP (y : Trs) : Nat → Bool := y.2.2.2
def trT (w : qk_W) (c : Nat) (y : Trs) : Prop := trR w c (yV y) (yH y) (yO y) (yP y) ∧ yO y ≤ 32768
def ceO (w : qk_W) (rej cla : Nat) : Prop := wo w gE 5 [.ref gT, .int (nI rej), .int (nI cla)]
def ceA (w : qk_W) : Prop := ∃ f, wr "QuakeLink$Track" w gT 4 f ∧ ∀ c, c < 4 → f c = some (tO c)
def ceR (w : qk_W) (Y : Nat → Trs) (rej cla : Nat) : Prop := ceO w rej cla ∧ ceA w ∧ ∀ c, c < 4 → trT w c (Y c)
theorem trT_f {w w' : qk_W} {c : Nat} {y : Trs} (h : trT w c y) (e : ∀ v, v % 16 = 4 + c → w' v = w v) : trT w' c y := ⟨trR_f h.1 e, h.2⟩
def oldY (y : Trs) (o : Nat) : Trs := (yV y, yH y, max (yO y) o, yP y)
def keepY (y : Trs) (fi n q1 : Nat) (val : Nat → Int32) (o : Nat) (pm : Nat → Bool) : Trs := (vU (yV y) (yH y) fi n val, hU (yH y) fi n q1, max (yO y) o, pm)
def clash (y : Trs) (fi n : Nat) (val : Nat → Int32) : Prop := ∃ k, k < n ∧ 0 < yH y (fi + k) ∧ yV y (fi + k) ≠ val k
/-- the row of a request -/
def rowQ (r : Nat → Nat) (c fm to : Nat) : Prop := getN r 0 8 = c ∧ getN r 8 24 = 0 ∧ getN r 32 32 = fm ∧ getN r 64 32 = to ∧ getN r 96 32 = vN (crcV r 12)
def sgY (y : Trs) : Nat := sgf (yH y) (yO y)
section Ce2
variable {d : Nat} {w : qk_W} {nc ns : Nat} {Q : Option Value ⊕ Nat → qk_W → Nat → Nat → Prop} {a rw' z rej cla : Nat} {r : Nat → Nat} {Y : Nat → Trs}
theorem c_CeReceive (hk : wk w) (h : ceR w Y rej cla) (hm : meR w a rw' r z) (ha : a % 16 = 8) (hr : rw' % 16 = 8) (hz : 16 ≤ z) (hz2 : z ≤ 512) (ht : tmpI w nc)
    (hq0 : ¬ soB r z → ∀ w' nc' ns', (∀ v, v % 16 ≠ 11 → v ≠ gE → w' v = w v) → tmpI w' nc' → ceO w' (rej + 1) cla → nc ≤ nc' → nc' ≤ nc + 3 → ns ≤ ns' → ns' ≤ ns + 27 → Q (.inl (some (.int (-1)))) w' nc' ns')
    (hq1 : soB r z → getN r 16 16 = 0 → ∀ w' nc' ns', (∀ v, v % 16 ≠ 11 → v % 16 ≠ 4 + getN r 0 8 → w' v = w v) → tmpI w' nc' → trT w' (getN r 0 8) (oldY (Y (getN r 0 8)) (getN r 32 32)) → nc ≤ nc' → nc' ≤ nc + 3 → ns ≤ ns' → ns' ≤ ns + 27 → Q (.inl (some (.int 0))) w' nc' ns')
    (hq2 : soB r z → ¬ getN r 16 16 = 0 → clash (Y (getN r 0 8)) (getN r 64 32) (getN r 16 16) (dval r z) → ∀ w' nc' ns', (∀ v, v % 16 ≠ 11 → v % 16 ≠ 4 + getN r 0 8 → v ≠ gE → w' v = w v) → tmpI w' nc' → ceO w' rej (cla + 1) → trT w' (getN r 0 8) (oldY (Y (getN r 0 8)) (getN r 32 32)) → nc ≤ nc' → nc' ≤ nc + 3 → ns ≤ ns' → ns' ≤ ns + 27 → Q (.inl (some (.int (-2)))) w' nc' ns')
    (hq3 : soB r z → ¬ getN r 16 16 = 0 → ¬ clash (Y (getN r 0 8)) (getN r 64 32) (getN r 16 16) (dval r z) → ∀ w' nc' ns' pm', (∀ v, v % 16 ≠ 11 → v % 16 ≠ 4 + getN r 0 8 → w' v = w v) → tmpI w' nc' → trT w' (getN r 0 8) (keepY (Y (getN r 0 8)) (getN r 64 32) (getN r 16 16) (getN r 8 8 + 1) (dval r z) (getN r 32 32) pm') → cnt (yP (Y (getN r 0 8))) 32 ≤ cnt pm' 32 → nc ≤ nc' → nc' ≤ nc + 3 + 3 * (cnt pm' 32 - cnt (yP (Y (getN r 0 8))) 32) → ns ≤ ns' → ns' ≤ ns + 27 + 2050 * (cnt pm' 32 - cnt (yP (Y (getN r 0 8))) 32) → Q (.inl (some (.int (nI (cnt (hs (hU (yH (Y (getN r 0 8))) (getN r 64 32) (getN r 16 16) (getN r 8 8 + 1))) 32768 - cnt (hs (yH (Y (getN r 0 8)))) 32768))))) w' nc' ns') :
    Ev (d + 5) m_Ce_receive 0 [some (.ref gE), some (.ref a), none] [] w nc ns Q := by
  obtain ⟨ho, ⟨f, h2, h3⟩, h4⟩ := h
  refine t_Ce_receive_0 (Nat.le_of_ble_eq_true rfl) (c_isSound hk hm ha hr hz hz2 ht (fun hs w1 nc1 ns1 f1 t1 b1 b2 b3 b4 => ?_) (fun hs w1 nc1 ns1 f1 t1 b1 b2 b3 b4 => ?_))
  · refine t_Ce_receive_4 (fun _ => ?_) (fun g => absurd g (by decide))
    have hs' := hs
    obtain ⟨s1, s2, s3, s4, s5, s6, s7⟩ := hs
    have o1 := wo_f ho (f1 gE (by decide))
    have m1 := meR_f hm (f1 _ (by omega)) (f1 _ (by omega))
    have r1 := wr_f h2 (f1 gT (by decide))
    have y1 := trT_f (h4 _ s3) (fun v hv => f1 v (by omega))
    generalize hc : getN r 0 8 = c at *
    refine t_Ce_receive_19 o1 rfl m1.1 (Nat.le_of_ble_eq_true rfl) (c_number (at' := 0) (n := 1) m1 (by omega) (by omega) ?_)
    rw [show 8 * 0 = 0 from rfl, show 8 * 1 = 8 from rfl, hc]
    refine t_Ce_receive_29 (c6 := tO c) r1 (by rw [lN_i]; exact vp_in_nI s3 (by omega)) (by rw [lN_i, nI_clamp (by omega)]; exact h3 c s3) rfl y1.1.2.1 rfl m1.1 (Nat.le_of_ble_eq_true rfl) (c_value (at' := 4) m1 (by omega) ?_)
    have hyO := y1.2
    refine t_Ce_receive_42 (Nat.le_of_ble_eq_true rfl) (c_max ?_)
    rw [show 8 * 4 = 32 from rfl, imax_nI (by omega) (by omega)]
    refine t_Ce_receive_45 y1.1.2.1 (Nat.le_of_ble_eq_true rfl) (es_w (fun w2 e2 f2 => ?_))
    have y2 : trR w2 c (yV (Y c)) (yH (Y c)) (max (yO (Y c)) (getN r 32 32)) (yP (Y c)) := by
      obtain ⟨k1, k2, k3, k4⟩ := y1.1
      refine ⟨k1, ⟨by unfold tO; omega, e2⟩, nsR_f k3 (f2 _ (by unfold tH tO; omega)) (f2 _ (by unfold tB tO; omega)), trP_f k4 (fun v hv => f2 v ?_)⟩
      rcases hv with hv | ⟨j, hv | hv | hv⟩ <;> rw [hv]
      · unfold tP tO; omega
      · unfold tK tO; omega
      · unfold tV tO; omega
      · unfold tQ tO; omega
    have m2 := meR_f m1 (f2 _ (by unfold tO; omega)) (f2 _ (by unfold tO; omega))
    have f12 : ∀ v, v % 16 ≠ 11 → v % 16 ≠ 4 + c → w2 v = w v := fun v v1 v2 => by rw [f2 v (by rintro rfl; exact v2 (by unfold tO; omega))]; exact f1 v v1
    have t2 : tmpI w2 nc1 := tmpI_f t1 (Nat.le_refl _) (fun v hv => f2 v (by unfold tO; omega))
    have hk2 : wk w2 := wk_12 hk (f12 1 (by omega) (by omega)) (f12 2 (by omega) (by omega))
    refine t_Ce_receive_48 m2.1 (Nat.le_of_ble_eq_true rfl) (c_number (at' := 2) (n := 2) m2 (by omega) (by omega) ?_)
    rw [show 8 * 2 = 16 from rfl]
    have g16 := gl32 r 16 16 (by omega)
    refine t_Ce_receive_54 (fun g => ?_) (fun g => t_Ce_receive_59 (hq1 hs' ((lz g16).mp g) w2 nc1 ns1 f12 t2 ⟨y2, by show max _ _ ≤ _; omega⟩ b1 (by omega) b3 (by omega)))
    have hn : ¬ getN r 16 16 = 0 := fun e => g ((lz g16).mpr e)
    obtain ⟨l1, l2, s, l3, l4⟩ := s7 hn
    have hdec : ∀ k, k < getN r 16 16 → ∃ s, dec r (8 * (z - 4)) (nI (getN r 96 32)) k = some s ∧ s.2.2.2 = dval r z k := by
      intro k hk
      rw [show getN r 16 16 - 1 = k + (getN r 16 16 - 1 - k) by omega] at l3
      obtain ⟨s', hs'⟩ := dec_some _ s l3
      exact ⟨s', hs', by unfold dval; rw [hs']; rfl⟩
    have hr1 : r 1 = getN r 8 8 := (getN_8 (hm.2.1.choose_spec.2.2 1)).symm
    refine t_Ce_receive_61 y2.2.1 (Nat.le_of_ble_eq_true rfl) (c_clashes hk2 y2 m2 ha hr s1 hz2 rfl rfl l1 hdec (t2 nc1 (Nat.le_refl _)) (fun hcl w3 f3 => ?_) (fun hcl w3 f3 => ?_))
    · refine t_Ce_receive_66 (fun g => absurd g (by decide)) (fun _ => ?_)
      have o3 := wo_f ho (show w3 gE = w gE by rw [f3 gE (by simp; unfold gE tN; omega)]; exact f12 gE (by decide) (by unfold gE; omega))
      refine t_Ce_receive_69 o3 rfl (Nat.le_of_ble_eq_true rfl) (es_w (fun w4 e4 f4 => t_Ce_receive_79 ?_))
      rw [nI_1] at e4
      refine hq2 hs' hn hcl w4 (nc1 + 1) (ns1 + 9) (fun v v1 v2 v3 => ?_) ?_ ⟨by decide, e4⟩ ⟨trR_f y2 (fun v hv => ?_), by show max _ _ ≤ _; omega⟩ (by omega) (by omega) (by omega) (by omega)
      · rw [f4 v v3, f3 v (by simp; rintro rfl; exact v1 (by unfold tN; omega))]
        exact f12 v v1 v2
      · exact tmpI_f (tmpI_1 t2 f3) (Nat.le_refl _) (fun v hv => f4 v (by unfold gE; omega))
      · rw [f4 v (by unfold gE; omega), f3 v (by simp; unfold tN; omega)]
    · refine t_Ce_receive_66 (fun _ => ?_) (fun g => absurd rfl g)
      have y3 := trR_f y2 (w' := w3) (fun v hv => f3 v (by simp; unfold tN; omega))
      have m3 := meR_f m2 (f3 _ (by simp; unfold tN; omega)) (f3 _ (by simp; unfold tN; omega))
      have hk3 : wk w3 := wk_12 hk2 (f3 1 (by simp; unfold tN; omega)) (f3 2 (by simp; unfold tN; omega))
      have t3 := tmpI_1 t2 f3
      refine t_Ce_receive_82 y3.2.1 (Nat.le_of_ble_eq_true rfl) (c_keep hk3 y3 m3 ha hr s1 hz2 rfl rfl (by omega) l1 (by rw [hr1]; exact s4) hdec (t3 _ (Nat.le_refl _)) (fun w4 pm4 f4 y4 cn => t_Ce_receive_87 ?_))
      rw [hr1] at y4 ⊢
      refine hq3 hs' hn (fun hcc => ?_) w4 _ _ pm4 (fun v v1 v2 => ?_) ?_ ⟨y4, by show max _ _ ≤ _; omega⟩ cn (by omega) (by omega) (by omega) (by omega)
      · obtain ⟨k, k1, k2, k3⟩ := hcc
        exact k3 (hcl k k1 k2)
      · rw [f4 v v2 (by rintro rfl; exact v1 (by unfold tN; omega)), f3 v (by simp; rintro rfl; exact v1 (by unfold tN; omega))]
        exact f12 v v1 v2
      · intro k hk4
        rw [f4 _ (by unfold tN; omega) (by unfold tN; omega)]
        exact t3 k (by omega)
  · refine t_Ce_receive_4 (fun g => absurd rfl g) (fun _ => ?_)
    have o1 := wo_f ho (f1 gE (by decide))
    refine t_Ce_receive_7 o1 rfl (Nat.le_of_ble_eq_true rfl) (es_w (fun w2 e2 f2 => t_Ce_receive_17 ?_))
    rw [nI_1] at e2
    exact hq0 hs w2 nc1 ns1 (fun v v1 v2 => by rw [f2 v v2]; exact f1 v v1) (tmpI_f t1 (Nat.le_refl _) (fun v hv => f2 v (by unfold gE; omega))) ⟨by decide, e2⟩ b1 (by omega) b3 (by omega)
theorem c_sendRequest {sl : Nat} {R : Nat → Nat → Nat} {L : Nat → Nat} {T : Nat → Bool} (hk : wk w) (h : ceR w Y rej cla) (hai : airR w sl R L T) (hsl : sl < 2 ^ 30)
    (hq0 : (∀ c, c < 4 → sgY (Y c) = 32768) → Q (.inl (some (.int 0))) w nc ns)
    (hq1 : ∀ c, c < 4 → sgY (Y c) < 32768 → (∀ c', c' < 4 → sgY (Y c) ≤ sgY (Y c')) → (∀ c', c' < c → sgY (Y c) < sgY (Y c')) → ∀ w' r, frR 8 w w' → airH w' (sl + 1) R L T (sl % 64) → meR w' (aM (sl % 64)) (aW (sl % 64)) r 16 → rowQ r c (sgY (Y c)) (nxP (yH (Y c)) (sgY (Y c)) - 1) → Q (.inl (some (.int 1))) w' (nc + if sl < 64 then 2 else 0) (ns + if sl < 64 then 514 else 0)) :
    Ev (d + 3) m_Ce_sendRequest 0 [some (.ref gE), some (.ref aO), none, none, none, none] [] w nc ns Q := by
  obtain ⟨ho, ⟨f, h2, h3⟩, h4⟩ := h
  have hsg : ∀ c, c < 4 → sgY (Y c) ≤ 32768 := fun c hc => (sgf_le _ (h4 c hc).2).1
  refine t_Ce_sendRequest_0 rfl ?_
  have send : ∀ b x4 o5, b < 4 → sgY (Y b) < 32768 → (∀ c', c' < 4 → sgY (Y b) ≤ sgY (Y c')) → (∀ c', c' < b → sgY (Y b) < sgY (Y c')) → Ev (d + 3) m_Ce_sendRequest 61 [some (.ref gE), some (.ref aO), some (.int (nI b)), some (.int (nI (sgY (Y b)))), some (.int x4), o5] [] w nc ns Q := by
    intro b x4 o5 hb hl hmin hst
    have hj : sl % 64 < 64 := Nat.mod_lt _ (by omega)
    have hgap := sgf_lt (h4 b hb).2 hl
    have hnp : nxP (yH (Y b)) (sgY (Y b)) < 32768 := hgap.2.1
    have hnp2 : sgY (Y b) < nxP (yH (Y b)) (sgY (Y b)) := hgap.2.2
    refine t_Ce_sendRequest_61 hai.1 (Nat.le_of_ble_eq_true rfl) (c_add (z := 16) hai hsl (fun w1 rr f1 a1 m1 => ?_))
    refine t_Ce_sendRequest_67 rfl m1.1 (Nat.le_of_ble_eq_true rfl) (c_put (at' := 0) (n := 1) m1 (by omega) (by omega) (fun w2 f2 m2 => ?_))
    refine t_Ce_sendRequest_77 m2.1 (Nat.le_of_ble_eq_true rfl) (c_put (at' := 1) (n := 3) m2 (by omega) (by omega) (fun w3 f3 m3 => ?_))
    refine t_Ce_sendRequest_85 m3.1 (Nat.le_of_ble_eq_true rfl) (c_put (at' := 4) (n := 4) m3 (by omega) (by omega) (fun w4 f4 m4 => ?_))
    have fW4 : ∀ v, v ≠ aW (sl % 64) → w4 v = w1 v := fun v hv => by rw [f4 v (by simp [hv]), f3 v (by simp [hv]), f2 v (by simp [hv])]
    have fC4 : ∀ v, v % 16 ≠ 8 → w4 v = w v := fun v hv => by rw [fW4 v (by rintro rfl; exact hv (by unfold aW; omega))]; exact f1 v hv
    have y4 := trT_f (h4 b hb) (w' := w4) (fun v hv => fC4 v (by omega))
    refine t_Ce_sendRequest_93 rfl (wo_f ho (fC4 gE (by decide))) rfl (wr_f h2 (fC4 gT (by decide))) (vp_in_nI hb (by omega)) (by rw [nI_clamp (by omega)]; exact h3 b hb) y4.1.2.1 (Nat.le_of_ble_eq_true rfl) (c_eog y4.1 (by omega) ?_)
    rw [show (1 : Int32) = nI 1 from rfl, pk_sub (by omega)]
    refine t_Ce_sendRequest_108 m4.1 (Nat.le_of_ble_eq_true rfl) (c_put (at' := 8) (n := 4) m4 (by omega) (by omega) (fun w5 f5 m5 => ?_))
    rw [vN_nI (show b < 2 ^ 32 by omega), vN_nI (show sgY (Y b) < 2 ^ 32 by omega), vN_nI (show nxP (yH (Y b)) (sgY (Y b)) - 1 < 2 ^ 32 by omega), show vN 0 = 0 from rfl] at m5
    have fW5 : ∀ v, v ≠ aW (sl % 64) → w5 v = w1 v := fun v hv => by rw [f5 v (by simp [hv]), fW4 v hv]
    have hk5 : wk w5 := wk_12 hk (by rw [fW5 1 (by unfold aW; omega), f1 1 (by omega)]) (by rw [fW5 2 (by unfold aW; omega), f1 2 (by omega)])
    refine t_Ce_sendRequest_111 m5.1 (Nat.le_of_ble_eq_true rfl) (c_seal hk5 m5 (by omega) (by omega) (fun w6 f6 m6 => t_Ce_sendRequest_116 ?_))
    have fW : ∀ v, v ≠ aW (sl % 64) → w6 v = w1 v := fun v hv => by rw [f6 v (by simp [hv]), fW5 v hv]
    refine hq1 b hb hl hmin hst w6 _ (fun v hv => ?_) (airH_m a1 hj (by omega) (fun v _ hv => fW v hv)) m6 ⟨?_, ?_, ?_, ?_, ?_⟩
    · rw [fW v (by rintro rfl; exact hv (by unfold aW; omega))]
      exact f1 v hv
    · rw [getN_put_ne (by omega), getN_put_ne (by omega), getN_put_ne (by omega), getN_put_ne (by omega), getN_put' (by omega) (by omega) (by omega)]
    · rw [getN_put_ne (by omega), getN_put_ne (by omega), getN_put_ne (by omega), getN_put' (by omega) (by omega) (by omega)]
    · rw [getN_put_ne (by omega), getN_put_ne (by omega), getN_put' (by omega) (by omega) (by omega)]
    · rw [getN_put_ne (by omega), getN_put' (by omega) (by omega) (by omega)]
    · rw [show 16 - 4 = 12 from rfl, crcV_put, getN_put' (by omega) (by omega) (vN_lt _)]
  have key : ∀ m c, c + m = 4 → ∀ o5, ((∀ c', c' < c → sgY (Y c') = 32768) → Ev (d + 3) m_Ce_sendRequest 8 [some (.ref gE), some (.ref aO), some (.int (-1)), some (.int (nI 32768)), some (.int (nI c)), o5] [] w nc ns Q) ∧
      (∀ b, b < c → sgY (Y b) < 32768 → (∀ c', c' < c → sgY (Y b) ≤ sgY (Y c')) → (∀ c', c' < b → sgY (Y b) < sgY (Y c')) → Ev (d + 3) m_Ce_sendRequest 8 [some (.ref gE), some (.ref aO), some (.int (nI b)), some (.int (nI (sgY (Y b)))), some (.int (nI c)), o5] [] w nc ns Q) := by
    intro m
    induction m with
    | zero =>
      intro c hc o5
      have ec : c = 4 := by omega
      subst ec
      refine ⟨fun hn => ?_, fun b hb hw hmin hst => ?_⟩
      · exact t_Ce_sendRequest_8 (fun _ => t_Ce_sendRequest_54 (fun g => absurd rfl g) (fun _ => t_Ce_sendRequest_59 (hq0 hn))) (fun g => absurd (nI_le (a := 4) (by omega) (by omega)) g)
      · refine t_Ce_sendRequest_8 (fun _ => t_Ce_sendRequest_54 (fun _ => send b _ _ hb hw hmin hst) (fun g => ?_)) (fun g => absurd (nI_le (a := 4) (by omega) (by omega)) g)
        have := nI_pos (n := b) (by omega)
        rw [g] at this
        exact absurd (by decide) this
    | succ m ih =>
      intro c hc o5
      have hx3 : f (nI c).toNatClampNeg = some (tO c) := by rw [nI_clamp (by omega)]; exact h3 c (by omega)
      have hl := hsg c (by omega)
      have step : ∀ (x2 x3 : Int32), (x3 ≤ nI (sgY (Y c)) → Ev (d + 3) m_Ce_sendRequest 8 [some (.ref gE), some (.ref aO), some (.int x2), some (.int x3), some (.int (nI (c + 1))), some (.int (nI (sgY (Y c))))] [] w nc ns Q) → (¬ x3 ≤ nI (sgY (Y c)) → Ev (d + 3) m_Ce_sendRequest 8 [some (.ref gE), some (.ref aO), some (.int (nI c)), some (.int (nI (sgY (Y c)))), some (.int (nI (c + 1))), some (.int (nI (sgY (Y c))))] [] w nc ns Q) →
          Ev (d + 3) m_Ce_sendRequest 8 [some (.ref gE), some (.ref aO), some (.int x2), some (.int x3), some (.int (nI c)), o5] [] w nc ns Q := by
        intro x2 x3 ka kb
        refine t_Ce_sendRequest_8 (fun g => absurd ((nI_leI (a := 4) (by omega) (by omega)).mp g) (by omega)) (fun _ => ?_)
        refine t_Ce_sendRequest_14 ho rfl h2 (vp_in_nI (by omega) (by omega)) hx3 hx3 (h4 c (by omega)).1.2.1 rfl (h4 c (by omega)).1.2.1 (Nat.le_of_ble_eq_true rfl) (c_sgf (h4 c (by omega)).1 (h4 c (by omega)).2 ?_)
        refine t_Ce_sendRequest_34 rfl (fun g => t_Ce_sendRequest_48 rfl ?_) (fun g => t_Ce_sendRequest_42 rfl ?_)
        · rw [nI_1]; exact ka g
        · rw [nI_1]; exact kb g
      refine ⟨fun hn => ?_, fun b hb hw hmin hst => ?_⟩
      · refine step _ _ (fun g => ?_) (fun g => ?_)
        · have := (nI_leI (a := 32768) (by omega) (by omega)).mp g
          refine (ih (c + 1) (by omega) _).1 (fun c' hc' => ?_)
          by_cases e : c' = c
          · rw [e]; omega
          · exact hn c' (by omega)
        · have hlt : sgY (Y c) < 32768 := Nat.lt_of_not_le (fun e => g (nI_le e (by omega)))
          refine (ih (c + 1) (by omega) _).2 c (by omega) hlt (fun c' hc' => ?_) (fun c' hc' => ?_)
          · by_cases e : c' = c
            · rw [e]; exact Nat.le_refl _
            · rw [hn c' (by omega)]; omega
          · rw [hn c' (by omega)]; omega
      · refine step _ _ (fun g => ?_) (fun g => ?_)
        · have hle := (nI_leI (by omega) (by omega)).mp g
          refine (ih (c + 1) (by omega) _).2 b (by omega) hw (fun c' hc' => ?_) hst
          by_cases e : c' = c
          · rw [e]; exact hle
          · exact hmin c' (by omega)
        · have hlt : sgY (Y c) < sgY (Y b) := Nat.lt_of_not_le (fun e => g (nI_le e (by omega)))
          refine (ih (c + 1) (by omega) _).2 c (by omega) (by omega) (fun c' hc' => ?_) (fun c' hc' => ?_)
          · by_cases e : c' = c
            · rw [e]; exact Nat.le_refl _
            · have := hmin c' (by omega); omega
          · have := hmin c' (by omega); omega
  exact (key 4 0 (by omega) none).1 (fun c' hc' => absurd hc' (by omega))
end Ce2
