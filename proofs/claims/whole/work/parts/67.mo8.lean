/-! ===== the reference: what was heard ===== -/
def hvR (w : qk_W) (Y : Nat → Trs) : Prop := ∃ fv fh, wi w (mA 18) 131072 fv ∧ wb w (mA 19) 131072 fh ∧ ∀ c, c < 4 → ∀ a, a < 32768 → fh (32768 * c + a) = nI (yH (Y c) a) ∧ yH (Y c) a ≤ 101 ∧ (0 < yH (Y c) a → fv (32768 * c + a) = yV (Y c) a)
theorem hvR_f {w w' : qk_W} {Y : Nat → Trs} (h : hvR w Y) (e1 : w' (mA 18) = w (mA 18)) (e2 : w' (mA 19) = w (mA 19)) : hvR w' Y := by
  obtain ⟨fv, fh, h1, h2, h3⟩ := h
  exact ⟨fv, fh, wi_f h1 e1, wb_f h2 e2, h3⟩
section Mo8
variable {d : Nat} {w : qk_W} {nc ns : Nat} {Q : Option Value ⊕ Nat → qk_W → Nat → Nat → Prop} {s : Nat → Int32} {l : Nat → Int64} {Y : Nat → Trs}
theorem c_misHeard {c : Nat} {x : Int32} (ho : moO w s l) (h : hvR w Y) (hc : c < 4) (hq : Q (.inl (some (.int (b2i (sIn (hs (yH (Y c))) x))))) w nc ns) :
    Ev d m_Mo_isHeard 0 [some (.ref 25), some (.int (nI c)), some (.int x)] [] w nc ns Q := by
  obtain ⟨fv, fh, h1, h2, h3⟩ := h
  refine t_Mo_isHeard_0 (fun g => t_Mo_isHeard_28 ?_) (fun g => ?_)
  · rwa [b2i_f (by simp [sIn, g])] at hq
  obtain ⟨a, ha, rfl⟩ := nI_of g
  rw [sIn_nI ha] at hq
  refine t_Mo_isHeard_4 (fun g => t_Mo_isHeard_28 ?_) (fun g => ?_)
  · have := (nI_leI (a := 32768) (by omega) ha).mp g
    rwa [b2i_f (by simp [Nat.not_lt.mpr this])] at hq
  have hlt : a < 32768 := Nat.lt_of_not_le (fun e => g (nI_le (a := 32768) e ha))
  obtain ⟨a1, a2, a3⟩ := h3 c hc a hlt
  rw [decide_eq_true hlt, Bool.true_and] at hq
  refine t_Mo_isHeard_10 ho rfl h2 (by rw [ix_nI]; exact vp_in_nI (by omega) (by omega)) (fun g => t_Mo_isHeard_28 ?_) (fun g => t_Mo_isHeard_24 ?_)
  · rw [ix_nI, nI_clamp (by omega), a1] at g
    have := (nI_leI (b := 0) (by omega) (by omega)).mp g
    rwa [b2i_f (show ¬ hs (yH (Y c)) a = true by unfold hs; simp; omega)] at hq
  · rw [ix_nI, nI_clamp (by omega), a1] at g
    have : 0 < yH (Y c) a := by
      rcases Nat.eq_zero_or_pos (yH (Y c) a) with e | e
      · rw [e] at g; exact absurd (by decide) g
      · exact e
    rwa [b2i_t (show hs (yH (Y c)) a = true from decide_eq_true this)] at hq
theorem c_misCh {x : Int32} (hq1 : ∀ c, c < 4 → x = nI c → Q (.inl (some (.int 1))) w nc ns) (hq0 : (∀ c, c < 4 → x ≠ nI c) → Q (.inl (some (.int 0))) w nc ns) : Ev d m_Mo_isChannel 0 [some (.int x)] [] w nc ns Q := by
  refine t_Mo_isChannel_0 (fun g => t_Mo_isChannel_13 (hq0 (fun c hc e => ?_))) (fun g => ?_)
  · rw [e] at g; exact nI_pos (n := c) (by omega) g
  obtain ⟨c, hc, rfl⟩ := nI_of g
  refine t_Mo_isChannel_4 (fun g => t_Mo_isChannel_13 (hq0 (fun c' hc' e => ?_))) (fun g => t_Mo_isChannel_9 (hq1 c ?_ rfl))
  · have h1 := (nI_leI (a := 4) (by omega) hc).mp g
    have h2 := (nI_eq hc (by omega)).mp e
    omega
  · exact Nat.lt_of_not_le (fun e => g (nI_le (a := 4) e hc))
theorem c_mhas {x y : Int32} (ho : moO w s l) (h : hvR w Y)
    (hq1 : ∀ c, c < 4 → x = nI c → ∀ w', (∀ v, v ≠ 25 → w' v = w v) → moO w' (fu s 0 0) l → Q (.inl (some (.int (b2i (sIn (hs (yH (Y c))) y))))) w' nc ns)
    (hq0 : (∀ c, c < 4 → x ≠ nI c) → ∀ w', (∀ v, v ≠ 25 → w' v = w v) → moO w' (fu s 0 1) l → Q (.inl (some (.int 0))) w' nc ns) :
    Ev (d + 1) m_Mo_has 0 [some (.ref 25), some (.int x), some (.int y)] [] w nc ns Q := by
  refine t_Mo_has_0 rfl (Nat.le_of_ble_eq_true rfl) (c_misCh (fun c hc e => ?_) (fun hn => ?_))
  · refine t_Mo_has_5 (fun g => absurd g (by decide)) (fun _ => t_Mo_has_8 ho (Nat.le_of_ble_eq_true rfl) (es_w (fun w1 e1 g1 => ?_)))
    rw [moL_0] at e1
    have o1 : moO w1 (fu s 0 0) l := ⟨by decide, e1⟩
    have hq := hq1 c hc e w1 g1 o1
    subst e
    refine t_Mo_has_16 o1 rfl (fun g => absurd (fu_s _ _ _) g) (fun _ => t_Mo_has_23 o1 (Nat.le_of_ble_eq_true rfl) (c_misHeard o1 (hvR_f h (g1 _ (mA_25 (by omega))) (g1 _ (mA_25 (by omega)))) hc ?_))
    cases hb : sIn (hs (yH (Y c))) y with
    | true => rw [hb] at hq; exact t_Mo_has_29 (fun g => absurd g (by decide)) (fun _ => t_Mo_has_32 hq)
    | false => rw [hb] at hq; exact t_Mo_has_29 (fun _ => t_Mo_has_36 hq) (fun g => absurd rfl g)
  · refine t_Mo_has_5 (fun _ => t_Mo_has_12 ho (Nat.le_of_ble_eq_true rfl) (es_w (fun w1 e1 g1 => ?_))) (fun g => absurd rfl g)
    rw [moL_0] at e1
    have o1 : moO w1 (fu s 0 1) l := ⟨by decide, e1⟩
    exact t_Mo_has_16 o1 rfl (fun _ => t_Mo_has_36 (hq0 hn w1 g1 o1)) (fun g => absurd (show (1 : Int32) = 0 by rw [fu_s] at g; exact g) (by decide))
theorem c_mat {x y : Int32} (ho : moO w s l) (h : hvR w Y)
    (hq1 : ∀ c n, c < 4 → x = nI c → n < 32768 → y = nI n → 0 < yH (Y c) n → ∀ w', (∀ v, v ≠ 25 → w' v = w v) → moO w' (fu s 0 0) l → Q (.inl (some (.int (yV (Y c) n)))) w' nc ns)
    (hq2 : ∀ c, c < 4 → x = nI c → sIn (hs (yH (Y c))) y = false → ∀ w', (∀ v, v ≠ 25 → w' v = w v) → moO w' (fu s 0 0) l → Q (.inl (some (.int 0))) w' nc ns)
    (hq0 : (∀ c, c < 4 → x ≠ nI c) → ∀ w', (∀ v, v ≠ 25 → w' v = w v) → moO w' (fu s 0 1) l → Q (.inl (some (.int 0))) w' nc ns) :
    Ev (d + 1) m_Mo_at 0 [some (.ref 25), some (.int x), some (.int y)] [] w nc ns Q := by
  refine t_Mo_at_0 rfl (Nat.le_of_ble_eq_true rfl) (c_misCh (fun c hc e => ?_) (fun hn => ?_))
  · refine t_Mo_at_5 (fun g => absurd g (by decide)) (fun _ => t_Mo_at_8 ho (Nat.le_of_ble_eq_true rfl) (es_w (fun w1 e1 g1 => ?_)))
    rw [moL_0] at e1
    have o1 : moO w1 (fu s 0 0) l := ⟨by decide, e1⟩
    have h1 := hvR_f h (w' := w1) (g1 _ (mA_25 (by omega))) (g1 _ (mA_25 (by omega)))
    subst e
    refine t_Mo_at_16 o1 rfl (fun g => absurd (fu_s _ _ _) g) (fun _ => t_Mo_at_23 o1 (Nat.le_of_ble_eq_true rfl) (c_misHeard o1 h1 hc ?_))
    cases hb : sIn (hs (yH (Y c))) y with
    | true =>
      obtain ⟨n, n1, rfl, n2⟩ := sIn_hs hb
      obtain ⟨fv, fh, k1, k2, k3⟩ := h1
      refine t_Mo_at_29 (fun g => absurd g (by decide)) (fun _ => t_Mo_at_32 o1 rfl k1 (by rw [ix_nI]; exact vp_in_nI (by omega) (by omega)) ?_)
      rw [ix_nI, nI_clamp (by omega), (k3 c hc n n1).2.2 n2]
      exact hq1 c n hc rfl n1 rfl n2 w1 g1 o1
    | false => exact t_Mo_at_29 (fun _ => t_Mo_at_46 (hq2 c hc rfl hb w1 g1 o1)) (fun g => absurd rfl g)
  · refine t_Mo_at_5 (fun _ => t_Mo_at_12 ho (Nat.le_of_ble_eq_true rfl) (es_w (fun w1 e1 g1 => ?_))) (fun g => absurd rfl g)
    rw [moL_0] at e1
    have o1 : moO w1 (fu s 0 1) l := ⟨by decide, e1⟩
    exact t_Mo_at_16 o1 rfl (fun _ => t_Mo_at_46 (hq0 hn w1 g1 o1)) (fun g => absurd (show (1 : Int32) = 0 by rw [fu_s] at g; exact g) (by decide))
theorem c_mqualityAt {x y : Int32} (ho : moO w s l) (h : hvR w Y)
    (hq1 : ∀ c n, c < 4 → x = nI c → n < 32768 → y = nI n → 0 < yH (Y c) n → ∀ w', (∀ v, v ≠ 25 → w' v = w v) → moO w' (fu s 0 0) l → Q (.inl (some (.int (nI (yH (Y c) n - 1))))) w' nc ns)
    (hq2 : ∀ c, c < 4 → x = nI c → sIn (hs (yH (Y c))) y = false → ∀ w', (∀ v, v ≠ 25 → w' v = w v) → moO w' (fu s 0 0) l → Q (.inl (some (.int (-1)))) w' nc ns)
    (hq0 : (∀ c, c < 4 → x ≠ nI c) → ∀ w', (∀ v, v ≠ 25 → w' v = w v) → moO w' (fu s 0 1) l → Q (.inl (some (.int 0))) w' nc ns) :
    Ev (d + 1) m_Mo_qualityAt 0 [some (.ref 25), some (.int x), some (.int y)] [] w nc ns Q := by
  refine t_Mo_qualityAt_0 rfl (Nat.le_of_ble_eq_true rfl) (c_misCh (fun c hc e => ?_) (fun hn => ?_))
  · refine t_Mo_qualityAt_5 (fun g => absurd g (by decide)) (fun _ => t_Mo_qualityAt_8 ho (Nat.le_of_ble_eq_true rfl) (es_w (fun w1 e1 g1 => ?_)))
    rw [moL_0] at e1
    have o1 : moO w1 (fu s 0 0) l := ⟨by decide, e1⟩
    have h1 := hvR_f h (w' := w1) (g1 _ (mA_25 (by omega))) (g1 _ (mA_25 (by omega)))
    subst e
    refine t_Mo_qualityAt_16 o1 rfl (fun _ => t_Mo_qualityAt_27 o1 (Nat.le_of_ble_eq_true rfl) (c_misHeard o1 h1 hc ?_)) (fun g => absurd (by rw [fu_s]; decide) g)
    cases hb : sIn (hs (yH (Y c))) y with
    | true =>
      obtain ⟨n, n1, rfl, n2⟩ := sIn_hs hb
      obtain ⟨fv, fh, k1, k2, k3⟩ := h1
      refine t_Mo_qualityAt_33 (fun g => absurd g (by decide)) (fun _ => t_Mo_qualityAt_36 o1 rfl k2 (by rw [ix_nI]; exact vp_in_nI (by omega) (by omega)) ?_)
      rw [ix_nI, nI_clamp (by omega), (k3 c hc n n1).1, show (1 : Int32) = nI 1 from rfl, pk_sub (by omega)]
      exact hq1 c n hc rfl n1 rfl n2 w1 g1 o1
    | false => exact t_Mo_qualityAt_33 (fun _ => t_Mo_qualityAt_52 (hq2 c hc rfl hb w1 g1 o1)) (fun g => absurd rfl g)
  · refine t_Mo_qualityAt_5 (fun _ => t_Mo_qualityAt_12 ho (Nat.le_of_ble_eq_true rfl) (es_w (fun w1 e1 g1 => ?_))) (fun g => absurd rfl g)
    rw [moL_0] at e1
    have o1 : moO w1 (fu s 0 1) l := ⟨by decide, e1⟩
    exact t_Mo_qualityAt_16 o1 rfl (fun g => absurd (show (1 : Int32) ≤ 0 by rw [fu_s] at g; exact g) (by decide)) (fun _ => t_Mo_qualityAt_23 (hq0 hn w1 g1 o1))
theorem moL_5 {x : Int32} : (moL s l).set 5 (.int x) = moL (fu s 5 x) l := by
  first
    | rfl
    | simp [moL, fu]
theorem c_mquality {x : Int32} (ho : moO w s l)
    (hq1 : ∀ p, p ≤ 100 → x = nI p → ∀ w', (∀ v, v ≠ 25 → w' v = w v) → moO w' (fu (fu s 0 0) 5 (nI p)) l → Q (.inl none) w' nc ns)
    (hq0 : (∀ p, p ≤ 100 → x ≠ nI p) → ∀ w', (∀ v, v ≠ 25 → w' v = w v) → moO w' (fu s 0 1) l → Q (.inl none) w' nc ns) :
    Ev d m_Mo_quality 0 [some (.ref 25), some (.int x)] [] w nc ns Q := by
  have no : (∀ p, p ≤ 100 → x ≠ nI p) → Ev d m_Mo_quality 11 [some (.ref 25), some (.int x)] [.ref 25] w nc ns Q := by
    intro hn
    refine t_Mo_quality_11 ho (Nat.le_of_ble_eq_true rfl) (es_w (fun w1 e1 g1 => ?_))
    rw [moL_0] at e1
    have o1 : moO w1 (fu s 0 1) l := ⟨by decide, e1⟩
    refine t_Mo_quality_19 o1 rfl (fun _ => t_Mo_quality_31 o1 rfl o1 (Nat.le_of_ble_eq_true rfl) (es_w (fun w2 e2 g2 => t_Mo_quality_38 ?_))) (fun g => absurd (show (1 : Int32) = 0 by rw [fu_s] at g; exact g) (by decide))
    rw [moL_5] at e2
    have : fu (fu s 0 1) 5 (fu s 0 1 5) = fu s 0 1 := by
      funext k
      by_cases e : k = 5
      · rw [e, fu_s]
      · exact fu_n _ _ e
    rw [this] at e2
    exact hq0 hn w2 (fun v hv => by rw [g2 v hv, g1 v hv]) ⟨by decide, e2⟩
  refine t_Mo_quality_0 rfl (fun g => no (fun p hp e => ?_)) (fun g => ?_)
  · rw [e] at g; exact nI_pos (n := p) (by omega) g
  obtain ⟨p, hp, rfl⟩ := nI_of g
  refine t_Mo_quality_5 (fun g => ?_) (fun g => no (fun p' hp' e => ?_))
  · have hle := (nI_leI (b := 100) hp (by omega)).mp g
    refine t_Mo_quality_15 ho (Nat.le_of_ble_eq_true rfl) (es_w (fun w1 e1 g1 => ?_))
    rw [moL_0] at e1
    have o1 : moO w1 (fu s 0 0) l := ⟨by decide, e1⟩
    refine t_Mo_quality_19 o1 rfl (fun g => absurd (fu_s _ _ _) g) (fun _ => t_Mo_quality_27 o1 (Nat.le_of_ble_eq_true rfl) (es_w (fun w2 e2 g2 => t_Mo_quality_38 ?_)))
    rw [moL_5] at e2
    exact hq1 p hle rfl w2 (fun v hv => by rw [g2 v hv, g1 v hv]) ⟨by decide, e2⟩
  · have := (nI_eq hp (by omega)).mp e
    exact g (nI_le (b := 100) (by omega) (by decide))
end Mo8
