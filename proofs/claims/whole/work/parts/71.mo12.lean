/-! ===== the reference: sample, samples, flush ===== -/
section Mo12
variable {d : Nat} {w : qk_W} {nc ns : Nat} {Q : Option Value ⊕ Nat → qk_W → Nat → Nat → Prop} {s : Nat → Int32} {l : Nat → Int64} {X : Nat → Chs} {np pc : Nat}
theorem msR_0 {w1 : qk_W} {x : Int32} (h : msR w s l X np pc) (o : moO w1 (fu s 0 x) l) (g : ∀ v, v ≠ 25 → w1 v = w v) : msR w1 (fu s 0 x) l X np pc := by
  obtain ⟨_, h1, h2, ⟨f1, k1, k1'⟩, ⟨f4, ⟨⟨f2, k2, k2'⟩, ⟨f3, k3, k3'⟩, k4⟩, k4'⟩, h5⟩ := h
  exact ⟨o, by rw [fu_n _ _ (by omega)]; exact h1, by rw [fu_n _ _ (by omega)]; exact h2, ⟨f1, wi_f k1 (g _ (mA_25 (by omega))), k1'⟩, ⟨f4, ⟨⟨f2, wi_f k2 (g _ (mA_25 (by omega))), k2'⟩, ⟨f3, wi_f k3 (g _ (mA_25 (by omega))), k3'⟩, wi_f k4 (g _ (mA_25 (by omega)))⟩, k4'⟩, plR_f h5 (fun k a b => g _ (mA_25 (by omega)))⟩
/-- what the channels keep between two calls -/
def chK (X : Nat → Chs) : Prop := ∀ c, c < 4 → xU (X c) ≤ xC (X c) ∧ xF (X c) (xC (X c)) ≤ xT (X c) ∧ xT (X c) ≤ 32768 ∧ opnX (X c) < 1000
theorem c_msample {x v : Int32} (h : msR w s l X np pc) (hX : chK X) (hnp : np + 1 < 4096)
    (hq1 : ∀ c, c < 4 → x = nI c → xT (X c) < 32768 → ∀ w' s', (∀ v, frM v → w' v = w v) → (∀ k, k ≠ 11 → k ≠ 0 → s' k = s k) → s' 0 = 0 → msR w' s' l (fu X c (takeX (X c) v pc np).1) (takeX (X c) v pc np).2 pc → Q (.inl (some (.int (nI (xT (X c)))))) w' nc ns)
    (hq2 : ∀ c, c < 4 → x = nI c → xT (X c) = 32768 → ∀ w', (∀ v, v ≠ 25 → w' v = w v) → moO w' (fu s 0 2) l → Q (.inl (some (.int 0))) w' nc ns)
    (hq0 : (∀ c, c < 4 → x ≠ nI c) → ∀ w', (∀ v, v ≠ 25 → w' v = w v) → moO w' (fu s 0 1) l → Q (.inl (some (.int 0))) w' nc ns) :
    Ev (d + 4) m_Mo_sample 0 [some (.ref 25), some (.int x), some (.int v)] [] w nc ns Q := by
  have ho := h.1
  refine t_Mo_sample_0 rfl (Nat.le_of_ble_eq_true rfl) (c_misCh (fun c hc e => ?_) (fun hn => ?_))
  · refine t_Mo_sample_5 (fun _ => ?_) (fun g => absurd g (by decide))
    obtain ⟨_, _, _, _, ⟨f4, ⟨⟨f2, k2, k2'⟩, _⟩, _⟩, _⟩ := id h
    obtain ⟨x1, x2, x3, x4⟩ := hX c hc
    have ccl : (nI c).toNatClampNeg = c := nI_clamp (by omega)
    subst e
    refine t_Mo_sample_12 ho rfl k2 (vp_in_nI hc (by omega)) (fun g => ?_) (fun g => ?_)
    · rw [ccl, k2' c hc] at g
      have hlt : xT (X c) < 32768 := Nat.lt_of_le_of_ne x3 (fun e => g (by rw [e]; rfl))
      refine t_Mo_sample_27 ho (Nat.le_of_ble_eq_true rfl) (es_w (fun w1 e1 g1 => ?_))
      rw [moL_0] at e1
      have o1 : moO w1 (fu s 0 0) l := ⟨by decide, e1⟩
      have m1 := msR_0 h o1 g1
      refine t_Mo_sample_31 o1 rfl (fun _ => t_Mo_sample_40 o1 (Nat.le_of_ble_eq_true rfl) (c_mtake (v := v) m1 hc hnp x1 x2 hlt x4 (fun c' hc' => (hX c' hc').2.2.1) (fun w2 s2 g2 hs2 m2 => ?_))) (fun g => absurd (by rw [fu_s]; decide) g)
      obtain ⟨o2, _, _, _, ⟨f4', ⟨⟨f2', j2, j2'⟩, _⟩, _⟩, _⟩ := id m2
      refine t_Mo_sample_46 o2 rfl j2 (vp_in_nI hc (by omega)) ?_
      have ht := (take_opn (v := v) (pc := pc) (cg := np) x4).2
      rw [ccl, j2' c hc, fu_s, ht, nI_pred]
      exact hq1 c hc rfl hlt w2 s2 (fun v hv => by rw [g2 v hv]; exact g1 v (fm25 hv)) (fun k k1 k2 => by rw [hs2 k k1, fu_n _ _ k2]) (by rw [hs2 0 (by omega), fu_s]) m2
    · rw [ccl, k2' c hc] at g
      have he : xT (X c) = 32768 := (nI_eq (b := 32768) (by omega) (by omega)).mp g
      refine t_Mo_sample_23 ho (Nat.le_of_ble_eq_true rfl) (es_w (fun w1 e1 g1 => ?_))
      rw [moL_0] at e1
      have o1 : moO w1 (fu s 0 2) l := ⟨by decide, e1⟩
      exact t_Mo_sample_31 o1 rfl (fun g => absurd (show (2 : Int32) ≤ 0 by rw [fu_s] at g; exact g) (by decide)) (fun _ => t_Mo_sample_38 (hq2 c hc rfl he w1 g1 o1))
  · refine t_Mo_sample_5 (fun g => absurd rfl g) (fun _ => t_Mo_sample_8 ho (Nat.le_of_ble_eq_true rfl) (es_w (fun w1 e1 g1 => ?_)))
    rw [moL_0] at e1
    have o1 : moO w1 (fu s 0 1) l := ⟨by decide, e1⟩
    exact t_Mo_sample_31 o1 rfl (fun g => absurd (show (1 : Int32) ≤ 0 by rw [fu_s] at g; exact g) (by decide)) (fun _ => t_Mo_sample_38 (hq0 hn w1 g1 o1))
theorem c_mflush {x : Int32} (h : msR w s l X np pc) (hX : chK X) (hnp : np < 4096)
    (hq1 : ∀ c, c < 4 → x = nI c → 0 < opnX (X c) → ∀ w' s', (∀ v, frM v → w' v = w v) → (∀ k, k ≠ 11 → k ≠ 0 → s' k = s k) → s' 0 = 0 → msR w' s' l (fu X c (clsX (X c) pc np)) (np + 1) pc → Q (.inl (some (.int (nI (opnX (X c)))))) w' nc ns)
    (hq2 : ∀ c, c < 4 → x = nI c → opnX (X c) = 0 → ∀ w', (∀ v, v ≠ 25 → w' v = w v) → moO w' (fu s 0 0) l → Q (.inl (some (.int 0))) w' nc ns)
    (hq0 : (∀ c, c < 4 → x ≠ nI c) → ∀ w', (∀ v, v ≠ 25 → w' v = w v) → moO w' (fu s 0 1) l → Q (.inl (some (.int 0))) w' nc ns) :
    Ev (d + 2) m_Mo_flush 0 [some (.ref 25), some (.int x), none] [] w nc ns Q := by
  have ho := h.1
  refine t_Mo_flush_0 rfl (Nat.le_of_ble_eq_true rfl) (c_misCh (fun c hc e => ?_) (fun hn => ?_))
  · refine t_Mo_flush_5 (fun g => absurd g (by decide)) (fun _ => t_Mo_flush_8 ho (Nat.le_of_ble_eq_true rfl) (es_w (fun w1 e1 g1 => ?_)))
    rw [moL_0] at e1
    have o1 : moO w1 (fu s 0 0) l := ⟨by decide, e1⟩
    have m1 := msR_0 h o1 g1
    obtain ⟨_, i1, i2, ⟨f1, j1, j1'⟩, ⟨f4, hC, k4⟩, hP⟩ := m1
    obtain ⟨⟨f2, k2, k2'⟩, ⟨f3, k3, k3'⟩, k4w⟩ := id hC
    obtain ⟨x1, x2, x3, x4⟩ := hX c hc
    have ccl : (nI c).toNatClampNeg = c := nI_clamp (by omega)
    subst e
    have eo : f2 (nI c).toNatClampNeg - f3 (nI c).toNatClampNeg = nI (opnX (X c)) := by rw [ccl, k2' c hc, k3' c hc, pk_sub x2]; rfl
    refine t_Mo_flush_16 o1 rfl (fun _ => t_Mo_flush_25 o1 rfl k2 (vp_in_nI hc (by omega)) rfl k3 (vp_in_nI hc (by omega)) (fun g => t_Mo_flush_48 ?_) (fun g => ?_)) (fun g => absurd (by rw [fu_s]; decide) g)
    · rw [eo] at g ⊢
      have h0 : opnX (X c) = 0 := Nat.le_zero.mp ((nI_leI (b := 0) (by omega) (by omega)).mp g)
      rw [h0]
      exact hq2 c hc rfl h0 w1 g1 o1
    · rw [eo] at g ⊢
      have h0 : 0 < opnX (X c) := by
        rcases Nat.eq_zero_or_pos (opnX (X c)) with e | e
        · rw [e] at g; exact absurd (by decide) g
        · exact e
      refine t_Mo_flush_43 o1 (Nat.le_of_ble_eq_true rfl) (c_mclose (X := X) o1 i1 i2 hC hP hc hnp x1 x2 (fun w2 g2 o2 mc2 pl2 => t_Mo_flush_48 ?_))
      have hm : ∀ v, frM v → ∀ k, k ≤ 10 → v ≠ mA k := fun v hv => hv
      refine hq1 c hc rfl h0 w2 _ (fun v hv => ?_) (fun k k1 k2 => by rw [fu_n _ _ k1, fu_n _ _ k2]) (by rw [fu_n _ _ (by omega), fu_s]) ⟨o2, fu_s _ _ _, by rw [fu_n _ _ (by omega)]; exact i2, ⟨f1, wi_f j1 ?_, fun c' hc' a ha => ?_⟩, ⟨_, mc2, fun c' hc' => ?_⟩, pl2⟩
      · rw [g2 v (fm25 hv) (hm v hv 3 (by omega)) (hm v hv 4 (by omega)) (hm v hv 6 (by omega)) (hm v hv 7 (by omega)) (hm v hv 8 (by omega)) (hm v hv 9 (by omega)) (hm v hv 10 (by omega))]
        exact g1 v (fm25 hv)
      · rw [g2 _ (mA_25 (by omega)) (mA_ne (by omega)) (mA_ne (by omega)) (mA_ne (by omega)) (mA_ne (by omega)) (mA_ne (by omega)) (mA_ne (by omega)) (mA_ne (by omega))]
      · by_cases e : c' = c
        · subst e; rw [fu_s] at ha ⊢; exact j1' c' hc a ha
        · rw [fu_n _ _ e] at ha ⊢; exact j1' c' hc' a ha
      · by_cases e : c' = c
        · subst e; rw [pk_us, fu_s, ob_cls]; rfl
        · rw [pk_un e, fu_n _ _ e]; exact k4 c' hc'
  · refine t_Mo_flush_5 (fun _ => t_Mo_flush_12 ho (Nat.le_of_ble_eq_true rfl) (es_w (fun w1 e1 g1 => ?_))) (fun g => absurd rfl g)
    rw [moL_0] at e1
    have o1 : moO w1 (fu s 0 1) l := ⟨by decide, e1⟩
    exact t_Mo_flush_16 o1 rfl (fun g => absurd (show (1 : Int32) ≤ 0 by rw [fu_s] at g; exact g) (by decide)) (fun _ => t_Mo_flush_23 (hq0 hn w1 g1 o1))
end Mo12
