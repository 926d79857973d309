/-! ===== the reference: samples ===== -/
section Mo14
theorem lt01 {x : Int32} (h : x < 0) : x < 1 := by
  rw [Int32.lt_iff_toInt_lt] at h ⊢
  have h1 : (1 : Int32).toInt = 1 := by decide
  have h0 : (0 : Int32).toInt = 0 := by decide
  omega
variable {d : Nat} {w : qk_W} {nc ns : Nat} {Q : Option Value ⊕ Nat → qk_W → Nat → Nat → Prop} {s : Nat → Int32} {l : Nat → Int64} {X : Nat → Chs} {np pc : Nat}
theorem c_msamples {x nn v st tu : Int32} (h : msR w s l X np pc) (hX : chK X) (hnp : np + 330 < 4096)
    (hq1 : ∀ c n, c < 4 → x = nI c → nn = nI n → 1 ≤ n → n ≤ 2000 → xT (X c) + n ≤ 32768 → ∀ w' s', (∀ v, frM v → w' v = w v) → (∀ k, k ≠ 11 → k ≠ 0 → s' k = s k) → s' 0 = 0 → msR w' s' l (fu X c (manyX pc n (X c, np) v st tu).1) (manyX pc n (X c, np) v st tu).2 pc → Q (.inl (some (.int (nI (xT (X c)))))) w' nc ns)
    (hq2 : ∀ c n, c < 4 → x = nI c → nn = nI n → 1 ≤ n → n ≤ 2000 → ¬ xT (X c) + n ≤ 32768 → ∀ w', (∀ v, v ≠ 25 → w' v = w v) → moO w' (fu s 0 3) l → Q (.inl (some (.int 0))) w' nc ns)
    (hq3 : ∀ c, c < 4 → x = nI c → (∀ n, 1 ≤ n → n ≤ 2000 → nn ≠ nI n) → ∀ w', (∀ v, v ≠ 25 → w' v = w v) → moO w' (fu s 0 2) l → Q (.inl (some (.int 0))) w' nc ns)
    (hq0 : (∀ c, c < 4 → x ≠ nI c) → ∀ w', (∀ v, v ≠ 25 → w' v = w v) → moO w' (fu s 0 1) l → Q (.inl (some (.int 0))) w' nc ns) :
    Ev (d + 4) m_Mo_samples 0 [some (.ref 25), some (.int x), some (.int nn), some (.int v), some (.int st), some (.int tu), none, none, none, none] [] w nc ns Q := by
  have ho := h.1
  refine t_Mo_samples_0 rfl (Nat.le_of_ble_eq_true rfl) (c_misCh (fun c hc e => ?_) (fun hn => ?_))
  · refine t_Mo_samples_5 (fun _ => ?_) (fun g => absurd g (by decide))
    obtain ⟨_, _, _, _, ⟨f4, ⟨⟨f2, k2, k2'⟩, _⟩, _⟩, _⟩ := id h
    obtain ⟨x1, x2, x3, x4⟩ := hX c hc
    have ccl : (nI c).toNatClampNeg = c := nI_clamp (by omega)
    subst e
    have bad : (∀ n, 1 ≤ n → n ≤ 2000 → nn ≠ nI n) → Ev (d + 4) m_Mo_samples 24 [some (.ref 25), some (.int (nI c)), some (.int nn), some (.int v), some (.int st), some (.int tu), none, none, none, none] [.ref 25] w nc ns Q := by
      intro hb
      refine t_Mo_samples_24 ho (Nat.le_of_ble_eq_true rfl) (es_w (fun w1 e1 g1 => ?_))
      rw [moL_0] at e1
      have o1 : moO w1 (fu s 0 2) l := ⟨by decide, e1⟩
      exact t_Mo_samples_49 o1 rfl (fun g => absurd (show (2 : Int32) ≤ 0 by rw [fu_s] at g; exact g) (by decide)) (fun _ => t_Mo_samples_56 (hq3 c hc rfl hb w1 g1 o1))
    refine t_Mo_samples_12 (fun g => bad (fun n h1 h2 e => ?_)) (fun g => t_Mo_samples_17 (fun g2 => ?_) (fun g2 => bad (fun n h1 h2 e => ?_)))
    · rw [e] at g
      exact absurd ((nI_ltI (b := 1) (by omega) (by omega)).mp g) (by omega)
    · obtain ⟨n, hn31, e⟩ := nI_of (x := nn) (fun g3 => g (lt01 g3))
      subst e
      have h1 : 1 ≤ n := Nat.le_of_not_lt (fun e => g (nI_lt (b := 1) e (by omega)))
      have h2 : n ≤ 2000 := (nI_leI (b := 2000) (by omega) (by omega)).mp g2
      refine t_Mo_samples_28 ho rfl k2 (vp_in_nI hc (by omega)) (fun g3 => ?_) (fun g3 => ?_)
      · rw [ccl, k2' c hc, nI_add] at g3
        have hlt : xT (X c) + n ≤ 32768 := (nI_leI (b := 32768) (by omega) (by omega)).mp g3
        refine t_Mo_samples_45 ho (Nat.le_of_ble_eq_true rfl) (es_w (fun w1 e1 g1 => ?_))
        rw [moL_0] at e1
        have o1 : moO w1 (fu s 0 0) l := ⟨by decide, e1⟩
        have m1 := msR_0 h o1 g1
        refine t_Mo_samples_49 o1 rfl (fun _ => t_Mo_samples_58 o1 rfl (wi_f k2 (g1 _ (mA_25 (by omega)))) (vp_in_nI hc (by omega)) rfl ?_) (fun g => absurd (by rw [fu_s]; decide) g)
        rw [ccl, k2' c hc]
        have loop : ∀ m k, k + m = n → ∀ (w2 : qk_W) (s2 : Nat → Int32) (y : Chs) (np2 : Nat) (v2 st2 : Int32), (∀ v, frM v → w2 v = w v) → (∀ k, k ≠ 11 → k ≠ 0 → s2 k = s k) → s2 0 = 0 → msR w2 s2 l (fu X c y) np2 pc → chK (fu X c y) → xT y = xT (X c) + k → 100 * np2 + xF (X c) (xC (X c)) ≤ 100 * np + xF y (xC y) → manyX pc m (y, np2) v2 st2 tu = manyX pc n (X c, np) v st tu →
            Ev (d + 4) m_Mo_samples 76 [some (.ref 25), some (.int (nI c)), some (.int (nI n)), some (.int v), some (.int st), some (.int tu), some (.int (nI (xT (X c)))), some (.int v2), some (.int st2), some (.int (nI k))] [] w2 nc ns Q := by
          intro m
          induction m with
          | zero =>
            intro k hk w2 s2 y np2 v2 st2 g2 hs2 hs0 m2 hX2 hT2 hpot hmany
            refine t_Mo_samples_76 (fun _ => t_Mo_samples_109 ?_) (fun g => absurd (nI_le (by omega) (by omega)) g)
            have hm : (y, np2) = manyX pc n (X c, np) v st tu := hmany
            refine hq1 c n hc rfl rfl h1 h2 hlt w2 s2 g2 hs2 hs0 ?_
            rw [← hm]
            exact m2
          | succ m ih =>
            intro k hk w2 s2 y np2 v2 st2 g2 hs2 hs0 m2 hX2 hT2 hpot hmany
            refine t_Mo_samples_76 (fun g => absurd ((nI_leI (by omega) (by omega)).mp g) (by omega)) (fun _ => ?_)
            obtain ⟨y1, y2, y3, y4⟩ := hX2 c hc
            have hyT : xT (fu X c y c) < 32768 := by rw [fu_s, hT2]; omega
            have hFy : xF y (xC y) ≤ 32768 := by rw [fu_s] at y2; rw [fu_s] at y3; omega
            refine t_Mo_samples_82 m2.1 (Nat.le_of_ble_eq_true rfl) (c_mtake (v := v2) m2 hc (by omega) y1 y2 hyT y4 (fun c' hc' => (hX2 c' hc').2.2.1) (fun w3 s3 g3 hs3 m3 => t_Mo_samples_89 rfl ?_))
            rw [nI_1]
            have hK := chK_take (v := v2) (pc := pc) (cg := np2) hX2 hc hyT
            rw [fu_s, fu_fu] at m3 hK
            rw [fu_s] at y1 y2 y4
            obtain ⟨_, _, t3, _, t5, _⟩ := take_K (v := v2) (pc := pc) (cg := np2) y1 y2 y4
            exact ih (k + 1) (by omega) w3 s3 (takeX y v2 pc np2).1 (takeX y v2 pc np2).2 _ _ (fun v hv => (g3 v hv).trans (g2 v hv)) (fun k k1 k2 => by rw [hs3 k k1, hs2 k k1 k2]) (by rw [hs3 0 (by omega), hs0]) m3 hK (by rw [t3, hT2]; omega) (by omega) hmany
        have eX : fu X c (X c) = X := by funext j; by_cases e : j = c; · rw [e, fu_s]
                                         · rw [fu_n _ _ e]
        exact loop n 0 (by omega) w1 (fu s 0 0) (X c) np v st (fun v hv => g1 v (fm25 hv)) (fun k k1 k2 => fu_n _ _ k2) (fu_s _ _ _) (by rw [eX]; exact m1) (by rw [eX]; exact hX) rfl (Nat.le_refl _) rfl
      · rw [ccl, k2' c hc, nI_add] at g3
        refine t_Mo_samples_41 ho (Nat.le_of_ble_eq_true rfl) (es_w (fun w1 e1 g1 => ?_))
        rw [moL_0] at e1
        have o1 : moO w1 (fu s 0 3) l := ⟨by decide, e1⟩
        exact t_Mo_samples_49 o1 rfl (fun g => absurd (show (3 : Int32) ≤ 0 by rw [fu_s] at g; exact g) (by decide)) (fun _ => t_Mo_samples_56 (hq2 c n hc rfl rfl h1 h2 (fun e => g3 (nI_le (b := 32768) e (by omega))) w1 g1 o1))
    · rw [e] at g2
      exact g2 (nI_le (b := 2000) h2 (by omega))
  · refine t_Mo_samples_5 (fun g => absurd rfl g) (fun _ => t_Mo_samples_8 ho (Nat.le_of_ble_eq_true rfl) (es_w (fun w1 e1 g1 => ?_)))
    rw [moL_0] at e1
    have o1 : moO w1 (fu s 0 1) l := ⟨by decide, e1⟩
    exact t_Mo_samples_49 o1 rfl (fun g => absurd (show (1 : Int32) ≤ 0 by rw [fu_s] at g; exact g) (by decide)) (fun _ => t_Mo_samples_56 (hq0 hn w1 g1 o1))
end Mo14
