/-! ===== the law: gap, and the cases that change one side of the state; by gen_cases2.py ===== -/
section La3
variable {d n i k nc ns : Nat} {xs : Nat → Int32} {w : qk_W} {Q : Option Value ⊕ Nat → qk_W → Nat → Nat → Prop} {o5 o6 : Option Value}
theorem l_gap (hn : n ≤ 3072) (hi : i + 6 ≤ n) (hk : k < 512) (hJ : JI n xs k w nc ns) (K : ∀ w' nc' ns' p5 p6, JI n xs (k + 1) w' nc' ns' → Ev (d + 12) m_La_law 23 [some (.ref 0), some (.ref gQ), some (.ref 25), some (.ref gO), some (.int (nI i + 6)), p5, p6] [] w' nc' ns' Q) :
    Ev (d + 12) m_La_law 1061 [some (.ref 0), some (.ref gQ), some (.ref 25), some (.ref gO), some (.int (nI i)), o5, o6] [] w nc ns Q := by
  obtain ⟨X, Y, R, L, T, np, pc, bad, rej, cla, sl, lw, s, l, hC, hM, hP, hN, ht, hs, f, ho⟩ := hJ
  have hsl : sl < 2 ^ 30 := hM.2.2.2.1.2.1
  have hnp := jP_np hC hP
  have hv : ∀ j, j ≤ 5 → vp_in (nI i + nI j) n := fun j hj => by rw [nI_add]; exact vp_in_nI (by omega) (by omega)
  refine t_La_law_1061 rfl hs (hv 1 (by omega)) (hv 2 (by omega)) (hv 3 (by omega)) (fun z => ?_) (fun z => ?_)
  · generalize he1 : xs (nI i + 1).toNatClampNeg = a1
    generalize he2 : xs (nI i + 2).toNatClampNeg = a2
    refine t_La_law_1087 (Nat.le_of_ble_eq_true rfl) ?_
    refine t_La_gap_0 rfl hC.2.1 (Nat.le_of_ble_eq_true rfl) (c_Qgap (fl := false) hC.2.1 hC.2.2.2.1 ht (fun c j hc e1 hj e2 hlt => ?_) (fun c hc e1 hall w1 hx => ?_) (fun e1 w1 hx => ?_))
    · subst e1
      subst e2
      refine lw_gap ho (fun w2 f2 g2 ho2 hf2 => ?_)
      refine t_La_law_1092 rfl rfl (wi_f hs (g2 0 (by decide))) (hv 1 (by omega)) (hv 2 (by omega)) (hv 3 (by omega)) (fun _ => ?_) (fun z2 => absurd z z2)
      rw [he1, he2]
      refine t_La_law_1120 (moO_f hM.1.1 (g2 25 (by decide))) (Nat.le_of_ble_eq_true rfl) ?_
      have hM2 := moR_f hM (fun v hv => g2 v (by rintro rfl; have : gO % 16 = 10 := rfl; omega))
      refine c_mgap (fl := false) hM2.1.1 hM2.2.2.2.2.1 (fun c' j' hc' a1 hj' a2 hlt' w3 s3 g3 o3 z0 zs => ?_) (fun c' hc' a1 hall' => ?_) (fun a1 => absurd rfl (a1 c hc))
      · have ec := nI_in4 hc hc' a1
        subst ec
        have ej := (nI_eq hj hj').mp a2
        subst ej
        exact lt_gap_ok o3 z0 (wl_f ho2 (g3 gO (by decide))) hf2 (K _ _ _ _ _ (JI_same hC hM hP hN hs hk (fun v v1 v2 v3 => (g3 v v3).trans (g2 v v2)) o3 zs (tmpI_f ht (Nat.le_refl _) (fun v hv => (g3 v (by rintro rfl; omega)).trans (g2 v (by rintro rfl; have : gO % 16 = 10 := rfl; omega)))) (by omega) (by omega) (wl_f ho2 (g3 gO (by decide)))))
      · have ec := nI_in4 hc hc' a1
        subst ec
        exact absurd (hall' j hj rfl) (by omega)
    · subst e1
      obtain ⟨q9, hq9, hfd⟩ := fx_gap_12
      refine ⟨12, q9, [], 15, hx.2, hq9, hfd, t_La_gap_15 rfl rfl ?_⟩
      refine t_La_law_1092 rfl rfl (wi_f hs (exf hx 0 (by decide))) (hv 1 (by omega)) (hv 2 (by omega)) (hv 3 (by omega)) (fun _ => ?_) (fun z2 => absurd z z2)
      rw [he1, he2]
      refine t_La_law_1120 (moO_f hM.1.1 (exf hx 25 (by decide))) (Nat.le_of_ble_eq_true rfl) ?_
      have hM2 := moR_f hM (fun v hv => exf hx v (by omega))
      refine c_mgap (fl := false) hM2.1.1 hM2.2.2.2.2.1 (fun c' j' hc' a1 hj' a2 hlt' => ?_) (fun c' hc' a1 hall' w3 s3 g3 o3 z0 zs => ?_) (fun a1 => absurd rfl (a1 c hc))
      · have ec := nI_in4 hc hc' a1
        subst ec
        exact absurd (hall j' hj' a2) (by omega)
      · exact lt_gap_no o3 z0 (by decide) (K _ _ _ _ _ (JI_same hC hM hP hN hs hk (fun v v1 v2 v3 => (g3 v v3).trans (exf hx v v1)) o3 zs (tmpI_f (tmpI_1 ht hx.1) (Nat.le_refl _) (fun v hv => g3 v (by rintro rfl; omega))) (by omega) (by omega) (wl_f ho (by rw [g3 gO (by decide), exf hx gO (by decide)]))))
    · obtain ⟨q9, hq9, hfd⟩ := fx_gap_12
      refine ⟨12, q9, [], 15, hx.2, hq9, hfd, t_La_gap_15 rfl rfl ?_⟩
      refine t_La_law_1092 rfl rfl (wi_f hs (exf hx 0 (by decide))) (hv 1 (by omega)) (hv 2 (by omega)) (hv 3 (by omega)) (fun _ => ?_) (fun z2 => absurd z z2)
      rw [he1, he2]
      refine t_La_law_1120 (moO_f hM.1.1 (exf hx 25 (by decide))) (Nat.le_of_ble_eq_true rfl) ?_
      have hM2 := moR_f hM (fun v hv => exf hx v (by omega))
      refine c_mgap (fl := false) hM2.1.1 hM2.2.2.2.2.1 (fun c' j' hc' a1 => absurd a1 (e1 c' hc')) (fun c' hc' a1 => absurd a1 (e1 c' hc')) (fun _ w3 s3 g3 o3 z0 zs => ?_)
      exact lt_gap_no o3 z0 (by decide) (K _ _ _ _ _ (JI_same hC hM hP hN hs hk (fun v v1 v2 v3 => (g3 v v3).trans (exf hx v v1)) o3 zs (tmpI_f (tmpI_1 ht hx.1) (Nat.le_refl _) (fun v hv => g3 v (by rintro rfl; omega))) (by omega) (by omega) (wl_f ho (by rw [g3 gO (by decide), exf hx gO (by decide)]))))
  · generalize he1 : xs (nI i + 1).toNatClampNeg = a1
    generalize he2 : xs (nI i + 2).toNatClampNeg = a2
    refine t_La_law_1083 (Nat.le_of_ble_eq_true rfl) ?_
    refine t_La_gap_0 rfl hC.2.1 (Nat.le_of_ble_eq_true rfl) (c_Qgap (fl := true) hC.2.1 hC.2.2.2.1 ht (fun c j hc e1 hj e2 hlt => ?_) (fun c hc e1 hall w1 hx => ?_) (fun e1 w1 hx => ?_))
    · subst e1
      subst e2
      refine lw_gap ho (fun w2 f2 g2 ho2 hf2 => ?_)
      refine t_La_law_1092 rfl rfl (wi_f hs (g2 0 (by decide))) (hv 1 (by omega)) (hv 2 (by omega)) (hv 3 (by omega)) (fun z2 => absurd z2 z) (fun _ => ?_)
      rw [he1, he2]
      refine t_La_law_1116 (moO_f hM.1.1 (g2 25 (by decide))) (Nat.le_of_ble_eq_true rfl) ?_
      have hM2 := moR_f hM (fun v hv => g2 v (by rintro rfl; have : gO % 16 = 10 := rfl; omega))
      refine c_mgap (fl := true) hM2.1.1 hM2.2.2.2.2.1 (fun c' j' hc' a1 hj' a2 hlt' w3 s3 g3 o3 z0 zs => ?_) (fun c' hc' a1 hall' => ?_) (fun a1 => absurd rfl (a1 c hc))
      · have ec := nI_in4 hc hc' a1
        subst ec
        have ej := (nI_eq hj hj').mp a2
        subst ej
        exact lt_gap_ok o3 z0 (wl_f ho2 (g3 gO (by decide))) hf2 (K _ _ _ _ _ (JI_same hC hM hP hN hs hk (fun v v1 v2 v3 => (g3 v v3).trans (g2 v v2)) o3 zs (tmpI_f ht (Nat.le_refl _) (fun v hv => (g3 v (by rintro rfl; omega)).trans (g2 v (by rintro rfl; have : gO % 16 = 10 := rfl; omega)))) (by omega) (by omega) (wl_f ho2 (g3 gO (by decide)))))
      · have ec := nI_in4 hc hc' a1
        subst ec
        exact absurd (hall' j hj rfl) (by omega)
    · subst e1
      obtain ⟨q9, hq9, hfd⟩ := fx_gap_12
      refine ⟨12, q9, [], 15, hx.2, hq9, hfd, t_La_gap_15 rfl rfl ?_⟩
      refine t_La_law_1092 rfl rfl (wi_f hs (exf hx 0 (by decide))) (hv 1 (by omega)) (hv 2 (by omega)) (hv 3 (by omega)) (fun z2 => absurd z2 z) (fun _ => ?_)
      rw [he1, he2]
      refine t_La_law_1116 (moO_f hM.1.1 (exf hx 25 (by decide))) (Nat.le_of_ble_eq_true rfl) ?_
      have hM2 := moR_f hM (fun v hv => exf hx v (by omega))
      refine c_mgap (fl := true) hM2.1.1 hM2.2.2.2.2.1 (fun c' j' hc' a1 hj' a2 hlt' => ?_) (fun c' hc' a1 hall' w3 s3 g3 o3 z0 zs => ?_) (fun a1 => absurd rfl (a1 c hc))
      · have ec := nI_in4 hc hc' a1
        subst ec
        exact absurd (hall j' hj' a2) (by omega)
      · exact lt_gap_no o3 z0 (by decide) (K _ _ _ _ _ (JI_same hC hM hP hN hs hk (fun v v1 v2 v3 => (g3 v v3).trans (exf hx v v1)) o3 zs (tmpI_f (tmpI_1 ht hx.1) (Nat.le_refl _) (fun v hv => g3 v (by rintro rfl; omega))) (by omega) (by omega) (wl_f ho (by rw [g3 gO (by decide), exf hx gO (by decide)]))))
    · obtain ⟨q9, hq9, hfd⟩ := fx_gap_12
      refine ⟨12, q9, [], 15, hx.2, hq9, hfd, t_La_gap_15 rfl rfl ?_⟩
      refine t_La_law_1092 rfl rfl (wi_f hs (exf hx 0 (by decide))) (hv 1 (by omega)) (hv 2 (by omega)) (hv 3 (by omega)) (fun z2 => absurd z2 z) (fun _ => ?_)
      rw [he1, he2]
      refine t_La_law_1116 (moO_f hM.1.1 (exf hx 25 (by decide))) (Nat.le_of_ble_eq_true rfl) ?_
      have hM2 := moR_f hM (fun v hv => exf hx v (by omega))
      refine c_mgap (fl := true) hM2.1.1 hM2.2.2.2.2.1 (fun c' j' hc' a1 => absurd a1 (e1 c' hc')) (fun c' hc' a1 => absurd a1 (e1 c' hc')) (fun _ w3 s3 g3 o3 z0 zs => ?_)
      exact lt_gap_no o3 z0 (by decide) (K _ _ _ _ _ (JI_same hC hM hP hN hs hk (fun v v1 v2 v3 => (g3 v v3).trans (exf hx v v1)) o3 zs (tmpI_f (tmpI_1 ht hx.1) (Nat.le_refl _) (fun v hv => g3 v (by rintro rfl; omega))) (by omega) (by omega) (wl_f ho (by rw [g3 gO (by decide), exf hx gO (by decide)]))))
theorem l_quality (hn : n ≤ 3072) (hi : i + 6 ≤ n) (hk : k < 512) (hJ : JI n xs k w nc ns) (K : ∀ w' nc' ns' p5 p6, JI n xs (k + 1) w' nc' ns' → Ev (d + 12) m_La_law 23 [some (.ref 0), some (.ref gQ), some (.ref 25), some (.ref gO), some (.int (nI i + 6)), p5, p6] [] w' nc' ns' Q) :
    Ev (d + 12) m_La_law 308 [some (.ref 0), some (.ref gQ), some (.ref 25), some (.ref gO), some (.int (nI i)), o5, o6] [] w nc ns Q := by
  obtain ⟨X, Y, R, L, T, np, pc, bad, rej, cla, sl, lw, s, l, hC, hM, hP, hN, ht, hs, f, ho⟩ := hJ
  have hsl : sl < 2 ^ 30 := hM.2.2.2.1.2.1
  have hnp := jP_np hC hP
  have hv : ∀ j, j ≤ 5 → vp_in (nI i + nI j) n := fun j hj => by rw [nI_add]; exact vp_in_nI (by omega) (by omega)
  refine t_La_law_308 hs (hv 1 (by omega)) (Nat.le_of_ble_eq_true rfl) ?_
  generalize he1 : xs (nI i + 1).toNatClampNeg = a1
  refine t_La_quality_0 hC.2.1 (Nat.le_of_ble_eq_true rfl) (c_Qquality hC.2.1 hC.2.2.1.1 ht (fun p hp e1 w1 g ho1 => ?_) (fun e1 w1 hx => ?_))
  · subst e1
    have g9 : ∀ v, v % 16 = 9 ∨ v < 4 ∨ v = gO ∨ v % 16 = 11 → w1 v = w v := fun v hv => g v (by rcases hv with h | h | h | h <;> rintro rfl <;> revert h <;> decide)
    refine t_La_quality_5 ?_
    obtain ⟨w2, hw2⟩ : ∃ w2, w2 = w1 := ⟨_, rfl⟩
    rw [← hw2]
    have g2 : ∀ v, v ≠ gO → w2 v = w1 v := fun v _ => by rw [hw2]
    have ho2 : wl w2 gO 1 f := wl_f ho (by rw [hw2]; exact g9 gO (Or.inr (Or.inr (Or.inl rfl))))
    have g92 : ∀ v, v % 16 = 9 ∨ v < 4 ∨ v % 16 = 11 → w2 v = w v := fun v hv => (g2 v (by rintro rfl; rcases hv with h | h | h <;> revert h <;> decide)).trans (g9 v (hv.elim Or.inl (fun h => Or.inr (h.elim Or.inl (fun h => Or.inr (Or.inr h))))))
    refine t_La_law_318 rfl (wi_f hs (g92 0 (Or.inr (Or.inl (by decide))))) (hv 1 (by omega)) (moO_f hM.1.1 (g92 25 (Or.inl rfl))) (Nat.le_of_ble_eq_true rfl) ?_
    rw [he1]
    have hM2 := moR_f hM (fun v hv => g92 v (Or.inl hv))
    refine c_mquality hM2.1.1 (fun p' hp' a1 w3 g3 o3 => ?_) (fun a1 => absurd rfl (a1 p hp))
    rw [← (nI_eq (by omega) (by omega)).mp a1] at o3
    have g3p : ∀ v, v % 16 ≠ 9 → w3 v = w2 v := fun v hv => g3 v (by rintro rfl; exact hv rfl)
    have hC3 := ciR_f (ciR_so hC g ho1) (fun v v1 v2 v3 => (g3p v v1).trans (g2 v v3))
    have hM3 : moR w3 _ _ X Y R L T np p bad rej cla sl lw := ⟨msR_pc hM2.1 o3 rfl (fu_s _ _ _) g3, akR_f hM2.2.1 (g3 _ (mA_25 (by omega))), hM2.2.2.1, maR_f hM2.2.2.2.1 rfl (g3 _ (mA_25 (by omega))) (g3 _ (mA_25 (by omega))) (g3 _ (mA_25 (by omega))), hvR_f hM2.2.2.2.2.1 (g3 _ (mA_25 (by omega))) (g3 _ (mA_25 (by omega))), ohR_f hM2.2.2.2.2.2.1 (g3 _ (mA_25 (by omega))), hM2.2.2.2.2.2.2.1, hM2.2.2.2.2.2.2.2.1, hM2.2.2.2.2.2.2.2.2.1, (by obtain ⟨f9, hf9⟩ := hM2.2.2.2.2.2.2.2.2.2; exact ⟨f9, wi_f hf9 (g3 _ (mA_25 (by omega)))⟩)⟩
    exact lt_quality o3 rfl (K _ _ _ _ _ ⟨X, Y, R, L, T, np, p, bad, rej, cla, sl, lw, _, _, hC3, hM3, ⟨hp, (jP_up hP hk).2⟩, (jN_up hN (by omega) (by omega)), (tmpI_f ht (by omega) (fun v hv => (g3p v (by omega)).trans (g92 v (Or.inr (Or.inr hv))))), (wi_f hs ((g3p 0 (by decide)).trans (g92 0 (Or.inr (Or.inl (by decide)))))), _, (wl_f ho2 (g3p gO (by decide)))⟩)
  · obtain ⟨q9, hq9, hfd⟩ := fx_quality_14
    refine ⟨14, q9, [], 8, hx.2, hq9, hfd, t_La_quality_8 rfl rfl ?_⟩
    refine t_La_law_318 rfl (wi_f hs (exf hx 0 (by decide))) (hv 1 (by omega)) (moO_f hM.1.1 (exf hx 25 (by decide))) (Nat.le_of_ble_eq_true rfl) ?_
    rw [he1]
    have hM2 := moR_f hM (fun v hv => exf hx v (by omega))
    refine c_mquality hM2.1.1 (fun p' hp' a1 => absurd a1 (e1 p' hp')) (fun _ w3 g3 o3 => ?_)
    exact lt_quality o3 (fu_s _ _ _) (K _ _ _ _ _ (JI_same hC hM hP hN hs hk (fun v v1 v2 v3 => (g3 v v3).trans (exf hx v v1)) o3 (fun k k0 _ => fu_n _ _ (by omega)) (tmpI_f (tmpI_1 ht hx.1) (Nat.le_refl _) (fun v hv => g3 v (by rintro rfl; omega))) (by omega) (by omega) (wl_f ho (by rw [g3 gO (by decide), exf hx gO (by decide)]))))
theorem l_lose (hn : n ≤ 3072) (hi : i + 6 ≤ n) (hk : k < 512) (hJ : JI n xs k w nc ns) (K : ∀ w' nc' ns' p5 p6, JI n xs (k + 1) w' nc' ns' → Ev (d + 12) m_La_law 23 [some (.ref 0), some (.ref gQ), some (.ref 25), some (.ref gO), some (.int (nI i + 6)), p5, p6] [] w' nc' ns' Q) :
    Ev (d + 12) m_La_law 538 [some (.ref 0), some (.ref gQ), some (.ref 25), some (.ref gO), some (.int (nI i)), o5, o6] [] w nc ns Q := by
  obtain ⟨X, Y, R, L, T, np, pc, bad, rej, cla, sl, lw, s, l, hC, hM, hP, hN, ht, hs, f, ho⟩ := hJ
  have hsl : sl < 2 ^ 30 := hM.2.2.2.1.2.1
  have hnp := jP_np hC hP
  have hv : ∀ j, j ≤ 5 → vp_in (nI i + nI j) n := fun j hj => by rw [nI_add]; exact vp_in_nI (by omega) (by omega)
  refine t_La_law_538 hs (hv 1 (by omega)) (Nat.le_of_ble_eq_true rfl) ?_
  generalize he1 : xs (nI i + 1).toNatClampNeg = a1
  refine t_La_lose_0 hC.2.1 (Nat.le_of_ble_eq_true rfl) (c_Qlose hC.2.1 hC.2.2.2.2 hsl hM.2.2.2.1.2.2.2.2.2 ht (fun m e1 e2 e3 e4 w1 g hair => ?_) (fun e1 w1 hx => ?_))
  · subst e1
    have g9 : ∀ v, v % 16 = 9 ∨ v < 4 ∨ v = gO ∨ v % 16 = 11 → w1 v = w v := fun v hv => g v (by have : gO % 16 = 10 := rfl; rcases hv with h | h | h | h <;> (try subst h) <;> omega)
    refine t_La_lose_5 ?_
    obtain ⟨w2, hw2⟩ : ∃ w2, w2 = w1 := ⟨_, rfl⟩
    rw [← hw2]
    have g2 : ∀ v, v ≠ gO → w2 v = w1 v := fun v _ => by rw [hw2]
    have ho2 : wl w2 gO 1 f := wl_f ho (by rw [hw2]; exact g9 gO (Or.inr (Or.inr (Or.inl rfl))))
    have g92 : ∀ v, v % 16 = 9 ∨ v < 4 ∨ v % 16 = 11 → w2 v = w v := fun v hv => (g2 v (by rintro rfl; rcases hv with h | h | h <;> revert h <;> decide)).trans (g9 v (hv.elim Or.inl (fun h => Or.inr (h.elim Or.inl (fun h => Or.inr (Or.inr h))))))
    refine t_La_law_548 rfl (wi_f hs (g92 0 (Or.inr (Or.inl (by decide))))) (hv 1 (by omega)) (moO_f hM.1.1 (g92 25 (Or.inl rfl))) (Nat.le_of_ble_eq_true rfl) ?_
    rw [he1]
    have hM2 := moR_f hM (fun v hv => g92 v (Or.inl hv))
    refine c_mlose hM2.1.1 hM2.2.2.2.1 (fun m' a1 a2 a3 a4 w3 g3 o3 ma3 => ?_) (fun a1 => absurd (isSl_t (by omega) e2 e3 e4) (by rw [a1]; decide))
    rw [← (nI_eq (by omega) (by omega)).mp a1] at ma3
    have g3p : ∀ v, v % 16 ≠ 9 → w3 v = w2 v := fun v hv => g3 v (by rintro rfl; exact hv rfl) (by rintro rfl; exact hv (mA_9 _))
    have hC3 := ciR_f (ciR_air hC (fun v v1 v2 => g v v1) hair) (fun v v1 v2 v3 => (g3p v v1).trans (g2 v v3))
    have hM3 := moR_air hM2 o3 (fun v v1 v2 v3 v4 => g3 v v1 v4) (fun k k0 _ _ => fu_n _ _ (by omega)) ma3
    exact lt_lose o3 rfl (K _ _ _ _ _ ⟨X, Y, R, L, _, np, pc, bad, rej, cla, sl, lw, _, _, hC3, hM3, (jP_up hP hk), (jN_up hN (by omega) (by omega)), (tmpI_f ht (by omega) (fun v hv => (g3p v (by omega)).trans (g92 v (Or.inr (Or.inr hv))))), (wi_f hs ((g3p 0 (by decide)).trans (g92 0 (Or.inr (Or.inl (by decide)))))), _, (wl_f ho2 (g3p gO (by decide)))⟩)
  · obtain ⟨q9, hq9, hfd⟩ := fx_lose_12
    refine ⟨12, q9, [], 8, hx.2, hq9, hfd, t_La_lose_8 rfl rfl ?_⟩
    refine t_La_law_548 rfl (wi_f hs (exf hx 0 (by decide))) (hv 1 (by omega)) (moO_f hM.1.1 (exf hx 25 (by decide))) (Nat.le_of_ble_eq_true rfl) ?_
    rw [he1]
    have hM2 := moR_f hM (fun v hv => exf hx v (by omega))
    refine c_mlose hM2.1.1 hM2.2.2.2.1 (fun m' a1 a2 a3 a4 => absurd (isSl_t (by omega) a2 a3 a4) (by rw [← a1, e1]; decide)) (fun _ w3 g3 o3 => ?_)
    exact lt_lose o3 (fu_s _ _ _) (K _ _ _ _ _ (JI_same hC hM hP hN hs hk (fun v v1 v2 v3 => (g3 v v3).trans (exf hx v v1)) o3 (fun k k0 _ => fu_n _ _ (by omega)) (tmpI_f (tmpI_1 ht hx.1) (Nat.le_refl _) (fun v hv => g3 v (by rintro rfl; omega))) (by omega) (by omega) (wl_f ho (by rw [g3 gO (by decide), exf hx gO (by decide)]))))
theorem l_mend (hn : n ≤ 3072) (hi : i + 6 ≤ n) (hk : k < 512) (hJ : JI n xs k w nc ns) (K : ∀ w' nc' ns' p5 p6, JI n xs (k + 1) w' nc' ns' → Ev (d + 12) m_La_law 23 [some (.ref 0), some (.ref gQ), some (.ref 25), some (.ref gO), some (.int (nI i + 6)), p5, p6] [] w' nc' ns' Q) :
    Ev (d + 12) m_La_law 758 [some (.ref 0), some (.ref gQ), some (.ref 25), some (.ref gO), some (.int (nI i)), o5, o6] [] w nc ns Q := by
  obtain ⟨X, Y, R, L, T, np, pc, bad, rej, cla, sl, lw, s, l, hC, hM, hP, hN, ht, hs, f, ho⟩ := hJ
  have hsl : sl < 2 ^ 30 := hM.2.2.2.1.2.1
  have hnp := jP_np hC hP
  have hv : ∀ j, j ≤ 5 → vp_in (nI i + nI j) n := fun j hj => by rw [nI_add]; exact vp_in_nI (by omega) (by omega)
  refine t_La_law_758 hs (hv 1 (by omega)) (Nat.le_of_ble_eq_true rfl) ?_
  generalize he1 : xs (nI i + 1).toNatClampNeg = a1
  refine t_La_mend_0 hC.2.1 (Nat.le_of_ble_eq_true rfl) (c_Qmend hC.1 hC.2.1 hC.2.2.2.2 hsl hM.2.2.2.1.2.2.2.2.2 ht (fun m e1 e2 e3 e4 w1 g hair => ?_) (fun e1 w1 hx => ?_))
  · subst e1
    have g9 : ∀ v, v % 16 = 9 ∨ v < 4 ∨ v = gO ∨ v % 16 = 11 → w1 v = w v := fun v hv => g v (by have : gO % 16 = 10 := rfl; rcases hv with h | h | h | h <;> (try subst h) <;> omega)
    refine t_La_mend_5 ?_
    obtain ⟨w2, hw2⟩ : ∃ w2, w2 = w1 := ⟨_, rfl⟩
    rw [← hw2]
    have g2 : ∀ v, v ≠ gO → w2 v = w1 v := fun v _ => by rw [hw2]
    have ho2 : wl w2 gO 1 f := wl_f ho (by rw [hw2]; exact g9 gO (Or.inr (Or.inr (Or.inl rfl))))
    have g92 : ∀ v, v % 16 = 9 ∨ v < 4 ∨ v % 16 = 11 → w2 v = w v := fun v hv => (g2 v (by rintro rfl; rcases hv with h | h | h <;> revert h <;> decide)).trans (g9 v (hv.elim Or.inl (fun h => Or.inr (h.elim Or.inl (fun h => Or.inr (Or.inr h))))))
    refine t_La_law_768 rfl (wi_f hs (g92 0 (Or.inr (Or.inl (by decide))))) (hv 1 (by omega)) (moO_f hM.1.1 (g92 25 (Or.inl rfl))) (Nat.le_of_ble_eq_true rfl) ?_
    rw [he1]
    have hM2 := moR_f hM (fun v hv => g92 v (Or.inl hv))
    refine c_mmend hM2.1.1 hM2.2.2.2.1 (fun m' a1 a2 a3 a4 w3 g3 o3 ma3 => ?_) (fun a1 => absurd (isSl_t (by omega) e2 e3 e4) (by rw [a1]; decide))
    rw [← (nI_eq (by omega) (by omega)).mp a1] at ma3
    have g3p : ∀ v, v % 16 ≠ 9 → w3 v = w2 v := fun v hv => g3 v (by rintro rfl; exact hv rfl) (by rintro rfl; exact hv (mA_9 _))
    have hC3 := ciR_f (ciR_air hC (fun v v1 v2 => g v v1) hair) (fun v v1 v2 v3 => (g3p v v1).trans (g2 v v3))
    have hM3 := moR_air hM2 o3 (fun v v1 v2 v3 v4 => g3 v v1 v2) (fun k k0 _ _ => fu_n _ _ (by omega)) ma3
    exact lt_mend o3 rfl (K _ _ _ _ _ ⟨X, Y, _, L, T, np, pc, bad, rej, cla, sl, lw, _, _, hC3, hM3, (jP_up hP hk), (jN_up hN (by omega) (by omega)), (tmpI_f ht (by omega) (fun v hv => (g3p v (by omega)).trans (g92 v (Or.inr (Or.inr hv))))), (wi_f hs ((g3p 0 (by decide)).trans (g92 0 (Or.inr (Or.inl (by decide)))))), _, (wl_f ho2 (g3p gO (by decide)))⟩)
  · obtain ⟨q9, hq9, hfd⟩ := fx_mend_12
    refine ⟨12, q9, [], 8, hx.2, hq9, hfd, t_La_mend_8 rfl rfl ?_⟩
    refine t_La_law_768 rfl (wi_f hs (exf hx 0 (by decide))) (hv 1 (by omega)) (moO_f hM.1.1 (exf hx 25 (by decide))) (Nat.le_of_ble_eq_true rfl) ?_
    rw [he1]
    have hM2 := moR_f hM (fun v hv => exf hx v (by omega))
    refine c_mmend hM2.1.1 hM2.2.2.2.1 (fun m' a1 a2 a3 a4 => absurd (isSl_t (by omega) a2 a3 a4) (by rw [← a1, e1]; decide)) (fun _ w3 g3 o3 => ?_)
    exact lt_mend o3 (fu_s _ _ _) (K _ _ _ _ _ (JI_same hC hM hP hN hs hk (fun v v1 v2 v3 => (g3 v v3).trans (exf hx v v1)) o3 (fun k k0 _ => fu_n _ _ (by omega)) (tmpI_f (tmpI_1 ht hx.1) (Nat.le_refl _) (fun v hv => g3 v (by rintro rfl; omega))) (by omega) (by omega) (wl_f ho (by rw [g3 gO (by decide), exf hx gO (by decide)]))))
theorem l_spoil (hn : n ≤ 3072) (hi : i + 6 ≤ n) (hk : k < 512) (hJ : JI n xs k w nc ns) (K : ∀ w' nc' ns' p5 p6, JI n xs (k + 1) w' nc' ns' → Ev (d + 12) m_La_law 23 [some (.ref 0), some (.ref gQ), some (.ref 25), some (.ref gO), some (.int (nI i + 6)), p5, p6] [] w' nc' ns' Q) :
    Ev (d + 12) m_La_law 698 [some (.ref 0), some (.ref gQ), some (.ref 25), some (.ref gO), some (.int (nI i)), o5, o6] [] w nc ns Q := by
  obtain ⟨X, Y, R, L, T, np, pc, bad, rej, cla, sl, lw, s, l, hC, hM, hP, hN, ht, hs, f, ho⟩ := hJ
  have hsl : sl < 2 ^ 30 := hM.2.2.2.1.2.1
  have hnp := jP_np hC hP
  have hv : ∀ j, j ≤ 5 → vp_in (nI i + nI j) n := fun j hj => by rw [nI_add]; exact vp_in_nI (by omega) (by omega)
  refine t_La_law_698 hs (hv 1 (by omega)) (hv 2 (by omega)) (hv 3 (by omega)) (Nat.le_of_ble_eq_true rfl) ?_
  generalize he1 : xs (nI i + 1).toNatClampNeg = a1
  generalize he2 : xs (nI i + 2).toNatClampNeg = a2
  generalize he3 : xs (nI i + 3).toNatClampNeg = a3
  refine t_La_spoil_0 hC.2.1 (Nat.le_of_ble_eq_true rfl) (c_Qspoil hC.2.1 hC.2.2.2.2 hsl hM.2.2.2.1.2.2.2.2.2 ht (fun m j e1 e2 e3 e4 e5 e6 w1 g hair => ?_) (fun m e1 e2 e3 e4 e5 w1 hx => ?_) (fun e1 w1 hx => ?_))
  · subst e1
    subst e5
    have g9 : ∀ v, v % 16 = 9 ∨ v < 4 ∨ v = gO ∨ v % 16 = 11 → w1 v = w v := fun v hv => g v (by have : gO % 16 = 10 := rfl; rcases hv with h | h | h | h <;> (try subst h) <;> omega)
    refine t_La_spoil_7 ?_
    obtain ⟨w2, hw2⟩ : ∃ w2, w2 = w1 := ⟨_, rfl⟩
    rw [← hw2]
    have g2 : ∀ v, v ≠ gO → w2 v = w1 v := fun v _ => by rw [hw2]
    have ho2 : wl w2 gO 1 f := wl_f ho (by rw [hw2]; exact g9 gO (Or.inr (Or.inr (Or.inl rfl))))
    have g92 : ∀ v, v % 16 = 9 ∨ v < 4 ∨ v % 16 = 11 → w2 v = w v := fun v hv => (g2 v (by rintro rfl; rcases hv with h | h | h <;> revert h <;> decide)).trans (g9 v (hv.elim Or.inl (fun h => Or.inr (h.elim Or.inl (fun h => Or.inr (Or.inr h))))))
    refine t_La_law_720 rfl (wi_f hs (g92 0 (Or.inr (Or.inl (by decide))))) (hv 1 (by omega)) (hv 2 (by omega)) (hv 3 (by omega)) (moO_f hM.1.1 (g92 25 (Or.inl rfl))) (Nat.le_of_ble_eq_true rfl) ?_
    rw [he1, he2, he3]
    have hM2 := moR_f hM (fun v hv => g92 v (Or.inl hv))
    have hL5 := hM.2.2.2.1.2.2.2.2.2 (m % 64) (Nat.mod_lt _ (by omega)) (Nat.lt_of_le_of_lt (Nat.mod_le _ _) e2)
    refine c_mspoil hM2.1.1 hM2.2.2.2.1 (fun m' j' a1 a2 a3 a4 a5 a6 w3 g3 o3 ma3 => ?_) (fun m' a1 a2 a3 a4 a5 => ?_) (fun a1 => absurd (isSl_t (by omega) e2 e3 e4) (by rw [a1]; decide))
    · have hm' := (nI_eq (by omega) (by omega)).mp a1
      subst hm'
      rw [← (nI_eq (by omega) (by omega)).mp a5] at ma3
      have g3p : ∀ v, v % 16 ≠ 9 → w3 v = w2 v := fun v hv => g3 v (by rintro rfl; exact hv rfl) (by rintro rfl; exact hv (mA_9 _))
      have hC3 := ciR_f (ciR_air hC (fun v v1 v2 => g v v1) hair) (fun v v1 v2 v3 => (g3p v v1).trans (g2 v v3))
      have hM3 := moR_air hM2 o3 (fun v v1 v2 v3 v4 => g3 v v1 v2) (fun k k0 _ _ => fu_n _ _ (by omega)) ma3
      exact lt_spoil o3 rfl (K _ _ _ _ _ ⟨X, Y, _, L, T, np, pc, bad, rej, cla, sl, lw, _, _, hC3, hM3, (jP_up hP hk), (jN_up hN (by omega) (by omega)), (tmpI_f ht (by omega) (fun v hv => (g3p v (by omega)).trans (g92 v (Or.inr (Or.inr hv))))), (wi_f hs ((g3p 0 (by decide)).trans (g92 0 (Or.inr (Or.inl (by decide)))))), _, (wl_f ho2 (g3p gO (by decide)))⟩)
    · have hm' := (nI_eq (by omega) (by omega)).mp a1
      subst hm'
      exact absurd rfl (a5 j e6)
  · subst e1
    obtain ⟨q9, hq9, hfd⟩ := fx_spoil_12
    refine ⟨12, q9, [], 10, hx.2, hq9, hfd, t_La_spoil_10 rfl rfl ?_⟩
    refine t_La_law_720 rfl (wi_f hs (exf hx 0 (by decide))) (hv 1 (by omega)) (hv 2 (by omega)) (hv 3 (by omega)) (moO_f hM.1.1 (exf hx 25 (by decide))) (Nat.le_of_ble_eq_true rfl) ?_
    rw [he1, he2, he3]
    have hM2 := moR_f hM (fun v hv => exf hx v (by omega))
    refine c_mspoil hM2.1.1 hM2.2.2.2.1 (fun m' j' a1 a2 a3 a4 a5 a6 => ?_) (fun m' a1 a2 a3 a4 a5 w3 g3 o3 => ?_) (fun a1 => absurd (isSl_t (by omega) e2 e3 e4) (by rw [a1]; decide))
    · have hm' := (nI_eq (by omega) (by omega)).mp a1
      subst hm'
      exact absurd a5 (e5 j' a6)
    · exact lt_spoil o3 (fu_s _ _ _) (K _ _ _ _ _ (JI_same hC hM hP hN hs hk (fun v v1 v2 v3 => (g3 v v3).trans (exf hx v v1)) o3 (fun k k0 _ => fu_n _ _ (by omega)) (tmpI_f (tmpI_1 ht hx.1) (Nat.le_refl _) (fun v hv => g3 v (by rintro rfl; omega))) (by omega) (by omega) (wl_f ho (by rw [g3 gO (by decide), exf hx gO (by decide)]))))
  · obtain ⟨q9, hq9, hfd⟩ := fx_spoil_12
    refine ⟨12, q9, [], 10, hx.2, hq9, hfd, t_La_spoil_10 rfl rfl ?_⟩
    refine t_La_law_720 rfl (wi_f hs (exf hx 0 (by decide))) (hv 1 (by omega)) (hv 2 (by omega)) (hv 3 (by omega)) (moO_f hM.1.1 (exf hx 25 (by decide))) (Nat.le_of_ble_eq_true rfl) ?_
    rw [he1, he2, he3]
    have hM2 := moR_f hM (fun v hv => exf hx v (by omega))
    refine c_mspoil hM2.1.1 hM2.2.2.2.1 (fun m' j' a1 a2 a3 a4 a5 a6 => absurd (isSl_t (by omega) a2 a3 a4) (by rw [← a1, e1]; decide)) (fun m' a1 a2 a3 a4 a5 => absurd (isSl_t (by omega) a2 a3 a4) (by rw [← a1, e1]; decide)) (fun _ w3 g3 o3 => ?_)
    exact lt_spoil o3 (fu_s _ _ _) (K _ _ _ _ _ (JI_same hC hM hP hN hs hk (fun v v1 v2 v3 => (g3 v v3).trans (exf hx v v1)) o3 (fun k k0 _ => fu_n _ _ (by omega)) (tmpI_f (tmpI_1 ht hx.1) (Nat.le_refl _) (fun v hv => g3 v (by rintro rfl; omega))) (by omega) (by omega) (wl_f ho (by rw [g3 gO (by decide), exf hx gO (by decide)]))))
theorem l_flush (hn : n ≤ 3072) (hi : i + 6 ≤ n) (hk : k < 512) (hJ : JI n xs k w nc ns) (K : ∀ w' nc' ns' p5 p6, JI n xs (k + 1) w' nc' ns' → Ev (d + 12) m_La_law 23 [some (.ref 0), some (.ref gQ), some (.ref 25), some (.ref gO), some (.int (nI i + 6)), p5, p6] [] w' nc' ns' Q) :
    Ev (d + 12) m_La_law 344 [some (.ref 0), some (.ref gQ), some (.ref 25), some (.ref gO), some (.int (nI i)), o5, o6] [] w nc ns Q := by
  obtain ⟨X, Y, R, L, T, np, pc, bad, rej, cla, sl, lw, s, l, hC, hM, hP, hN, ht, hs, f, ho⟩ := hJ
  have hsl : sl < 2 ^ 30 := hM.2.2.2.1.2.1
  have hnp := jP_np hC hP
  have hv : ∀ j, j ≤ 5 → vp_in (nI i + nI j) n := fun j hj => by rw [nI_add]; exact vp_in_nI (by omega) (by omega)
  refine t_La_law_344 hs (hv 1 (by omega)) (Nat.le_of_ble_eq_true rfl) ?_
  generalize he1 : xs (nI i + 1).toNatClampNeg = a1
  have hX := ciR_K hC hP.2.1
  refine t_La_flush_0 rfl hC.2.1 (Nat.le_of_ble_eq_true rfl) (c_Qflush hC.1 hC.2.1 hC.2.2.1 ht hP.1 (fun c hc e1 hpos w1 g ho1 hch => ?_) (fun c hc e1 h0 => ?_) (fun e1 w1 hx => ?_))
  · subst e1
    have g9 : ∀ v, v % 16 = 9 ∨ v < 4 ∨ v = gO ∨ v % 16 = 11 → w1 v = w v := fun v hv => g v (by have : gO % 16 = 10 := rfl; rcases hv with h | h | h | h <;> (try subst h) <;> omega) (by rcases hv with h | h | h | h <;> rintro rfl <;> revert h <;> decide)
    refine lw_flush (wl_f ho (g9 gO (Or.inr (Or.inr (Or.inl rfl))))) (fun w2 f2 g2 ho2 hf2 => ?_)
    have g92 : ∀ v, v % 16 = 9 ∨ v < 4 ∨ v % 16 = 11 → w2 v = w v := fun v hv => (g2 v (by rintro rfl; rcases hv with h | h | h <;> revert h <;> decide)).trans (g9 v (hv.elim Or.inl (fun h => Or.inr (h.elim Or.inl (fun h => Or.inr (Or.inr h))))))
    refine t_La_law_355 rfl (wi_f hs (g92 0 (Or.inr (Or.inl (by decide))))) (hv 1 (by omega)) (moO_f hM.1.1 (g92 25 (Or.inl rfl))) (Nat.le_of_ble_eq_true rfl) ?_
    rw [he1]
    have hM2 := moR_f hM (fun v hv => g92 v (Or.inl hv))
    refine c_mflush hM2.1 hX (by omega) (fun c' hc' a1 hpos' w3 s3 g3 es z0 ms3 => ?_) (fun c' hc' a1 h0' => ?_) (fun a1 => absurd rfl (a1 c hc))
    · have ec := nI_in4 hc hc' a1
      subst ec
      have g3p : ∀ v, v % 16 ≠ 9 → w3 v = w2 v := fun v hv => g3 v (frM_9 hv)
      have hC3 := ciR_f (ciR_st hC hc g ho1 hch) (fun v v1 v2 v3 => (g3p v v1).trans (g2 v v3))
      have hM3 := moR_st hM2 g3 es ms3 rfl
      obtain ⟨x1, x2, x3, x4⟩ := hX c' hc
      have hFT : xF (X c') (xC (X c')) < xT (X c') := by unfold opnX at hpos; omega
      have hFe : xF (clsX (X c') pc np) (xC (clsX (X c') pc np)) = xT (X c') := fu_s _ _ _
      exact lt_flush_ok ms3.1 z0 (wl_f ho2 (g3p gO (by decide))) hf2 (K _ _ _ _ _ ⟨_, Y, R, L, T, _, pc, bad, rej, cla, sl, lw, _, _, hC3, hM3, (jP_st hP hk hc (by rw [opn_cls]; omega) rfl (by rw [hFe]; exact x2) (by rw [hFe]; omega)), (jN_X hN hc (by rw [mkC_cls hFT]; exact Nat.le_refl _) (Nat.le_refl _) (by omega) (by omega)), (tmpI_f ht (by omega) (fun v hv => (g3p v (by omega)).trans (g92 v (Or.inr (Or.inr hv))))), (wi_f hs ((g3p 0 (by decide)).trans (g92 0 (Or.inr (Or.inl (by decide)))))), _, (wl_f ho2 (g3p gO (by decide)))⟩)
    · have ec := nI_in4 hc hc' a1
      subst ec
      omega
  · subst e1
    refine lw_flush ho (fun w2 f2 g2 ho2 hf2 => ?_)
    refine t_La_law_355 rfl (wi_f hs (g2 0 (by decide))) (hv 1 (by omega)) (moO_f hM.1.1 (g2 25 (by decide))) (Nat.le_of_ble_eq_true rfl) ?_
    rw [he1]
    have hM2 := moR_f hM (fun v hv => g2 v (by rintro rfl; have : gO % 16 = 10 := rfl; omega))
    refine c_mflush hM2.1 hX (by omega) (fun c' hc' a1 hpos' => ?_) (fun c' hc' a1 h0' w3 g3 o3 => ?_) (fun a1 => absurd rfl (a1 c hc))
    · have ec := nI_in4 hc hc' a1
      subst ec
      omega
    · exact lt_flush_ok o3 (fu_s _ _ _) (wl_f ho2 (g3 gO (by decide))) hf2 (K _ _ _ _ _ (JI_same hC hM hP hN hs hk (fun v v1 v2 v3 => (g3 v v3).trans (g2 v v2)) o3 (fun k k0 _ => fu_n _ _ (by omega)) (tmpI_f ht (Nat.le_refl _) (fun v hv => (g3 v (by rintro rfl; omega)).trans (g2 v (by rintro rfl; have : gO % 16 = 10 := rfl; omega)))) (by omega) (by omega) (wl_f ho2 (g3 gO (by decide)))))
  · obtain ⟨q9, hq9, hfd⟩ := fx_flush_12
    refine ⟨12, q9, [], 12, hx.2, hq9, hfd, t_La_flush_12 rfl rfl ?_⟩
    refine t_La_law_355 rfl (wi_f hs (exf hx 0 (by decide))) (hv 1 (by omega)) (moO_f hM.1.1 (exf hx 25 (by decide))) (Nat.le_of_ble_eq_true rfl) ?_
    rw [he1]
    have hM2 := moR_f hM (fun v hv => exf hx v (by omega))
    refine c_mflush hM2.1 hX (by omega) (fun c' hc' a1 => absurd a1 (e1 c' hc')) (fun c' hc' a1 => absurd a1 (e1 c' hc')) (fun _ w3 g3 o3 => ?_)
    exact lt_flush_no o3 (fu_s _ _ _) (by decide) (K _ _ _ _ _ (JI_same hC hM hP hN hs hk (fun v v1 v2 v3 => (g3 v v3).trans (exf hx v v1)) o3 (fun k k0 _ => fu_n _ _ (by omega)) (tmpI_f (tmpI_1 ht hx.1) (Nat.le_refl _) (fun v hv => g3 v (by rintro rfl; omega))) (by omega) (by omega) (wl_f ho (by rw [g3 gO (by decide), exf hx gO (by decide)]))))
theorem l_sample (hn : n ≤ 3072) (hi : i + 6 ≤ n) (hk : k < 512) (hJ : JI n xs k w nc ns) (K : ∀ w' nc' ns' p5 p6, JI n xs (k + 1) w' nc' ns' → Ev (d + 12) m_La_law 23 [some (.ref 0), some (.ref gQ), some (.ref 25), some (.ref gO), some (.int (nI i + 6)), p5, p6] [] w' nc' ns' Q) :
    Ev (d + 12) m_La_law 136 [some (.ref 0), some (.ref gQ), some (.ref 25), some (.ref gO), some (.int (nI i)), o5, o6] [] w nc ns Q := by
  obtain ⟨X, Y, R, L, T, np, pc, bad, rej, cla, sl, lw, s, l, hC, hM, hP, hN, ht, hs, f, ho⟩ := hJ
  have hsl : sl < 2 ^ 30 := hM.2.2.2.1.2.1
  have hnp := jP_np hC hP
  have hv : ∀ j, j ≤ 5 → vp_in (nI i + nI j) n := fun j hj => by rw [nI_add]; exact vp_in_nI (by omega) (by omega)
  refine t_La_law_136 hs (hv 1 (by omega)) (hv 2 (by omega)) (Nat.le_of_ble_eq_true rfl) ?_
  generalize he1 : xs (nI i + 1).toNatClampNeg = a1
  generalize he2 : xs (nI i + 2).toNatClampNeg = a2
  have hX := ciR_K hC hP.2.1
  refine t_La_sample_0 rfl hC.2.1 (Nat.le_of_ble_eq_true rfl) (c_Qsample hC.1 hC.2.1 hC.2.2.1 ht hP.2.1 hP.1 (fun c hc e1 hT w1 g ho1 hch hmk => ?_) (fun c hc e1 hT w1 hx => ?_) (fun e1 w1 hx => ?_))
  · subst e1
    have g9 : ∀ v, v % 16 = 9 ∨ v < 4 ∨ v = gO ∨ v % 16 = 11 → w1 v = w v := fun v hv => g v (by have : gO % 16 = 10 := rfl; rcases hv with h | h | h | h <;> (try subst h) <;> omega) (by rcases hv with h | h | h | h <;> rintro rfl <;> revert h <;> decide)
    refine lw_sample (wl_f ho (g9 gO (Or.inr (Or.inr (Or.inl rfl))))) (fun w2 f2 g2 ho2 hf2 => ?_)
    have g92 : ∀ v, v % 16 = 9 ∨ v < 4 ∨ v % 16 = 11 → w2 v = w v := fun v hv => (g2 v (by rintro rfl; rcases hv with h | h | h <;> revert h <;> decide)).trans (g9 v (hv.elim Or.inl (fun h => Or.inr (h.elim Or.inl (fun h => Or.inr (Or.inr h))))))
    refine t_La_law_153 rfl (wi_f hs (g92 0 (Or.inr (Or.inl (by decide))))) (hv 1 (by omega)) (hv 2 (by omega)) (moO_f hM.1.1 (g92 25 (Or.inl rfl))) (Nat.le_of_ble_eq_true rfl) ?_
    rw [he1, he2]
    have hM2 := moR_f hM (fun v hv => g92 v (Or.inl hv))
    refine c_msample hM2.1 hX (by omega) (fun c' hc' a1 hT' w3 s3 g3 es z0 ms3 => ?_) (fun c' hc' a1 hT' => ?_) (fun a1 => absurd rfl (a1 c hc))
    · have ec := nI_in4 hc hc' a1
      subst ec
      have g3p : ∀ v, v % 16 ≠ 9 → w3 v = w2 v := fun v hv => g3 v (frM_9 hv)
      obtain ⟨x1, x2, x3, x4⟩ := hX c' hc
      obtain ⟨t1, t2, t3, t4, t5, t6, t7⟩ := take_K (v := a2) (pc := pc) (cg := np) x1 x2 x4
      have hC3 := ciR_f (ciR_st hC hc g ho1 hch) (fun v v1 v2 v3 => (g3p v v1).trans (g2 v v3))
      have hM3 := moR_st hM2 g3 es ms3 t6
      exact lt_sample_ok ms3.1 z0 (wl_f ho2 (g3p gO (by decide))) hf2 (K _ _ _ _ _ ⟨_, Y, R, L, T, _, pc, bad, rej, cla, sl, lw, _, _, hC3, hM3, (jP_st hP hk hc t4 t6 t7 (by omega)), (jN_X hN hc hmk (Nat.le_refl _) (by omega) (by omega)), (tmpI_f ht (by omega) (fun v hv => (g3p v (by omega)).trans (g92 v (Or.inr (Or.inr hv))))), (wi_f hs ((g3p 0 (by decide)).trans (g92 0 (Or.inr (Or.inl (by decide)))))), _, (wl_f ho2 (g3p gO (by decide)))⟩)
    · have ec := nI_in4 hc hc' a1
      subst ec
      omega
  · subst e1
    obtain ⟨q9, hq9, hfd⟩ := fx_sample_13
    refine ⟨13, q9, [], 17, hx.2, hq9, hfd, t_La_sample_17 rfl rfl ?_⟩
    refine t_La_law_153 rfl (wi_f hs (exf hx 0 (by decide))) (hv 1 (by omega)) (hv 2 (by omega)) (moO_f hM.1.1 (exf hx 25 (by decide))) (Nat.le_of_ble_eq_true rfl) ?_
    rw [he1, he2]
    have hM2 := moR_f hM (fun v hv => exf hx v (by omega))
    refine c_msample hM2.1 hX (by omega) (fun c' hc' a1 hT' => ?_) (fun c' hc' a1 hT' w3 g3 o3 => ?_) (fun a1 => absurd rfl (a1 c hc))
    · have ec := nI_in4 hc hc' a1
      subst ec
      omega
    · exact lt_sample_no o3 (fu_s _ _ _) (by decide) (K _ _ _ _ _ (JI_same hC hM hP hN hs hk (fun v v1 v2 v3 => (g3 v v3).trans (exf hx v v1)) o3 (fun k k0 _ => fu_n _ _ (by omega)) (tmpI_f (tmpI_1 ht hx.1) (Nat.le_refl _) (fun v hv => g3 v (by rintro rfl; omega))) (by omega) (by omega) (wl_f ho (by rw [g3 gO (by decide), exf hx gO (by decide)]))))
  · obtain ⟨q9, hq9, hfd⟩ := fx_sample_12
    refine ⟨12, q9, [], 13, hx.2, hq9, hfd, t_La_sample_13 rfl rfl ?_⟩
    refine t_La_law_153 rfl (wi_f hs (exf hx 0 (by decide))) (hv 1 (by omega)) (hv 2 (by omega)) (moO_f hM.1.1 (exf hx 25 (by decide))) (Nat.le_of_ble_eq_true rfl) ?_
    rw [he1, he2]
    have hM2 := moR_f hM (fun v hv => exf hx v (by omega))
    refine c_msample hM2.1 hX (by omega) (fun c' hc' a1 => absurd a1 (e1 c' hc')) (fun c' hc' a1 => absurd a1 (e1 c' hc')) (fun _ w3 g3 o3 => ?_)
    exact lt_sample_no o3 (fu_s _ _ _) (by decide) (K _ _ _ _ _ (JI_same hC hM hP hN hs hk (fun v v1 v2 v3 => (g3 v v3).trans (exf hx v v1)) o3 (fun k k0 _ => fu_n _ _ (by omega)) (tmpI_f (tmpI_1 ht hx.1) (Nat.le_refl _) (fun v hv => g3 v (by rintro rfl; omega))) (by omega) (by omega) (wl_f ho (by rw [g3 gO (by decide), exf hx gO (by decide)]))))
theorem l_samples (hn : n ≤ 3072) (hi : i + 6 ≤ n) (hk : k < 512) (hJ : JI n xs k w nc ns) (K : ∀ w' nc' ns' p5 p6, JI n xs (k + 1) w' nc' ns' → Ev (d + 12) m_La_law 23 [some (.ref 0), some (.ref gQ), some (.ref 25), some (.ref gO), some (.int (nI i + 6)), p5, p6] [] w' nc' ns' Q) :
    Ev (d + 12) m_La_law 204 [some (.ref 0), some (.ref gQ), some (.ref 25), some (.ref gO), some (.int (nI i)), o5, o6] [] w nc ns Q := by
  obtain ⟨X, Y, R, L, T, np, pc, bad, rej, cla, sl, lw, s, l, hC, hM, hP, hN, ht, hs, f, ho⟩ := hJ
  have hsl : sl < 2 ^ 30 := hM.2.2.2.1.2.1
  have hnp := jP_np hC hP
  have hv : ∀ j, j ≤ 5 → vp_in (nI i + nI j) n := fun j hj => by rw [nI_add]; exact vp_in_nI (by omega) (by omega)
  refine t_La_law_204 hs (hv 1 (by omega)) (hv 2 (by omega)) (hv 3 (by omega)) (hv 4 (by omega)) (hv 5 (by omega)) (Nat.le_of_ble_eq_true rfl) ?_
  generalize he1 : xs (nI i + 1).toNatClampNeg = a1
  generalize he2 : xs (nI i + 2).toNatClampNeg = a2
  generalize he3 : xs (nI i + 3).toNatClampNeg = a3
  generalize he4 : xs (nI i + 4).toNatClampNeg = a4
  generalize he5 : xs (nI i + 5).toNatClampNeg = a5
  have hX := ciR_K hC hP.2.1
  refine t_La_samples_0 rfl hC.2.1 (Nat.le_of_ble_eq_true rfl) (c_Qsamples hC.1 hC.2.1 hC.2.2.1 ht hP.2.1 hP.1 (fun c m hc e1 e2 h1 h2 hT w1 g ho1 hch hmk => ?_) (fun c m hc e1 e2 h1 h2 hT w1 hx => ?_) (fun c hc e1 hno w1 hx => ?_) (fun e1 w1 hx => ?_))
  · subst e1
    subst e2
    have g9 : ∀ v, v % 16 = 9 ∨ v < 4 ∨ v = gO ∨ v % 16 = 11 → w1 v = w v := fun v hv => g v (by have : gO % 16 = 10 := rfl; rcases hv with h | h | h | h <;> (try subst h) <;> omega) (by rcases hv with h | h | h | h <;> rintro rfl <;> revert h <;> decide)
    refine lw_samples (wl_f ho (g9 gO (Or.inr (Or.inr (Or.inl rfl))))) (fun w2 f2 g2 ho2 hf2 => ?_)
    have g92 : ∀ v, v % 16 = 9 ∨ v < 4 ∨ v % 16 = 11 → w2 v = w v := fun v hv => (g2 v (by rintro rfl; rcases hv with h | h | h <;> revert h <;> decide)).trans (g9 v (hv.elim Or.inl (fun h => Or.inr (h.elim Or.inl (fun h => Or.inr (Or.inr h))))))
    refine t_La_law_239 rfl (wi_f hs (g92 0 (Or.inr (Or.inl (by decide))))) (hv 1 (by omega)) (hv 2 (by omega)) (hv 3 (by omega)) (hv 4 (by omega)) (hv 5 (by omega)) (moO_f hM.1.1 (g92 25 (Or.inl rfl))) (Nat.le_of_ble_eq_true rfl) ?_
    rw [he1, he2, he3, he4, he5]
    have hM2 := moR_f hM (fun v hv => g92 v (Or.inl hv))
    refine c_msamples hM2.1 hX (by omega) (fun c' m' hc' a1 a2 h1' h2' hT' w3 s3 g3 es z0 ms3 => ?_) (fun c' m' hc' a1 a2 h1' h2' hT' => ?_) (fun c' hc' a1 hno' => absurd rfl (hno' m h1 h2)) (fun a1 => absurd rfl (a1 c hc))
    · have ec := nI_in4 hc hc' a1
      subst ec
      have em := (nI_eq (by omega) (by omega)).mp a2
      subst em
      have g3p : ∀ v, v % 16 ≠ 9 → w3 v = w2 v := fun v hv => g3 v (frM_9 hv)
      obtain ⟨x1, x2, x3, x4⟩ := hX c' hc
      obtain ⟨t4, t5, t6, t7⟩ := many_K (pc := pc) (tu := a5) m (X c') np a3 a4 x1 x2 x4
      have hC3 := ciR_f (ciR_st hC hc g ho1 hch) (fun v v1 v2 v3 => (g3p v v1).trans (g2 v v3))
      have hM3 := moR_st hM2 g3 es ms3 t6
      exact lt_samples_ok ms3.1 z0 (wl_f ho2 (g3p gO (by decide))) hf2 (K _ _ _ _ _ ⟨_, Y, R, L, T, _, pc, bad, rej, cla, sl, lw, _, _, hC3, hM3, (jP_st hP hk hc t4 t6 t7 (by omega)), (jN_X hN hc hmk (Nat.le_refl _) (by omega) (by omega)), (tmpI_f ht (by omega) (fun v hv => (g3p v (by omega)).trans (g92 v (Or.inr (Or.inr hv))))), (wi_f hs ((g3p 0 (by decide)).trans (g92 0 (Or.inr (Or.inl (by decide)))))), _, (wl_f ho2 (g3p gO (by decide)))⟩)
    · have ec := nI_in4 hc hc' a1
      subst ec
      have em := (nI_eq (by omega) (by omega)).mp a2
      subst em
      exact absurd hT hT'
  · subst e1
    subst e2
    obtain ⟨q9, hq9, hfd⟩ := fx_samples_13
    refine ⟨13, q9, [], 27, hx.2, hq9, hfd, t_La_samples_27 rfl rfl ?_⟩
    refine t_La_law_239 rfl (wi_f hs (exf hx 0 (by decide))) (hv 1 (by omega)) (hv 2 (by omega)) (hv 3 (by omega)) (hv 4 (by omega)) (hv 5 (by omega)) (moO_f hM.1.1 (exf hx 25 (by decide))) (Nat.le_of_ble_eq_true rfl) ?_
    rw [he1, he2, he3, he4, he5]
    have hM2 := moR_f hM (fun v hv => exf hx v (by omega))
    refine c_msamples hM2.1 hX (by omega) (fun c' m' hc' a1 a2 h1' h2' hT' => ?_) (fun c' m' hc' a1 a2 h1' h2' hT' w3 g3 o3 => ?_) (fun c' hc' a1 hno' => absurd rfl (hno' m h1 h2)) (fun a1 => absurd rfl (a1 c hc))
    · have ec := nI_in4 hc hc' a1
      subst ec
      have em := (nI_eq (by omega) (by omega)).mp a2
      subst em
      exact absurd hT' hT
    · exact lt_samples_no o3 (fu_s _ _ _) (by decide) (K _ _ _ _ _ (JI_same hC hM hP hN hs hk (fun v v1 v2 v3 => (g3 v v3).trans (exf hx v v1)) o3 (fun k k0 _ => fu_n _ _ (by omega)) (tmpI_f (tmpI_1 ht hx.1) (Nat.le_refl _) (fun v hv => g3 v (by rintro rfl; omega))) (by omega) (by omega) (wl_f ho (by rw [g3 gO (by decide), exf hx gO (by decide)]))))
  · subst e1
    obtain ⟨q9, hq9, hfd⟩ := fx_samples_14
    refine ⟨14, q9, [], 23, hx.2, hq9, hfd, t_La_samples_23 rfl rfl ?_⟩
    refine t_La_law_239 rfl (wi_f hs (exf hx 0 (by decide))) (hv 1 (by omega)) (hv 2 (by omega)) (hv 3 (by omega)) (hv 4 (by omega)) (hv 5 (by omega)) (moO_f hM.1.1 (exf hx 25 (by decide))) (Nat.le_of_ble_eq_true rfl) ?_
    rw [he1, he2, he3, he4, he5]
    have hM2 := moR_f hM (fun v hv => exf hx v (by omega))
    refine c_msamples hM2.1 hX (by omega) (fun c' m' hc' a1 a2 h1' h2' => absurd a2 (hno m' h1' h2')) (fun c' m' hc' a1 a2 h1' h2' => absurd a2 (hno m' h1' h2')) (fun c' hc' a1 hno' w3 g3 o3 => ?_) (fun a1 => absurd rfl (a1 c hc))
    exact lt_samples_no o3 (fu_s _ _ _) (by decide) (K _ _ _ _ _ (JI_same hC hM hP hN hs hk (fun v v1 v2 v3 => (g3 v v3).trans (exf hx v v1)) o3 (fun k k0 _ => fu_n _ _ (by omega)) (tmpI_f (tmpI_1 ht hx.1) (Nat.le_refl _) (fun v hv => g3 v (by rintro rfl; omega))) (by omega) (by omega) (wl_f ho (by rw [g3 gO (by decide), exf hx gO (by decide)]))))
  · obtain ⟨q9, hq9, hfd⟩ := fx_samples_12
    refine ⟨12, q9, [], 19, hx.2, hq9, hfd, t_La_samples_19 rfl rfl ?_⟩
    refine t_La_law_239 rfl (wi_f hs (exf hx 0 (by decide))) (hv 1 (by omega)) (hv 2 (by omega)) (hv 3 (by omega)) (hv 4 (by omega)) (hv 5 (by omega)) (moO_f hM.1.1 (exf hx 25 (by decide))) (Nat.le_of_ble_eq_true rfl) ?_
    rw [he1, he2, he3, he4, he5]
    have hM2 := moR_f hM (fun v hv => exf hx v (by omega))
    refine c_msamples hM2.1 hX (by omega) (fun c' m' hc' a1 => absurd a1 (e1 c' hc')) (fun c' m' hc' a1 => absurd a1 (e1 c' hc')) (fun c' hc' a1 => absurd a1 (e1 c' hc')) (fun _ w3 g3 o3 => ?_)
    exact lt_samples_no o3 (fu_s _ _ _) (by decide) (K _ _ _ _ _ (JI_same hC hM hP hN hs hk (fun v v1 v2 v3 => (g3 v v3).trans (exf hx v v1)) o3 (fun k k0 _ => fu_n _ _ (by omega)) (tmpI_f (tmpI_1 ht hx.1) (Nat.le_refl _) (fun v hv => g3 v (by rintro rfl; omega))) (by omega) (by omega) (wl_f ho (by rw [g3 gO (by decide), exf hx gO (by decide)]))))
end La3
