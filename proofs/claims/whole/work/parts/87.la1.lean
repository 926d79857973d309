/-! ===== the law: the cases that only read; by gen_cases.py ===== -/
section La1
variable {d n i k nc ns : Nat} {xs : Nat → Int32} {w : qk_W} {Q : Option Value ⊕ Nat → qk_W → Nat → Nat → Prop} {o5 o6 : Option Value}
theorem l_length (hn : n ≤ 3072) (hi : i + 6 ≤ n) (hk : k < 512) (hJ : JI n xs k w nc ns) (K : ∀ w' nc' ns' p5 p6, JI n xs (k + 1) w' nc' ns' → Ev (d + 12) m_La_law 23 [some (.ref 0), some (.ref gQ), some (.ref 25), some (.ref gO), some (.int (nI i + 6)), p5, p6] [] w' nc' ns' Q) :
    Ev (d + 12) m_La_law 574 [some (.ref 0), some (.ref gQ), some (.ref 25), some (.ref gO), some (.int (nI i)), o5, o6] [] w nc ns Q := by
  obtain ⟨X, Y, R, L, T, np, pc, bad, rej, cla, sl, lw, s, l, hC, hM, hP, hN, ht, hs, f, ho⟩ := hJ
  have hsl : sl < 2 ^ 30 := hM.2.2.2.1.2.1
  have hnp := jP_np hC hP
  have hv : ∀ j, j ≤ 5 → vp_in (nI i + nI j) n := fun j hj => by rw [nI_add]; exact vp_in_nI (by omega) (by omega)
  refine t_La_law_574 hs (hv 1 (by omega)) (Nat.le_of_ble_eq_true rfl) ?_
  generalize he1 : xs (nI i + 1).toNatClampNeg = a1
  refine t_La_length_0 rfl hC.2.1 (Nat.le_of_ble_eq_true rfl) (c_Qlength hC.2.1 hC.2.2.2.2 hsl hM.2.2.2.1.2.2.2.2.2 ht (fun m e1 e2 e3 e4 => ?_) (fun e1 w1 hx => ?_))
  · subst e1
    refine lw_length ho (fun w2 f2 g2 ho2 hf2 => ?_)
    refine t_La_law_585 rfl (wi_f hs (g2 0 (by decide))) (hv 1 (by omega)) (moO_f hM.1.1 (g2 25 (by decide))) (Nat.le_of_ble_eq_true rfl) ?_
    rw [he1]
    have hM2 := moR_f hM (fun v hv => g2 v (by rintro rfl; have : gO % 16 = 10 := rfl; omega))
    refine c_mlength hM2.1.1 hM2.2.2.2.1 (fun m' a1 a2 a3 a4 w3 g3 o3 => ?_) (fun a1 => absurd (isSl_t (by omega) e2 e3 e4) (by rw [a1]; decide))
    rw [← (nI_eq (by omega) (by omega)).mp a1]
    exact lt_length_ok o3 (fu_s _ _ _) (wl_f ho2 (g3 gO (by decide))) hf2 (K _ _ _ _ _ (JI_same hC hM hP hN hs hk (fun v v1 v2 v3 => (g3 v v3).trans (g2 v v2)) o3 (fun k k0 _ => fu_n _ _ (by omega)) (tmpI_f ht (Nat.le_refl _) (fun v hv => (g3 v (by rintro rfl; omega)).trans (g2 v (by rintro rfl; have : gO % 16 = 10 := rfl; omega)))) (by omega) (by omega) (wl_f ho2 (g3 gO (by decide)))))
  · obtain ⟨q9, hq9, hfd⟩ := fx_length_12
    refine ⟨12, q9, [], 12, hx.2, hq9, hfd, t_La_length_12 rfl rfl ?_⟩
    refine t_La_law_585 rfl (wi_f hs (exf hx 0 (by decide))) (hv 1 (by omega)) (moO_f hM.1.1 (exf hx 25 (by decide))) (Nat.le_of_ble_eq_true rfl) ?_
    rw [he1]
    have hM2 := moR_f hM (fun v hv => exf hx v (by omega))
    refine c_mlength hM2.1.1 hM2.2.2.2.1 (fun m' a1 a2 a3 a4 => absurd (isSl_t (by omega) a2 a3 a4) (by rw [← a1, e1]; decide)) (fun _ w3 g3 o3 => ?_)
    exact lt_length_no o3 (fu_s _ _ _) (by decide) (K _ _ _ _ _ (JI_same hC hM hP hN hs hk (fun v v1 v2 v3 => (g3 v v3).trans (exf hx v v1)) o3 (fun k k0 _ => fu_n _ _ (by omega)) (tmpI_f (tmpI_1 ht hx.1) (Nat.le_refl _) (fun v hv => g3 v (by rintro rfl; omega))) (by omega) (by omega) (wl_f ho (by rw [g3 gO (by decide), exf hx gO (by decide)]))))
theorem l_air (hn : n ≤ 3072) (hi : i + 6 ≤ n) (hk : k < 512) (hJ : JI n xs k w nc ns) (K : ∀ w' nc' ns' p5 p6, JI n xs (k + 1) w' nc' ns' → Ev (d + 12) m_La_law 23 [some (.ref 0), some (.ref gQ), some (.ref 25), some (.ref gO), some (.int (nI i + 6)), p5, p6] [] w' nc' ns' Q) :
    Ev (d + 12) m_La_law 630 [some (.ref 0), some (.ref gQ), some (.ref 25), some (.ref gO), some (.int (nI i)), o5, o6] [] w nc ns Q := by
  obtain ⟨X, Y, R, L, T, np, pc, bad, rej, cla, sl, lw, s, l, hC, hM, hP, hN, ht, hs, f, ho⟩ := hJ
  have hsl : sl < 2 ^ 30 := hM.2.2.2.1.2.1
  have hnp := jP_np hC hP
  have hv : ∀ j, j ≤ 5 → vp_in (nI i + nI j) n := fun j hj => by rw [nI_add]; exact vp_in_nI (by omega) (by omega)
  refine t_La_law_630 hs (hv 1 (by omega)) (hv 2 (by omega)) (Nat.le_of_ble_eq_true rfl) ?_
  generalize he1 : xs (nI i + 1).toNatClampNeg = a1
  generalize he2 : xs (nI i + 2).toNatClampNeg = a2
  refine t_La_air_0 rfl hC.2.1 (Nat.le_of_ble_eq_true rfl) (c_Qair hC.2.1 hC.2.2.2.2 hsl hM.2.2.2.1.2.2.2.2.2 ht (fun m j e1 e2 e3 e4 e5 e6 _ => ?_) (fun m e1 e2 e3 e4 e5 w1 hx => ?_) (fun e1 w1 hx => ?_))
  · subst e1
    subst e5
    refine lw_air ho (fun w2 f2 g2 ho2 hf2 => ?_)
    refine t_La_law_647 rfl (wi_f hs (g2 0 (by decide))) (hv 1 (by omega)) (hv 2 (by omega)) (moO_f hM.1.1 (g2 25 (by decide))) (Nat.le_of_ble_eq_true rfl) ?_
    rw [he1, he2]
    have hM2 := moR_f hM (fun v hv => g2 v (by rintro rfl; have : gO % 16 = 10 := rfl; omega))
    have hL5 := hM.2.2.2.1.2.2.2.2.2 (m % 64) (Nat.mod_lt _ (by omega)) (Nat.lt_of_le_of_lt (Nat.mod_le _ _) e2)
    refine c_mair hM2.1.1 hM2.2.2.2.1 (fun m' j' a1 a2 a3 a4 a5 a6 w3 g3 o3 => ?_) (fun m' a1 a2 a3 a4 a5 => ?_) (fun a1 => absurd (isSl_t (by omega) e2 e3 e4) (by rw [a1]; decide))
    · have hm' := (nI_eq (by omega) (by omega)).mp a1
      subst hm'
      rw [← (nI_eq (by omega) (by omega)).mp a5]
      exact lt_air_ok o3 (fu_s _ _ _) (wl_f ho2 (g3 gO (by decide))) hf2 (K _ _ _ _ _ (JI_same hC hM hP hN hs hk (fun v v1 v2 v3 => (g3 v v3).trans (g2 v v2)) o3 (fun k k0 _ => fu_n _ _ (by omega)) (tmpI_f ht (Nat.le_refl _) (fun v hv => (g3 v (by rintro rfl; omega)).trans (g2 v (by rintro rfl; have : gO % 16 = 10 := rfl; omega)))) (by omega) (by omega) (wl_f ho2 (g3 gO (by decide)))))
    · have hm' := (nI_eq (by omega) (by omega)).mp a1
      subst hm'
      exact absurd rfl (a5 j e6)
  · subst e1
    obtain ⟨q9, hq9, hfd⟩ := fx_air_12
    refine ⟨12, q9, [], 13, hx.2, hq9, hfd, t_La_air_13 rfl rfl ?_⟩
    refine t_La_law_647 rfl (wi_f hs (exf hx 0 (by decide))) (hv 1 (by omega)) (hv 2 (by omega)) (moO_f hM.1.1 (exf hx 25 (by decide))) (Nat.le_of_ble_eq_true rfl) ?_
    rw [he1, he2]
    have hM2 := moR_f hM (fun v hv => exf hx v (by omega))
    refine c_mair hM2.1.1 hM2.2.2.2.1 (fun m' j' a1 a2 a3 a4 a5 a6 => ?_) (fun m' a1 a2 a3 a4 a5 w3 g3 o3 => ?_) (fun a1 => absurd (isSl_t (by omega) e2 e3 e4) (by rw [a1]; decide))
    · have hm' := (nI_eq (by omega) (by omega)).mp a1
      subst hm'
      exact absurd a5 (e5 j' a6)
    · exact lt_air_no o3 (fu_s _ _ _) (by decide) (K _ _ _ _ _ (JI_same hC hM hP hN hs hk (fun v v1 v2 v3 => (g3 v v3).trans (exf hx v v1)) o3 (fun k k0 _ => fu_n _ _ (by omega)) (tmpI_f (tmpI_1 ht hx.1) (Nat.le_refl _) (fun v hv => g3 v (by rintro rfl; omega))) (by omega) (by omega) (wl_f ho (by rw [g3 gO (by decide), exf hx gO (by decide)]))))
  · obtain ⟨q9, hq9, hfd⟩ := fx_air_12
    refine ⟨12, q9, [], 13, hx.2, hq9, hfd, t_La_air_13 rfl rfl ?_⟩
    refine t_La_law_647 rfl (wi_f hs (exf hx 0 (by decide))) (hv 1 (by omega)) (hv 2 (by omega)) (moO_f hM.1.1 (exf hx 25 (by decide))) (Nat.le_of_ble_eq_true rfl) ?_
    rw [he1, he2]
    have hM2 := moR_f hM (fun v hv => exf hx v (by omega))
    refine c_mair hM2.1.1 hM2.2.2.2.1 (fun m' j' a1 a2 a3 a4 a5 a6 => absurd (isSl_t (by omega) a2 a3 a4) (by rw [← a1, e1]; decide)) (fun m' a1 a2 a3 a4 a5 => absurd (isSl_t (by omega) a2 a3 a4) (by rw [← a1, e1]; decide)) (fun _ w3 g3 o3 => ?_)
    exact lt_air_no o3 (fu_s _ _ _) (by decide) (K _ _ _ _ _ (JI_same hC hM hP hN hs hk (fun v v1 v2 v3 => (g3 v v3).trans (exf hx v v1)) o3 (fun k k0 _ => fu_n _ _ (by omega)) (tmpI_f (tmpI_1 ht hx.1) (Nat.le_refl _) (fun v hv => g3 v (by rintro rfl; omega))) (by omega) (by omega) (wl_f ho (by rw [g3 gO (by decide), exf hx gO (by decide)]))))
theorem l_has (hn : n ≤ 3072) (hi : i + 6 ≤ n) (hk : k < 512) (hJ : JI n xs k w nc ns) (K : ∀ w' nc' ns' p5 p6, JI n xs (k + 1) w' nc' ns' → Ev (d + 12) m_La_law 23 [some (.ref 0), some (.ref gQ), some (.ref 25), some (.ref gO), some (.int (nI i + 6)), p5, p6] [] w' nc' ns' Q) :
    Ev (d + 12) m_La_law 794 [some (.ref 0), some (.ref gQ), some (.ref 25), some (.ref gO), some (.int (nI i)), o5, o6] [] w nc ns Q := by
  obtain ⟨X, Y, R, L, T, np, pc, bad, rej, cla, sl, lw, s, l, hC, hM, hP, hN, ht, hs, f, ho⟩ := hJ
  have hsl : sl < 2 ^ 30 := hM.2.2.2.1.2.1
  have hnp := jP_np hC hP
  have hv : ∀ j, j ≤ 5 → vp_in (nI i + nI j) n := fun j hj => by rw [nI_add]; exact vp_in_nI (by omega) (by omega)
  refine t_La_law_794 hs (hv 1 (by omega)) (hv 2 (by omega)) (Nat.le_of_ble_eq_true rfl) ?_
  generalize he1 : xs (nI i + 1).toNatClampNeg = a1
  generalize he2 : xs (nI i + 2).toNatClampNeg = a2
  refine t_La_has_0 rfl hC.2.1 (Nat.le_of_ble_eq_true rfl) (c_Qhas hC.2.1 hC.2.2.2.1 ht (fun c hc e1 => ?_) (fun e1 w1 hx => ?_))
  · subst e1
    refine lw_has ho (fun w2 f2 g2 ho2 hf2 => ?_)
    refine t_La_law_811 rfl (wi_f hs (g2 0 (by decide))) (hv 1 (by omega)) (hv 2 (by omega)) (moO_f hM.1.1 (g2 25 (by decide))) (Nat.le_of_ble_eq_true rfl) ?_
    rw [he1, he2]
    have hM2 := moR_f hM (fun v hv => g2 v (by rintro rfl; have : gO % 16 = 10 := rfl; omega))
    refine c_mhas hM2.1.1 hM2.2.2.2.2.1 (fun c' hc' a1 w3 g3 o3 => ?_) (fun a1 => absurd rfl (a1 c hc))
    rw [nI_in4 hc hc' a1]
    exact lt_has_ok o3 (fu_s _ _ _) (wl_f ho2 (g3 gO (by decide))) hf2 (K _ _ _ _ _ (JI_same hC hM hP hN hs hk (fun v v1 v2 v3 => (g3 v v3).trans (g2 v v2)) o3 (fun k k0 _ => fu_n _ _ (by omega)) (tmpI_f ht (Nat.le_refl _) (fun v hv => (g3 v (by rintro rfl; omega)).trans (g2 v (by rintro rfl; have : gO % 16 = 10 := rfl; omega)))) (by omega) (by omega) (wl_f ho2 (g3 gO (by decide)))))
  · obtain ⟨q9, hq9, hfd⟩ := fx_has_12
    refine ⟨12, q9, [], 20, hx.2, hq9, hfd, t_La_has_20 rfl rfl ?_⟩
    refine t_La_law_811 rfl (wi_f hs (exf hx 0 (by decide))) (hv 1 (by omega)) (hv 2 (by omega)) (moO_f hM.1.1 (exf hx 25 (by decide))) (Nat.le_of_ble_eq_true rfl) ?_
    rw [he1, he2]
    have hM2 := moR_f hM (fun v hv => exf hx v (by omega))
    refine c_mhas hM2.1.1 hM2.2.2.2.2.1 (fun c' hc' a1 => absurd a1 (e1 c' hc')) (fun _ w3 g3 o3 => ?_)
    exact lt_has_no o3 (fu_s _ _ _) (by decide) (K _ _ _ _ _ (JI_same hC hM hP hN hs hk (fun v v1 v2 v3 => (g3 v v3).trans (exf hx v v1)) o3 (fun k k0 _ => fu_n _ _ (by omega)) (tmpI_f (tmpI_1 ht hx.1) (Nat.le_refl _) (fun v hv => g3 v (by rintro rfl; omega))) (by omega) (by omega) (wl_f ho (by rw [g3 gO (by decide), exf hx gO (by decide)]))))
theorem l_at (hn : n ≤ 3072) (hi : i + 6 ≤ n) (hk : k < 512) (hJ : JI n xs k w nc ns) (K : ∀ w' nc' ns' p5 p6, JI n xs (k + 1) w' nc' ns' → Ev (d + 12) m_La_law 23 [some (.ref 0), some (.ref gQ), some (.ref 25), some (.ref gO), some (.int (nI i + 6)), p5, p6] [] w' nc' ns' Q) :
    Ev (d + 12) m_La_law 869 [some (.ref 0), some (.ref gQ), some (.ref 25), some (.ref gO), some (.int (nI i)), o5, o6] [] w nc ns Q := by
  obtain ⟨X, Y, R, L, T, np, pc, bad, rej, cla, sl, lw, s, l, hC, hM, hP, hN, ht, hs, f, ho⟩ := hJ
  have hsl : sl < 2 ^ 30 := hM.2.2.2.1.2.1
  have hnp := jP_np hC hP
  have hv : ∀ j, j ≤ 5 → vp_in (nI i + nI j) n := fun j hj => by rw [nI_add]; exact vp_in_nI (by omega) (by omega)
  refine t_La_law_869 hs (hv 1 (by omega)) (hv 2 (by omega)) (Nat.le_of_ble_eq_true rfl) ?_
  generalize he1 : xs (nI i + 1).toNatClampNeg = a1
  generalize he2 : xs (nI i + 2).toNatClampNeg = a2
  refine t_La_at_0 rfl hC.2.1 (Nat.le_of_ble_eq_true rfl) (c_Qat hC.2.1 hC.2.2.2.1 ht (fun c m hc e1 hm e2 hpos => ?_) (fun c hc e1 hsin => ?_) (fun e1 w1 hx => ?_))
  · subst e1
    subst e2
    refine lw_at ho (fun w2 f2 g2 ho2 hf2 => ?_)
    refine t_La_law_886 rfl (wi_f hs (g2 0 (by decide))) (hv 1 (by omega)) (hv 2 (by omega)) (moO_f hM.1.1 (g2 25 (by decide))) (Nat.le_of_ble_eq_true rfl) ?_
    rw [he1, he2]
    have hM2 := moR_f hM (fun v hv => g2 v (by rintro rfl; have : gO % 16 = 10 := rfl; omega))
    refine c_mat hM2.1.1 hM2.2.2.2.2.1 (fun c' m' hc' a1 hm' a2 hpos' w3 g3 o3 => ?_) (fun c' hc' a1 hsin' => ?_) (fun a1 => absurd rfl (a1 c hc))
    · have ec := nI_in4 hc hc' a1
      subst ec
      rw [← (nI_eq (by omega) (by omega)).mp a2]
      exact lt_at_ok o3 (fu_s _ _ _) (wl_f ho2 (g3 gO (by decide))) hf2 (K _ _ _ _ _ (JI_same hC hM hP hN hs hk (fun v v1 v2 v3 => (g3 v v3).trans (g2 v v2)) o3 (fun k k0 _ => fu_n _ _ (by omega)) (tmpI_f ht (Nat.le_refl _) (fun v hv => (g3 v (by rintro rfl; omega)).trans (g2 v (by rintro rfl; have : gO % 16 = 10 := rfl; omega)))) (by omega) (by omega) (wl_f ho2 (g3 gO (by decide)))))
    · have ec := nI_in4 hc hc' a1
      subst ec
      rw [sIn_at hm] at hsin'
      exact absurd hpos (of_decide_eq_false hsin')
  · subst e1
    refine lw_at ho (fun w2 f2 g2 ho2 hf2 => ?_)
    refine t_La_law_886 rfl (wi_f hs (g2 0 (by decide))) (hv 1 (by omega)) (hv 2 (by omega)) (moO_f hM.1.1 (g2 25 (by decide))) (Nat.le_of_ble_eq_true rfl) ?_
    rw [he1, he2]
    have hM2 := moR_f hM (fun v hv => g2 v (by rintro rfl; have : gO % 16 = 10 := rfl; omega))
    refine c_mat hM2.1.1 hM2.2.2.2.2.1 (fun c' m' hc' a1 hm' a2 hpos' => ?_) (fun c' hc' a1 hsin' w3 g3 o3 => ?_) (fun a1 => absurd rfl (a1 c hc))
    · have ec := nI_in4 hc hc' a1
      subst ec
      rw [a2, sIn_at hm'] at hsin
      exact absurd hpos' (of_decide_eq_false hsin)
    · exact lt_at_ok o3 (fu_s _ _ _) (wl_f ho2 (g3 gO (by decide))) hf2 (K _ _ _ _ _ (JI_same hC hM hP hN hs hk (fun v v1 v2 v3 => (g3 v v3).trans (g2 v v2)) o3 (fun k k0 _ => fu_n _ _ (by omega)) (tmpI_f ht (Nat.le_refl _) (fun v hv => (g3 v (by rintro rfl; omega)).trans (g2 v (by rintro rfl; have : gO % 16 = 10 := rfl; omega)))) (by omega) (by omega) (wl_f ho2 (g3 gO (by decide)))))
  · obtain ⟨q9, hq9, hfd⟩ := fx_at_12
    refine ⟨12, q9, [], 13, hx.2, hq9, hfd, t_La_at_13 rfl rfl ?_⟩
    refine t_La_law_886 rfl (wi_f hs (exf hx 0 (by decide))) (hv 1 (by omega)) (hv 2 (by omega)) (moO_f hM.1.1 (exf hx 25 (by decide))) (Nat.le_of_ble_eq_true rfl) ?_
    rw [he1, he2]
    have hM2 := moR_f hM (fun v hv => exf hx v (by omega))
    refine c_mat hM2.1.1 hM2.2.2.2.2.1 (fun c' m' hc' a1 => absurd a1 (e1 c' hc')) (fun c' hc' a1 => absurd a1 (e1 c' hc')) (fun _ w3 g3 o3 => ?_)
    exact lt_at_no o3 (fu_s _ _ _) (by decide) (K _ _ _ _ _ (JI_same hC hM hP hN hs hk (fun v v1 v2 v3 => (g3 v v3).trans (exf hx v v1)) o3 (fun k k0 _ => fu_n _ _ (by omega)) (tmpI_f (tmpI_1 ht hx.1) (Nat.le_refl _) (fun v hv => g3 v (by rintro rfl; omega))) (by omega) (by omega) (wl_f ho (by rw [g3 gO (by decide), exf hx gO (by decide)]))))
theorem l_qualityAt (hn : n ≤ 3072) (hi : i + 6 ≤ n) (hk : k < 512) (hJ : JI n xs k w nc ns) (K : ∀ w' nc' ns' p5 p6, JI n xs (k + 1) w' nc' ns' → Ev (d + 12) m_La_law 23 [some (.ref 0), some (.ref gQ), some (.ref 25), some (.ref gO), some (.int (nI i + 6)), p5, p6] [] w' nc' ns' Q) :
    Ev (d + 12) m_La_law 937 [some (.ref 0), some (.ref gQ), some (.ref 25), some (.ref gO), some (.int (nI i)), o5, o6] [] w nc ns Q := by
  obtain ⟨X, Y, R, L, T, np, pc, bad, rej, cla, sl, lw, s, l, hC, hM, hP, hN, ht, hs, f, ho⟩ := hJ
  have hsl : sl < 2 ^ 30 := hM.2.2.2.1.2.1
  have hnp := jP_np hC hP
  have hv : ∀ j, j ≤ 5 → vp_in (nI i + nI j) n := fun j hj => by rw [nI_add]; exact vp_in_nI (by omega) (by omega)
  refine t_La_law_937 hs (hv 1 (by omega)) (hv 2 (by omega)) (Nat.le_of_ble_eq_true rfl) ?_
  generalize he1 : xs (nI i + 1).toNatClampNeg = a1
  generalize he2 : xs (nI i + 2).toNatClampNeg = a2
  refine t_La_qualityAt_0 rfl hC.2.1 (Nat.le_of_ble_eq_true rfl) (c_QqualityAt hC.2.1 hC.2.2.2.1 ht (fun c m hc e1 hm e2 hpos => ?_) (fun c hc e1 hsin => ?_) (fun e1 w1 hx => ?_))
  · subst e1
    subst e2
    refine lw_qualityAt ho (fun w2 f2 g2 ho2 hf2 => ?_)
    refine t_La_law_954 rfl (wi_f hs (g2 0 (by decide))) (hv 1 (by omega)) (hv 2 (by omega)) (moO_f hM.1.1 (g2 25 (by decide))) (Nat.le_of_ble_eq_true rfl) ?_
    rw [he1, he2]
    have hM2 := moR_f hM (fun v hv => g2 v (by rintro rfl; have : gO % 16 = 10 := rfl; omega))
    refine c_mqualityAt hM2.1.1 hM2.2.2.2.2.1 (fun c' m' hc' a1 hm' a2 hpos' w3 g3 o3 => ?_) (fun c' hc' a1 hsin' => ?_) (fun a1 => absurd rfl (a1 c hc))
    · have ec := nI_in4 hc hc' a1
      subst ec
      rw [← (nI_eq (by omega) (by omega)).mp a2]
      exact lt_qualityAt_ok o3 (fu_s _ _ _) (wl_f ho2 (g3 gO (by decide))) hf2 (K _ _ _ _ _ (JI_same hC hM hP hN hs hk (fun v v1 v2 v3 => (g3 v v3).trans (g2 v v2)) o3 (fun k k0 _ => fu_n _ _ (by omega)) (tmpI_f ht (Nat.le_refl _) (fun v hv => (g3 v (by rintro rfl; omega)).trans (g2 v (by rintro rfl; have : gO % 16 = 10 := rfl; omega)))) (by omega) (by omega) (wl_f ho2 (g3 gO (by decide)))))
    · have ec := nI_in4 hc hc' a1
      subst ec
      rw [sIn_at hm] at hsin'
      exact absurd hpos (of_decide_eq_false hsin')
  · subst e1
    refine lw_qualityAt ho (fun w2 f2 g2 ho2 hf2 => ?_)
    refine t_La_law_954 rfl (wi_f hs (g2 0 (by decide))) (hv 1 (by omega)) (hv 2 (by omega)) (moO_f hM.1.1 (g2 25 (by decide))) (Nat.le_of_ble_eq_true rfl) ?_
    rw [he1, he2]
    have hM2 := moR_f hM (fun v hv => g2 v (by rintro rfl; have : gO % 16 = 10 := rfl; omega))
    refine c_mqualityAt hM2.1.1 hM2.2.2.2.2.1 (fun c' m' hc' a1 hm' a2 hpos' => ?_) (fun c' hc' a1 hsin' w3 g3 o3 => ?_) (fun a1 => absurd rfl (a1 c hc))
    · have ec := nI_in4 hc hc' a1
      subst ec
      rw [a2, sIn_at hm'] at hsin
      exact absurd hpos' (of_decide_eq_false hsin)
    · exact lt_qualityAt_ok o3 (fu_s _ _ _) (wl_f ho2 (g3 gO (by decide))) hf2 (K _ _ _ _ _ (JI_same hC hM hP hN hs hk (fun v v1 v2 v3 => (g3 v v3).trans (g2 v v2)) o3 (fun k k0 _ => fu_n _ _ (by omega)) (tmpI_f ht (Nat.le_refl _) (fun v hv => (g3 v (by rintro rfl; omega)).trans (g2 v (by rintro rfl; have : gO % 16 = 10 := rfl; omega)))) (by omega) (by omega) (wl_f ho2 (g3 gO (by decide)))))
  · obtain ⟨q9, hq9, hfd⟩ := fx_qualityAt_12
    refine ⟨12, q9, [], 13, hx.2, hq9, hfd, t_La_qualityAt_13 rfl rfl ?_⟩
    refine t_La_law_954 rfl (wi_f hs (exf hx 0 (by decide))) (hv 1 (by omega)) (hv 2 (by omega)) (moO_f hM.1.1 (exf hx 25 (by decide))) (Nat.le_of_ble_eq_true rfl) ?_
    rw [he1, he2]
    have hM2 := moR_f hM (fun v hv => exf hx v (by omega))
    refine c_mqualityAt hM2.1.1 hM2.2.2.2.2.1 (fun c' m' hc' a1 => absurd a1 (e1 c' hc')) (fun c' hc' a1 => absurd a1 (e1 c' hc')) (fun _ w3 g3 o3 => ?_)
    exact lt_qualityAt_no o3 (fu_s _ _ _) (by decide) (K _ _ _ _ _ (JI_same hC hM hP hN hs hk (fun v v1 v2 v3 => (g3 v v3).trans (exf hx v v1)) o3 (fun k k0 _ => fu_n _ _ (by omega)) (tmpI_f (tmpI_1 ht hx.1) (Nat.le_refl _) (fun v hv => g3 v (by rintro rfl; omega))) (by omega) (by omega) (wl_f ho (by rw [g3 gO (by decide), exf hx gO (by decide)]))))
theorem l_gaps (hn : n ≤ 3072) (hi : i + 6 ≤ n) (hk : k < 512) (hJ : JI n xs k w nc ns) (K : ∀ w' nc' ns' p5 p6, JI n xs (k + 1) w' nc' ns' → Ev (d + 12) m_La_law 23 [some (.ref 0), some (.ref gQ), some (.ref 25), some (.ref gO), some (.int (nI i + 6)), p5, p6] [] w' nc' ns' Q) :
    Ev (d + 12) m_La_law 1005 [some (.ref 0), some (.ref gQ), some (.ref 25), some (.ref gO), some (.int (nI i)), o5, o6] [] w nc ns Q := by
  obtain ⟨X, Y, R, L, T, np, pc, bad, rej, cla, sl, lw, s, l, hC, hM, hP, hN, ht, hs, f, ho⟩ := hJ
  have hsl : sl < 2 ^ 30 := hM.2.2.2.1.2.1
  have hnp := jP_np hC hP
  have hv : ∀ j, j ≤ 5 → vp_in (nI i + nI j) n := fun j hj => by rw [nI_add]; exact vp_in_nI (by omega) (by omega)
  refine t_La_law_1005 hs (hv 1 (by omega)) (Nat.le_of_ble_eq_true rfl) ?_
  generalize he1 : xs (nI i + 1).toNatClampNeg = a1
  refine t_La_gaps_0 rfl hC.2.1 (Nat.le_of_ble_eq_true rfl) (c_Qgaps hC.2.1 hC.2.2.2.1 ht (fun c m hc e1 h1 h2 => ?_) (fun e1 w1 hx => ?_))
  · subst e1
    refine lw_gaps ho (fun w2 f2 g2 ho2 hf2 => ?_)
    refine t_La_law_1016 rfl (wi_f hs (g2 0 (by decide))) (hv 1 (by omega)) (moO_f hM.1.1 (g2 25 (by decide))) (Nat.le_of_ble_eq_true rfl) ?_
    rw [he1]
    have hM2 := moR_f hM (fun v hv => g2 v (by rintro rfl; have : gO % 16 = 10 := rfl; omega))
    refine c_mgaps hM2.1.1 hM2.2.2.2.2.1 (fun c' m' hc' a1 b1 b2 w3 s3 g3 o3 z0 zs => ?_) (fun a1 => absurd rfl (a1 c hc))
    have ec := nI_in4 hc hc' a1
    subst ec
    rw [← gst_uniq h1 h2 b1 b2]
    exact lt_gaps_ok o3 z0 (wl_f ho2 (g3 gO (by decide))) hf2 (K _ _ _ _ _ (JI_same hC hM hP hN hs hk (fun v v1 v2 v3 => (g3 v v3).trans (g2 v v2)) o3 zs (tmpI_f ht (Nat.le_refl _) (fun v hv => (g3 v (by rintro rfl; omega)).trans (g2 v (by rintro rfl; have : gO % 16 = 10 := rfl; omega)))) (by omega) (by omega) (wl_f ho2 (g3 gO (by decide)))))
  · obtain ⟨q9, hq9, hfd⟩ := fx_gaps_12
    refine ⟨12, q9, [], 12, hx.2, hq9, hfd, t_La_gaps_12 rfl rfl ?_⟩
    refine t_La_law_1016 rfl (wi_f hs (exf hx 0 (by decide))) (hv 1 (by omega)) (moO_f hM.1.1 (exf hx 25 (by decide))) (Nat.le_of_ble_eq_true rfl) ?_
    rw [he1]
    have hM2 := moR_f hM (fun v hv => exf hx v (by omega))
    refine c_mgaps hM2.1.1 hM2.2.2.2.2.1 (fun c' m' hc' a1 => absurd a1 (e1 c' hc')) (fun _ w3 g3 o3 => ?_)
    exact lt_gaps_no o3 (fu_s _ _ _) (by decide) (K _ _ _ _ _ (JI_same hC hM hP hN hs hk (fun v v1 v2 v3 => (g3 v v3).trans (exf hx v v1)) o3 (fun k k0 _ => fu_n _ _ (by omega)) (tmpI_f (tmpI_1 ht hx.1) (Nat.le_refl _) (fun v hv => g3 v (by rintro rfl; omega))) (by omega) (by omega) (wl_f ho (by rw [g3 gO (by decide), exf hx gO (by decide)]))))
theorem l_count (hn : n ≤ 3072) (hi : i + 6 ≤ n) (hk : k < 512) (hJ : JI n xs k w nc ns) (K : ∀ w' nc' ns' p5 p6, JI n xs (k + 1) w' nc' ns' → Ev (d + 12) m_La_law 23 [some (.ref 0), some (.ref gQ), some (.ref 25), some (.ref gO), some (.int (nI i + 6)), p5, p6] [] w' nc' ns' Q) :
    Ev (d + 12) m_La_law 1157 [some (.ref 0), some (.ref gQ), some (.ref 25), some (.ref gO), some (.int (nI i)), o5, o6] [] w nc ns Q := by
  obtain ⟨X, Y, R, L, T, np, pc, bad, rej, cla, sl, lw, s, l, hC, hM, hP, hN, ht, hs, f, ho⟩ := hJ
  have hsl : sl < 2 ^ 30 := hM.2.2.2.1.2.1
  have hnp := jP_np hC hP
  have hv : ∀ j, j ≤ 5 → vp_in (nI i + nI j) n := fun j hj => by rw [nI_add]; exact vp_in_nI (by omega) (by omega)
  refine t_La_law_1157 hs (hv 1 (by omega)) (hv 2 (by omega)) (Nat.le_of_ble_eq_true rfl) ?_
  generalize he1 : xs (nI i + 1).toNatClampNeg = a1
  generalize he2 : xs (nI i + 2).toNatClampNeg = a2
  refine t_La_count_0 rfl hC.2.1 (Nat.le_of_ble_eq_true rfl) (c_Qcount hC.2.1 hC.2.2.1 hC.2.2.2.1 ht (fun c j hc e1 hj e2 => ?_) (fun c hc e1 hj w1 hx => ?_) (fun e1 w1 hx => ?_))
  · subst e1
    subst e2
    refine lw_count ho (fun w2 f2 g2 ho2 hf2 => ?_)
    refine t_La_law_1174 rfl (wi_f hs (g2 0 (by decide))) (hv 1 (by omega)) (hv 2 (by omega)) (moO_f hM.1.1 (g2 25 (by decide))) (Nat.le_of_ble_eq_true rfl) ?_
    rw [he1, he2]
    have hM2 := moR_f hM (fun v hv => g2 v (by rintro rfl; have : gO % 16 = 10 := rfl; omega))
    refine c_mcount hM2.1 (ciR_J hC) hM2.2.1 hM2.2.2.2.2.1 hM2.2.2.2.2.2.1 (by omega) (fun c' j' hc' a1 hj' a2 w3 g3 o3 => ?_) (fun c' hc' a1 b1 => absurd rfl (b1 j hj)) (fun a1 => absurd rfl (a1 c hc))
    have ec := nI_in4 hc hc' a1
    subst ec
    rw [← (nI_eq (by omega) (by omega)).mp a2]
    exact lt_count_ok o3 (fu_s _ _ _) (wl_f ho2 (g3 gO (by decide))) hf2 (K _ _ _ _ _ (JI_same hC hM hP hN hs hk (fun v v1 v2 v3 => (g3 v v3).trans (g2 v v2)) o3 (fun k k0 _ => fu_n _ _ (by omega)) (tmpI_f ht (Nat.le_refl _) (fun v hv => (g3 v (by rintro rfl; omega)).trans (g2 v (by rintro rfl; have : gO % 16 = 10 := rfl; omega)))) (by omega) (by omega) (wl_f ho2 (g3 gO (by decide)))))
  · subst e1
    obtain ⟨q9, hq9, hfd⟩ := fx_count_14
    refine ⟨14, q9, [], 17, hx.2, hq9, hfd, t_La_count_17 rfl rfl ?_⟩
    refine t_La_law_1174 rfl (wi_f hs (exf hx 0 (by decide))) (hv 1 (by omega)) (hv 2 (by omega)) (moO_f hM.1.1 (exf hx 25 (by decide))) (Nat.le_of_ble_eq_true rfl) ?_
    rw [he1, he2]
    have hM2 := moR_f hM (fun v hv => exf hx v (by omega))
    refine c_mcount hM2.1 (ciR_J hC) hM2.2.1 hM2.2.2.2.2.1 hM2.2.2.2.2.2.1 (by omega) (fun c' j' hc' a1 hj' a2 => absurd a2 (hj j' hj')) (fun c' hc' a1 b1 w3 g3 o3 => ?_) (fun a1 => absurd rfl (a1 c hc))
    exact lt_count_no o3 (fu_s _ _ _) (by decide) (K _ _ _ _ _ (JI_same hC hM hP hN hs hk (fun v v1 v2 v3 => (g3 v v3).trans (exf hx v v1)) o3 (fun k k0 _ => fu_n _ _ (by omega)) (tmpI_f (tmpI_1 ht hx.1) (Nat.le_refl _) (fun v hv => g3 v (by rintro rfl; omega))) (by omega) (by omega) (wl_f ho (by rw [g3 gO (by decide), exf hx gO (by decide)]))))
  · obtain ⟨q9, hq9, hfd⟩ := fx_count_12
    refine ⟨12, q9, [], 13, hx.2, hq9, hfd, t_La_count_13 rfl rfl ?_⟩
    refine t_La_law_1174 rfl (wi_f hs (exf hx 0 (by decide))) (hv 1 (by omega)) (hv 2 (by omega)) (moO_f hM.1.1 (exf hx 25 (by decide))) (Nat.le_of_ble_eq_true rfl) ?_
    rw [he1, he2]
    have hM2 := moR_f hM (fun v hv => exf hx v (by omega))
    refine c_mcount hM2.1 (ciR_J hC) hM2.2.1 hM2.2.2.2.2.1 hM2.2.2.2.2.2.1 (by omega) (fun c' j' hc' a1 => absurd a1 (e1 c' hc')) (fun c' hc' a1 => absurd a1 (e1 c' hc')) (fun _ w3 g3 o3 => ?_)
    exact lt_count_no o3 (fu_s _ _ _) (by decide) (K _ _ _ _ _ (JI_same hC hM hP hN hs hk (fun v v1 v2 v3 => (g3 v v3).trans (exf hx v v1)) o3 (fun k k0 _ => fu_n _ _ (by omega)) (tmpI_f (tmpI_1 ht hx.1) (Nat.le_refl _) (fun v hv => g3 v (by rintro rfl; omega))) (by omega) (by omega) (wl_f ho (by rw [g3 gO (by decide), exf hx gO (by decide)]))))
theorem l_total (hn : n ≤ 3072) (hi : i + 6 ≤ n) (hk : k < 512) (hJ : JI n xs k w nc ns) (K : ∀ w' nc' ns' p5 p6, JI n xs (k + 1) w' nc' ns' → Ev (d + 12) m_La_law 23 [some (.ref 0), some (.ref gQ), some (.ref 25), some (.ref gO), some (.int (nI i + 6)), p5, p6] [] w' nc' ns' Q) :
    Ev (d + 12) m_La_law 1225 [some (.ref 0), some (.ref gQ), some (.ref 25), some (.ref gO), some (.int (nI i)), o5, o6] [] w nc ns Q := by
  obtain ⟨X, Y, R, L, T, np, pc, bad, rej, cla, sl, lw, s, l, hC, hM, hP, hN, ht, hs, f, ho⟩ := hJ
  have hsl : sl < 2 ^ 30 := hM.2.2.2.1.2.1
  have hnp := jP_np hC hP
  have hv : ∀ j, j ≤ 5 → vp_in (nI i + nI j) n := fun j hj => by rw [nI_add]; exact vp_in_nI (by omega) (by omega)
  refine t_La_law_1225 hs (hv 1 (by omega)) (Nat.le_of_ble_eq_true rfl) ?_
  generalize he1 : xs (nI i + 1).toNatClampNeg = a1
  refine t_La_total_0 rfl hC.2.1 (Nat.le_of_ble_eq_true rfl) (c_Qtotal hC.2.1 hC.2.2.1 hC.2.2.2.2 hC.2.2.2.1 ht (fun j hj e2 => ?_) (fun hj w1 hx => ?_))
  · subst e2
    refine lw_total ho (fun w2 f2 g2 ho2 hf2 => ?_)
    refine t_La_law_1236 rfl (wi_f hs (g2 0 (by decide))) (hv 1 (by omega)) (moO_f hM.1.1 (g2 25 (by decide))) (Nat.le_of_ble_eq_true rfl) ?_
    rw [he1]
    have hM2 := moR_f hM (fun v hv => g2 v (by rintro rfl; have : gO % 16 = 10 := rfl; omega))
    refine c_mtotal hM2.1 hM2.2.2.2.1.1 hM2.2.2.2.2.2.2.1 hM2.2.2.2.2.2.2.2.1 hM2.2.2.2.2.2.2.2.2.1 (by omega) (fun j' hj' a2 w3 g3 o3 => ?_) (fun b1 => absurd rfl (b1 j hj))
    rw [← (nI_eq (by omega) (by omega)).mp a2]
    exact lt_total_ok o3 (fu_s _ _ _) (wl_f ho2 (g3 gO (by decide))) hf2 (K _ _ _ _ _ (JI_same hC hM hP hN hs hk (fun v v1 v2 v3 => (g3 v v3).trans (g2 v v2)) o3 (fun k k0 _ => fu_n _ _ (by omega)) (tmpI_f ht (Nat.le_refl _) (fun v hv => (g3 v (by rintro rfl; omega)).trans (g2 v (by rintro rfl; have : gO % 16 = 10 := rfl; omega)))) (by omega) (by omega) (wl_f ho2 (g3 gO (by decide)))))
  · obtain ⟨q9, hq9, hfd⟩ := fx_total_14
    refine ⟨14, q9, [], 12, hx.2, hq9, hfd, t_La_total_12 rfl rfl ?_⟩
    refine t_La_law_1236 rfl (wi_f hs (exf hx 0 (by decide))) (hv 1 (by omega)) (moO_f hM.1.1 (exf hx 25 (by decide))) (Nat.le_of_ble_eq_true rfl) ?_
    rw [he1]
    have hM2 := moR_f hM (fun v hv => exf hx v (by omega))
    refine c_mtotal hM2.1 hM2.2.2.2.1.1 hM2.2.2.2.2.2.2.1 hM2.2.2.2.2.2.2.2.1 hM2.2.2.2.2.2.2.2.2.1 (by omega) (fun j' hj' a2 => absurd a2 (hj j' hj')) (fun b1 w3 g3 o3 => ?_)
    exact lt_total_no o3 (fu_s _ _ _) (by decide) (K _ _ _ _ _ (JI_same hC hM hP hN hs hk (fun v v1 v2 v3 => (g3 v v3).trans (exf hx v v1)) o3 (fun k k0 _ => fu_n _ _ (by omega)) (tmpI_f (tmpI_1 ht hx.1) (Nat.le_refl _) (fun v hv => g3 v (by rintro rfl; omega))) (by omega) (by omega) (wl_f ho (by rw [g3 gO (by decide), exf hx gO (by decide)]))))
end La1
