/-! ===== the law: hear and deliver; by gen_cases3.py ===== -/
section La5p
variable {w w' : qk_W} {s s' : Nat → Int32} {l l' : Nat → Int64} {X : Nat → Chs} {Y : Nat → Trs} {R : Nat → Nat → Nat} {L : Nat → Nat} {T : Nat → Bool} {np pc bad rej cla sl : Nat} {lw : Bool}
theorem moR_ak {c : Nat} {A : Nat → Bool} (h : moR w s l X Y R L T np pc bad rej cla sl lw) (o : moO w' s' l') (g : ∀ v, v ≠ 25 → v ≠ mA 12 → w' v = w v) (es : ∀ k, 0 < k → k < 24 → s' k = s k) (ak : akR w' (fu X c (setA (X c) A))) : moR w' s' l' (fu X c (setA (X c) A)) Y R L T np pc bad rej cla sl lw := by
  obtain ⟨h1, h2, h3, h4, h5, h6, h7, h8, h9, f, hf⟩ := h
  have eA : ∀ k, 0 < k → k ≠ 12 → w' (mA k) = w (mA k) := fun k a b => g _ (mA_25 a) (mA_ne b)
  have m1 : msR w' s' l' X np pc := msR_f h1 o (es 11 (by omega) (by omega)) (es 5 (by omega) (by omega)) (fun k a b _ => eA k (by omega) (by omega))
  refine ⟨msR_same m1 rfl rfl rfl rfl (plR_same m1.2.2.2.2.2 rfl rfl rfl rfl rfl), ak, ?_, maR_f h4 (es 17 (by omega) (by omega)) (eA _ (by omega) (by omega)) (eA _ (by omega) (by omega)) (eA _ (by omega) (by omega)), hvR_f h5 (eA _ (by omega) (by omega)) (eA _ (by omega) (by omega)), ohR_f h6 (eA _ (by omega) (by omega)), ?_, ?_, ?_, f, wi_f hf (eA _ (by omega) (by omega))⟩
  · rw [es 13 (by omega) (by omega)]; exact h3
  · rw [es 21 (by omega) (by omega)]; exact h7
  · rw [es 22 (by omega) (by omega)]; exact h8
  · rw [es 23 (by omega) (by omega)]; exact h9
theorem moR_bad (h : moR w s l X Y R L T np pc bad rej cla sl lw) (o : moO w' s' l') (g : ∀ v, v ≠ 25 → w' v = w v) (es : ∀ k, 0 < k → k < 23 → s' k = s k) (e23 : s' 23 = s 23 + 1) : moR w' s' l' X Y R L T np pc (bad + 1) rej cla sl lw := by
  obtain ⟨h1, h2, h3, h4, h5, h6, h7, h8, h9, f, hf⟩ := h
  have eA : ∀ k, 0 < k → w' (mA k) = w (mA k) := fun k a => g _ (mA_25 a)
  refine ⟨msR_f h1 o (es 11 (by omega) (by omega)) (es 5 (by omega) (by omega)) (fun k a b _ => eA k (by omega)), akR_f h2 (eA _ (by omega)), ?_, maR_f h4 (es 17 (by omega) (by omega)) (eA _ (by omega)) (eA _ (by omega)) (eA _ (by omega)), hvR_f h5 (eA _ (by omega)) (eA _ (by omega)), ohR_f h6 (eA _ (by omega)), ?_, ?_, ?_, f, wi_f hf (eA _ (by omega))⟩
  · rw [es 13 (by omega) (by omega)]; exact h3
  · rw [es 21 (by omega) (by omega)]; exact h7
  · rw [es 22 (by omega) (by omega)]; exact h8
  · rw [e23, h9, nI_1]
/-- the centre's part of the reference changed -/
theorem moR_ce {Y' : Nat → Trs} {rej' cla' : Nat} {f' : Nat → Int32} (h : moR w s l X Y R L T np pc bad rej cla sl lw) (o : moO w' s' l') (g : ∀ v, v ≠ 25 → v ≠ mA 18 → v ≠ mA 19 → v ≠ mA 20 → v ≠ mA 31 → w' v = w v) (es : ∀ k, 0 < k → k < 24 → k ≠ 21 → k ≠ 22 → s' k = s k) (e21 : s' 21 = nI rej') (e22 : s' 22 = nI cla') (hv : hvR w' Y') (hoh : ohR w' Y') (hf' : wi w' (mA 31) 32768 f') : moR w' s' l' X Y' R L T np pc bad rej' cla' sl lw := by
  obtain ⟨h1, h2, h3, h4, h5, h6, h7, h8, h9, f, hf⟩ := h
  have eA : ∀ k, 0 < k → k < 18 → w' (mA k) = w (mA k) := fun k a b => g _ (mA_25 a) (mA_ne (by omega)) (mA_ne (by omega)) (mA_ne (by omega)) (mA_ne (by omega))
  refine ⟨msR_f h1 o (es 11 (by omega) (by omega) (by omega) (by omega)) (es 5 (by omega) (by omega) (by omega) (by omega)) (fun k a b _ => eA k (by omega) (by omega)), akR_f h2 (eA _ (by omega) (by omega)), ?_, maR_f h4 (es 17 (by omega) (by omega) (by omega) (by omega)) (eA _ (by omega) (by omega)) (eA _ (by omega) (by omega)) (eA _ (by omega) (by omega)), hv, hoh, e21, e22, ?_, f', hf'⟩
  · rw [es 13 (by omega) (by omega) (by omega) (by omega)]; exact h3
  · rw [es 23 (by omega) (by omega) (by omega) (by omega)]; exact h9
theorem jN_3 {k nc ns nc' ns' : Nat} (h : jN k X Y sl nc ns) (h1 : nc' ≤ nc + 3) (h2 : ns' ≤ ns + 27) : jN (k + 1) X Y sl nc' ns' := by
  obtain ⟨a, b⟩ := h
  exact ⟨by omega, by omega⟩
theorem ciR_stO (h : ciR w X Y R L T np pc bad rej cla sl lw) : stO w pc bad np lw := h.2.2.1.1
theorem ciR_ceO (h : ciR w X Y R L T np pc bad rej cla sl lw) : ceO w rej cla := h.2.2.2.1.1
end La5p
section La5
variable {d n i k nc ns : Nat} {xs : Nat → Int32} {w : qk_W} {Q : Option Value ⊕ Nat → qk_W → Nat → Nat → Prop} {o5 o6 : Option Value}
theorem l_hear (hn : n ≤ 3072) (hi : i + 6 ≤ n) (hk : k < 512) (hJ : JI n xs k w nc ns) (K : ∀ w' nc' ns' p5 p6, JI n xs (k + 1) w' nc' ns' → Ev (d + 12) m_La_law 23 [some (.ref 0), some (.ref gQ), some (.ref 25), some (.ref gO), some (.int (nI i + 6)), p5, p6] [] w' nc' ns' Q) :
    Ev (d + 12) m_La_law 482 [some (.ref 0), some (.ref gQ), some (.ref 25), some (.ref gO), some (.int (nI i)), o5, o6] [] w nc ns Q := by
  obtain ⟨X, Y, R, L, T, np, pc, bad, rej, cla, sl, lw, s, l, hC, hM, hP, hN, ht, hs, f, ho⟩ := hJ
  have hsl : sl < 2 ^ 30 := hM.2.2.2.1.2.1
  have hnp := jP_np hC hP
  have hv : ∀ j, j ≤ 5 → vp_in (nI i + nI j) n := fun j hj => by rw [nI_add]; exact vp_in_nI (by omega) (by omega)
  refine t_La_law_482 hs (hv 1 (by omega)) (Nat.le_of_ble_eq_true rfl) ?_
  generalize he1 : xs (nI i + 1).toNatClampNeg = a1
  have hX := ciR_K hC hP.2.1
  refine t_La_hear_0 rfl hC.2.1 (Nat.le_of_ble_eq_true rfl) (c_Qhear hC.1 hC.2.1 hC.2.2.1 hC.2.2.2.2 hsl hM.2.2.2.1.2.2.2.2.2 ht (fun m r e1 e2 e3 e4 hr hlt hrq w1 g hch => ?_) (fun m r e1 e2 e3 e4 hr hlt hrq w1 g ho1 => ?_) (fun e1 w1 hx => ?_))
  · subst e1
    have h16 := hrq.1
    have hrq2 := rqB_row hr hrq
    rw [getN_row hr (show 0 + 8 ≤ 8 * L (m % 64) by omega), getN_row hr (show 32 + 32 ≤ 8 * L (m % 64) by omega), getN_row hr (show 64 + 32 ≤ 8 * L (m % 64) by omega)] at hch ⊢
    have g : ∀ v, v % 16 ≠ 12 + getN (R (m % 64)) 0 8 → w1 v = w v := fun v hv => g v (by rw [getN_row hr (show 0 + 8 ≤ 8 * L (m % 64) by omega)]; exact hv)
    have hc : getN (R (m % 64)) 0 8 < 4 := hrq2.2.2.1
    generalize hcc : getN (R (m % 64)) 0 8 = c at *
    generalize hff : getN (R (m % 64)) 32 32 = fm at *
    generalize htt : getN (R (m % 64)) 64 32 = to at *
    have g9 : ∀ v, v % 16 = 9 ∨ v < 4 ∨ v = gO ∨ v % 16 = 11 → w1 v = w v := fun v hv => g v (by have : gO % 16 = 10 := rfl; rcases hv with h | h | h | h <;> (try subst h) <;> omega)
    refine lw_hear (wl_f ho (g9 gO (Or.inr (Or.inr (Or.inl rfl))))) (fun w2 f2 g2 ho2 hf2 => ?_)
    have g92 : ∀ v, v % 16 = 9 ∨ v < 4 ∨ v % 16 = 11 → w2 v = w v := fun v hv => (g2 v (by rintro rfl; rcases hv with h | h | h <;> revert h <;> decide)).trans (g9 v (hv.elim Or.inl (fun h => Or.inr (h.elim Or.inl (fun h => Or.inr (Or.inr h))))))
    refine t_La_law_493 rfl (wi_f hs (g92 0 (Or.inr (Or.inl (by decide))))) (hv 1 (by omega)) (moO_f hM.1.1 (g92 25 (Or.inl rfl))) (Nat.le_of_ble_eq_true rfl) ?_
    rw [he1]
    have hM2 := moR_f hM (fun v hv => g92 v (Or.inl hv))
    refine c_mhear hM2.1 hX hM2.2.1 hM2.2.2.2.1 (fun m' a1 a2 a3 a4 hrq' w3 s3 l3 g3 o3 es z0 ak3 => ?_) (fun m' a1 a2 a3 a4 hrq' => ?_) (fun a1 => absurd (isSl_t (by omega) e2 e3 e4) (by rw [a1]; decide))
    · have hm' := (nI_eq (by omega) (by omega)).mp a1
      subst hm'
      rw [hcc, hff, htt] at ak3 ⊢
      have g3p : ∀ v, v % 16 ≠ 9 → w3 v = w2 v := fun v hv => g3 v (by rintro rfl; exact hv rfl) (by rintro rfl; exact hv (mA_9 _))
      have hC1 := ciR_st hC hc (fun v v1 _ => g v v1) (wo_f (ciR_stO hC) (g gS (by have : gS % 16 = 10 := rfl; omega))) hch
      have hC3 := ciR_f hC1 (fun v v1 v2 v3 => (g3p v v1).trans (g2 v v3))
      have hM3 := moR_ak hM2 o3 g3 es ak3
      refine lt_hear_ok o3 z0 (wl_f ho2 (g3p gO (by decide))) hf2 (K _ _ _ _ _ ⟨_, Y, R, L, T, np, pc, bad, rej, cla, sl, lw, _, _, hC3, hM3, (jP_as hP hk hc rfl rfl rfl (fun q hq ha => ?_) (by omega)), (jN_X hN hc (by rw [mkC_same (x := X c) rfl rfl rfl]; exact Nat.le_refl _) (Nat.le_refl _) (by omega) (by omega)), (tmpI_f ht (by omega) (fun v hv => (g3p v (by omega)).trans (g92 v (Or.inr (Or.inr hv))))), (wi_f hs ((g3p 0 (by decide)).trans (g92 0 (Or.inr (Or.inl (by decide)))))), _, (wl_f ho2 (g3p gO (by decide)))⟩)
      have ha' : askR (xA (X c)) fm to (xF (X c) (xC (X c))) q = true := ha
      unfold askR at ha'
      rw [Bool.or_eq_true] at ha'
      rcases ha' with ha' | ha'
      · exact hP.2.2.1 c hc q hq ha'
      · rw [Bool.and_eq_true] at ha'
        exact of_decide_eq_true ha'.2
    · have hm' := (nI_eq (by omega) (by omega)).mp a1
      subst hm'
      exact absurd hrq2 hrq'
  · subst e1
    have hrq2 : ¬ rqB (R (m % 64)) (L (m % 64)) := fun hh => hrq (rqB_row (fun j hj => (hr j hj).symm) hh)
    have g9 : ∀ v, v % 16 = 9 ∨ v < 4 ∨ v = gO ∨ v % 16 = 11 → w1 v = w v := fun v hv => g v (by rcases hv with h | h | h | h <;> rintro rfl <;> revert h <;> decide)
    refine lw_hear (wl_f ho (g9 gO (Or.inr (Or.inr (Or.inl rfl))))) (fun w2 f2 g2 ho2 hf2 => ?_)
    have g92 : ∀ v, v % 16 = 9 ∨ v < 4 ∨ v % 16 = 11 → w2 v = w v := fun v hv => (g2 v (by rintro rfl; rcases hv with h | h | h <;> revert h <;> decide)).trans (g9 v (hv.elim Or.inl (fun h => Or.inr (h.elim Or.inl (fun h => Or.inr (Or.inr h))))))
    refine t_La_law_493 rfl (wi_f hs (g92 0 (Or.inr (Or.inl (by decide))))) (hv 1 (by omega)) (moO_f hM.1.1 (g92 25 (Or.inl rfl))) (Nat.le_of_ble_eq_true rfl) ?_
    rw [he1]
    have hM2 := moR_f hM (fun v hv => g92 v (Or.inl hv))
    refine c_mhear hM2.1 hX hM2.2.1 hM2.2.2.2.1 (fun m' a1 a2 a3 a4 hrq' => ?_) (fun m' a1 a2 a3 a4 hrq' w3 s3 l3 g3 o3 es e23 z0 => ?_) (fun a1 => absurd (isSl_t (by omega) e2 e3 e4) (by rw [a1]; decide))
    · have hm' := (nI_eq (by omega) (by omega)).mp a1
      subst hm'
      exact absurd hrq' hrq2
    · have g3p : ∀ v, v % 16 ≠ 9 → w3 v = w2 v := fun v hv => g3 v (by rintro rfl; exact hv rfl)
      have hC3 := ciR_f (ciR_so hC g ho1) (fun v v1 v2 v3 => (g3p v v1).trans (g2 v v3))
      have hM3 := moR_bad hM2 o3 g3 es e23
      exact lt_hear_ok o3 z0 (wl_f ho2 (g3p gO (by decide))) hf2 (K _ _ _ _ _ ⟨X, Y, R, L, T, np, pc, _, rej, cla, sl, lw, _, _, hC3, hM3, (jP_up hP hk), (jN_up hN (by omega) (by omega)), (tmpI_f ht (by omega) (fun v hv => (g3p v (by omega)).trans (g92 v (Or.inr (Or.inr hv))))), (wi_f hs ((g3p 0 (by decide)).trans (g92 0 (Or.inr (Or.inl (by decide)))))), _, (wl_f ho2 (g3p gO (by decide)))⟩)
  · obtain ⟨q9, hq9, hfd⟩ := fx_hear_12
    refine ⟨12, q9, [], 12, hx.2, hq9, hfd, t_La_hear_12 rfl rfl ?_⟩
    refine t_La_law_493 rfl (wi_f hs (exf hx 0 (by decide))) (hv 1 (by omega)) (moO_f hM.1.1 (exf hx 25 (by decide))) (Nat.le_of_ble_eq_true rfl) ?_
    rw [he1]
    have hM2 := moR_f hM (fun v hv => exf hx v (by omega))
    refine c_mhear hM2.1 hX hM2.2.1 hM2.2.2.2.1 (fun m' a1 a2 a3 a4 => absurd (isSl_t (by omega) a2 a3 a4) (by rw [← a1, e1]; decide)) (fun m' a1 a2 a3 a4 => absurd (isSl_t (by omega) a2 a3 a4) (by rw [← a1, e1]; decide)) (fun _ w3 g3 o3 => ?_)
    exact lt_hear_no o3 (fu_s _ _ _) (by decide) (K _ _ _ _ _ (JI_same hC hM hP hN hs hk (fun v v1 v2 v3 => (g3 v v3).trans (exf hx v v1)) o3 (fun k k0 _ => fu_n _ _ (by omega)) (tmpI_f (tmpI_1 ht hx.1) (Nat.le_refl _) (fun v hv => g3 v (by rintro rfl; omega))) (by omega) (by omega) (wl_f ho (by rw [g3 gO (by decide), exf hx gO (by decide)]))))
theorem l_deliver (hn : n ≤ 3072) (hi : i + 6 ≤ n) (hk : k < 512) (hJ : JI n xs k w nc ns) (K : ∀ w' nc' ns' p5 p6, JI n xs (k + 1) w' nc' ns' → Ev (d + 12) m_La_law 23 [some (.ref 0), some (.ref gQ), some (.ref 25), some (.ref gO), some (.int (nI i + 6)), p5, p6] [] w' nc' ns' Q) :
    Ev (d + 12) m_La_law 426 [some (.ref 0), some (.ref gQ), some (.ref 25), some (.ref gO), some (.int (nI i)), o5, o6] [] w nc ns Q := by
  obtain ⟨X, Y, R, L, T, np, pc, bad, rej, cla, sl, lw, s, l, hC, hM, hP, hN, ht, hs, f, ho⟩ := hJ
  have hsl : sl < 2 ^ 30 := hM.2.2.2.1.2.1
  have hnp := jP_np hC hP
  have hv : ∀ j, j ≤ 5 → vp_in (nI i + nI j) n := fun j hj => by rw [nI_add]; exact vp_in_nI (by omega) (by omega)
  refine t_La_law_426 hs (hv 1 (by omega)) (Nat.le_of_ble_eq_true rfl) ?_
  generalize he1 : xs (nI i + 1).toNatClampNeg = a1
  obtain ⟨f31, hf31⟩ := id hM.2.2.2.2.2.2.2.2.2
  have hYo := ciR_Y hC
  refine t_La_deliver_0 rfl hC.2.1 (Nat.le_of_ble_eq_true rfl) (c_Qdeliver hC.1 hC.2.1 hC.2.2.2.1 hC.2.2.2.2 hsl hM.2.2.2.1.2.2.2.2.2 ht (fun e1 w1 hx => ?_) (fun m r e1 e2 e3 e4 hr hlt => ⟨fun hso w1 nc1 ns1 g ht1 ho1 b1 b2 b3 b4 => ?_, fun hso h0 w1 nc1 ns1 g ht1 htr b1 b2 b3 b4 => ?_, fun hso h0 hcl w1 nc1 ns1 g ht1 ho1 htr b1 b2 b3 b4 => ?_, fun hso h0 hcl w1 nc1 ns1 pm g ht1 htr hcnt b1 b2 b3 b4 => ?_⟩))
  · obtain ⟨q9, hq9, hfd⟩ := fx_deliver_12
    refine ⟨12, q9, [], 12, hx.2, hq9, hfd, t_La_deliver_12 rfl rfl ?_⟩
    refine t_La_law_437 rfl (wi_f hs (exf hx 0 (by decide))) (hv 1 (by omega)) (moO_f hM.1.1 (exf hx 25 (by decide))) (Nat.le_of_ble_eq_true rfl) ?_
    rw [he1]
    have hM2 := moR_f hM (fun v hv => exf hx v (by omega))
    refine c_mdeliver hM2.1.1 hM2.2.2.2.1 hM2.2.2.2.2.1 hM2.2.2.2.2.2.1 hYo (wi_f hf31 (exf hx _ (by rw [mA_9]; decide))) (fun _ w3 g3 o3 => ?_) (fun m' a1 a2 a3 a4 => absurd (isSl_t (by omega) a2 a3 a4) (by rw [← a1, e1]; decide)) (fun m' a1 a2 a3 a4 => absurd (isSl_t (by omega) a2 a3 a4) (by rw [← a1, e1]; decide)) (fun m' a1 a2 a3 a4 => absurd (isSl_t (by omega) a2 a3 a4) (by rw [← a1, e1]; decide)) (fun m' a1 a2 a3 a4 => absurd (isSl_t (by omega) a2 a3 a4) (by rw [← a1, e1]; decide))
    exact lt_deliver_no o3 (fu_s _ _ _) (by decide) (K _ _ _ _ _ (JI_same hC hM hP hN hs hk (fun v v1 v2 v3 => (g3 v v3).trans (exf hx v v1)) o3 (fun k k0 _ => fu_n _ _ (by omega)) (tmpI_f (tmpI_1 ht hx.1) (Nat.le_refl _) (fun v hv => g3 v (by rintro rfl; omega))) (by omega) (by omega) (wl_f ho (by rw [g3 gO (by decide), exf hx gO (by decide)]))))
  · subst e1
    have hso2 : ¬ soB (R (m % 64)) (L (m % 64)) := fun hh => hso (soB_row (fun j hj => (hr j hj).symm) hh)
    have g9 : ∀ v, v % 16 = 9 ∨ v < 4 ∨ v = gO → w1 v = w v := fun v hv => g v (by have : gO % 16 = 10 := rfl; rcases hv with h | h | h <;> (try subst h) <;> omega) (by rcases hv with h | h | h <;> rintro rfl <;> revert h <;> decide)
    refine lw_deliver (wl_f ho (g9 gO (Or.inr (Or.inr rfl)))) (fun w2 f2 g2 ho2 hf2 => ?_)
    have g92 : ∀ v, v % 16 = 9 ∨ v < 4 → w2 v = w v := fun v hv => (g2 v (by rintro rfl; rcases hv with h | h <;> revert h <;> decide)).trans (g9 v (hv.elim Or.inl (fun h => Or.inr (Or.inl h))))
    refine t_La_law_437 rfl (wi_f hs (g92 0 (Or.inr (by decide)))) (hv 1 (by omega)) (moO_f hM.1.1 (g92 25 (Or.inl rfl))) (Nat.le_of_ble_eq_true rfl) ?_
    rw [he1]
    have hM2 := moR_f hM (fun v hv => g92 v (Or.inl hv))
    refine c_mdeliver hM2.1.1 hM2.2.2.2.1 hM2.2.2.2.2.1 hM2.2.2.2.2.2.1 hYo (wi_f hf31 (g92 _ (Or.inl (mA_9 _)))) (fun a1 => absurd (isSl_t (by omega) e2 e3 e4) (by rw [a1]; decide)) (fun m' a1 a2 a3 a4 hso' w3 s3 l3 f3 g3 o3 z0 es e21 wf3 => ?_) (fun m' a1 a2 a3 a4 hso' => ?_) (fun m' a1 a2 a3 a4 hso' => ?_) (fun m' a1 a2 a3 a4 hso' => ?_)
    · have g3p : ∀ v, v % 16 ≠ 9 → w3 v = w2 v := fun v hv => g3 v (by rintro rfl; exact hv rfl) (by rintro rfl; exact hv (mA_9 _))
      have hC3 := ciR_f (ciR_ce hC g ho1) (fun v v1 v2 v3 => (g3p v v1).trans (g2 v v3))
      have hM3 := moR_ce hM2 o3 (fun v v1 _ _ _ v5 => g3 v v1 v5) (fun k k0 k1 k2 _ => es k k0 k1 k2) (by rw [e21, hM2.2.2.2.2.2.2.1, nI_1]) (by rw [es 22 (by omega) (by omega) (by omega)]; exact hM2.2.2.2.2.2.2.2.1) (hvR_f hM2.2.2.2.2.1 (g3 _ (mA_25 (by omega)) (mA_ne (by omega))) (g3 _ (mA_25 (by omega)) (mA_ne (by omega)))) (ohR_f hM2.2.2.2.2.2.1 (g3 _ (mA_25 (by omega)) (mA_ne (by omega)))) wf3
      exact lt_deliver_ok o3 z0 (wl_f ho2 (g3p gO (by decide))) hf2 (K _ _ _ _ _ ⟨X, Y, R, L, T, np, pc, bad, _, cla, sl, lw, _, _, hC3, hM3, (jP_up hP hk), (jN_3 hN (by omega) (by omega)), (tmpI_f ht1 (Nat.le_refl _) (fun v hv => (g3p v (by omega)).trans (g2 v (by rintro rfl; have : gO % 16 = 10 := rfl; omega)))), (wi_f hs ((g3p 0 (by decide)).trans (g92 0 (Or.inr (by decide))))), _, (wl_f ho2 (g3p gO (by decide)))⟩)
    · have hm' := (nI_eq (by omega) (by omega)).mp a1
      subst hm'
      exact absurd hso' hso2
    · have hm' := (nI_eq (by omega) (by omega)).mp a1
      subst hm'
      exact absurd hso' hso2
    · have hm' := (nI_eq (by omega) (by omega)).mp a1
      subst hm'
      exact absurd hso' hso2
  · subst e1
    have h24 := hso.1
    have hso2 := soB_row hr hso
    have eg : ∀ p q, p + q ≤ 192 → getN r p q = getN (R (m % 64)) p q := fun p q hp => getN_row hr (by omega)
    have ed := dval_row hr h24
    rw [eg 16 16 (by omega)] at h0
    rw [eg 0 8 (by omega), eg 32 32 (by omega)] at htr
    have g : ∀ v, v % 16 ≠ 11 → v % 16 ≠ 4 + getN (R (m % 64)) 0 8 → w1 v = w v := fun v v1 v2 => g v v1 (by rw [eg 0 8 (by omega)]; exact v2)
    have hc : getN (R (m % 64)) 0 8 < 4 := hso2.2.2.1
    generalize hcc : getN (R (m % 64)) 0 8 = c at *
    generalize hff : getN (R (m % 64)) 64 32 = fi at *
    generalize hoo : getN (R (m % 64)) 32 32 = old at *
    generalize hnn : getN (R (m % 64)) 16 16 = cn at *
    generalize hpp : getN (R (m % 64)) 8 8 = pq at *
    generalize hdd : dval (R (m % 64)) (L (m % 64)) = val at *
    have g9 : ∀ v, v % 16 = 9 ∨ v < 4 ∨ v = gO → w1 v = w v := fun v hv => g v (by have : gO % 16 = 10 := rfl; rcases hv with h | h | h <;> (try subst h) <;> omega) (by have : gO % 16 = 10 := rfl; rcases hv with h | h | h <;> (try subst h) <;> omega)
    refine lw_deliver (wl_f ho (g9 gO (Or.inr (Or.inr rfl)))) (fun w2 f2 g2 ho2 hf2 => ?_)
    have g92 : ∀ v, v % 16 = 9 ∨ v < 4 → w2 v = w v := fun v hv => (g2 v (by rintro rfl; rcases hv with h | h <;> revert h <;> decide)).trans (g9 v (hv.elim Or.inl (fun h => Or.inr (Or.inl h))))
    refine t_La_law_437 rfl (wi_f hs (g92 0 (Or.inr (by decide)))) (hv 1 (by omega)) (moO_f hM.1.1 (g92 25 (Or.inl rfl))) (Nat.le_of_ble_eq_true rfl) ?_
    rw [he1]
    have hM2 := moR_f hM (fun v hv => g92 v (Or.inl hv))
    refine c_mdeliver hM2.1.1 hM2.2.2.2.1 hM2.2.2.2.2.1 hM2.2.2.2.2.2.1 hYo (wi_f hf31 (g92 _ (Or.inl (mA_9 _)))) (fun a1 => absurd (isSl_t (by omega) e2 e3 e4) (by rw [a1]; decide)) (fun m' a1 a2 a3 a4 hso' => ?_) (fun m' a1 a2 a3 a4 hso' h0' w3 s3 l3 f3 g3 o3 z0 es wf3 hv3 oh3 => ?_) (fun m' a1 a2 a3 a4 hso' h0' => ?_) (fun m' a1 a2 a3 a4 hso' h0' => ?_)
    · have hm' := (nI_eq (by omega) (by omega)).mp a1
      subst hm'
      exact absurd hso2 hso'
    · have hm' := (nI_eq (by omega) (by omega)).mp a1
      subst hm'
      rw [hcc, hoo] at hv3 oh3
      have g3p : ∀ v, v % 16 ≠ 9 → w3 v = w2 v := fun v hv => g3 v (by rintro rfl; exact hv rfl) (by rintro rfl; exact hv (mA_9 _)) (by rintro rfl; exact hv (mA_9 _))
      have hC1 := ciR_tr hC hc (fun v v1 v2 _ => g v v1 v2) (wo_f (ciR_ceO hC) (g gE (by decide) (by have : gE % 16 = 10 := rfl; omega))) htr
      have hC3 := ciR_f hC1 (fun v v1 v2 v3 => (g3p v v1).trans (g2 v v3))
      have hM3 := moR_ce hM2 o3 (fun v v1 _ _ v4 v5 => g3 v v1 v4 v5) (fun k k0 k1 _ _ => es k k0 k1) (by rw [es 21 (by omega) (by omega)]; exact hM2.2.2.2.2.2.2.1) (by rw [es 22 (by omega) (by omega)]; exact hM2.2.2.2.2.2.2.2.1) hv3 oh3 wf3
      exact lt_deliver_ok o3 z0 (wl_f ho2 (g3p gO (by decide))) hf2 (K _ _ _ _ _ ⟨X, _, R, L, T, np, pc, bad, rej, cla, sl, lw, _, _, hC3, hM3, (jP_up hP hk), (jN_Y hN hc (Nat.le_refl _) (by omega) (by omega)), (tmpI_f ht1 (Nat.le_refl _) (fun v hv => (g3p v (by omega)).trans (g2 v (by rintro rfl; have : gO % 16 = 10 := rfl; omega)))), (wi_f hs ((g3p 0 (by decide)).trans (g92 0 (Or.inr (by decide))))), _, (wl_f ho2 (g3p gO (by decide)))⟩)
    · have hm' := (nI_eq (by omega) (by omega)).mp a1
      subst hm'
      rw [hnn] at h0'
      exact absurd h0 h0'
    · have hm' := (nI_eq (by omega) (by omega)).mp a1
      subst hm'
      rw [hnn] at h0'
      exact absurd h0 h0'
  · subst e1
    have h24 := hso.1
    have hso2 := soB_row hr hso
    have eg : ∀ p q, p + q ≤ 192 → getN r p q = getN (R (m % 64)) p q := fun p q hp => getN_row hr (by omega)
    have ed := dval_row hr h24
    rw [eg 16 16 (by omega)] at h0
    rw [eg 0 8 (by omega), eg 32 32 (by omega)] at htr
    rw [eg 0 8 (by omega), eg 64 32 (by omega), eg 16 16 (by omega), ed] at hcl
    have g : ∀ v, v % 16 ≠ 11 → v % 16 ≠ 4 + getN (R (m % 64)) 0 8 → v ≠ gE → w1 v = w v := fun v v1 v2 v3 => g v v1 (by rw [eg 0 8 (by omega)]; exact v2) v3
    have hc : getN (R (m % 64)) 0 8 < 4 := hso2.2.2.1
    generalize hcc : getN (R (m % 64)) 0 8 = c at *
    generalize hff : getN (R (m % 64)) 64 32 = fi at *
    generalize hoo : getN (R (m % 64)) 32 32 = old at *
    generalize hnn : getN (R (m % 64)) 16 16 = cn at *
    generalize hpp : getN (R (m % 64)) 8 8 = pq at *
    generalize hdd : dval (R (m % 64)) (L (m % 64)) = val at *
    have g9 : ∀ v, v % 16 = 9 ∨ v < 4 ∨ v = gO → w1 v = w v := fun v hv => g v (by have : gO % 16 = 10 := rfl; rcases hv with h | h | h <;> (try subst h) <;> omega) (by have : gO % 16 = 10 := rfl; rcases hv with h | h | h <;> (try subst h) <;> omega) (by rcases hv with h | h | h <;> rintro rfl <;> revert h <;> decide)
    refine lw_deliver (wl_f ho (g9 gO (Or.inr (Or.inr rfl)))) (fun w2 f2 g2 ho2 hf2 => ?_)
    have g92 : ∀ v, v % 16 = 9 ∨ v < 4 → w2 v = w v := fun v hv => (g2 v (by rintro rfl; rcases hv with h | h <;> revert h <;> decide)).trans (g9 v (hv.elim Or.inl (fun h => Or.inr (Or.inl h))))
    refine t_La_law_437 rfl (wi_f hs (g92 0 (Or.inr (by decide)))) (hv 1 (by omega)) (moO_f hM.1.1 (g92 25 (Or.inl rfl))) (Nat.le_of_ble_eq_true rfl) ?_
    rw [he1]
    have hM2 := moR_f hM (fun v hv => g92 v (Or.inl hv))
    refine c_mdeliver hM2.1.1 hM2.2.2.2.1 hM2.2.2.2.2.1 hM2.2.2.2.2.2.1 hYo (wi_f hf31 (g92 _ (Or.inl (mA_9 _)))) (fun a1 => absurd (isSl_t (by omega) e2 e3 e4) (by rw [a1]; decide)) (fun m' a1 a2 a3 a4 hso' => ?_) (fun m' a1 a2 a3 a4 hso' h0' => ?_) (fun m' a1 a2 a3 a4 hso' h0' hcl' w3 s3 l3 f3 g3 o3 z0 es e22 wf3 hv3 oh3 => ?_) (fun m' a1 a2 a3 a4 hso' h0' hcl' => ?_)
    · have hm' := (nI_eq (by omega) (by omega)).mp a1
      subst hm'
      exact absurd hso2 hso'
    · have hm' := (nI_eq (by omega) (by omega)).mp a1
      subst hm'
      rw [hnn] at h0'
      exact absurd h0' h0
    · have hm' := (nI_eq (by omega) (by omega)).mp a1
      subst hm'
      rw [hcc, hoo] at hv3 oh3
      have g3p : ∀ v, v % 16 ≠ 9 → w3 v = w2 v := fun v hv => g3 v (by rintro rfl; exact hv rfl) (by rintro rfl; exact hv (mA_9 _)) (by rintro rfl; exact hv (mA_9 _))
      have hC3 := ciR_f (ciR_tr hC hc g ho1 htr) (fun v v1 v2 v3 => (g3p v v1).trans (g2 v v3))
      have hM3 := moR_ce hM2 o3 (fun v v1 _ _ v4 v5 => g3 v v1 v4 v5) (fun k k0 k1 _ k3 => es k k0 k1 k3) (by rw [es 21 (by omega) (by omega) (by omega)]; exact hM2.2.2.2.2.2.2.1) (by rw [e22, hM2.2.2.2.2.2.2.2.1, nI_1]) hv3 oh3 wf3
      exact lt_deliver_ok o3 z0 (wl_f ho2 (g3p gO (by decide))) hf2 (K _ _ _ _ _ ⟨X, _, R, L, T, np, pc, bad, rej, _, sl, lw, _, _, hC3, hM3, (jP_up hP hk), (jN_Y hN hc (Nat.le_refl _) (by omega) (by omega)), (tmpI_f ht1 (Nat.le_refl _) (fun v hv => (g3p v (by omega)).trans (g2 v (by rintro rfl; have : gO % 16 = 10 := rfl; omega)))), (wi_f hs ((g3p 0 (by decide)).trans (g92 0 (Or.inr (by decide))))), _, (wl_f ho2 (g3p gO (by decide)))⟩)
    · have hm' := (nI_eq (by omega) (by omega)).mp a1
      subst hm'
      rw [hcc, hff, hnn, hdd] at hcl'
      exact absurd hcl hcl'
  · subst e1
    have h24 := hso.1
    have hso2 := soB_row hr hso
    have eg : ∀ p q, p + q ≤ 192 → getN r p q = getN (R (m % 64)) p q := fun p q hp => getN_row hr (by omega)
    have ed := dval_row hr h24
    rw [eg 16 16 (by omega)] at h0
    rw [eg 0 8 (by omega), eg 64 32 (by omega), eg 16 16 (by omega), eg 8 8 (by omega), ed, eg 32 32 (by omega)] at htr
    rw [eg 0 8 (by omega), eg 64 32 (by omega), eg 16 16 (by omega), ed] at hcl
    rw [eg 0 8 (by omega)] at hcnt b2 b4
    rw [eg 0 8 (by omega), eg 64 32 (by omega), eg 16 16 (by omega), eg 8 8 (by omega)]
    have g : ∀ v, v % 16 ≠ 11 → v % 16 ≠ 4 + getN (R (m % 64)) 0 8 → w1 v = w v := fun v v1 v2 => g v v1 (by rw [eg 0 8 (by omega)]; exact v2)
    have hc : getN (R (m % 64)) 0 8 < 4 := hso2.2.2.1
    generalize hcc : getN (R (m % 64)) 0 8 = c at *
    generalize hff : getN (R (m % 64)) 64 32 = fi at *
    generalize hoo : getN (R (m % 64)) 32 32 = old at *
    generalize hnn : getN (R (m % 64)) 16 16 = cn at *
    generalize hpp : getN (R (m % 64)) 8 8 = pq at *
    generalize hdd : dval (R (m % 64)) (L (m % 64)) = val at *
    have g9 : ∀ v, v % 16 = 9 ∨ v < 4 ∨ v = gO → w1 v = w v := fun v hv => g v (by have : gO % 16 = 10 := rfl; rcases hv with h | h | h <;> (try subst h) <;> omega) (by have : gO % 16 = 10 := rfl; rcases hv with h | h | h <;> (try subst h) <;> omega)
    refine lw_deliver (wl_f ho (g9 gO (Or.inr (Or.inr rfl)))) (fun w2 f2 g2 ho2 hf2 => ?_)
    have g92 : ∀ v, v % 16 = 9 ∨ v < 4 → w2 v = w v := fun v hv => (g2 v (by rintro rfl; rcases hv with h | h <;> revert h <;> decide)).trans (g9 v (hv.elim Or.inl (fun h => Or.inr (Or.inl h))))
    refine t_La_law_437 rfl (wi_f hs (g92 0 (Or.inr (by decide)))) (hv 1 (by omega)) (moO_f hM.1.1 (g92 25 (Or.inl rfl))) (Nat.le_of_ble_eq_true rfl) ?_
    rw [he1]
    have hM2 := moR_f hM (fun v hv => g92 v (Or.inl hv))
    refine c_mdeliver hM2.1.1 hM2.2.2.2.1 hM2.2.2.2.2.1 hM2.2.2.2.2.2.1 hYo (wi_f hf31 (g92 _ (Or.inl (mA_9 _)))) (fun a1 => absurd (isSl_t (by omega) e2 e3 e4) (by rw [a1]; decide)) (fun m' a1 a2 a3 a4 hso' => ?_) (fun m' a1 a2 a3 a4 hso' h0' => ?_) (fun m' a1 a2 a3 a4 hso' h0' hcl' => ?_) (fun m' a1 a2 a3 a4 hso' h0' hcl' w3 s3 l3 f3 g3 o3 z0 es wf3 hv3 oh3 => ?_)
    · have hm' := (nI_eq (by omega) (by omega)).mp a1
      subst hm'
      exact absurd hso2 hso'
    · have hm' := (nI_eq (by omega) (by omega)).mp a1
      subst hm'
      rw [hnn] at h0'
      exact absurd h0' h0
    · have hm' := (nI_eq (by omega) (by omega)).mp a1
      subst hm'
      rw [hcc, hff, hnn, hdd] at hcl'
      exact absurd hcl' hcl
    · have hm' := (nI_eq (by omega) (by omega)).mp a1
      subst hm'
      rw [hcc, hff, hnn, hpp, hdd, hoo] at hv3 oh3
      rw [hcc, hff, hnn, hpp]
      have g3p : ∀ v, v % 16 ≠ 9 → w3 v = w2 v := fun v hv => g3 v (by rintro rfl; exact hv rfl) (by rintro rfl; exact hv (mA_9 _)) (by rintro rfl; exact hv (mA_9 _)) (by rintro rfl; exact hv (mA_9 _)) (by rintro rfl; exact hv (mA_9 _))
      have hC1 := ciR_tr hC hc (fun v v1 v2 _ => g v v1 v2) (wo_f (ciR_ceO hC) (g gE (by decide) (by have : gE % 16 = 10 := rfl; omega))) htr
      have hC3 := ciR_f hC1 (fun v v1 v2 v3 => (g3p v v1).trans (g2 v v3))
      have hM3 := moR_ce hM2 o3 g3 (fun k k0 k1 _ _ => es k k0 k1) (by rw [es 21 (by omega) (by omega)]; exact hM2.2.2.2.2.2.2.1) (by rw [es 22 (by omega) (by omega)]; exact hM2.2.2.2.2.2.2.2.1) (hv3 pm) (oh3 pm) wf3
      exact lt_deliver_ok o3 z0 (wl_f ho2 (g3p gO (by decide))) hf2 (K _ _ _ _ _ ⟨X, _, R, L, T, np, pc, bad, rej, cla, sl, lw, _, _, hC3, hM3, (jP_up hP hk), (jN_Y hN hc hcnt b2 b4), (tmpI_f ht1 (Nat.le_refl _) (fun v hv => (g3p v (by omega)).trans (g2 v (by rintro rfl; have : gO % 16 = 10 := rfl; omega)))), (wi_f hs ((g3p 0 (by decide)).trans (g92 0 (Or.inr (by decide))))), _, (wl_f ho2 (g3p gO (by decide)))⟩)
end La5
