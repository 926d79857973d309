/-! ===== the law: turn and ask ===== -/
theorem meR_256 {w : qk_W} {a c z : Nat} {r : Nat → Nat} (h : meR w a c r z) : ∀ k, r k < 256 := by
  obtain ⟨_, ⟨_, _, _, h3⟩, _⟩ := h
  exact h3
theorem maR_256 {w : qk_W} {s : Nat → Int32} {sl : Nat} {R : Nat → Nat → Nat} {L : Nat → Nat} {T : Nat → Bool} (h : maR w s sl R L T) : ∀ j k, R j k < 256 := by
  obtain ⟨_, _, ⟨_, _, _, h3⟩, _⟩ := h
  exact h3
theorem air_fill {w1 w3 : qk_W} {sl z : Nat} {R R3 : Nat → Nat → Nat} {L : Nat → Nat} {T : Nat → Bool} {r : Nat → Nat} (hH : airH w1 (sl + 1) R L T (sl % 64)) (hme : meR w1 (aM (sl % 64)) (aW (sl % 64)) r z) (g : ∀ v, v % 16 = 8 → w3 v = w1 v) (hR3 : ∀ i, i ≠ sl % 64 → R3 i = R i) (hrow : ∀ k, k < z → r k = R3 (sl % 64) k) : airR w3 (sl + 1) R3 (fu L (sl % 64) z) (fu T (sl % 64) false) := by
  refine airH_fill (airH_f hH g) (r := r) ?_ ?_ (fun j hj hne => ⟨hR3 j hne, fu_n _ _ hne, fu_n _ _ hne⟩)
  · rw [fu_s, fu_s, if_neg (by decide)]
    exact meR_f hme (g _ (by unfold aM; omega)) (g _ (by unfold aW; omega))
  · rw [fu_s]
    exact hrow
theorem pl_inj {w : qk_W} {X : Nat → Chs} {np : Nat} (h : plR w X np) {c c' t t' : Nat} (hc : c < 4) (hc' : c' < 4) (ht : t < xC (X c)) (ht' : t' < xC (X c')) (e : xO (X c) t = xO (X c') t') : c' = c := by
  obtain ⟨f6, f7, f8, f9, f10, _, _, _, _, _, hP⟩ := h
  have a := (hP.1 c hc t ht).2.1
  have b := (hP.1 c' hc' t' ht').2.1
  rw [← e, a] at b
  exact nI_in4 hc hc' b
theorem pl_lt {w : qk_W} {X : Nat → Chs} {np : Nat} (h : plR w X np) : ∀ c, c < 4 → ∀ t, t < xC (X c) → xO (X c) t < np := by
  obtain ⟨f6, f7, f8, f9, f10, _, _, _, _, _, hP⟩ := h
  exact fun c hc t ht => (hP.1 c hc t ht).1
section La4
variable {d n i k nc ns : Nat} {xs : Nat → Int32} {w w1 w3 : qk_W} {Q : Option Value ⊕ Nat → qk_W → Nat → Nat → Prop} {o5 o6 : Option Value} {s s3 : Nat → Int32} {l l3 : Nat → Int64} {X : Nat → Chs} {Y : Nat → Trs} {R R3 : Nat → Nat → Nat} {L : Nat → Nat} {T : Nat → Bool} {np pc bad rej cla sl : Nat} {lw lw' : Bool}
/-- behind a turn that sent something -/
theorem J_turn {c z : Nat} {y : Chs} {r : Nat → Nat} {f : Nat → Int64} (hC : ciR w X Y R L T np pc bad rej cla sl lw) (hM : moR w s l X Y R L T np pc bad rej cla sl lw) (hP : jP k X np pc sl) (hN : jN k X Y sl nc ns) (ht : tmpI w nc) (hs : wi w 0 n xs) (ho : wl w gO 1 f) (hk : k < 512) (hc : c < 4)
    (g : ∀ v, v % 16 ≠ 8 → v % 16 ≠ 12 + c → v ≠ gS → w1 v = w v) (ho1 : stO w1 pc bad np lw') (hch : chT w1 c y) (hH : airH w1 (sl + 1) R L T (sl % 64)) (hme : meR w1 (aM (sl % 64)) (aW (sl % 64)) r z)
    (e1 : xT y = xT (X c)) (e2 : xC y = xC (X c)) (e3 : xF y = xF (X c)) (hA : ∀ n, n < 32768 → xA y n = true → n < xF (X c) (xC (X c)))
    (g3 : ∀ v, v ≠ 25 → v ≠ mA 10 → v ≠ mA 12 → v ≠ mA 14 → v ≠ mA 15 → v ≠ mA 16 → w3 v = w1 v) (es : ∀ k, k ≠ 0 → k ≠ 13 → k ≠ 17 → k ≠ 24 → k ≠ 25 → s3 k = s k) (h13 : s3 13 = b2i lw') (ms3 : msR w3 s3 l3 (fu X c y) np pc) (ak3 : akR w3 (fu X c y)) (ma3 : maR w3 s3 (sl + 1) R3 (fu L (sl % 64) z) (fu T (sl % 64) false)) (hR3 : ∀ i, i ≠ sl % 64 → R3 i = R i) (hrow : ∀ k, k < z → r k = R3 (sl % 64) k) :
    JI n xs (k + 1) w3 (nc + if sl < 64 then 2 else 0) (ns + if sl < 64 then 514 else 0) := by
  have g3p : ∀ v, v % 16 ≠ 9 → w3 v = w1 v := fun v hv => g3 v (by rintro rfl; exact hv rfl) (by rintro rfl; exact hv (mA_9 _)) (by rintro rfl; exact hv (mA_9 _)) (by rintro rfl; exact hv (mA_9 _)) (by rintro rfl; exact hv (mA_9 _)) (by rintro rfl; exact hv (mA_9 _))
  have hgS : gS % 16 = 10 := rfl
  have hgO : gO % 16 = 10 := rfl
  have hC3 := ciR_sa (sl' := sl + 1) (R' := R3) (L' := fu L (sl % 64) z) (T' := fu T (sl % 64) false) hC hc (fun v v1 v2 v3 v4 => (g3p v v2).trans (g v v1 v3 v4)) (wo_f ho1 (g3p gS (by decide))) (chT_f hch (fun v hv => g3p v (by omega))) (air_fill hH hme (fun v hv => g3p v (by omega)) hR3 hrow)
  have eA : ∀ k, 17 ≤ k → w3 (mA k) = w (mA k) := fun k hk => by
    rw [g3 _ (mA_25 (by omega)) (mA_ne (by omega)) (mA_ne (by omega)) (mA_ne (by omega)) (mA_ne (by omega)) (mA_ne (by omega))]
    exact g _ (by rw [mA_9]; decide) (by rw [mA_9]; omega) (by intro e; have := mA_9 k; rw [e] at this; exact absurd this (by decide))
  have hM3 : moR w3 s3 l3 (fu X c y) Y R3 (fu L (sl % 64) z) (fu T (sl % 64) false) np pc bad rej cla (sl + 1) lw' := by
    obtain ⟨_, _, _, _, h5, h6, h7, h8, h9, f9, hf9⟩ := hM
    refine ⟨ms3, ak3, h13, ma3, hvR_f h5 (eA _ (by omega)) (eA _ (by omega)), ohR_f h6 (eA _ (by omega)), ?_, ?_, ?_, f9, wi_f hf9 (eA _ (by omega))⟩
    · rw [es 21 (by omega) (by omega) (by omega) (by omega) (by omega)]; exact h7
    · rw [es 22 (by omega) (by omega) (by omega) (by omega) (by omega)]; exact h8
    · rw [es 23 (by omega) (by omega) (by omega) (by omega) (by omega)]; exact h9
  have hmk : mkC y = mkC (X c) := mkC_same e1 e2 e3
  exact ⟨fu X c y, Y, R3, fu L (sl % 64) z, fu T (sl % 64) false, np, pc, bad, rej, cla, sl + 1, lw', s3, l3, hC3, hM3, jP_as hP hk hc e1 e2 e3 hA (Nat.le_refl _), jN_X hN hc (by rw [hmk]; exact Nat.le_refl _) (by omega) (by split <;> omega) (by split <;> omega), tmpI_f ht (by omega) (fun v hv => (g3p v (by omega)).trans (g v (by omega) (by omega) (by rintro rfl; omega))), wi_f hs ((g3p 0 (by decide)).trans (g 0 (by decide) (by omega) (by decide))), f, wl_f ho ((g3p gO (by decide)).trans (g gO (by decide) (by omega) (by decide)))⟩
theorem l_turn (hk : k < 512) (hJ : JI n xs k w nc ns) (K : ∀ w' nc' ns' p5 p6, JI n xs (k + 1) w' nc' ns' → Ev (d + 12) m_La_law 23 [some (.ref 0), some (.ref gQ), some (.ref 25), some (.ref gO), some (.int (nI i + 6)), p5, p6] [] w' nc' ns' Q) :
    Ev (d + 12) m_La_law 400 [some (.ref 0), some (.ref gQ), some (.ref 25), some (.ref gO), some (.int (nI i)), o5, o6] [] w nc ns Q := by
  obtain ⟨X, Y, R, L, T, np, pc, bad, rej, cla, sl, lw, s, l, hC, hM, hP, hN, ht, hs, f, ho⟩ := hJ
  have hsl : sl < 2 ^ 30 := hM.2.2.2.1.2.1
  have hsl2 : sl + 1 < 2 ^ 30 := by have := hP.2.2.2.2; omega
  have hnp := jP_np hC hP
  have hJJ := ciR_J hC
  have hA := hP.2.2.1
  have hpl := hM.1.2.2.2.2.2
  have hlt := pl_lt hpl
  refine t_La_law_400 hC.2.1 (Nat.le_of_ble_eq_true rfl) (c_Qturn hC.1 hC.2.1 hC.2.2.1 (fun c hc t ht => by have := hlt c hc t ht; omega) hA hC.2.2.2.2 hsl (fun c hc hw hmin hcs w1 r g ho1 hch hH hme hrow => ?_) (fun c hc hla hmn hst hcs hlo w1 r g ho1 hch hH hme hrow => ?_) (fun c hc hla hmn hst hcs hle t ht0 t1 t2 w1 r g ho1 hch hH hme hrow => ?_) (fun hno hall => ?_))
  · have g9 : ∀ v, v % 16 = 9 → w1 v = w v := fun v hv => g v (by omega) (by omega) (by rintro rfl; exact absurd hv (by decide))
    have hM1 := moR_f hM g9
    refine t_La_law_404 hM1.1.1 (Nat.le_of_ble_eq_true rfl) (c_mturn hM1.1 hJJ hM1.2.1 hM1.2.2.1 hA hM1.2.2.2.1 hsl2 (by omega) (fun c' hc' hw' hmin' hcs' w3 R3 s3 g3 es h13 ms3 ak3 ma3 hR3 row3 => ?_) (fun c' hc' hla' hmn' hst' hcs' => ?_) (fun c' hc' hla' hmn' hst' hcs' => ?_) (fun hno' => absurd hw (hno' c hc)))
    · have ec : c' = c := by
        have a1 := hmin c' hc' hw'
        have a2 := hmin' c hc hw
        exact pl_inj hpl hc hc' hw hw' (by omega)
      subst ec
      exact t_La_law_408 (fun _ => t_La_law_1281 rfl (K _ _ _ _ _ (J_turn hC hM hP hN ht hs ho hk hc g ho1 hch hH hme rfl rfl rfl (hA c' hc) (fun v v1 v2 v3 v4 v5 v6 => g3 v v1 v2 v4 v5 v6) es h13 ms3 ak3 ma3 hR3 (rowM_uniq (meR_256 hme) (maR_256 ma3 _) hrow row3)))) (fun g => absurd rfl g)
    · exact absurd hw (hcs'.elim (fun h => h c hc) (fun h => hcs.elim (fun h2 => absurd (h2 c' hc') (by omega)) (fun h2 => absurd (h.symm.trans h2) (by decide))))
    · exact absurd hw (hcs'.elim (fun h => h c hc) (fun h => hcs.elim (fun h2 => absurd (h2 c' hc') (by omega)) (fun h2 => absurd (h.symm.trans h2) (by decide))))
  · have g9 : ∀ v, v % 16 = 9 → w1 v = w v := fun v hv => g v (by omega) (by omega) (by rintro rfl; exact absurd hv (by decide))
    have hM1 := moR_f hM g9
    refine t_La_law_404 hM1.1.1 (Nat.le_of_ble_eq_true rfl) (c_mturn hM1.1 hJJ hM1.2.1 hM1.2.2.1 hA hM1.2.2.2.1 hsl2 (by omega) (fun c' hc' hw' hmin' hcs' => ?_) (fun c' hc' hla' hmn' hst' hcs' hlo' w3 R3 s3 g3 es h13 ms3 ak3 ma3 hR3 row3 => ?_) (fun c' hc' hla' hmn' hst' hcs' hle' => ?_) (fun hno' hall' => absurd (hall' c hc) (by omega)))
    · exact absurd hw' (hcs.elim (fun h => h c' hc') (fun h => hcs'.elim (fun h2 => absurd (h2 c hc) (by omega)) (fun h2 => absurd (h.symm.trans h2) (by decide))))
    · have ec : c' = c := by
        rcases Nat.lt_trichotomy c' c with e | e | e
        · have a1 := hst c' e; have a2 := hmn' c hc; omega
        · exact e
        · have a1 := hst' c e; have a2 := hmn c' hc'; omega
      subst ec
      refine t_La_law_408 (fun _ => t_La_law_1281 rfl (K _ _ _ _ _ (J_turn hC hM hP hN ht hs ho hk hc g ho1 hch hH hme rfl rfl rfl (fun m hm ha => ?_) (fun v v1 v2 v3 v4 v5 v6 => g3 v v1 v3 v4 v5 v6) es h13 ms3 ak3 ma3 hR3 (rowE_uniq (meR_256 hme) (maR_256 ma3 _) hrow row3)))) (fun g => absurd rfl g)
      have ha' : delR (xA (X c')) 0 (xF (X c') (xC (X c') - 32) - 1) m = true := ha
      unfold delR at ha'
      rw [Bool.and_eq_true] at ha'
      exact hA c' hc m hm ha'.1
    · have ec : c' = c := by
        rcases Nat.lt_trichotomy c' c with e | e | e
        · have a1 := hst c' e; have a2 := hmn' c hc; omega
        · exact e
        · have a1 := hst' c e; have a2 := hmn c' hc'; omega
      subst ec
      omega
  · have g9 : ∀ v, v % 16 = 9 → w1 v = w v := fun v hv => g v (by omega) (by omega) (by rintro rfl; exact absurd hv (by decide))
    have hM1 := moR_f hM g9
    refine t_La_law_404 hM1.1.1 (Nat.le_of_ble_eq_true rfl) (c_mturn hM1.1 hJJ hM1.2.1 hM1.2.2.1 hA hM1.2.2.2.1 hsl2 (by omega) (fun c' hc' hw' hmin' hcs' => ?_) (fun c' hc' hla' hmn' hst' hcs' hlo' => ?_) (fun c' hc' hla' hmn' hst' hcs' hle' t' ht' t1' t2' w3 R3 s3 g3 es h13 ms3 ak3 ma3 hR3 row3 => ?_) (fun hno' hall' => absurd (hall' c hc) (by omega)))
    · exact absurd hw' (hcs.elim (fun h => h c' hc') (fun h => hcs'.elim (fun h2 => absurd (h2 c hc) (by omega)) (fun h2 => absurd (h.symm.trans h2) (by decide))))
    · have ec : c' = c := by
        rcases Nat.lt_trichotomy c' c with e | e | e
        · have a1 := hst c' e; have a2 := hmn' c hc; omega
        · exact e
        · have a1 := hst' c e; have a2 := hmn c' hc'; omega
      subst ec
      omega
    · have ec : c' = c := by
        rcases Nat.lt_trichotomy c' c with e | e | e
        · have a1 := hst c' e; have a2 := hmn' c hc; omega
        · exact e
        · have a1 := hst' c e; have a2 := hmn c' hc'; omega
      subst ec
      have et : t' = t := by
        rcases Nat.lt_trichotomy t' t with e | e | e
        · have := chI_mono (hJJ c' hc) t (by omega) (t' + 1) (by omega); omega
        · exact e
        · have := chI_mono (hJJ c' hc) t' (by omega) (t + 1) (by omega); omega
      subst et
      refine t_La_law_408 (fun _ => t_La_law_1281 rfl (K _ _ _ _ _ (J_turn hC hM hP hN ht hs ho hk hc g ho1 hch hH hme rfl rfl rfl (fun m hm ha => ?_) (fun v v1 v2 v3 v4 v5 v6 => g3 v v1 v3 v4 v5 v6) es h13 ms3 ak3 ma3 hR3 (rowM_uniq (meR_256 hme) (maR_256 ma3 _) hrow row3)))) (fun g => absurd rfl g)
      have ha' : delR (xA (X c')) (xF (X c') t') (xF (X c') (t' + 1) - 1) m = true := ha
      unfold delR at ha'
      rw [Bool.and_eq_true] at ha'
      exact hA c' hc m hm ha'.1
  · refine t_La_law_404 hM.1.1 (Nat.le_of_ble_eq_true rfl) (c_mturn hM.1 hJJ hM.2.1 hM.2.2.1 hA hM.2.2.2.1 hsl2 (by omega) (fun c' hc' hw' => absurd hw' (hno c' hc')) (fun c' hc' hla' => absurd (hall c' hc') (by omega)) (fun c' hc' hla' => absurd (hall c' hc') (by omega)) (fun hno' hall' w3 g3 o3 => ?_))
    exact t_La_law_408 (fun _ => t_La_law_1281 rfl (K _ _ _ _ _ (JI_same hC hM hP hN hs hk (fun v v1 v2 v3 => g3 v v3) o3 (fun k k0 _ => fu_n _ _ (by omega)) (tmpI_f ht (Nat.le_refl _) (fun v hv => g3 v (by rintro rfl; omega))) (by omega) (by omega) (wl_f ho (g3 gO (by decide)))))) (fun g => absurd rfl g)
theorem l_ask (hk : k < 512) (hJ : JI n xs k w nc ns) (K : ∀ w' nc' ns' p5 p6, JI n xs (k + 1) w' nc' ns' → Ev (d + 12) m_La_law 23 [some (.ref 0), some (.ref gQ), some (.ref 25), some (.ref gO), some (.int (nI i + 6)), p5, p6] [] w' nc' ns' Q) :
    Ev (d + 12) m_La_law 413 [some (.ref 0), some (.ref gQ), some (.ref 25), some (.ref gO), some (.int (nI i)), o5, o6] [] w nc ns Q := by
  obtain ⟨X, Y, R, L, T, np, pc, bad, rej, cla, sl, lw, s, l, hC, hM, hP, hN, ht, hs, f, ho⟩ := hJ
  have hsl : sl < 2 ^ 30 := hM.2.2.2.1.2.1
  have hsl2 : sl + 1 < 2 ^ 30 := by have := hP.2.2.2.2; omega
  have hYo := ciR_Y hC
  refine t_La_law_413 hC.2.1 (Nat.le_of_ble_eq_true rfl) (c_Qask hC.1 hC.2.1 hC.2.2.2.1 hC.2.2.2.2 hsl (fun hall => ?_) (fun c hc hlt hmn hst w1 r g hH hme hrow => ?_))
  · refine t_La_law_417 hM.1.1 (Nat.le_of_ble_eq_true rfl) (c_mask hM.1.1 hM.2.2.2.2.1 hM.2.2.2.2.2.1 hYo hM.2.2.2.1 hsl2 (fun hall' w3 s3 g3 o3 es => ?_) (fun c' hc' hlt' => absurd (hall c' hc') (by omega)))
    exact t_La_law_421 (fun _ => t_La_law_1281 rfl (K _ _ _ _ _ (JI_same hC hM hP hN hs hk (fun v v1 v2 v3 => g3 v v3) o3 es (tmpI_f ht (Nat.le_refl _) (fun v hv => g3 v (by rintro rfl; omega))) (by omega) (by omega) (wl_f ho (g3 gO (by decide)))))) (fun g => absurd rfl g)
  · have hM1 := moR_f hM (fun v hv => g v (by omega))
    refine t_La_law_417 hM1.1.1 (Nat.le_of_ble_eq_true rfl) (c_mask hM1.1.1 hM1.2.2.2.2.1 hM1.2.2.2.2.2.1 hYo hM1.2.2.2.1 hsl2 (fun hall' => absurd (hall' c hc) (by omega)) (fun c' hc' hlt' hmn' hst' w3 R3 s3 g3 o3 es ma3 hR3 row3 => ?_))
    have ec : c' = c := by
      rcases Nat.lt_trichotomy c' c with e | e | e
      · have a1 := hst c' e; have a2 := hmn' c hc; omega
      · exact e
      · have a1 := hst' c e; have a2 := hmn c' hc'; omega
    subst ec
    have g3p : ∀ v, v % 16 ≠ 9 → w3 v = w1 v := fun v hv => g3 v (by rintro rfl; exact hv rfl) (by rintro rfl; exact hv (mA_9 _)) (by rintro rfl; exact hv (mA_9 _)) (by rintro rfl; exact hv (mA_9 _))
    have hC3 := ciR_air (sl' := sl + 1) (R' := R3) (L' := fu L (sl % 64) 16) (T' := fu T (sl % 64) false) hC (fun v v1 v2 => (g3p v v2).trans (g v v1)) (air_fill hH hme (fun v hv => g3p v (by omega)) hR3 (rowQ_uniq (meR_256 hme) (maR_256 ma3 _) hrow row3))
    have hM3 := moR_air hM1 o3 g3 es ma3
    have hP3 : jP (k + 1) X np pc (sl + 1) := by
      obtain ⟨h1, h2, h3, h4, h5, h6⟩ := hP
      exact ⟨h1, h2, h3, by omega, by omega, by omega⟩
    have hN3 : jN (k + 1) X Y (sl + 1) (nc + if sl < 64 then 2 else 0) (ns + if sl < 64 then 514 else 0) := by
      obtain ⟨a, b⟩ := hN
      exact ⟨by split <;> omega, by split <;> omega⟩
    exact t_La_law_421 (fun _ => t_La_law_1281 rfl (K _ _ _ _ _ ⟨X, Y, R3, fu L (sl % 64) 16, fu T (sl % 64) false, np, pc, bad, rej, cla, sl + 1, lw, s3, l, hC3, hM3, hP3, hN3, tmpI_f ht (by omega) (fun v hv => (g3p v (by omega)).trans (g v (by omega))), wi_f hs ((g3p 0 (by decide)).trans (g 0 (by decide))), f, wl_f ho ((g3p gO (by decide)).trans (g gO (by decide)))⟩)) (fun g => absurd rfl g)
end La4
