/-! ===== the reference: an empty message; a turn ===== -/
theorem fu_pr {α β : Type} (g : α → β) {f : Nat → α} {c : Nat} {y : α} (h : g y = g (f c)) (c' : Nat) : g (fu f c y c') = g (f c') := by
  by_cases e : c' = c
  · rw [e, fu_s, h]
  · rw [fu_n _ _ e]
theorem msR_f {w w' : qk_W} {s s' : Nat → Int32} {l l' : Nat → Int64} {X : Nat → Chs} {np pc : Nat} (h : msR w s l X np pc) (o : moO w' s' l') (e11 : s' 11 = s 11) (e5 : s' 5 = s 5) (g : ∀ k, 1 ≤ k → k ≤ 10 → k ≠ 5 → w' (mA k) = w (mA k)) : msR w' s' l' X np pc := by
  obtain ⟨ho, h11, h5, ⟨f1, w1, hf1⟩, ⟨f4, ⟨⟨f2, w2, hf2⟩, ⟨f3, w3, hf3⟩, w4⟩, h4⟩, hpl⟩ := h
  exact ⟨o, by rw [e11]; exact h11, by rw [e5]; exact h5, ⟨f1, wi_f w1 (g 1 (by omega) (by omega) (by omega)), hf1⟩, ⟨f4, ⟨⟨f2, wi_f w2 (g 2 (by omega) (by omega) (by omega)), hf2⟩, ⟨f3, wi_f w3 (g 3 (by omega) (by omega) (by omega)), hf3⟩, wi_f w4 (g 4 (by omega) (by omega) (by omega))⟩, h4⟩, plR_f hpl (fun k a b => g k (by omega) b (by omega))⟩
theorem msR_same {w : qk_W} {s : Nat → Int32} {l : Nat → Int64} {X : Nat → Chs} {np pc c : Nat} {y : Chs} (h : msR w s l X np pc) (e1 : xS y = xS (X c)) (e2 : xT y = xT (X c)) (e3 : xC y = xC (X c)) (e4 : xF y = xF (X c)) (e8 : plR w (fu X c y) np) : msR w s l (fu X c y) np pc := by
  obtain ⟨ho, h11, h5, ⟨f1, w1, hf1⟩, ⟨f4, ⟨⟨f2, w2, hf2⟩, ⟨f3, w3, hf3⟩, w4⟩, h4⟩, hpl⟩ := h
  have a1 : ∀ c', xS (fu X c y c') = xS (X c') := fu_pr xS e1
  have a2 : ∀ c', xT (fu X c y c') = xT (X c') := fu_pr xT e2
  have a3 : ∀ c', xC (fu X c y c') = xC (X c') := fu_pr xC e3
  have a4 : ∀ c', xF (fu X c y c') = xF (X c') := fu_pr xF e4
  refine ⟨ho, h11, h5, ⟨f1, w1, fun c' hc' a ha => ?_⟩, ⟨f4, ⟨⟨f2, w2, fun c' hc' => ?_⟩, ⟨f3, w3, fun c' hc' => ?_⟩, w4⟩, fun c' hc' => ?_⟩, e8⟩
  · rw [a1]; rw [a2] at ha; exact hf1 c' hc' a ha
  · rw [a2]; exact hf2 c' hc'
  · rw [a4, a3]; exact hf3 c' hc'
  · unfold obX opnX
    rw [a1, a2, a3, a4]
    exact h4 c' hc'
theorem akR_same {w : qk_W} {X : Nat → Chs} {c : Nat} {y : Chs} (h : akR w X) (e : xA y = xA (X c)) : akR w (fu X c y) := by
  obtain ⟨f, hf, hf'⟩ := h
  refine ⟨f, hf, fun c' hc' a ha => ?_⟩
  by_cases ec : c' = c
  · subst ec; rw [fu_s, e]; exact hf' c' hc' a ha
  · rw [fu_n _ _ ec]; exact hf' c' hc' a ha
theorem seg {F : Nat → Nat} {a : Nat} (h0 : F 0 = 0) : ∀ n, a < F n → ∃ t, t < n ∧ F t ≤ a ∧ a < F (t + 1)
  | 0, h => absurd h (by rw [h0]; omega)
  | n + 1, h => by
    rcases Nat.lt_or_ge a (F n) with e | e
    · obtain ⟨t, t1, t2⟩ := seg h0 n e
      exact ⟨t, by omega, t2⟩
    · exact ⟨n, by omega, e, h⟩
theorem moL_13 {s : Nat → Int32} {l : Nat → Int64} {x : Int32} : (moL s l).set 13 (.int x) = moL (fu s 13 x) l := by
  unfold moL
  simp [fu]
section Mo16
variable {d : Nat} {w : qk_W} {nc ns : Nat} {Q : Option Value ⊕ Nat → qk_W → Nat → Nat → Prop} {s : Nat → Int32} {l : Nat → Int64} {X : Nat → Chs} {np pc : Nat} {R : Nat → Nat → Nat} {L : Nat → Nat} {T : Nat → Bool} {sl : Nat}
theorem c_msendEmpty {c : Nat} (h : msR w s l X np pc) (h0 : xF (X c) 0 = 0) (hF : xF (X c) (xC (X c) - 32) ≤ 32768) (ha : maR w s sl R L T) (hsl : sl + 1 < 2 ^ 30) (hc : c < 4) (hnp : np ≤ 4096)
    (hq : ∀ w' R' s', (∀ v, v ≠ 25 → v ≠ mA 14 → v ≠ mA 15 → v ≠ mA 16 → w' v = w v) → moO w' s' l → (∀ k, k ≠ 17 → k ≠ 24 → k ≠ 25 → s' k = s k) → maR w' s' (sl + 1) R' (fu L (sl % 64) 24) (fu T (sl % 64) false) → (∀ i, i ≠ sl % 64 → R' i = R i) → rowE (R' (sl % 64)) c (xF (X c) (xC (X c) - 32)) → Q (.inl (some (.int (nI sl)))) w' nc ns) :
    Ev (d + 2) m_Mo_sendEmpty 0 [some (.ref 25), some (.int (nI c))] [] w nc ns Q := by
  obtain ⟨ho, h11, h5, hsm, ⟨f4, hmc, h4⟩, hpl⟩ := id h
  have hj : sl % 64 < 64 := Nat.mod_lt _ (by omega)
  generalize hold : xF (X c) (xC (X c) - 32) = old at *
  have fA : ∀ {w3 A a}, wrS w s l R T (sl % 64) w3 A → 0 < a → a ≠ 14 → a ≠ 16 → w3 (mA a) = w (mA a) := fun {w3 A a} k h0 h1 h2 => k.1 _ (mA_25 h0) (mA_ne h1) (mA_ne h2)
  have v0 : vN (0 : Int32) = 0 := by decide
  refine t_Mo_sendEmpty_0 ho (Nat.le_of_ble_eq_true rfl) (c_mbeginW ho ha (fun w2 k2 => ?_))
  obtain ⟨s2, o2, _⟩ := id k2.2.1
  refine t_Mo_sendEmpty_4 o2 (Nat.le_of_ble_eq_true rfl) (c_mputW (n := 8) k2 hj (by omega) (by show 0 + 8 ≤ 4096; omega) (fun w3 k3 => ?_))
  rw [vN_nI (by omega)] at k3
  obtain ⟨s3, o3, _⟩ := id k3.2.1
  refine t_Mo_sendEmpty_11 o3 (Nat.le_of_ble_eq_true rfl) (c_mputW (n := 24) k3 hj (by omega) (by show 0 + 8 + 24 ≤ 4096; omega) (fun w4 k4 => ?_))
  rw [v0] at k4
  obtain ⟨s5, o5, _, _, hs5⟩ := id k4.2.1
  refine t_Mo_sendEmpty_18 o5 (Nat.le_of_ble_eq_true rfl) (c_moldest o5 (by rw [hs5 11 (by omega) (by omega)]; exact h11) (plR_f hpl (fun k a b => fA k4 (by omega) (by omega) (by omega))) hc hnp h0 ?_)
  rw [hold]
  refine t_Mo_sendEmpty_24 o5 (Nat.le_of_ble_eq_true rfl) (c_mputW (n := 32) k4 hj (by omega) (by show 0 + 8 + 24 + 32 ≤ 4096; omega) (fun w6 k6 => ?_))
  rw [vN_nI (by omega)] at k6
  obtain ⟨s6, o6, _⟩ := id k6.2.1
  refine t_Mo_sendEmpty_29 o6 (Nat.le_of_ble_eq_true rfl) (c_mputW (n := 32) k6 hj (by omega) (by show 0 + 8 + 24 + 32 + 32 ≤ 4096; omega) (fun w7 k7 => ?_))
  rw [v0] at k7
  obtain ⟨s7, o7, _⟩ := id k7.2.1
  refine t_Mo_sendEmpty_36 o7 (Nat.le_of_ble_eq_true rfl) (c_mputW (n := 32) k7 hj (by omega) (by show 0 + 8 + 24 + 32 + 32 + 32 ≤ 4096; omega) (fun w8 k8 => ?_))
  rw [v0] at k8
  obtain ⟨s8, o8, _⟩ := id k8.2.1
  refine t_Mo_sendEmpty_43 o8 (Nat.le_of_ble_eq_true rfl) (c_mputW (n := 32) k8 hj (by omega) (by show 0 + 8 + 24 + 32 + 32 + 32 + 32 ≤ 4096; omega) (fun w9 k9 => ?_))
  rw [v0] at k9
  have e24 := app_app (st := app (0, fun _ => false) c 8) (v := 0) (w1 := 8) (w2 := 16)
  rw [Nat.zero_div] at e24
  rw [← e24] at k9
  have kH : wrS w s l R T (sl % 64) w9 (hdS c 0 0 old 0 0 0) := k9
  obtain ⟨s9, o9, _⟩ := id kH.2.1
  refine t_Mo_sendEmpty_50 o9 (Nat.le_of_ble_eq_true rfl) (c_mendW kH ha hsl (by show 160 ≤ 4064; omega) (by show 96 ≤ 160; omega) (fun w4 R4 s4 e4 o4 hs4 m4 hR4 lo4 ck4 => t_Mo_sendEmpty_54 ?_))
  have e20 : ((hdS c 0 0 old 0 0 0).1 + 7) / 8 = 20 := by show (160 + 7) / 8 = 20; rfl
  rw [e20] at m4 lo4 ck4
  refine hq w4 R4 s4 e4 o4 hs4 m4 hR4 ?_
  have gH : ∀ p, p < 160 → rbit (R4 (sl % 64)) p = (hdS c 0 0 old 0 0 0).2 p := lo4
  obtain ⟨b1, b2, b3, b4, b5, b6, b7⟩ := hdS_bits c 0 0 old 0 0 0
  refine ⟨getN_is (by omega) (fun i hi => ?_), getN_is (by omega) (fun i hi => ?_), getN_is (by omega) (fun i hi => ?_), getN_is (by omega) (fun i hi => ?_), getN_is (by omega) (fun i hi => ?_), getN_is (by omega) (fun i hi => ?_), getN_is (by omega) (fun i hi => ?_), ck4⟩
  · rw [gH _ (by omega)]; exact b1 i hi
  · rw [gH _ (by omega)]; exact b2 i hi
  · rw [gH _ (by omega)]; exact b3 i hi
  · rw [gH _ (by omega)]; exact b4 i hi
  · rw [gH _ (by omega)]; exact b5 i hi
  · rw [gH _ (by omega)]; exact b6 i hi
  · rw [gH _ (by omega)]; exact b7 i hi
theorem plF_setU {c : Nat} {f6 f7 f8 f9 f10 : Nat → Int32} (h : plF X np f6 f7 f8 f9 f10) (hc : c < 4) (hw : wtX (X c)) : plF (fu X c (setU (X c) (fwX (X c) + 1))) np f6 f7 f8 f9 (upd f10 (xO (X c) (fwX (X c))) 0) := by
  obtain ⟨ha, hb, hm⟩ := h
  have aC : ∀ c', xC (fu X c (setU (X c) (fwX (X c) + 1)) c') = xC (X c') := fu_pr xC rfl
  have aO : ∀ c', xO (fu X c (setU (X c) (fwX (X c) + 1)) c') = xO (X c') := fu_pr xO rfl
  refine ⟨fun c' hc' t ht => ?_, fun p hp => ?_, fun c' hc' t u htu hu => ?_⟩
  · rw [aC] at ht
    rw [aO]
    obtain ⟨a1, a2, a3, a4, a5, a6⟩ := ha c' hc' t ht
    by_cases ec : c' = c
    · subst ec
      rw [fu_s]
      refine ⟨a1, a2, a3, a4, a5, ?_⟩
      have e1 : fwX (setU (X c') (fwX (X c') + 1)) = fwX (X c') + 1 := by
        show max (fwX (X c') + 1) (xC (X c') - 32) = _
        unfold fwX; omega
      rw [e1]
      by_cases et : t = fwX (X c')
      · subst et
        rw [pk_us, decide_eq_false (by omega)]; rfl
      · have hne : xO (X c') t ≠ xO (X c') (fwX (X c')) := by
          intro e
          rcases Nat.lt_or_ge t (fwX (X c')) with g | g
          · have := hm c' hc _ _ g hw; omega
          · have := hm c' hc (fwX (X c')) t (by omega) ht; omega
        rw [pk_un hne, a6]
        congr 1
        exact decide_eq_decide.mpr (by omega)
    · rw [fu_n _ _ ec]
      refine ⟨a1, a2, a3, a4, a5, ?_⟩
      rw [pk_un, a6]
      intro e
      have b2 := (ha c hc _ hw).2.1
      rw [← e, a2] at b2
      exact ec ((nI_eq (by omega) (by omega)).mp b2)
  · obtain ⟨c', hc', t, ht, hp'⟩ := hb p hp
    exact ⟨c', hc', t, by rw [aC]; exact ht, by rw [aO]; exact hp'⟩
  · rw [aC] at hu
    rw [aO]
    exact hm c' hc' t u htu hu
theorem chI_u {S : Nat → Int32} {tk cl : Nat} {F q : Nat → Nat} {us us' : Nat} (h : chI S tk cl F q us) (hu : us' ≤ cl) : chI S tk cl F q us' := ⟨h.1, h.2.1, h.2.2.1, h.2.2.2.1, h.2.2.2.2.1, h.2.2.2.2.2.1, hu⟩
def chJ (X : Nat → Chs) : Prop := ∀ c, c < 4 → chI (xS (X c)) (xT (X c)) (xC (X c)) (xF (X c)) (xQ (X c)) (xU (X c))
theorem c_mturn {lw : Bool} (h : msR w s l X np pc) (hJ : chJ X) (hk : akR w X) (h13 : s 13 = b2i lw) (hA : ∀ c, c < 4 → ∀ n, n < 32768 → xA (X c) n = true → n < xF (X c) (xC (X c))) (ha : maR w s sl R L T) (hsl : sl + 1 < 2 ^ 30) (hnp : np < 4096)
    (hq1 : ∀ c, c < 4 → wtX (X c) → (∀ c', c' < 4 → wtX (X c') → xO (X c) (fwX (X c)) ≤ xO (X c') (fwX (X c'))) → ((∀ c', c' < 4 → laX (X c') = 32768) ∨ lw = false) → ∀ w' R' s', (∀ v, v ≠ 25 → v ≠ mA 10 → v ≠ mA 14 → v ≠ mA 15 → v ≠ mA 16 → w' v = w v) → (∀ k, k ≠ 0 → k ≠ 13 → k ≠ 17 → k ≠ 24 → k ≠ 25 → s' k = s k) → s' 13 = b2i true → msR w' s' l (fu X c (setU (X c) (fwX (X c) + 1))) np pc → akR w' (fu X c (setU (X c) (fwX (X c) + 1))) → maR w' s' (sl + 1) R' (fu L (sl % 64) (szP (xS (X c)) (xF (X c) (fwX (X c))) (xF (X c) (fwX (X c) + 1) - xF (X c) (fwX (X c))))) (fu T (sl % 64) false) → (∀ i, i ≠ sl % 64 → R' i = R i) → rowM (R' (sl % 64)) c (xS (X c)) (xF (X c) (fwX (X c))) (xF (X c) (fwX (X c) + 1) - xF (X c) (fwX (X c))) (xQ (X c) (fwX (X c))) (xF (X c) (xC (X c) - 32)) → Q (.inl (some (.int (nI sl)))) w' nc ns)
    (hq2 : ∀ c, c < 4 → laX (X c) < 32768 → (∀ c', c' < 4 → laX (X c) ≤ laX (X c')) → (∀ c', c' < c → laX (X c) < laX (X c')) → ((∀ c', c' < 4 → ¬ wtX (X c')) ∨ lw = true) → laX (X c) < xF (X c) (xC (X c) - 32) → ∀ w' R' s', (∀ v, v ≠ 25 → v ≠ mA 12 → v ≠ mA 14 → v ≠ mA 15 → v ≠ mA 16 → w' v = w v) → (∀ k, k ≠ 0 → k ≠ 13 → k ≠ 17 → k ≠ 24 → k ≠ 25 → s' k = s k) → s' 13 = b2i false → msR w' s' l (fu X c (setA (X c) (delR (xA (X c)) 0 (xF (X c) (xC (X c) - 32) - 1)))) np pc → akR w' (fu X c (setA (X c) (delR (xA (X c)) 0 (xF (X c) (xC (X c) - 32) - 1)))) → maR w' s' (sl + 1) R' (fu L (sl % 64) 24) (fu T (sl % 64) false) → (∀ i, i ≠ sl % 64 → R' i = R i) → rowE (R' (sl % 64)) c (xF (X c) (xC (X c) - 32)) → Q (.inl (some (.int (nI sl)))) w' nc ns)
    (hq3 : ∀ c, c < 4 → laX (X c) < 32768 → (∀ c', c' < 4 → laX (X c) ≤ laX (X c')) → (∀ c', c' < c → laX (X c) < laX (X c')) → ((∀ c', c' < 4 → ¬ wtX (X c')) ∨ lw = true) → xF (X c) (xC (X c) - 32) ≤ laX (X c) → ∀ t, t < xC (X c) → xF (X c) t ≤ laX (X c) → laX (X c) < xF (X c) (t + 1) → ∀ w' R' s', (∀ v, v ≠ 25 → v ≠ mA 12 → v ≠ mA 14 → v ≠ mA 15 → v ≠ mA 16 → w' v = w v) → (∀ k, k ≠ 0 → k ≠ 13 → k ≠ 17 → k ≠ 24 → k ≠ 25 → s' k = s k) → s' 13 = b2i false → msR w' s' l (fu X c (setA (X c) (delR (xA (X c)) (xF (X c) t) (xF (X c) (t + 1) - 1)))) np pc → akR w' (fu X c (setA (X c) (delR (xA (X c)) (xF (X c) t) (xF (X c) (t + 1) - 1)))) → maR w' s' (sl + 1) R' (fu L (sl % 64) (szP (xS (X c)) (xF (X c) t) (xF (X c) (t + 1) - xF (X c) t))) (fu T (sl % 64) false) → (∀ i, i ≠ sl % 64 → R' i = R i) → rowM (R' (sl % 64)) c (xS (X c)) (xF (X c) t) (xF (X c) (t + 1) - xF (X c) t) (xQ (X c) t) (xF (X c) (xC (X c) - 32)) → Q (.inl (some (.int (nI sl)))) w' nc ns)
    (hq0 : (∀ c', c' < 4 → ¬ wtX (X c')) → (∀ c', c' < 4 → laX (X c') = 32768) → ∀ w', (∀ v, v ≠ 25 → w' v = w v) → moO w' (fu s 0 0) l → Q (.inl (some (.int (-1)))) w' nc ns) :
    Ev (d + 3) m_Mo_turn 0 [some (.ref 25), none, none, none, none, none] [] w nc ns Q := by
  refine t_Mo_turn_0 h.1 (Nat.le_of_ble_eq_true rfl) (es_w (fun w1 e1 g1 => ?_))
  rw [moL_0] at e1
  have o1 : moO w1 (fu s 0 0) l := ⟨by decide, e1⟩
  have h1 := msR_0 h o1 g1
  have k1 : akR w1 X := akR_f hk (g1 _ (mA_25 (by omega)))
  have a1 : maR w1 (fu s 0 0) sl R L T := maR_f ha (fu_n _ _ (by omega)) (g1 _ (mA_25 (by omega))) (g1 _ (mA_25 (by omega))) (g1 _ (mA_25 (by omega)))
  have s13 : fu s 0 0 13 = b2i lw := by rw [fu_n _ _ (by omega)]; exact h13
  have hs1 : ∀ k, k ≠ 0 → fu s 0 0 k = s k := fun k hk => fu_n _ _ hk
  obtain ⟨_, h11, h5, hsm, ⟨f4, hmc, h4⟩, ⟨f6, f7, f8, f9, f10, w6, w7, w8, w9, w10, hP⟩⟩ := id h1
  generalize hss : fu s 0 0 = s1 at *
  -- what is found at the head of the waiting ones
  have wq : ∀ p, p < np → f10 p ≠ 0 → (∀ q, q < p → f10 q = 0) → ∃ c, c < 4 ∧ wtX (X c) ∧ xO (X c) (fwX (X c)) = p ∧ (∀ c', c' < 4 → wtX (X c') → xO (X c) (fwX (X c)) ≤ xO (X c') (fwX (X c'))) := by
    intro p hp hne hlo
    obtain ⟨c, hc, t, ht, hpt⟩ := hP.2.1 p hp
    have a6 := (hP.1 c hc t ht).2.2.2.2.2
    rw [hpt] at a6
    have hft : fwX (X c) ≤ t := by
      rcases Nat.lt_or_ge t (fwX (X c)) with e | e
      · rw [decide_eq_false (by omega)] at a6; exact absurd a6 hne
      · exact e
    have hwt : wtX (X c) := by unfold wtX; omega
    have hmin : ∀ c', c' < 4 → wtX (X c') → p ≤ xO (X c') (fwX (X c')) := by
      intro c' hc' hw'
      rcases Nat.lt_or_ge (xO (X c') (fwX (X c'))) p with e | e
      · have b6 := (hP.1 c' hc' _ hw').2.2.2.2.2
        rw [hlo _ e, decide_eq_true (Nat.le_refl _)] at b6
        exact absurd b6 (by decide)
      · exact e
    have htf : xO (X c) (fwX (X c)) = p := by
      rcases Nat.eq_or_lt_of_le hft with e | e
      · rw [e]; exact hpt
      · have := hP.2.2 c hc _ _ e ht
        have := hmin c hc hwt
        omega
    exact ⟨c, hc, hwt, htf, fun c' hc' hw' => by rw [htf]; exact hmin c' hc' hw'⟩
  have nowait : (∀ q, q < np → f10 q = 0) → ∀ c', c' < 4 → ¬ wtX (X c') := by
    intro hz c' hc' hw'
    have b := hP.1 c' hc' _ hw'
    have b6 := b.2.2.2.2.2
    rw [hz _ b.1, decide_eq_true (Nat.le_refl _)] at b6
    exact absurd b6 (by decide)
  -- nothing waits, or it is the asked one's turn
  have rest : ∀ (fst : Nat) (c3 : Option Value) (best : Nat), best < 4 → (∀ c', c' < 4 → laX (X best) ≤ laX (X c')) → (∀ c', c' < best → laX (X best) < laX (X c')) → ((∀ c', c' < 4 → ¬ wtX (X c')) ∨ (laX (X best) ≠ 32768 ∧ lw = true)) → Ev (d + 3) m_Mo_turn 109 [some (.ref 25), some (.int (nI fst)), some (.int (nI best)), some (.int (nI (laX (X best)))), none, none] [] w1 nc ns Q := by
    intro fst c3 best hb4 hmn hst hcase
    have hla := laX_le (X best)
    refine t_Mo_turn_109 (fun g => ?_) (fun g => ?_)
    · have hne : laX (X best) ≠ 32768 := fun e => g (by rw [e]; rfl)
      have hlt : laX (X best) < 32768 := by omega
      have hcs : (∀ c', c' < 4 → ¬ wtX (X c')) ∨ lw = true := hcase.elim Or.inl (fun e => Or.inr e.2)
      refine t_Mo_turn_117 o1 (Nat.le_of_ble_eq_true rfl) (es_w (fun w2 e2 g2 => ?_))
      rw [moL_13] at e2
      have o2 : moO w2 (fu s1 13 0) l := ⟨by decide, e2⟩
      have h2 : msR w2 (fu s1 13 0) l X np pc := msR_f h1 o2 (fu_n _ _ (by omega)) (fu_n _ _ (by omega)) (fun k a b c => g2 _ (mA_25 (by omega)))
      have k2 : akR w2 X := akR_f k1 (g2 _ (mA_25 (by omega)))
      have a2 : maR w2 (fu s1 13 0) sl R L T := maR_f a1 (fu_n _ _ (by omega)) (g2 _ (mA_25 (by omega))) (g2 _ (mA_25 (by omega))) (g2 _ (mA_25 (by omega)))
      have hs2 : ∀ k, k ≠ 0 → k ≠ 13 → fu s1 13 0 k = s k := fun k k0 k13 => by rw [fu_n _ _ k13]; exact hs1 k k0
      have f2 : ∀ v, v ≠ 25 → w2 v = w v := fun v hv => (g2 v hv).trans (g1 v hv)
      have hI := hJ best hb4
      obtain ⟨i1, i2, i3, i4, i5, i6, i7⟩ := id hI
      have m2 := chI_mono hI (xC (X best)) (Nat.le_refl _) (xC (X best) - 32) (by omega)
      refine t_Mo_turn_122 o2 (Nat.le_of_ble_eq_true rfl) (c_moldest o2 h2.2.1 h2.2.2.2.2.2 hb4 (by omega) i1 (t_Mo_turn_127 rfl (fun g3 => ?_) (fun g3 => ?_)))
      · have hle : xF (X best) (xC (X best) - 32) ≤ laX (X best) := (nI_leI (by omega) (by omega)).mp g3
        -- the packet that has it
        have hin : laX (X best) < xF (X best) (xC (X best)) := by
          have sp := nxt_spec (fun n => xA (X best) n == true) (s := 0) (by omega)
          have := sp.2.2.2 hlt
          exact hA best hb4 _ hlt (beq_iff_eq.mp (show (xA (X best) (laX (X best)) == true) = true from this))
        obtain ⟨t, ht, t1, t2⟩ := seg i1 (xC (X best)) hin
        obtain ⟨q1, q2, q3, q4, q5, q6⟩ := hP.1 best hb4 t ht
        obtain ⟨jt1, jt2, jt3, jt4⟩ := i2 t ht
        have mt := chI_mono hI (xC (X best)) (Nat.le_refl _) (t + 1) (by omega)
        have gg : ∀ {a}, 0 < a → w2 (mA a) = w1 (mA a) := fun {a} h => g2 _ (mA_25 h)
        -- found
        have fnd : Ev (d + 3) m_Mo_turn 199 [some (.ref 25), some (.int (nI fst)), some (.int (nI best)), some (.int (nI (laX (X best)))), some (.int (nI (xF (X best) (xC (X best) - 32)))), some (.int (nI (xO (X best) t)))] [] w2 nc ns Q := by
          have pin : vp_in (nI (xO (X best) t)) 4096 := vp_in_nI (by omega) (by omega)
          have pcl : (nI (xO (X best) t)).toNatClampNeg = xO (X best) t := nI_clamp (by omega)
          refine t_Mo_turn_199 o2 rfl (wi_f w7 (gg (by omega))) pin rfl (wi_f w8 (gg (by omega))) pin (Nat.le_of_ble_eq_true rfl) ?_
          rw [pcl, q3, q4, nI_add, show xF (X best) t + (xF (X best) (t + 1) - xF (X best) t) = xF (X best) (t + 1) by omega]
          refine c_munask o2 k2 hb4 (by omega) (by omega) (fun w3 g3' k3 => ?_)
          have o3 := moO_f o2 (g3' 25 (Ne.symm (mA_25 (by omega))))
          have h3 : msR w3 (fu s1 13 0) l X np pc := msR_f h2 o3 rfl rfl (fun k a b c => g3' _ (mA_ne (by omega)))
          have h3' : msR w3 (fu s1 13 0) l (fu X best (setA (X best) (delR (xA (X best)) (xF (X best) t) (xF (X best) (t + 1) - 1)))) np pc := msR_same h3 rfl rfl rfl rfl (plR_same h3.2.2.2.2.2 rfl rfl rfl rfl rfl)
          have a3 : maR w3 (fu s1 13 0) sl R L T := maR_f a2 rfl (g3' _ (mA_ne (by omega))) (g3' _ (mA_ne (by omega))) (g3' _ (mA_ne (by omega)))
          refine t_Mo_turn_226 o3 (Nat.le_of_ble_eq_true rfl) (c_mmsend (c := best) (t := t) h3 hI a3 hsl hb4 ht (by omega) (fun w4 R4 s4 e4 o4 hs4 m4 hR4 r4 => t_Mo_turn_232 ?_))
          have f4' : ∀ k, 1 ≤ k → k ≠ 14 → k ≠ 15 → k ≠ 16 → w4 (mA k) = w3 (mA k) := fun k a b c d => e4 _ (mA_25 (by omega)) (mA_ne b) (mA_ne c) (mA_ne d)
          exact hq3 best hb4 hlt hmn hst hcs hle t ht t1 t2 w4 R4 s4 (fun v v1 v2 v3 v4 v5 => by rw [e4 v v1 v3 v4 v5, g3' v v2]; exact f2 v v1) (fun k a b c d e => by rw [hs4 k c d e]; exact hs2 k a b) (by rw [hs4 13 (by omega) (by omega) (by omega), fu_s]; rfl) (msR_f h3' o4 (hs4 11 (by omega) (by omega) (by omega)) (hs4 5 (by omega) (by omega) (by omega)) (fun k a b c => f4' k a (by omega) (by omega) (by omega))) (akR_f k3 (f4' 12 (by omega) (by omega) (by omega) (by omega))) m4 hR4 r4
        refine t_Mo_turn_149 rfl ?_
        have loop : ∀ u p, p + u = xO (X best) t → Ev (d + 3) m_Mo_turn 152 [some (.ref 25), some (.int (nI fst)), some (.int (nI best)), some (.int (nI (laX (X best)))), some (.int (nI (xF (X best) (xC (X best) - 32)))), some (.int (nI p))] [] w2 nc ns Q := by
          intro u
          induction u with
          | zero =>
            intro p hp
            have ep : p = xO (X best) t := by omega
            subst ep
            have pin : vp_in (nI (xO (X best) t)) 4096 := vp_in_nI (by omega) (by omega)
            have pcl : (nI (xO (X best) t)).toNatClampNeg = xO (X best) t := nI_clamp (by omega)
            refine t_Mo_turn_152 o2 rfl (wi_f w6 (gg (by omega))) pin (fun g => absurd (by rw [pcl]; exact q2) g) (fun _ => ?_)
            refine t_Mo_turn_163 o2 rfl (wi_f w7 (gg (by omega))) pin (fun g => ?_) (fun _ => ?_)
            · rw [pcl, q3] at g
              exact absurd ((nI_ltI (by omega) (by omega)).mp g) (by omega)
            · refine t_Mo_turn_174 o2 rfl (wi_f w7 (gg (by omega))) pin rfl (wi_f w8 (gg (by omega))) pin (fun _ => fnd) (fun g => absurd ?_ g)
              rw [pcl, q3, q4, nI_add]
              exact nI_lt (by omega) (by omega)
          | succ u ih =>
            intro p hp
            have hpn : p < np := by omega
            obtain ⟨c', hc', t', ht', hpt⟩ := hP.2.1 p hpn
            obtain ⟨r1, r2, r3, r4, r5, r6⟩ := hP.1 c' hc' t' ht'
            rw [hpt] at r1 r2 r3 r4 r5 r6
            have pin : vp_in (nI p) 4096 := vp_in_nI (by omega) (by omega)
            have pcl : (nI p).toNatClampNeg = p := nI_clamp (by omega)
            have nxt' : Ev (d + 3) m_Mo_turn 193 [some (.ref 25), some (.int (nI fst)), some (.int (nI best)), some (.int (nI (laX (X best)))), some (.int (nI (xF (X best) (xC (X best) - 32)))), some (.int (nI p))] [] w2 nc ns Q := by
              refine t_Mo_turn_193 rfl ?_
              rw [nI_1]
              exact ih (p + 1) (by omega)
            have hI' := hJ c' hc'
            obtain ⟨u1, u2, u3, u4, u5, u6, u7⟩ := id hI'
            have mt' := chI_mono hI' (xC (X c')) (Nat.le_refl _) (t' + 1) (by omega)
            have mt'' := u2 t' ht'
            refine t_Mo_turn_152 o2 rfl (wi_f w6 (gg (by omega))) pin (fun _ => nxt') (fun g4 => ?_)
            rw [pcl, r2] at g4
            have ec : c' = best := (nI_eq (by omega) (by omega)).mp g4
            subst ec
            refine t_Mo_turn_163 o2 rfl (wi_f w7 (gg (by omega))) pin (fun _ => nxt') (fun g5 => ?_)
            rw [pcl, r3] at g5
            have g5' : xF (X c') t' ≤ laX (X c') := Nat.le_of_not_lt (fun e => g5 (nI_lt e (by omega)))
            refine t_Mo_turn_174 o2 rfl (wi_f w7 (gg (by omega))) pin rfl (wi_f w8 (gg (by omega))) pin (fun g6 => ?_) (fun _ => nxt')
            rw [pcl, r3, r4, nI_add] at g6
            have g6' := (nI_ltI (by omega) (by omega)).mp g6
            -- the same packet: then p is it
            have : t' = t := by
              rcases Nat.lt_trichotomy t' t with e | e | e
              · have := chI_mono hI t (by omega) (t' + 1) (by omega)
                omega
              · exact e
              · have := chI_mono hI t' (by omega) (t + 1) (by omega)
                omega
            subst this
            omega
        exact loop (xO (X best) t) 0 (by omega)
      · have hlo : laX (X best) < xF (X best) (xC (X best) - 32) := Nat.lt_of_not_le (fun e => g3 (nI_le e (by omega)))
        refine t_Mo_turn_135 o2 (Nat.le_of_ble_eq_true rfl) (c_munask (fm := 0) o2 k2 hb4 (by omega) (by omega) (fun w3 g3' k3 => ?_))
        have o3 := moO_f o2 (g3' 25 (Ne.symm (mA_25 (by omega))))
        have h3 : msR w3 (fu s1 13 0) l X np pc := msR_f h2 o3 rfl rfl (fun k a b c => g3' _ (mA_ne (by omega)))
        have h3' : msR w3 (fu s1 13 0) l (fu X best (setA (X best) (delR (xA (X best)) 0 (xF (X best) (xC (X best) - 32) - 1)))) np pc := msR_same h3 rfl rfl rfl rfl (plR_same h3.2.2.2.2.2 rfl rfl rfl rfl rfl)
        have a3 : maR w3 (fu s1 13 0) sl R L T := maR_f a2 rfl (g3' _ (mA_ne (by omega))) (g3' _ (mA_ne (by omega))) (g3' _ (mA_ne (by omega)))
        refine t_Mo_turn_143 o3 (Nat.le_of_ble_eq_true rfl) (c_msendEmpty (c := best) h3 i1 (by omega) a3 hsl hb4 (by omega) (fun w4 R4 s4 e4 o4 hs4 m4 hR4 r4 => t_Mo_turn_148 ?_))
        have f4' : ∀ k, 1 ≤ k → k ≠ 14 → k ≠ 15 → k ≠ 16 → w4 (mA k) = w3 (mA k) := fun k a b c d => e4 _ (mA_25 (by omega)) (mA_ne b) (mA_ne c) (mA_ne d)
        exact hq2 best hb4 hlt hmn hst hcs hlo w4 R4 s4 (fun v v1 v2 v3 v4 v5 => by rw [e4 v v1 v3 v4 v5, g3' v v2]; exact f2 v v1) (fun k a b c d e => by rw [hs4 k c d e]; exact hs2 k a b) (by rw [hs4 13 (by omega) (by omega) (by omega), fu_s]; rfl) (msR_f h3' o4 (hs4 11 (by omega) (by omega) (by omega)) (hs4 5 (by omega) (by omega) (by omega)) (fun k a b c => f4' k a (by omega) (by omega) (by omega))) (akR_f k3 (f4' 12 (by omega) (by omega) (by omega) (by omega))) m4 hR4 r4
    · have he : laX (X best) = 32768 := (nI_eq (b := 32768) (by omega) (by omega)).mp g
      have hno : ∀ c', c' < 4 → ¬ wtX (X c') := hcase.elim id (fun e => absurd he e.1)
      refine t_Mo_turn_115 (hq0 hno (fun c' hc' => ?_) w1 g1 o1)
      have := hmn c' hc'
      have := laX_le (X c')
      omega
  -- the best of the asked
  have bst : ∀ (fst : Nat), fst ≤ np → (∀ q, q < fst → f10 q = 0) → (fst < np → f10 fst ≠ 0) → Ev (d + 3) m_Mo_turn 30 [some (.ref 25), some (.int (nI fst)), none, none, none, none] [] w1 nc ns Q := by
    intro fst hf1 hf2 hf3
    have dec : ∀ best, best < 4 → (∀ c', c' < 4 → laX (X best) ≤ laX (X c')) → (∀ c', c' < best → laX (X best) < laX (X c')) → ∀ o3, Ev (d + 3) m_Mo_turn 64 [some (.ref 25), some (.int (nI fst)), some (.int (nI best)), o3, none, none] [] w1 nc ns Q := by
      intro best hb4 hmn hst o3
      have hla := laX_le (X best)
      refine t_Mo_turn_64 o1 (Nat.le_of_ble_eq_true rfl) (c_mleastAsked o1 k1 hb4 (t_Mo_turn_69 rfl o1 rfl (fun g => ?_) (fun g => ?_)))
      · rw [h11] at g
        have hge := (nI_leI (by omega) (by omega)).mp g
        exact rest fst none best hb4 hmn hst (Or.inl (nowait (fun q hq => hf2 q (by omega))))
      · rw [h11] at g
        have hlt : fst < np := Nat.lt_of_not_le (fun e => g (nI_le e (by omega)))
        obtain ⟨c, hc, hw, hO, hmin⟩ := wq fst hlt (hf3 hlt) hf2
        -- a waiting one is sent
        have snd : ((∀ c', c' < 4 → laX (X c') = 32768) ∨ lw = false) → Ev (d + 3) m_Mo_turn 91 [some (.ref 25), some (.int (nI fst)), some (.int (nI best)), some (.int (nI (laX (X best)))), none, none] [] w1 nc ns Q := by
          intro hcs
          have pcl : (nI fst).toNatClampNeg = fst := nI_clamp (by omega)
          refine t_Mo_turn_91 o1 rfl w10 (vp_in_nI (by omega) (by omega)) (es_w (fun w2 e2 g2 => ?_))
          rw [pcl] at e2
          have o2 := moO_f o1 (g2 25 (Ne.symm (mA_25 (by omega))))
          refine t_Mo_turn_98 o2 (Nat.le_of_ble_eq_true rfl) (es_w (fun w3 e3 g3 => ?_))
          rw [moL_13] at e3
          have o3 : moO w3 (fu s1 13 1) l := ⟨by decide, e3⟩
          have gg : ∀ a, 0 < a → a ≠ 10 → w3 (mA a) = w1 (mA a) := fun a h1 h2 => by rw [g3 _ (mA_25 h1), g2 _ (mA_ne h2)]
          have pl3 : plR w3 (fu X c (setU (X c) (fwX (X c) + 1))) np := ⟨f6, f7, f8, f9, upd f10 fst 0, wi_f w6 (gg 6 (by omega) (by omega)), wi_f w7 (gg 7 (by omega) (by omega)), wi_f w8 (gg 8 (by omega) (by omega)), wi_f w9 (gg 9 (by omega) (by omega)), ⟨mA_16 _, by rw [g3 _ (mA_25 (by omega))]; exact e2⟩, by rw [← hO]; exact plF_setU hP hc hw⟩
          have h3 : msR w3 (fu s1 13 1) l (fu X c (setU (X c) (fwX (X c) + 1))) np pc := by
            obtain ⟨_, _, _, ⟨f1, w1', hf1'⟩, ⟨f4', ⟨⟨f2', w2', hf2'⟩, ⟨f3', w3', hf3'⟩, w4'⟩, h4'⟩, _⟩ := h1
            have aS : ∀ c', xS (fu X c (setU (X c) (fwX (X c) + 1)) c') = xS (X c') ∧ xT (fu X c (setU (X c) (fwX (X c) + 1)) c') = xT (X c') ∧ xC (fu X c (setU (X c) (fwX (X c) + 1)) c') = xC (X c') ∧ xF (fu X c (setU (X c) (fwX (X c) + 1)) c') = xF (X c') := fun c' => by
              by_cases e : c' = c
              · rw [e, fu_s]; exact ⟨rfl, rfl, rfl, rfl⟩
              · rw [fu_n _ _ e]; exact ⟨rfl, rfl, rfl, rfl⟩
            refine ⟨o3, by rw [fu_n _ _ (by omega)]; exact h11, by rw [fu_n _ _ (by omega)]; exact h5, ⟨f1, wi_f w1' (gg 1 (by omega) (by omega)), fun c' hc' a ha => ?_⟩, ⟨f4', ⟨⟨f2', wi_f w2' (gg 2 (by omega) (by omega)), fun c' hc' => ?_⟩, ⟨f3', wi_f w3' (gg 3 (by omega) (by omega)), fun c' hc' => ?_⟩, wi_f w4' (gg 4 (by omega) (by omega))⟩, fun c' hc' => ?_⟩, pl3⟩
            · rw [(aS c').1]; rw [(aS c').2.1] at ha; exact hf1' c' hc' a ha
            · rw [(aS c').2.1]; exact hf2' c' hc'
            · rw [(aS c').2.2.2, (aS c').2.2.1]; exact hf3' c' hc'
            · unfold obX opnX
              rw [(aS c').1, (aS c').2.1, (aS c').2.2.1, (aS c').2.2.2]
              exact h4' c' hc'
          have a3 : maR w3 (fu s1 13 1) sl R L T := maR_f a1 (fu_n _ _ (by omega)) (gg 14 (by omega) (by omega)) (gg 15 (by omega) (by omega)) (gg 16 (by omega) (by omega))
          have k3 : akR w3 (fu X c (setU (X c) (fwX (X c) + 1))) := akR_same (akR_f k1 (gg 12 (by omega) (by omega))) rfl
          have hw' : fwX (X c) < xC (X c) := hw
          have cm := c_mmsend (d := d) (nc := nc) (ns := ns) (c := c) (t := fwX (X c)) (Q := fun r w1 nc1 ns1 => match r with | .inl v => Ev (d + 3) m_Mo_turn 108 [some (.ref 25), some (.int (nI fst)), some (.int (nI best)), some (.int (nI (laX (X best)))), none, none] (v.toList ++ []) w1 nc1 ns1 Q | .inr x => Q (.inr x) w1 nc1 ns1) h3 (by rw [fu_s]; exact chI_u (hJ c hc) (show fwX (X c) + 1 ≤ xC (X c) by omega)) a3 hsl hc (by rw [fu_s]; exact hw') (by omega) (fun w4 R4 s4 e4 o4 hs4 m4 hR4 r4 => t_Mo_turn_108 ?_)
          · rw [fu_s] at cm
            have e5 : xO (setU (X c) (fwX (X c) + 1)) (fwX (X c)) = fst := hO
            rw [e5] at cm
            exact t_Mo_turn_103 o3 (Nat.le_of_ble_eq_true rfl) cm
          · rw [fu_s] at m4 r4
            have f4' : ∀ k, 1 ≤ k → k ≠ 14 → k ≠ 15 → k ≠ 16 → w4 (mA k) = w3 (mA k) := fun k a b c d => e4 _ (mA_25 (by omega)) (mA_ne b) (mA_ne c) (mA_ne d)
            exact hq1 c hc hw hmin hcs w4 R4 s4 (fun v v1 v2 v3 v4 v5 => by rw [e4 v v1 v3 v4 v5, g3 v v1, g2 v v2]; exact g1 v v1) (fun k a b c d e => by rw [hs4 k c d e, fu_n _ _ b]; exact hs1 k a) (by rw [hs4 13 (by omega) (by omega) (by omega), fu_s]; rfl) (msR_f h3 o4 (hs4 11 (by omega) (by omega) (by omega)) (hs4 5 (by omega) (by omega) (by omega)) (fun k a b c => f4' k a (by omega) (by omega) (by omega))) (akR_f k3 (f4' 12 (by omega) (by omega) (by omega) (by omega))) m4 hR4 r4
        refine t_Mo_turn_78 (fun g2 => ?_) (fun g2 => ?_)
        · have he : laX (X best) = 32768 := (nI_eq (b := 32768) (by omega) (by omega)).mp g2
          refine snd (Or.inl (fun c' hc' => ?_))
          have := hmn c' hc'
          have := laX_le (X c')
          omega
        · have hne : laX (X best) ≠ 32768 := fun e => g2 (by rw [e]; rfl)
          refine t_Mo_turn_84 o1 rfl (fun g3 => ?_) (fun g3 => ?_)
          · rw [s13] at g3
            refine rest fst none best hb4 hmn hst (Or.inr ⟨hne, ?_⟩)
            cases lw
            · exact absurd rfl g3
            · rfl
          · rw [s13] at g3
            refine snd (Or.inr ?_)
            cases lw
            · rfl
            · exact absurd g3 (by decide)
    refine t_Mo_turn_30 rfl ?_
    have loop : ∀ u c, c + u = 4 → 1 ≤ c → ∀ best, best < c → (∀ c', c' < c → laX (X best) ≤ laX (X c')) → (∀ c', c' < best → laX (X best) < laX (X c')) → Ev (d + 3) m_Mo_turn 34 [some (.ref 25), some (.int (nI fst)), some (.int (nI best)), some (.int (nI c)), none, none] [] w1 nc ns Q := by
      intro u
      induction u with
      | zero =>
        intro c hcu hc1 best hb hmn hst
        have e4 : c = 4 := by omega
        subst e4
        exact t_Mo_turn_34 (fun _ => dec best hb hmn hst _) (fun g => absurd (by decide) g)
      | succ u ih =>
        intro c hcu hc1 best hb hmn hst
        have l1 := laX_le (X c)
        have l2 := laX_le (X best)
        refine t_Mo_turn_34 (fun g => absurd ((nI_leI (a := 4) (by omega) (by omega)).mp g) (by omega)) (fun _ => ?_)
        refine t_Mo_turn_39 o1 (Nat.le_of_ble_eq_true rfl) (c_mleastAsked o1 k1 (by omega) (t_Mo_turn_44 o1 (Nat.le_of_ble_eq_true rfl) (c_mleastAsked o1 k1 (by omega) (t_Mo_turn_49 (fun g => t_Mo_turn_56 rfl ?_) (fun g => t_Mo_turn_52 rfl ?_)))))
        · have hle := (nI_leI (by omega) (by omega)).mp g
          rw [nI_1]
          refine ih (c + 1) (by omega) (by omega) best (by omega) (fun c' hc' => ?_) hst
          by_cases e : c' = c
          · rw [e]; exact hle
          · exact hmn c' (by omega)
        · have hlt : laX (X c) < laX (X best) := Nat.lt_of_not_le (fun e => g (nI_le e (by omega)))
          rw [nI_1]
          refine ih (c + 1) (by omega) (by omega) c (by omega) (fun c' hc' => ?_) (fun c' hc' => ?_)
          · by_cases e : c' = c
            · rw [e]; exact Nat.le_refl _
            · have := hmn c' (by omega); omega
          · have := hmn c' hc'; omega
    refine loop 3 1 (by omega) (by omega) 0 (by omega) (fun c' hc' => ?_) (fun c' hc' => absurd hc' (by omega))
    rw [show c' = 0 by omega]
    exact Nat.le_refl _
  refine t_Mo_turn_5 rfl ?_
  have loop : ∀ u p, p + u = np → (∀ q, q < p → f10 q = 0) → Ev (d + 3) m_Mo_turn 7 [some (.ref 25), some (.int (nI p)), none, none, none, none] [] w1 nc ns Q := by
    intro u
    induction u with
    | zero =>
      intro p hp hz
      refine t_Mo_turn_7 o1 rfl (fun _ => bst p (by omega) hz (fun e => absurd e (by omega))) (fun g => absurd ?_ g)
      rw [h11]
      exact nI_le (by omega) (by omega)
    | succ u ih =>
      intro p hp hz
      have pcl : (nI p).toNatClampNeg = p := nI_clamp (by omega)
      refine t_Mo_turn_7 o1 rfl (fun g => ?_) (fun _ => ?_)
      · rw [h11] at g
        exact absurd ((nI_leI (by omega) (by omega)).mp g) (by omega)
      · refine t_Mo_turn_15 o1 rfl w10 (vp_in_nI (by omega) (by omega)) (fun g => ?_) (fun g => t_Mo_turn_24 rfl ?_)
        · rw [pcl] at g
          exact bst p (by omega) hz (fun _ => g)
        · rw [pcl] at g
          rw [nI_1]
          refine ih (p + 1) (by omega) (fun q hq => ?_)
          by_cases e : q = p
          · rw [e]; exact g
          · exact hz q (by omega)
  exact loop np 0 (by omega) (fun q hq => absurd hq (by omega))
end Mo16
