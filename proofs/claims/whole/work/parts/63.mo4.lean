/-! ===== the reference takes a sample ===== -/
def obX (x : Chs) : Nat := (eN (xS x) (xF x (xC x)) ((opnX x - 2) / 15)).1 - 160
def smA (w : qk_W) (X : Nat → Chs) : Prop := ∃ f1, wi w (mA 1) 131072 f1 ∧ ∀ c, c < 4 → ∀ a, a < xT (X c) → f1 (32768 * c + a) = xS (X c) a
theorem fu_fu {α : Type} (f : Nat → α) (k : Nat) (a b : α) : fu (fu f k a) k b = fu f k b := by
  funext j
  unfold fu
  split <;> rfl
theorem eN_le (S : Nat → Int32) (fi b : Nat) : (eN S fi b).1 ≤ 160 + 484 * b := by
  induction b with
  | zero => exact Nat.le_refl _
  | succ b ih =>
    rw [eN, eB_1]
    have := wd_le (cod S fi (15 * b + 1) 15)
    omega
/-- what the list says does not see the samples nor how many were taken -/
theorem plR_same {w : qk_W} {X : Nat → Chs} {np c : Nat} {y : Chs} (h : plR w X np) (e1 : xC y = xC (X c)) (e2 : xF y = xF (X c)) (e3 : xQ y = xQ (X c)) (e4 : xO y = xO (X c)) (e5 : xU y = xU (X c)) : plR w (fu X c y) np := by
  obtain ⟨f6, f7, f8, f9, f10, h6, h7, h8, h9, h10, ha, hb, hm⟩ := h
  have key : ∀ c', xC (fu X c y c') = xC (X c') ∧ xF (fu X c y c') = xF (X c') ∧ xQ (fu X c y c') = xQ (X c') ∧ xO (fu X c y c') = xO (X c') ∧ xU (fu X c y c') = xU (X c') := by
    intro c'
    by_cases e : c' = c
    · subst e; rw [fu_s]; exact ⟨e1, e2, e3, e4, e5⟩
    · rw [fu_n _ _ e]; exact ⟨rfl, rfl, rfl, rfl, rfl⟩
  refine ⟨f6, f7, f8, f9, f10, h6, h7, h8, h9, h10, fun c' hc' t ht => ?_, fun p hp => ?_, fun c' hc' t u htu hu => ?_⟩
  · obtain ⟨k1, k2, k3, k4, k5⟩ := key c'
    unfold fwX
    rw [k1] at ht
    rw [k1, k2, k3, k4, k5]
    exact ha c' hc' t ht
  · obtain ⟨c', hc', t, ht, e⟩ := hb p hp
    obtain ⟨k1, k2, k3, k4, k5⟩ := key c'
    exact ⟨c', hc', t, by rw [k1]; exact ht, by rw [k4]; exact e⟩
  · obtain ⟨k1, k2, k3, k4, k5⟩ := key c'
    rw [k1] at hu
    rw [k4]
    exact hm c' hc' t u htu hu
theorem plR_f {w w' : qk_W} {X : Nat → Chs} {np : Nat} (h : plR w X np) (e : ∀ k, 6 ≤ k → k ≤ 10 → w' (mA k) = w (mA k)) : plR w' X np := by
  obtain ⟨f6, f7, f8, f9, f10, h6, h7, h8, h9, h10, hP⟩ := h
  exact ⟨f6, f7, f8, f9, f10, wi_f h6 (e 6 (by omega) (by omega)), wi_f h7 (e 7 (by omega) (by omega)), wi_f h8 (e 8 (by omega) (by omega)), wi_f h9 (e 9 (by omega) (by omega)), wz_f h10 (e 10 (by omega) (by omega)), hP⟩
theorem ob_cls (y : Chs) (pc cg : Nat) : obX (clsX y pc cg) = 0 := by
  unfold obX
  rw [opn_cls, show (0 - 2) / 15 = 0 from rfl, show (eN (xS (clsX y pc cg)) (xF (clsX y pc cg) (xC (clsX y pc cg))) 0).1 = 160 from rfl]
/-- the names that the station's part of the reference leaves alone -/
def frM (v : Nat) : Prop := ∀ k, k ≤ 10 → v ≠ mA k
theorem fm25 {v : Nat} (h : frM v) : v ≠ 25 := h 0 (Nat.zero_le _)
theorem frM_9 {v : Nat} (h : v % 16 ≠ 9) : frM v := fun k _ => by rintro rfl; exact h (by unfold mA; omega)
theorem frM_A {k : Nat} (h : 11 ≤ k) : frM (mA k) := fun j hj => mA_ne (by omega)
section Mo4
variable {d : Nat} {w : qk_W} {nc ns : Nat} {Q : Option Value ⊕ Nat → qk_W → Nat → Nat → Prop} {s : Nat → Int32} {l : Nat → Int64} {X : Nat → Chs} {np : Nat}
/-- the station's part of the reference -/
def msR (w : qk_W) (s : Nat → Int32) (l : Nat → Int64) (X : Nat → Chs) (np pc : Nat) : Prop :=
  moO w s l ∧ s 11 = nI np ∧ s 5 = nI pc ∧ smA w X ∧ (∃ f4, mcR w X f4 ∧ ∀ c, c < 4 → f4 c = nI (obX (X c))) ∧ plR w X np
/-- the end of 'take': the sample counts, and a full packet closes -/
theorem c_mtake_end {c pc : Nat} {y : Chs} {f4 : Nat → Int32} (x2 : Value) (o4 o5 : Option Value) (w0 : qk_W) (hfr : ∀ v, frM v → w v = w0 v) (ho : moO w s l) (hn : s 11 = nI np) (hp : s 5 = nI pc) (hS : ∃ f1, wi w (mA 1) 131072 f1 ∧ (∀ c', c' < 4 → c' ≠ c → ∀ a, a < xT (X c') → f1 (32768 * c' + a) = xS (X c') a) ∧ ∀ a, a < xT y + 1 → f1 (32768 * c + a) = xS y a)
    (hC : mcR w (fu X c y) f4) (h4 : ∀ c', c' < 4 → c' ≠ c → f4 c' = nI (obX (X c'))) (h4c : f4 c = nI (obX (addX y))) (h : plR w (fu X c y) np) (hc : c < 4) (hnp : np < 4096) (hus : xU y ≤ xC y) (hFT : xF y (xC y) ≤ xT y) (hT : xT y < 32768) (ho1 : opnX y < 1000)
    (hq : ∀ w' s', (∀ v, frM v → w' v = w0 v) → (∀ k, k ≠ 11 → s' k = s k) → msR w' s' l (fu X c (cl2X (addX y) pc np).1) (cl2X (addX y) pc np).2 pc → Q (.inl none) w' nc ns) :
    ∀ n, n = opnX (addX y) →
    (∀ {f : Nat → Int32} , wi w (mA 2) 4 f → (∀ c', c' < 4 → f c' = nI (xT (fu X c y c'))) → ∀ w1, w1 (mA 2) = some (.inl (.int, 4, .inl (upd f c (f c + 1)))) → (∀ v, v ≠ mA 2 → w1 v = w v) → Ev (d + 2) m_Mo_take 180 [some (.ref 25), some (.int (nI c)), some x2, some (.int (nI n)), o4, o5] [] w1 nc ns Q) := by
  intro n hnn f hf hf' w1 e1 g1
  obtain ⟨_, ⟨f3, hf3, hf3'⟩, hf4⟩ := hC
  obtain ⟨f1, s1, s2, s3⟩ := hS
  have hX : ∀ c', c' ≠ c → fu X c y c' = X c' := fun c' e => fu_n _ _ e
  have hX2 : ∀ c', c' ≠ c → fu X c (addX y) c' = X c' := fun c' e => fu_n _ _ e
  have o1 := moO_f ho (g1 25 (Ne.symm (mA_25 (by omega))))
  have hMC : mcR w1 (fu X c (addX y)) f4 := by
    refine ⟨⟨_, e1, fun c' hc' => ?_⟩, ⟨f3, wi_f hf3 (g1 _ (mA_ne (by omega))), fun c' hc' => ?_⟩, wi_f hf4 (g1 _ (mA_ne (by omega)))⟩
    · by_cases e : c' = c
      · subst e; rw [pk_us, fu_s, hf' c' hc, fu_s, nI_1]; rfl
      · rw [pk_un e, hf' c' hc', hX c' e, hX2 c' e]
    · have := hf3' c' hc'
      by_cases e : c' = c
      · subst e; rw [fu_s] at this ⊢; exact this
      · rw [hX c' e] at this; rw [hX2 c' e]; exact this
  have hPL : plR w1 (fu X c (addX y)) np := by
    have := plR_same (y := addX y) (c := c) (plR_f h (w' := w1) (fun k _ _ => g1 _ (mA_ne (by omega)))) (by rw [fu_s]; rfl) (by rw [fu_s]; rfl) (by rw [fu_s]; rfl) (by rw [fu_s]; rfl) (by rw [fu_s]; rfl)
    rw [fu_fu] at this
    exact this
  have hSM : ∀ (z : Chs) {w2 : qk_W}, xS z = xS y → xT z = xT y + 1 → w2 (mA 1) = w (mA 1) → smA w2 (fu X c z) := by
    intro z w2 ez1 ez2 e2
    refine ⟨f1, wi_f s1 e2, fun c' hc' a ha => ?_⟩
    by_cases e : c' = c
    · subst e
      rw [fu_s] at ha ⊢
      rw [ez1]
      exact s3 a (by omega)
    · rw [fu_n _ _ e] at ha ⊢
      exact s2 c' hc' e a ha
  have hoa := opn_add y
  unfold cl2X at hq
  refine t_Mo_take_180 (fun g => t_Mo_take_192 ?_) (fun g => ?_)
  · have hne : ¬ opnX (addX y) = 1000 := fun e => g (by rw [hnn, e]; rfl)
    rw [if_neg hne] at hq
    refine hq w1 s (fun v hv => by rw [g1 v (hv 2 (by omega))]; exact hfr v hv) (fun _ _ => rfl) ⟨o1, hn, hp, hSM _ rfl rfl (g1 _ (mA_ne (by omega))), ⟨f4, hMC, fun c' hc' => ?_⟩, hPL⟩
    by_cases e : c' = c
    · subst e; rw [fu_s]; exact h4c
    · rw [fu_n _ _ e]; exact h4 c' hc' e
  · have he : opnX (addX y) = 1000 := by
      rw [hnn] at g
      exact (nI_eq (b := 1000) (by omega) (by omega)).mp g
    rw [if_pos he] at hq
    have hcl := c_mclose (d := d) (c := c) (pc := pc) (nc := nc) (ns := ns) (Q := fun r w1 nc1 ns1 => match r with | .inl v => Ev (d + 2) m_Mo_take 192 [some (.ref 25), some (.int (nI c)), some x2, some (.int (nI n)), o4, o5] (v.toList ++ []) w1 nc1 ns1 Q | .inr x => Q (.inr x) w1 nc1 ns1) o1 hn hp hMC hPL hc hnp (by rw [fu_s]; exact hus) (by rw [fu_s]; show xF y (xC y) ≤ xT y + 1; omega) (fun w2 g2 o2 mc2 pl2 => by
      rw [fu_s, fu_fu] at mc2 pl2
      refine t_Mo_take_192 (hq w2 (fu s 11 (nI (np + 1))) (fun v hv => ?_) (fun k hk => fu_n _ _ hk) ⟨o2, fu_s _ _ _, by rw [fu_n _ _ (by omega)]; exact hp, hSM _ rfl rfl ?_, ⟨_, mc2, fun c' hc' => ?_⟩, pl2⟩)
      · have hm : ∀ k, k ≤ 10 → v ≠ mA k := hv
        rw [g2 v (fm25 hv) (hm 3 (by omega)) (hm 4 (by omega)) (hm 6 (by omega)) (hm 7 (by omega)) (hm 8 (by omega)) (hm 9 (by omega)) (hm 10 (by omega)), g1 v (hm 2 (by omega))]
        exact hfr v hv
      · rw [g2 _ (mA_25 (by omega)) (mA_ne (by omega)) (mA_ne (by omega)) (mA_ne (by omega)) (mA_ne (by omega)) (mA_ne (by omega)) (mA_ne (by omega)) (mA_ne (by omega)), g1 _ (mA_ne (by omega))]
      · by_cases e : c' = c
        · subst e; rw [pk_us, fu_s, ob_cls]; rfl
        · rw [pk_un e, fu_n _ _ e]; exact h4 c' hc' e)
    exact t_Mo_take_187 o1 (Nat.le_of_ble_eq_true rfl) hcl
theorem c_mtake {c pc : Nat} {v : Int32} (h : msR w s l X np pc) (hc : c < 4) (hnp : np + 1 < 4096) (hus : xU (X c) ≤ xC (X c)) (hFT : xF (X c) (xC (X c)) ≤ xT (X c)) (hT : xT (X c) < 32768) (ho1 : opnX (X c) < 1000) (hTa : ∀ c', c' < 4 → xT (X c') ≤ 32768)
    (hq : ∀ w' s', (∀ v, frM v → w' v = w v) → (∀ k, k ≠ 11 → s' k = s k) → msR w' s' l (fu X c (takeX (X c) v pc np).1) (takeX (X c) v pc np).2 pc → Q (.inl none) w' nc ns) :
    Ev (d + 3) m_Mo_take 0 [some (.ref 25), some (.int (nI c)), some (.int v), none, none, none] [] w nc ns Q := by
  obtain ⟨ho, hn, hp, ⟨f1, hf1, hf1'⟩, ⟨f4, ⟨⟨f2, hf2, hf2'⟩, ⟨f3, hf3, hf3'⟩, hf4⟩, h4⟩, hPL⟩ := h
  have ccl : (nI c).toNatClampNeg = c := nI_clamp (by omega)
  have inc : vp_in (nI c) 4 := vp_in_nI hc (by omega)
  have eix : nI c * 32768 + f2 (nI c).toNatClampNeg = nI (32768 * c + xT (X c)) := by rw [ccl, hf2' c hc, ix_nI]
  refine t_Mo_take_0 ho rfl rfl hf2 inc hf1 (by rw [eix]; exact vp_in_nI (by omega) (by omega)) (mA_16 _) (es_w (fun w1 e1 g1 => ?_))
  rw [eix, nI_clamp (by omega)] at e1
  have o1 := moO_f ho (g1 25 (Ne.symm (mA_25 (by omega))))
  have k2 := wi_f hf2 (g1 _ (mA_ne (by omega)))
  have k3 := wi_f hf3 (g1 _ (mA_ne (by omega)))
  have k4 := wi_f hf4 (g1 _ (mA_ne (by omega)))
  have fr1 : ∀ v, frM v → w1 v = w v := fun v hv => g1 v (hv 1 (by omega))
  have pl1 : plR w1 X np := plR_f hPL (fun k _ _ => g1 _ (mA_ne (by omega)))
  generalize hy : smpX (X c) v = y at *
  have yS : xS y = fu (xS (X c)) (xT (X c)) v := by rw [← hy]; rfl
  have yT : xT y = xT (X c) := by rw [← hy]; rfl
  have yC : xC y = xC (X c) := by rw [← hy]; rfl
  have yF : xF y = xF (X c) := by rw [← hy]; rfl
  have yQ : xQ y = xQ (X c) := by rw [← hy]; rfl
  have yO : xO y = xO (X c) := by rw [← hy]; rfl
  have yU : xU y = xU (X c) := by rw [← hy]; rfl
  have yn : opnX y = opnX (X c) := by rw [← hy]; rfl
  have yadd : opnX (addX y) = opnX (X c) + 1 := by
    unfold opnX
    show xT y + 1 - xF y (xC y) = _
    rw [yT, yF, yC]
    omega
  have plY : plR w1 (fu X c y) np := plR_same pl1 yC yF yQ yO yU
  have mcY : ∀ {w2 : qk_W} {g : Nat → Int32}, w2 (mA 2) = w1 (mA 2) → w2 (mA 3) = w1 (mA 3) → wi w2 (mA 4) 4 g → mcR w2 (fu X c y) g := by
    intro w2 g i2 i3 i4
    refine ⟨⟨f2, wi_f k2 i2, fun c' hc' => ?_⟩, ⟨f3, wi_f k3 i3, fun c' hc' => ?_⟩, i4⟩
    · by_cases e : c' = c
      · subst e; rw [fu_s, yT]; exact hf2' c' hc
      · rw [fu_n _ _ e]; exact hf2' c' hc'
    · by_cases e : c' = c
      · subst e; rw [fu_s, yF, yC]; exact hf3' c' hc
      · rw [fu_n _ _ e]; exact hf3' c' hc'
  have smY : ∀ {w2 : qk_W}, w2 (mA 1) = w1 (mA 1) → ∃ f1, wi w2 (mA 1) 131072 f1 ∧ (∀ c', c' < 4 → c' ≠ c → ∀ a, a < xT (X c') → f1 (32768 * c' + a) = xS (X c') a) ∧ ∀ a, a < xT y + 1 → f1 (32768 * c + a) = xS y a := by
    intro w2 i1
    refine ⟨_, i1.trans e1, fun c' hc' e a ha => ?_, fun a ha => ?_⟩
    · have hb := hTa c' hc'
      rw [pk_un (by omega)]
      exact hf1' c' hc' a ha
    · rw [yS]
      rw [yT] at ha
      by_cases e : a = xT (X c)
      · rw [e, pk_us, fu_s]
      · rw [pk_un (by omega), fu_n _ _ e]
        exact hf1' c hc a (by omega)
  have etake : takeX (X c) v pc np = cl2X (addX (cl1X y pc np).1) pc (cl1X y pc np).2 := by unfold takeX; rw [hy]
  rw [etake] at hq
  have hopn : xT (X c) = xF (X c) (xC (X c)) + opnX (X c) := by unfold opnX; omega
  generalize hF : xF (X c) (xC (X c)) = F at *
  generalize hopn2 : opnX (X c) = p at *
  have yFC : xF y (xC y) = F := by rw [yF, yC]; exact hF
  have hob : obX (X c) = (eN (xS y) F ((p - 2) / 15)).1 - 160 := by
    unfold obX
    rw [hopn2, hF]
    by_cases hp0 : p = 0
    · subst hp0; rfl
    · rw [eN_congr (S := xS (X c)) (S' := xS y) (n := p) (fun i i1 i2 => by rw [yS, fu_n _ _ (by omega)]) (by omega)]
  have hoba : obX (addX y) = (eN (xS y) F ((p - 1) / 15)).1 - 160 := by
    unfold obX
    rw [yadd, show p + 1 - 2 = p - 1 by omega]
    show (eN (xS y) (xF y (xC y)) _).1 - 160 = _
    rw [yFC]
  have e17 : f2 (nI c).toNatClampNeg - f3 (nI c).toNatClampNeg + 1 = nI (p + 1) := by
    rw [ccl, hf2' c hc, hf3' c hc, hF, pk_sub (by omega), nI_1]
    exact congrArg nI (by omega)
  have sub : ∀ {a b : Nat}, b ≤ a → nI a - nI b = nI (a - b) := fun h => pk_sub h
  -- without a close
  have fin1 : ∀ w2 f4' o4 o5, mustX y = false → (∀ v, v ≠ mA 4 → w2 v = w1 v) → wi w2 (mA 4) 4 f4' → (∀ c', c' < 4 → c' ≠ c → f4' c' = nI (obX (X c'))) → f4' c = nI (obX (addX y)) →
      Ev (d + 3) m_Mo_take 170 [some (.ref 25), some (.int (nI c)), some (.int v), some (.int (nI (p + 1))), o4, o5] [] w2 nc ns Q := by
    intro w2 f4' o4 o5 hm g2 i4 h4' h4c
    have ecl : cl1X y pc np = (y, np) := by unfold cl1X; rw [if_neg (by rw [hm]; decide)]
    rw [ecl] at hq
    have o2 := moO_f o1 (g2 25 (Ne.symm (mA_25 (by omega))))
    have k22 := wi_f k2 (g2 _ (mA_ne (by omega)))
    refine t_Mo_take_170 o2 rfl k22 inc (mA_16 _) (es_w (fun w3 e3 g3 => ?_))
    rw [ccl] at e3
    refine c_mtake_end (d := d + 1) (.int v) o4 o5 w (fun v hv => by rw [g2 v (hv 4 (by omega))]; exact fr1 v hv) o2 hn hp (smY (g2 _ (mA_ne (by omega)))) (mcY (g2 _ (mA_ne (by omega))) (g2 _ (mA_ne (by omega))) i4) h4' h4c (plR_f plY (fun k _ _ => g2 _ (mA_ne (by omega)))) hc (by omega) (by rw [yU, yC]; exact hus) (by rw [yFC, yT]; omega) (by rw [yT]; exact hT) (by rw [yn]; omega) hq (p + 1) yadd.symm k22 (fun c' hc' => ?_) w3 e3 g3
    by_cases e : c' = c
    · subst e; rw [fu_s, yT]; exact hf2' c' hc
    · rw [fu_n _ _ e]; exact hf2' c' hc'
  -- with one
  have fin2 : ∀ w2 f4' o4 o5 x3, mustX y = true → (∀ v, v ≠ mA 4 → w2 v = w1 v) → wi w2 (mA 4) 4 f4' → (∀ c', c' < 4 → c' ≠ c → f4' c' = nI (obX (X c'))) →
      Ev (d + 3) m_Mo_take 163 [some (.ref 25), some (.int (nI c)), some (.int v), some (.int x3), o4, o5] [] w2 nc ns Q := by
    intro w2 f4' o4 o5 x3 hm g2 i4 h4'
    have ecl : cl1X y pc np = (clsX y pc np, np + 1) := by unfold cl1X; rw [if_pos hm]
    rw [ecl] at hq
    have o2 := moO_f o1 (g2 25 (Ne.symm (mA_25 (by omega))))
    have hcl := c_mclose (d := d + 1) (c := c) (pc := pc) (X := fu X c y) (nc := nc) (ns := ns) (Q := fun r w1 nc1 ns1 => match r with | .inl u => Ev (d + 3) m_Mo_take 168 [some (.ref 25), some (.int (nI c)), some (.int v), some (.int x3), o4, o5] (u.toList ++ []) w1 nc1 ns1 Q | .inr x => Q (.inr x) w1 nc1 ns1) o2 hn hp (mcY (g2 _ (mA_ne (by omega))) (g2 _ (mA_ne (by omega))) i4) (plR_f plY (fun k _ _ => g2 _ (mA_ne (by omega)))) hc (by omega) (by rw [fu_s, yU, yC]; exact hus) (by rw [fu_s, yFC, yT]; omega) (fun w3 g3 o3 mc3 pl3 => by
      rw [fu_s, fu_fu] at mc3 pl3
      have mc3' := mc3
      obtain ⟨⟨h2, j2, j2'⟩, _, _⟩ := mc3'
      refine t_Mo_take_168 rfl o3 rfl j2 inc (mA_16 _) (es_w (fun w4 e4 g4 => ?_))
      rw [ccl] at e4
      have hm3 : ∀ v, frM v → ∀ k, k ≤ 10 → v ≠ mA k := fun v hv => hv
      have sm3 := smY (w2 := w3) (by rw [g3 _ (mA_25 (by omega)) (mA_ne (by omega)) (mA_ne (by omega)) (mA_ne (by omega)) (mA_ne (by omega)) (mA_ne (by omega)) (mA_ne (by omega)) (mA_ne (by omega)), g2 _ (mA_ne (by omega))])
      have ezo : opnX (addX (clsX y pc np)) = 1 := by
        unfold opnX
        show xT y + 1 - fu (xF y) (xC y + 1) (xT y) (xC y + 1) = 1
        rw [fu_s]
        omega
      refine c_mtake_end (d := d + 1) (y := clsX y pc np) (np := np + 1) (.int v) o4 o5 w (fun v hv => by rw [g3 v (fm25 hv) (hm3 v hv 3 (by omega)) (hm3 v hv 4 (by omega)) (hm3 v hv 6 (by omega)) (hm3 v hv 7 (by omega)) (hm3 v hv 8 (by omega)) (hm3 v hv 9 (by omega)) (hm3 v hv 10 (by omega)), g2 v (hm3 v hv 4 (by omega))]; exact fr1 v hv) o3 (fu_s _ _ _) (by rw [fu_n _ _ (by omega)]; exact hp) sm3 mc3 (fun c' hc' e => by rw [pk_un e]; exact h4' c' hc' e) ?_ pl3 hc (by omega) (by show xU y ≤ xC y + 1; rw [yU, yC]; omega) (by show fu (xF y) (xC y + 1) (xT y) (xC y + 1) ≤ xT y; rw [fu_s]; omega) (by show xT y < 32768; rw [yT]; exact hT) (by rw [opn_cls]; omega) (fun w' s' a1 a2 a3 => hq w' s' a1 (fun k hk => by rw [a2 k hk, fu_n _ _ hk]) a3) 1 ezo.symm j2 j2' w4 e4 g4
      rw [pk_us]
      unfold obX
      rw [ezo, show (1 - 2) / 15 = 0 from rfl, show (eN (xS (addX (clsX y pc np))) (xF (addX (clsX y pc np)) (xC (addX (clsX y pc np)))) 0).1 = 160 from rfl]
      rfl)
    exact t_Mo_take_163 o2 (Nat.le_of_ble_eq_true rfl) hcl
  refine t_Mo_take_17 o1 rfl k2 inc rfl k3 inc rfl (fun g => ?_) (fun g => ?_)
  · rw [e17] at g ⊢
    have hp0 : p = 0 := by have := (nI_leI (b := 1) (by omega) (by omega)).mp g; omega
    refine fin1 w1 f4 _ _ (by unfold mustX; rw [yFC, yT, decide_eq_false (by omega)]; rfl) (fun _ _ => rfl) k4 (fun c' hc' _ => h4 c' hc') ?_
    rw [h4 c hc, hob, hoba, hp0]
  · rw [e17] at g ⊢
    have hp1 : 1 ≤ p := by
      rcases Nat.eq_zero_or_pos p with e | e
      · rw [e] at g; exact absurd (by decide) g
      · exact e
    have smr : smR w1 c (xS y) F (p + 1) := by
      obtain ⟨h1, i1, _, i3⟩ := smY (w2 := w1) rfl
      exact ⟨h1, i1, fun i j1 j2 => i3 i (by rw [yT]; omega)⟩
    have hmust : mustX y = !decide (szP (xS y) F (p + 1) ≤ 512) := by
      unfold mustX
      rw [yFC, yT, yn, decide_eq_true (by omega)]
      rfl
    have hbl := fun b => eN_le (xS y) F b
    have hge := fun b => eN_ge (xS y) F b
    -- from the size on
    have size : ∀ w2 f4' o4 o5, (∀ v, v ≠ mA 4 → w2 v = w1 v) → wi w2 (mA 4) 4 f4' → (∀ c', c' < 4 → c' ≠ c → f4' c' = nI (obX (X c'))) → f4' c = nI (obX (addX y)) →
        Ev (d + 3) m_Mo_take 157 [some (.ref 25), some (.int (nI c)), some (.int v), some (.int (nI (p + 1))), o4, o5] [.int (nI (szP (xS y) F (p + 1)))] w2 nc ns Q := by
      intro w2 f4' o4 o5 g2 i4 h4' h4c
      have hsz : szP (xS y) F (p + 1) < 2 ^ 30 := by
        unfold szP eF
        have hw := wd_le (cod (xS y) F (15 * ((p + 1 - 1) / 15) + 1) ((p + 1 - 1) % 15))
        have hb := hbl ((p + 1 - 1) / 15)
        split
        · omega
        · rw [eB_1]
          have : (p + 1 - 1) % 15 * wd (cod (xS y) F (15 * ((p + 1 - 1) / 15) + 1) ((p + 1 - 1) % 15)) ≤ 15 * 32 := Nat.mul_le_mul (by omega) hw
          omega
      refine t_Mo_take_157 (fun g => ?_) (fun g => ?_)
      · have hle := (nI_leI (b := 512) (by omega) (by omega)).mp g
        exact fin1 w2 f4' o4 o5 (by rw [hmust, decide_eq_true hle]; rfl) g2 i4 h4' h4c
      · have hgt : ¬ szP (xS y) F (p + 1) ≤ 512 := fun e => g (nI_le (b := 512) e (by decide))
        exact fin2 w2 f4' o4 o5 _ (by rw [hmust, decide_eq_false hgt]; rfl) g2 i4 h4'
    -- from the bits of the whole blocks on
    have bits : ∀ w2 f4', (∀ v, v ≠ mA 4 → w2 v = w1 v) → wi w2 (mA 4) 4 f4' → (∀ c', c' < 4 → c' ≠ c → f4' c' = nI (obX (X c'))) → f4' c = nI (obX (addX y)) →
        Ev (d + 3) m_Mo_take 99 [some (.ref 25), some (.int (nI c)), some (.int v), some (.int (nI (p + 1))), some (.int (nI ((eN (xS y) F ((p - 1) / 15)).1 - 160))), none] [] w2 nc ns Q := by
      intro w2 f4' g2 i4 h4' h4c
      have o2 := moO_f o1 (g2 25 (Ne.symm (mA_25 (by omega))))
      have k32 := wi_f k3 (g2 _ (mA_ne (by omega)))
      have smr2 : smR w2 c (xS y) F (p + 1) := by
        obtain ⟨h1, i1, i2⟩ := smr
        exact ⟨h1, wi_f i1 (g2 _ (mA_ne (by omega))), i2⟩
      have e99 : qi_rem (nI (p + 1) - 1) 15 = nI (p % 15) := by
        rw [show (1 : Int32) = nI 1 from rfl, sub (by omega), show p + 1 - 1 = p by omega]
        exact rem_nI (b := 15) (by omega) (by omega) (by omega)
      refine t_Mo_take_99 (fun g => ?_) (fun g => ?_)
      · rw [e99] at g
        have hne : ¬ p % 15 = 0 := fun e => g (by rw [e]; rfl)
        refine t_Mo_take_137 rfl o2 rfl k32 inc (Nat.le_of_ble_eq_true rfl) ?_
        rw [ccl, hf3' c hc, hF, Int32.add_zero, show (p - 1) / 15 = (p + 1 - 1) / 15 by omega]
        refine c_msize (d := d) o2 smr2 hc (by omega) (by omega) (by have := hbl ((p + 1 - 1) / 15); omega) ?_
        exact size w2 f4' _ _ g2 i4 h4' h4c
      · rw [e99] at g
        have h15 : p % 15 = 0 := (nI_eq (b := 0) (by omega) (by omega)).mp g
        refine t_Mo_take_108 o2 rfl k32 inc (Nat.le_of_ble_eq_true rfl) ?_
        rw [ccl, hf3' c hc, hF, show (15 : Int32) = nI 15 from rfl, show (1 : Int32) = nI 1 from rfl, sub (by omega), sub (by omega), show p + 1 - 15 = p - 14 by omega]
        have hcd := cod_le (xS y) F (p - 14) 15
        have := c_mleast (d := d + 1) (k := p - 14) (m := 15) (nc := nc) (ns := ns) (Q := fun r w1 nc1 ns1 => match r with | .inl u => Ev (d + 3) m_Mo_take 129 [some (.ref 25), some (.int (nI c)), some (.int v), some (.int (nI (p + 1))), some (.int (nI ((eN (xS y) F ((p - 1) / 15)).1 - 160))), none] (u.toList ++ [.int 15, .int 4]) w1 nc1 ns1 Q | .inr x => Q (.inr x) w1 nc1 ns1) o2 smr2 hc (by omega) (by omega) (by omega) (by omega) (by
          refine t_Mo_take_129 (Nat.le_of_ble_eq_true rfl) (c_widthOf hcd (t_Mo_take_132 rfl o2 rfl k32 inc (Nat.le_of_ble_eq_true rfl) ?_))
          have hw := wd_le (cod (xS y) F (p - 14) 15)
          have hge' := hge ((p - 1) / 15)
          have eb : (eN (xS y) F ((p + 1 - 1) / 15)).1 = (eN (xS y) F ((p - 1) / 15)).1 + 4 + 15 * wd (cod (xS y) F (p - 14) 15) := by
            rw [show (p + 1 - 1) / 15 = (p - 1) / 15 + 1 by omega, eN, eB_1, show 15 * ((p - 1) / 15) + 1 = p - 14 by omega]
          rw [ccl, hf3' c hc, hF, show (15 : Int32) = nI 15 from rfl, pk_mul, show (4 : Int32) = nI 4 from rfl, nI_add, nI_add, show (eN (xS y) F ((p - 1) / 15)).1 - 160 + (4 + 15 * wd (cod (xS y) F (p - 14) 15)) = (eN (xS y) F ((p + 1 - 1) / 15)).1 - 160 by omega]
          refine c_msize (d := d) o2 smr2 hc (by omega) (by omega) (by have := hbl ((p + 1 - 1) / 15); omega) ?_
          exact size w2 f4' _ _ g2 i4 h4' h4c)
        rw [show p - 14 + 15 - 1 = p + 1 - 1 by omega] at this
        exact this
    have w91 : (p - 2) / 15 = (p - 1) / 15 → Ev (d + 3) m_Mo_take 91 [some (.ref 25), some (.int (nI c)), some (.int v), some (.int (nI (p + 1))), some (.int (f4 (nI c).toNatClampNeg)), none] [] w1 nc ns Q := by
      intro he
      refine t_Mo_take_91 o1 rfl k4 inc (mA_16 _) (es_w (fun w2 e2 g2 => ?_))
      rw [ccl, h4 c hc, hob, he] at e2
      rw [ccl, h4 c hc, hob, he]
      refine bits w2 _ g2 e2 (fun c' hc' e => by rw [pk_un e]; exact h4 c' hc') ?_
      rw [pk_us, hoba]
    refine t_Mo_take_38 o1 rfl k4 inc rfl (fun g => ?_) (fun g => ?_)
    · have := (nI_leI (b := 2) (by omega) (by omega)).mp g
      exact w91 (by omega)
    · have h2 : 2 < p + 1 := Nat.lt_of_not_le (fun e => g (nI_le (b := 2) e (by decide)))
      have e51 : qi_rem (nI (p + 1) - 2) 15 = nI ((p - 1) % 15) := by
        rw [show (2 : Int32) = nI 2 from rfl, sub (by omega), show p + 1 - 2 = p - 1 by omega]
        exact rem_nI (b := 15) (by omega) (by omega) (by omega)
      refine t_Mo_take_51 (fun g => ?_) (fun g => ?_)
      · rw [e51] at g
        have hne : ¬ (p - 1) % 15 = 0 := fun e => g (by rw [e]; rfl)
        exact w91 (by omega)
      · rw [e51] at g
        have h15 : (p - 1) % 15 = 0 := (nI_eq (b := 0) (by omega) (by omega)).mp g
        refine t_Mo_take_60 o1 rfl k3 inc (Nat.le_of_ble_eq_true rfl) ?_
        rw [ccl, hf3' c hc, hF, show (16 : Int32) = nI 16 from rfl, show (2 : Int32) = nI 2 from rfl, sub (by omega), sub (by omega), show p + 1 - 16 = p - 15 by omega, h4 c hc, hob]
        have hcd := cod_le (xS y) F (p - 15) 15
        have := c_mleast (d := d + 1) (k := p - 15) (m := 15) (nc := nc) (ns := ns) (Q := fun r w1 nc1 ns1 => match r with | .inl u => Ev (d + 3) m_Mo_take 83 [some (.ref 25), some (.int (nI c)), some (.int v), some (.int (nI (p + 1))), some (.int (nI ((eN (xS y) F ((p - 2) / 15)).1 - 160))), none] (u.toList ++ [.int 15, .int 4, .int (nI ((eN (xS y) F ((p - 2) / 15)).1 - 160))]) w1 nc1 ns1 Q | .inr x => Q (.inr x) w1 nc1 ns1) o1 smr hc (by omega) (by omega) (by omega) (by omega) (by
          refine t_Mo_take_83 (Nat.le_of_ble_eq_true rfl) (c_widthOf hcd (t_Mo_take_86 rfl o1 rfl k4 inc (mA_16 _) ?_))
          have hw := wd_le (cod (xS y) F (p - 15) 15)
          have hge' := hge ((p - 2) / 15)
          have eb : (eN (xS y) F ((p - 1) / 15)).1 = (eN (xS y) F ((p - 2) / 15)).1 + 4 + 15 * wd (cod (xS y) F (p - 15) 15) := by
            rw [show (p - 1) / 15 = (p - 2) / 15 + 1 by omega, eN, eB_1, show 15 * ((p - 2) / 15) + 1 = p - 15 by omega]
          rw [ccl, show (15 : Int32) = nI 15 from rfl, pk_mul, show (4 : Int32) = nI 4 from rfl, nI_add, nI_add, show (eN (xS y) F ((p - 2) / 15)).1 - 160 + (4 + 15 * wd (cod (xS y) F (p - 15) 15)) = (eN (xS y) F ((p - 1) / 15)).1 - 160 by omega]
          refine es_w (fun w2 e2 g2 => bits w2 _ g2 e2 (fun c' hc' e => by rw [pk_un e]; exact h4 c' hc') ?_)
          rw [pk_us, hoba])
        rw [show p - 15 + 15 - 1 = p + 1 - 2 by omega] at this
        exact this
end Mo4
