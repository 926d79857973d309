/-! ===== the reference takes a sample ===== -/
def obX (x : Chs) : Nat := (eN (xS x) (xF x (xC x)) ((opnX x - 2) / 15)).1 - 160
def smA (w : qk_W) (X : Nat → Chs) : Prop := ∃ f1, wi w (mA 1) 131072 f1 ∧ ∀ c, c < 4 → ∀ a, a < xT (X c) → f1 (32768 * c + a) = xS (X c) a
theorem fu_fu {α : Type} (f : Nat → α) (k : Nat) (a b : α) : fu (fu f k a) k b = fu f k b := by
  funext j
  unfold fu
  split <;> rfl
theorem eN_le (S : Nat → Int32) (fi b : Nat) : (eN S fi b).1 ≤ 160 + 484 * b := by
  induction b with
  | zero => exact Nat.le_refl _
  | succ b ih =>
    rw [eN, eB_1]
    have := wd_le (cod S fi (15 * b + 1) 15)
    omega
/-- what the list says does not see the samples nor how many were taken -/
theorem plR_same {w : qk_W} {X : Nat → Chs} {np c : Nat} {y : Chs} (h : plR w X np) (e1 : xC y = xC (X c)) (e2 : xF y = xF (X c)) (e3 : xQ y = xQ (X c)) (e4 : xO y = xO (X c)) (e5 : xU y = xU (X c)) : plR w (fu X c y) np := by
  obtain ⟨f6, f7, f8, f9, f10, h6, h7, h8, h9, h10, ha, hb, hm⟩ := h
  have key : ∀ c', xC (fu X c y c') = xC (X c') ∧ xF (fu X c y c') = xF (X c') ∧ xQ (fu X c y c') = xQ (X c') ∧ xO (fu X c y c') = xO (X c') ∧ xU (fu X c y c') = xU (X c') := by
    intro c'
    by_cases e : c' = c
    · subst e; rw [fu_s]; exact ⟨e1, e2, e3, e4, e5⟩
    · rw [fu_n _ _ e]; exact ⟨rfl, rfl, rfl, rfl, rfl⟩
  refine ⟨f6, f7, f8, f9, f10, h6, h7, h8, h9, h10, fun c' hc' t ht => ?_, fun p hp => ?_, fun c' hc' t u htu hu => ?_⟩
  · obtain ⟨k1, k2, k3, k4, k5⟩ := key c'
    unfold fwX
    rw [k1] at ht
    rw [k1, k2, k3, k4, k5]
    exact ha c' hc' t ht
  · obtain ⟨c', hc', t, ht, e⟩ := hb p hp
    obtain ⟨k1, k2, k3, k4, k5⟩ := key c'
    exact ⟨c', hc', t, by rw [k1]; exact ht, by rw [k4]; exact e⟩
  · obtain ⟨k1, k2, k3, k4, k5⟩ := key c'
    rw [k1] at hu
    rw [k4]
    exact hm c' hc' t u htu hu
theorem plR_f {w w' : qk_W} {X : Nat → Chs} {np : Nat} (h : plR w X np) (e : ∀ k, 6 ≤ k → k ≤ 10 → w' (mA k) = w (mA k)) : plR w' X np := by
  obtain ⟨f6, f7, f8, f9, f10, h6, h7, h8, h9, h10, hP⟩ := h
  exact ⟨f6, f7, f8, f9, f10, wi_f h6 (e 6 (by omega) (by omega)), wi_f h7 (e 7 (by omega) (by omega)), wi_f h8 (e 8 (by omega) (by omega)), wi_f h9 (e 9 (by omega) (by omega)), wz_f h10 (e 10 (by omega) (by omega)), hP⟩
theorem ob_cls (y : Chs) (pc cg : Nat) : obX (clsX y pc cg) = 0 := by
  unfold obX
  rw [opn_cls, show (0 - 2) / 15 = 0 from rfl, show (eN (xS (clsX y pc cg)) (xF (clsX y pc cg) (xC (clsX y pc cg))) 0).1 = 160 from rfl]
section Mo4
variable {d : Nat} {w : qk_W} {nc ns : Nat} {Q : Option Value ⊕ Nat → qk_W → Nat → Nat → Prop} {s : Nat → Int32} {l : Nat → Int64} {X : Nat → Chs} {np : Nat}
/-- the station's part of the reference -/
def msR (w : qk_W) (s : Nat → Int32) (l : Nat → Int64) (X : Nat → Chs) (np pc : Nat) : Prop :=
  moO w s l ∧ s 11 = nI np ∧ s 5 = nI pc ∧ smA w X ∧ (∃ f4, mcR w X f4 ∧ ∀ c, c < 4 → f4 c = nI (obX (X c))) ∧ plR w X np
/-- the end of 'take': the sample counts, and a full packet closes -/
theorem c_mtake_end {c pc : Nat} {y : Chs} {f4 : Nat → Int32} (x2 : Value) (o4 o5 : Option Value) (w0 : qk_W) (hfr : ∀ v, v % 16 ≠ 9 → w v = w0 v) (ho : moO w s l) (hn : s 11 = nI np) (hp : s 5 = nI pc) (hS : ∃ f1, wi w (mA 1) 131072 f1 ∧ (∀ c', c' < 4 → c' ≠ c → ∀ a, a < xT (X c') → f1 (32768 * c' + a) = xS (X c') a) ∧ ∀ a, a < xT y + 1 → f1 (32768 * c + a) = xS y a)
    (hC : mcR w (fu X c y) f4) (h4 : ∀ c', c' < 4 → c' ≠ c → f4 c' = nI (obX (X c'))) (h4c : f4 c = nI (obX (addX y))) (h : plR w (fu X c y) np) (hc : c < 4) (hnp : np < 4096) (hus : xU y ≤ xC y) (hFT : xF y (xC y) ≤ xT y) (hT : xT y < 32768) (ho1 : opnX y < 1000)
    (hq : ∀ w' s', (∀ v, v % 16 ≠ 9 → w' v = w0 v) → (∀ k, k ≠ 11 → s' k = s k) → msR w' s' l (fu X c (cl2X (addX y) pc np).1) (cl2X (addX y) pc np).2 pc → Q (.inl none) w' nc ns) :
    ∀ n, n = opnX (addX y) →
    (∀ {f : Nat → Int32} , wi w (mA 2) 4 f → (∀ c', c' < 4 → f c' = nI (xT (fu X c y c'))) → ∀ w1, w1 (mA 2) = some (.inl (.int, 4, .inl (upd f c (f c + 1)))) → (∀ v, v ≠ mA 2 → w1 v = w v) → Ev (d + 2) m_Mo_take 180 [some (.ref 25), some (.int (nI c)), some x2, some (.int (nI n)), o4, o5] [] w1 nc ns Q) := by
  intro n hnn f hf hf' w1 e1 g1
  obtain ⟨_, ⟨f3, hf3, hf3'⟩, hf4⟩ := hC
  obtain ⟨f1, s1, s2, s3⟩ := hS
  have hX : ∀ c', c' ≠ c → fu X c y c' = X c' := fun c' e => fu_n _ _ e
  have hX2 : ∀ c', c' ≠ c → fu X c (addX y) c' = X c' := fun c' e => fu_n _ _ e
  have o1 := moO_f ho (g1 25 (Ne.symm (mA_25 (by omega))))
  have hMC : mcR w1 (fu X c (addX y)) f4 := by
    refine ⟨⟨_, e1, fun c' hc' => ?_⟩, ⟨f3, wi_f hf3 (g1 _ (mA_ne (by omega))), fun c' hc' => ?_⟩, wi_f hf4 (g1 _ (mA_ne (by omega)))⟩
    · by_cases e : c' = c
      · subst e; rw [pk_us, fu_s, hf' c' hc, fu_s, nI_1]; rfl
      · rw [pk_un e, hf' c' hc', hX c' e, hX2 c' e]
    · have := hf3' c' hc'
      by_cases e : c' = c
      · subst e; rw [fu_s] at this ⊢; exact this
      · rw [hX c' e] at this; rw [hX2 c' e]; exact this
  have hPL : plR w1 (fu X c (addX y)) np := by
    have := plR_same (y := addX y) (c := c) (plR_f h (w' := w1) (fun k _ _ => g1 _ (mA_ne (by omega)))) (by rw [fu_s]; rfl) (by rw [fu_s]; rfl) (by rw [fu_s]; rfl) (by rw [fu_s]; rfl) (by rw [fu_s]; rfl)
    rw [fu_fu] at this
    exact this
  have hSM : ∀ (z : Chs) {w2 : qk_W}, xS z = xS y → xT z = xT y + 1 → w2 (mA 1) = w (mA 1) → smA w2 (fu X c z) := by
    intro z w2 ez1 ez2 e2
    refine ⟨f1, wi_f s1 e2, fun c' hc' a ha => ?_⟩
    by_cases e : c' = c
    · subst e
      rw [fu_s] at ha ⊢
      rw [ez1]
      exact s3 a (by omega)
    · rw [fu_n _ _ e] at ha ⊢
      exact s2 c' hc' e a ha
  have hoa := opn_add y
  unfold cl2X at hq
  refine t_Mo_take_180 (fun g => t_Mo_take_192 ?_) (fun g => ?_)
  · have hne : ¬ opnX (addX y) = 1000 := fun e => g (by rw [hnn, e]; rfl)
    rw [if_neg hne] at hq
    refine hq w1 s (fun v hv => by rw [g1 v (by rintro rfl; exact hv (by unfold mA; omega))]; exact hfr v hv) (fun _ _ => rfl) ⟨o1, hn, hp, hSM _ rfl rfl (g1 _ (mA_ne (by omega))), ⟨f4, hMC, fun c' hc' => ?_⟩, hPL⟩
    by_cases e : c' = c
    · subst e; rw [fu_s]; exact h4c
    · rw [fu_n _ _ e]; exact h4 c' hc' e
  · have he : opnX (addX y) = 1000 := by
      rw [hnn] at g
      exact (nI_eq (b := 1000) (by omega) (by omega)).mp g
    rw [if_pos he] at hq
    have hcl := c_mclose (d := d) (c := c) (pc := pc) (nc := nc) (ns := ns) (Q := fun r w1 nc1 ns1 => match r with | .inl v => Ev (d + 2) m_Mo_take 192 [some (.ref 25), some (.int (nI c)), some x2, some (.int (nI n)), o4, o5] (v.toList ++ []) w1 nc1 ns1 Q | .inr x => Q (.inr x) w1 nc1 ns1) o1 hn hp hMC hPL hc hnp (by rw [fu_s]; exact hus) (by rw [fu_s]; show xF y (xC y) ≤ xT y + 1; omega) (fun w2 g2 o2 mc2 pl2 => by
      rw [fu_s, fu_fu] at mc2 pl2
      refine t_Mo_take_192 (hq w2 (fu s 11 (nI (np + 1))) (fun v hv => ?_) (fun k hk => fu_n _ _ hk) ⟨o2, fu_s _ _ _, by rw [fu_n _ _ (by omega)]; exact hp, hSM _ rfl rfl ?_, ⟨_, mc2, fun c' hc' => ?_⟩, pl2⟩)
      · have hm : ∀ k, v ≠ mA k := fun k => by rintro rfl; exact hv (by unfold mA; omega)
        rw [g2 v (by rintro rfl; exact hv (by decide)) (hm 3) (hm 4) (hm 6) (hm 7) (hm 8) (hm 9) (hm 10), g1 v (hm 2)]
        exact hfr v hv
      · rw [g2 _ (mA_25 (by omega)) (mA_ne (by omega)) (mA_ne (by omega)) (mA_ne (by omega)) (mA_ne (by omega)) (mA_ne (by omega)) (mA_ne (by omega)) (mA_ne (by omega)), g1 _ (mA_ne (by omega))]
      · by_cases e : c' = c
        · subst e; rw [pk_us, fu_s, ob_cls]; rfl
        · rw [pk_un e, fu_n _ _ e]; exact h4 c' hc' e)
    exact t_Mo_take_187 o1 (Nat.le_of_ble_eq_true rfl) hcl
end Mo4
