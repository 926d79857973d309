/-! ===== the reference: gaps ===== -/
theorem moL_32 {s : Nat → Int32} {l : Nat → Int64} {x : Int32} : (moL s l).set 32 (.int x) = moL (fu s 32 x) l := by
  first
    | rfl
    | simp [moL, fu]
theorem moL_33 {s : Nat → Int32} {l : Nat → Int64} {x : Int32} : (moL s l).set 33 (.int x) = moL (fu s 33 x) l := by
  first
    | rfl
    | simp [moL, fu]
section Mo9
variable {d : Nat} {w : qk_W} {nc ns : Nat} {Q : Option Value ⊕ Nat → qk_W → Nat → Nat → Prop} {s : Nat → Int32} {l : Nat → Int64} {Y : Nat → Trs}
theorem sIn_at {H : Nat → Nat} {a : Nat} (h : a < 32768) : sIn (hs H) (nI a) = hs H a := by
  rw [sIn_nI (by omega), decide_eq_true h, Bool.true_and]
theorem nxP_none {H : Nat → Nat} {g : Nat} (hg : g ≤ 32768) (h : ∀ k, g ≤ k → k < 32768 → hs H k = false) : nxP H g = 32768 :=
  nxt_eq hg (Nat.le_refl _) (fun k a b => by rw [h k a b]; rfl) (fun e => absurd e (by omega))
theorem c_misGap {c fm : Nat} (ho : moO w s l) (h : hvR w Y) (hc : c < 4) (hfm : fm ≤ 32768)
    (hq1 : sgf (yH (Y c)) fm < 32768 → ∀ w' s', (∀ v, v ≠ 25 → w' v = w v) → moO w' s' l → (∀ k, k ≠ 32 → k ≠ 33 → s' k = s k) → s' 32 = nI (sgf (yH (Y c)) fm) → s' 33 = nI (nxP (yH (Y c)) (sgf (yH (Y c)) fm) - 1) → Q (.inl (some (.int 1))) w' nc ns)
    (hq0 : sgf (yH (Y c)) fm = 32768 → ∀ w' s', (∀ v, v ≠ 25 → w' v = w v) → moO w' s' l → (∀ k, k ≠ 32 → k ≠ 33 → s' k = s k) → Q (.inl (some (.int 0))) w' nc ns) :
    Ev (d + 1) m_Mo_isGap 0 [some (.ref 25), some (.int (nI c)), some (.int (nI fm)), none, none] [] w nc ns Q := by
  generalize hH : yH (Y c) = H at *
  have hd : ∀ {w1 : qk_W}, (∀ v, v ≠ 25 → w1 v = w v) → hvR w1 Y := fun g => hvR_f h (g _ (mA_25 (by omega))) (g _ (mA_25 (by omega)))
  have heard : ∀ {w1 : qk_W} {s1 : Nat → Int32} {P : Option Value ⊕ Nat → qk_W → Nat → Nat → Prop} {a : Nat}, a < 32768 → moO w1 s1 l → (∀ v, v ≠ 25 → w1 v = w v) → P (.inl (some (.int (b2i (hs H a))))) w1 nc ns → Ev d m_Mo_isHeard 0 [some (.ref 25), some (.int (nI c)), some (.int (nI a))] [] w1 nc ns P := by
    intro w1 s1 P a ha o1 g1 hP
    refine c_misHeard o1 (hd g1) hc ?_
    rw [hH, sIn_at ha]
    exact hP
  have hf0 := nxP_le H (s := 0) (by omega)
  -- the last part: the gap's end
  have ends : ∀ last g w1 s1 o4, (last < 32768 ∧ hs H last = true) → g < last → (∀ k, max fm (nxP H 0) ≤ k → k < g → hs H k = true) → max fm (nxP H 0) ≤ g → hs H g = false → (∀ v, v ≠ 25 → w1 v = w v) → moO w1 s1 l → (∀ k, k ≠ 32 → k ≠ 33 → s1 k = s k) → s1 32 = nI g →
      Ev (d + 1) m_Mo_isGap 108 [some (.ref 25), some (.int (nI c)), some (.int (nI fm)), some (.int (nI last)), o4] [] w1 nc ns Q := by
    intro last g w1 s1 o4 hl hgl hin hMg hg g1 o1 hs1 h32
    have hnM : nxM H (max fm (nxP H 0)) = g := nxt_eq hMg (by omega) (fun k a b => by rw [hin k a b]; rfl) (fun _ => by rw [hg]; rfl)
    have hnP := nxt_spec (fun n => hs H n == true) (s := g) (by omega)
    have hnPl : nxP H g ≤ last := by
      rcases Nat.lt_or_ge last (nxP H g) with e | e
      · have := hnP.2.2.1 last (by omega) e
        rw [hl.2] at this
        cases this
      · exact e
    have hsg : sgf H fm = g := by unfold sgf; rw [hnM, if_neg (by omega)]
    rw [hsg] at hq1
    refine t_Mo_isGap_108 o1 rfl (Nat.le_of_ble_eq_true rfl) (es_w (fun w2 e2 g2 => ?_))
    rw [h32, moL_33] at e2
    have loop : ∀ m t, t + m = nxP H g - 1 → g ≤ t → ∀ w3 s3, (∀ v, v ≠ 25 → w3 v = w v) → moO w3 s3 l → (∀ k, k ≠ 32 → k ≠ 33 → s3 k = s k) → s3 32 = nI g → s3 33 = nI t →
        Ev (d + 1) m_Mo_isGap 116 [some (.ref 25), some (.int (nI c)), some (.int (nI fm)), some (.int (nI last)), o4] [] w3 nc ns Q := by
      intro m
      induction m with
      | zero =>
        intro t ht hgt w3 s3 g3 o3 hs3 h323 h333
        have hgn : g < nxP H g := by
          rcases Nat.eq_or_lt_of_le hnP.1 with e | e
          · have := hnP.2.2.2 (by show nxP H g < 32768; omega)
            have e' : nxt (fun n => hs H n == true) g = g := e.symm
            rw [e'] at this
            simp only [hg] at this
            cases this
          · exact e
        have ht1 : t + 1 = nxP H g := by omega
        have hh : hs H (t + 1) = true := by
          have := hnP.2.2.2 (by show nxP H g < 32768; omega)
          rw [ht1]
          have this2 : (hs H (nxP H g) == true) = true := this
          simpa using this2
        refine t_Mo_isGap_116 o3 rfl (Nat.le_of_ble_eq_true rfl) ?_
        rw [h333, nI_1]
        refine heard (by omega) o3 g3 ?_
        rw [hh]
        refine t_Mo_isGap_127 (fun _ => t_Mo_isGap_143 (hq1 (by omega) w3 s3 g3 o3 hs3 h323 (by rw [h333]; exact congrArg nI (by omega)))) (fun g => absurd g (by decide))
      | succ m ih =>
        intro t ht hgt w3 s3 g3 o3 hs3 h323 h333
        have hh : hs H (t + 1) = false := by
          have := hnP.2.2.1 (t + 1) (by omega) (by show t + 1 < nxP H g; omega)
          simpa using this
        refine t_Mo_isGap_116 o3 rfl (Nat.le_of_ble_eq_true rfl) ?_
        rw [h333, nI_1]
        refine heard (by omega) o3 g3 ?_
        rw [hh]
        refine t_Mo_isGap_127 (fun g => absurd rfl g) (fun _ => t_Mo_isGap_130 o3 rfl (Nat.le_of_ble_eq_true rfl) (es_w (fun w4 e4 g4 => t_Mo_isGap_140 ?_)))
        rw [h333, nI_1, moL_33] at e4
        exact ih (t + 1) (by omega) (by omega) w4 _ (fun v hv => by rw [g4 v hv]; exact g3 v hv) ⟨by decide, e4⟩ (fun k k1 k2 => by rw [fu_n _ _ k2]; exact hs3 k k1 k2) (by rw [fu_n _ _ (by omega)]; exact h323) (fu_s _ _ _)
    have hgn : g ≤ nxP H g - 1 := by
      have h1 := hnP.1
      rcases Nat.eq_or_lt_of_le h1 with e | e
      · have := hnP.2.2.2 (by show nxP H g < 32768; omega)
        have e' : nxt (fun n => hs H n == true) g = g := e.symm
        rw [e'] at this
        simp only [hg] at this
        cases this
      · have : g < nxP H g := e
        omega
    exact loop (nxP H g - 1 - g) g (by omega) (Nat.le_refl _) w2 _ (fun v hv => by rw [g2 v hv]; exact g1 v hv) ⟨by decide, e2⟩ (fun k k1 k2 => by rw [fu_n _ _ k2]; exact hs1 k k1 k2) (by rw [fu_n _ _ (by omega)]; exact h32) (fu_s _ _ _)
  -- the walk to the gap's start; lm is one more than the last number that was heard
  have walk : ∀ m g lm w1 s1 o4, g + m = 32768 → lm ≤ 32768 → (lm = 0 ∨ hs H (lm - 1) = true) → (∀ k, lm ≤ k → k < 32768 → hs H k = false) → max fm (nxP H 0) ≤ g → (∀ k, max fm (nxP H 0) ≤ k → k < g → hs H k = true) → (∀ v, v ≠ 25 → w1 v = w v) → moO w1 s1 l → (∀ k, k ≠ 32 → k ≠ 33 → s1 k = s k) → s1 32 = nI g →
      Ev (d + 1) m_Mo_isGap 65 [some (.ref 25), some (.int (nI c)), some (.int (nI fm)), some (.int (nI lm + (-1))), o4] [] w1 nc ns Q := by
    intro m
    induction m with
    | zero =>
      intro g lm w1 s1 o4 hgm hlm hl1 hl2 hMg hin g1 o1 hs1 h32
      have none' : sgf H fm = 32768 := by
        unfold sgf
        rw [if_pos]
        have hnM : nxM H (max fm (nxP H 0)) = 32768 := nxt_eq (by omega) (Nat.le_refl _) (fun k a b => by rw [hin k a (by omega)]; rfl) (fun e => absurd e (by omega))
        rw [hnM]
        exact nxP_none (Nat.le_refl _) (fun k a b => absurd b (by omega))
      have hlt : nI lm + (-1) < nI g := by
        rw [Int32.lt_iff_toInt_lt, nI_toInt (by omega)]
        cases lm with
        | zero => have : (nI 0 + (-1)).toInt = -1 := by decide
                  omega
        | succ k => rw [pk_m1, nI_toInt (by omega)]; omega
      refine t_Mo_isGap_65 o1 rfl (fun _ => ?_) (fun x => absurd (by rw [h32]; exact hlt) x)
      refine t_Mo_isGap_98 o1 rfl (fun x => ?_) (fun _ => t_Mo_isGap_106 (hq0 none' w1 s1 g1 o1 hs1))
      rw [h32, Int32.le_iff_toInt_le] at x
      rw [Int32.lt_iff_toInt_lt] at hlt
      omega
    | succ m ih =>
      intro g lm w1 s1 o4 hgm hlm hl1 hl2 hMg hin g1 o1 hs1 h32
      by_cases hgl : g < lm
      · have elm : nI lm + (-1) = nI (lm - 1) := by rw [show lm = (lm - 1) + 1 by omega, pk_m1]; exact congrArg nI (by omega)
        refine t_Mo_isGap_65 o1 rfl (fun x => absurd x (by rw [h32, elm]; exact nI_nlt (by omega) (by omega))) (fun _ => ?_)
        refine t_Mo_isGap_73 o1 rfl (Nat.le_of_ble_eq_true rfl) ?_
        rw [h32]
        refine heard (by omega) o1 g1 ?_
        cases hg : hs H g with
        | true =>
          refine t_Mo_isGap_82 (fun x => absurd x (by decide)) (fun _ => t_Mo_isGap_85 o1 rfl (Nat.le_of_ble_eq_true rfl) (es_w (fun w2 e2 g2 => t_Mo_isGap_95 ?_)))
          rw [h32, nI_1, moL_32] at e2
          refine ih (g + 1) lm w2 _ o4 (by omega) hlm hl1 hl2 (by omega) (fun k a b => ?_) (fun v hv => by rw [g2 v hv]; exact g1 v hv) ⟨by decide, e2⟩ (fun k k1 k2 => by rw [fu_n _ _ k1]; exact hs1 k k1 k2) (fu_s _ _ _)
          by_cases e : k = g
          · rw [e]; exact hg
          · exact hin k a (by omega)
        | false =>
          have hne : g ≠ lm - 1 := fun e => by
            rcases hl1 with x | x
            · omega
            · rw [← e, hg] at x; cases x
          refine t_Mo_isGap_82 (fun _ => t_Mo_isGap_98 o1 rfl (fun _ => ?_) (fun x => absurd (by rw [h32, elm]; exact nI_le (by omega) (by omega)) x)) (fun x => absurd rfl x)
          rw [elm]
          refine ends (lm - 1) g w1 s1 o4 ⟨by omega, ?_⟩ (by omega) hin hMg hg g1 o1 hs1 h32
          rcases hl1 with x | x
          · omega
          · exact x
      · have none' : sgf H fm = 32768 := by
          unfold sgf
          rw [if_pos]
          have hM := nxt_spec (fun n => hs H n == false) (s := max fm (nxP H 0)) (by omega)
          have hge : g ≤ nxM H (max fm (nxP H 0)) := by
            rcases Nat.lt_or_ge (nxM H (max fm (nxP H 0))) g with e | e
            · have h1 := hM.2.2.2 (by show nxM H (max fm (nxP H 0)) < 32768; omega)
              have h2 := hin _ hM.1 e
              have h1' : (hs H (nxM H (max fm (nxP H 0))) == false) = true := h1
              have h2' : hs H (nxM H (max fm (nxP H 0))) = true := h2
              rw [h2'] at h1'
              cases h1'
            · exact e
          exact nxP_none hM.2.1 (fun k a b => hl2 k (by have : nxM H (max fm (nxP H 0)) ≤ k := a; omega) b)
        have hlt : nI lm + (-1) < nI g := by
          rw [Int32.lt_iff_toInt_lt, nI_toInt (by omega)]
          cases lm with
          | zero => have : (nI 0 + (-1)).toInt = -1 := by decide
                    omega
          | succ k => rw [pk_m1, nI_toInt (by omega)]; omega
        refine t_Mo_isGap_65 o1 rfl (fun _ => ?_) (fun x => absurd (by rw [h32]; exact hlt) x)
        refine t_Mo_isGap_98 o1 rfl (fun x => ?_) (fun _ => t_Mo_isGap_106 (hq0 none' w1 s1 g1 o1 hs1))
        rw [h32, Int32.le_iff_toInt_le] at x
        rw [Int32.lt_iff_toInt_lt] at hlt
        omega
  -- the first number that was heard
  have first : ∀ lm, lm ≤ 32768 → (lm = 0 ∨ hs H (lm - 1) = true) → (∀ k, lm ≤ k → k < 32768 → hs H k = false) → ∀ m i, i + m = 32768 → (∀ k, k < i → hs H k = false) →
      Ev (d + 1) m_Mo_isGap 26 [some (.ref 25), some (.int (nI c)), some (.int (nI fm)), some (.int (nI lm + (-1))), some (.int (nI i))] [] w nc ns Q := by
    intro lm hlm hl1 hl2 m
    have go : ∀ i, i ≤ 32768 → nxP H 0 = i → Ev (d + 1) m_Mo_isGap 49 [some (.ref 25), some (.int (nI c)), some (.int (nI fm)), some (.int (nI lm + (-1))), some (.int (nI i))] [] w nc ns Q := by
      intro i hi he
      refine t_Mo_isGap_49 rfl (fun x => ?_) (fun x => ?_)
      · have := (nI_leI (by omega) (by omega)).mp x
        refine t_Mo_isGap_60 ho (Nat.le_of_ble_eq_true rfl) (es_w (fun w2 e2 g2 => ?_))
        rw [moL_32] at e2
        exact walk (32768 - i) i lm w2 _ _ (by omega) hlm hl1 hl2 (by omega) (fun k a b => absurd b (by omega)) g2 ⟨by decide, e2⟩ (fun k k1 _ => fu_n _ _ k1) (fu_s _ _ _)
      · have : i < fm := Nat.lt_of_not_le (fun e => x (nI_le e (by omega)))
        refine t_Mo_isGap_56 ho (Nat.le_of_ble_eq_true rfl) (es_w (fun w2 e2 g2 => ?_))
        rw [moL_32] at e2
        exact walk (32768 - fm) fm lm w2 _ _ (by omega) hlm hl1 hl2 (by omega) (fun k a b => absurd b (by omega)) g2 ⟨by decide, e2⟩ (fun k k1 _ => fu_n _ _ k1) (fu_s _ _ _)
    induction m with
    | zero =>
      intro i hi hk
      exact t_Mo_isGap_26 (fun _ => go i (by omega) (by rw [show i = 32768 by omega]; exact nxP_none (by omega) (fun k _ b => hk k (by omega)))) (fun x => absurd (nI_le (a := 32768) (by omega) (by omega)) x)
    | succ m ih =>
      intro i hi hk
      refine t_Mo_isGap_26 (fun x => absurd ((nI_leI (a := 32768) (by omega) (by omega)).mp x) (by omega)) (fun _ => t_Mo_isGap_33 ho (Nat.le_of_ble_eq_true rfl) (heard (by omega) ho (fun _ _ => rfl) ?_))
      cases hb : hs H i with
      | true => exact t_Mo_isGap_40 (fun _ => go i (by omega) (nxt_eq (by omega) (by omega) (fun k _ b => by rw [hk k b]; rfl) (fun _ => by rw [hb]; rfl))) (fun x => absurd x (by decide))
      | false =>
        refine t_Mo_isGap_40 (fun x => absurd rfl x) (fun _ => t_Mo_isGap_43 rfl ?_)
        rw [nI_1]
        refine ih (i + 1) (by omega) (fun k b => ?_)
        by_cases e : k = i
        · rw [e]; exact hb
        · exact hk k (by omega)
  -- the last number that was heard
  refine t_Mo_isGap_0 rfl ?_
  have lastL : ∀ m, m ≤ 32768 → (∀ k, m ≤ k → k < 32768 → hs H k = false) → Ev (d + 1) m_Mo_isGap 4 [some (.ref 25), some (.int (nI c)), some (.int (nI fm)), some (.int (nI m + (-1))), none] [] w nc ns Q := by
    intro m
    induction m with
    | zero =>
      intro hm hk
      exact t_Mo_isGap_4 (fun _ => t_Mo_isGap_23 rfl (first 0 hm (Or.inl rfl) hk 32768 0 (by omega) (fun k b => absurd b (by omega)))) (fun x => absurd (by decide) x)
    | succ m ih =>
      intro hm hk
      refine t_Mo_isGap_4 (fun x => absurd (by rw [pk_m1] at x; exact x) (nI_pos (n := m) (by omega))) (fun _ => ?_)
      refine t_Mo_isGap_8 ho (Nat.le_of_ble_eq_true rfl) ?_
      rw [pk_m1]
      refine heard (by omega) ho (fun _ _ => rfl) ?_
      cases hb : hs H m with
      | true =>
        refine t_Mo_isGap_14 (fun _ => t_Mo_isGap_23 rfl ?_) (fun x => absurd x (by decide))
        have := first (m + 1) hm (Or.inr (by rw [show m + 1 - 1 = m by omega]; exact hb)) hk 32768 0 (by omega) (fun k b => absurd b (by omega))
        rw [pk_m1] at this
        exact this
      | false =>
        refine t_Mo_isGap_14 (fun x => absurd rfl x) (fun _ => t_Mo_isGap_17 rfl (ih (by omega) (fun k a b => ?_)))
        by_cases e : k = m
        · rw [e]; exact hb
        · exact hk k (by omega) b
  exact lastL 32768 (Nat.le_refl _) (fun k a b => absurd b (by omega))
end Mo9
