/-! ===== the reference: closing a packet ===== -/
theorem moL_11 {s : Nat → Int32} {l : Nat → Int64} {x : Int32} : (moL s l).set 11 (.int x) = moL (fu s 11 x) l := by
  first
    | rfl
    | simp [moL, fu]
section Mo3
variable {d : Nat} {w : qk_W} {nc ns : Nat} {Q : Option Value ⊕ Nat → qk_W → Nat → Nat → Prop} {s : Nat → Int32} {l : Nat → Int64} {X : Nat → Chs} {np : Nat}
theorem mA_ne {a b : Nat} (h : a ≠ b) : mA a ≠ mA b := by unfold mA; omega
theorem mA_16 (a : Nat) : 16 ≤ mA a := by unfold mA; omega
theorem mA_25 {a : Nat} (h : 0 < a) : mA a ≠ 25 := by unfold mA; omega
/-- the list with one packet more, closed last -/
theorem plF_cls {c pc : Nat} {f6 f7 f8 f9 f10 g10 : Nat → Int32} (h : plF X np f6 f7 f8 f9 f10) (hc : c < 4) (hus : xU (X c) ≤ xC (X c))
    (hg : ∀ q, q < np + 1 → g10 q = if q < rfX (clsX (X c) pc np) (np + 1) ∧ upd f6 np (nI c) q = nI c then 0 else upd f10 np 1 q) :
    plF (fu X c (clsX (X c) pc np)) (np + 1) (upd f6 np (nI c)) (upd f7 np (nI (xF (X c) (xC (X c))))) (upd f8 np (nI (xT (X c) - xF (X c) (xC (X c))))) (upd f9 np (nI pc)) g10 := by
  obtain ⟨ha, hb, hm⟩ := h
  have hrf : rfX (clsX (X c) pc np) (np + 1) = fu (xO (X c)) (xC (X c)) np (xC (X c) + 1 - 32) := by
    unfold rfX
    rw [if_neg (by show ¬ xC (X c) + 1 = 0; omega)]
    rfl
  -- orders in the new list
  have hmono : ∀ t u, t < u → u < xC (X c) + 1 → fu (xO (X c)) (xC (X c)) np t < fu (xO (X c)) (xC (X c)) np u := by
    intro t u htu hu
    rw [fu_n _ _ (show t ≠ xC (X c) by omega)]
    by_cases e : u = xC (X c)
    · rw [e, fu_s]; exact (ha c hc t (by omega)).1
    · rw [fu_n _ _ e]; exact hm c hc t u htu (by omega)
  refine ⟨fun c' hc' t ht => ?_, fun p hp => ?_, fun c' hc' t u htu hu => ?_⟩
  · by_cases ec : c' = c
    · subst ec
      rw [fu_s] at ht ⊢
      have ht1 : t < xC (X c') + 1 := ht
      show fu (xO (X c')) (xC (X c')) np t < np + 1 ∧ upd f6 np (nI c') (fu (xO (X c')) (xC (X c')) np t) = nI c' ∧ upd f7 np _ (fu (xO (X c')) (xC (X c')) np t) = nI (fu (xF (X c')) (xC (X c') + 1) (xT (X c')) t) ∧ upd f8 np _ (fu (xO (X c')) (xC (X c')) np t) = nI (fu (xF (X c')) (xC (X c') + 1) (xT (X c')) (t + 1) - fu (xF (X c')) (xC (X c') + 1) (xT (X c')) t) ∧ upd f9 np _ (fu (xO (X c')) (xC (X c')) np t) = nI (fu (xQ (X c')) (xC (X c')) pc t) ∧ g10 (fu (xO (X c')) (xC (X c')) np t) = b2i (decide (max (xU (X c')) (xC (X c') + 1 - 32) ≤ t))
      by_cases et : t = xC (X c')
      · subst et
        rw [fu_s, fu_s, fu_n _ _ (show xC (X c') ≠ xC (X c') + 1 by omega), fu_s, pk_us, pk_us, pk_us, pk_us]
        refine ⟨by omega, rfl, rfl, rfl, rfl, ?_⟩
        rw [hg np (by omega), hrf, pk_us, if_neg, decide_eq_true (by omega)]
        · rw [pk_us]; rfl
        · rintro ⟨g1, _⟩
          by_cases e : xC (X c') + 1 - 32 = xC (X c')
          · rw [e, fu_s] at g1; omega
          · rw [fu_n _ _ e] at g1
            have := (ha c' hc _ (show xC (X c') + 1 - 32 < xC (X c') by omega)).1
            omega
      · have htl : t < xC (X c') := by omega
        obtain ⟨a1, a2, a3, a4, a5, a6⟩ := ha c' hc t htl
        have hne : xO (X c') t ≠ np := by omega
        rw [fu_n _ _ et, fu_n _ _ (show t ≠ xC (X c') + 1 by omega), fu_n _ _ (show t + 1 ≠ xC (X c') + 1 by omega), fu_n _ _ et, pk_un hne, pk_un hne, pk_un hne, pk_un hne]
        refine ⟨by omega, a2, a3, a4, a5, ?_⟩
        rw [hg _ (by omega), hrf, pk_un hne, pk_un hne, a2, a6]
        have hcmp : xO (X c') t < fu (xO (X c')) (xC (X c')) np (xC (X c') + 1 - 32) ↔ t < xC (X c') + 1 - 32 := by
          have e1 : xO (X c') t = fu (xO (X c')) (xC (X c')) np t := (fu_n _ _ et).symm
          rw [e1]
          constructor
          · intro g
            rcases Nat.lt_or_ge t (xC (X c') + 1 - 32) with e | e
            · exact e
            · rcases Nat.eq_or_lt_of_le e with e2 | e2
              · rw [e2] at g; exact absurd g (Nat.lt_irrefl _)
              · have := hmono _ _ e2 ht1; omega
          · intro g; exact hmono _ _ g (by omega)
        by_cases g : t < xC (X c') + 1 - 32
        · rw [if_pos ⟨hcmp.mpr g, rfl⟩, decide_eq_false (by omega)]; rfl
        · rw [if_neg (fun x => g (hcmp.mp x.1))]
          congr 1
          unfold fwX
          exact decide_eq_decide.mpr (by omega)
    · rw [fu_n _ _ ec] at ht ⊢
      obtain ⟨a1, a2, a3, a4, a5, a6⟩ := ha c' hc' t ht
      have hne : xO (X c') t ≠ np := by omega
      rw [pk_un hne, pk_un hne, pk_un hne, pk_un hne]
      refine ⟨by omega, a2, a3, a4, a5, ?_⟩
      rw [hg _ (by omega), pk_un hne, pk_un hne, a2, if_neg (fun x => ec ((nI_eq (by omega) (by omega)).mp x.2))]
      exact a6
  · by_cases e : p = np
    · refine ⟨c, hc, xC (X c), ?_, ?_⟩
      · rw [fu_s]; show xC (X c) < xC (X c) + 1; omega
      · rw [fu_s]; show fu (xO (X c)) (xC (X c)) np (xC (X c)) = p; rw [fu_s, e]
    · obtain ⟨c', hc', t, ht, hp'⟩ := hb p (by omega)
      refine ⟨c', hc', t, ?_⟩
      by_cases ec : c' = c
      · subst ec
        rw [fu_s]
        exact ⟨by show t < xC (X c') + 1; omega, by show fu (xO (X c')) (xC (X c')) np t = p; rw [fu_n _ _ (by omega)]; exact hp'⟩
      · rw [fu_n _ _ ec]; exact ⟨ht, hp'⟩
  · by_cases ec : c' = c
    · subst ec
      rw [fu_s] at hu ⊢
      exact hmono t u htu hu
    · rw [fu_n _ _ ec] at hu ⊢
      exact hm c' hc' t u htu hu
/-- the arrays by channel: taken, where the packet under way begins, its whole bits -/
def mcR (w : qk_W) (X : Nat → Chs) (f4 : Nat → Int32) : Prop := (∃ f2, wi w (mA 2) 4 f2 ∧ ∀ c, c < 4 → f2 c = nI (xT (X c))) ∧ (∃ f3, wi w (mA 3) 4 f3 ∧ ∀ c, c < 4 → f3 c = nI (xF (X c) (xC (X c)))) ∧ wi w (mA 4) 4 f4
theorem c_mclose {c pc : Nat} {f4 : Nat → Int32} (ho : moO w s l) (hn : s 11 = nI np) (hp : s 5 = nI pc) (hC : mcR w X f4) (h : plR w X np) (hc : c < 4) (hnp : np < 4096) (hus : xU (X c) ≤ xC (X c)) (hFT : xF (X c) (xC (X c)) ≤ xT (X c))
    (hq : ∀ w', (∀ v, v ≠ 25 → v ≠ mA 3 → v ≠ mA 4 → v ≠ mA 6 → v ≠ mA 7 → v ≠ mA 8 → v ≠ mA 9 → v ≠ mA 10 → w' v = w v) → moO w' (fu s 11 (nI (np + 1))) l → mcR w' (fu X c (clsX (X c) pc np)) (upd f4 c 0) → plR w' (fu X c (clsX (X c) pc np)) (np + 1) → Q (.inl none) w' nc ns) :
    Ev (d + 1) m_Mo_close 0 [some (.ref 25), some (.int (nI c)), none, none] [] w nc ns Q := by
  obtain ⟨⟨f2, hf2, hf2'⟩, ⟨f3, hf3, hf3'⟩, hf4⟩ := hC
  obtain ⟨f6, f7, f8, f9, f10, h6, h7, h8, h9, h10, hP⟩ := h
  have cn : (s 11).toNatClampNeg = np := by rw [hn]; exact nI_clamp (by omega)
  have ccl : (nI c).toNatClampNeg = c := nI_clamp (by omega)
  have inp : vp_in (s 11) 4096 := by rw [hn]; exact vp_in_nI hnp (by omega)
  have inc : vp_in (nI c) 4 := vp_in_nI hc (by omega)
  refine t_Mo_close_0 ho rfl rfl h6 inp (mA_16 _) (es_w (fun w1 e1 g1 => ?_))
  rw [cn] at e1
  have o1 := moO_f ho (g1 25 (Ne.symm (mA_25 (by omega))))
  refine t_Mo_close_10 o1 rfl rfl rfl (wi_f hf3 (g1 _ (mA_ne (by omega)))) inc (wi_f h7 (g1 _ (mA_ne (by omega)))) inp (mA_16 _) (es_w (fun w2 e2 g2 => ?_))
  rw [cn, ccl, hf3' c hc] at e2
  have o2 := moO_f o1 (g2 25 (Ne.symm (mA_25 (by omega))))
  refine t_Mo_close_25 o2 rfl rfl rfl (wi_f hf2 (by rw [g2 _ (mA_ne (by omega)), g1 _ (mA_ne (by omega))])) inc rfl (wi_f hf3 (by rw [g2 _ (mA_ne (by omega)), g1 _ (mA_ne (by omega))])) inc (wi_f h8 (by rw [g2 _ (mA_ne (by omega)), g1 _ (mA_ne (by omega))])) inp (mA_16 _) (es_w (fun w3 e3 g3 => ?_))
  rw [cn, ccl, hf3' c hc, hf2' c hc, pk_sub hFT] at e3
  have o3 := moO_f o2 (g3 25 (Ne.symm (mA_25 (by omega))))
  refine t_Mo_close_47 o3 rfl rfl rfl (wi_f h9 (by rw [g3 _ (mA_ne (by omega)), g2 _ (mA_ne (by omega)), g1 _ (mA_ne (by omega))])) inp (mA_16 _) (es_w (fun w4 e4 g4 => ?_))
  rw [cn, hp] at e4
  have o4 := moO_f o3 (g4 25 (Ne.symm (mA_25 (by omega))))
  refine t_Mo_close_60 o4 rfl rfl (wz_f h10 (by rw [g4 _ (mA_ne (by omega)), g3 _ (mA_ne (by omega)), g2 _ (mA_ne (by omega)), g1 _ (mA_ne (by omega))])) inp (es_w (fun w5 e5 g5 => ?_))
  rw [cn] at e5
  have o5 := moO_f o4 (g5 25 (Ne.symm (mA_25 (by omega))))
  refine t_Mo_close_70 o5 rfl (Nat.le_of_ble_eq_true rfl) (es_w (fun w6 e6 g6 => ?_))
  rw [hn, nI_1, moL_11] at e6
  have o6 : moO w6 (fu s 11 (nI (np + 1))) l := ⟨by decide, e6⟩
  have gA : ∀ {a}, 0 < a → a ≠ 6 → a ≠ 7 → a ≠ 8 → a ≠ 9 → a ≠ 10 → w6 (mA a) = w (mA a) := fun {a} h0 i6 i7 i8 i9 i10 => by rw [g6 _ (mA_25 h0), g5 _ (mA_ne i10), g4 _ (mA_ne i9), g3 _ (mA_ne i8), g2 _ (mA_ne i7), g1 _ (mA_ne i6)]
  refine t_Mo_close_80 o6 rfl rfl (wi_f hf2 (gA (by omega) (by omega) (by omega) (by omega) (by omega) (by omega))) inc (wi_f hf3 (gA (by omega) (by omega) (by omega) (by omega) (by omega) (by omega))) inc (mA_16 _) (es_w (fun w7 e7 g7 => ?_))
  rw [ccl, hf2' c hc] at e7
  have o7 := moO_f o6 (g7 25 (Ne.symm (mA_25 (by omega))))
  refine t_Mo_close_92 o7 rfl (wi_f hf4 (by rw [g7 _ (mA_ne (by omega))]; exact gA (by omega) (by omega) (by omega) (by omega) (by omega) (by omega))) inc (mA_16 _) (es_w (fun w8 e8 g8 => ?_))
  rw [ccl] at e8
  have o8 := moO_f o7 (g8 25 (Ne.symm (mA_25 (by omega))))
  have k6 : wi w8 (mA 6) 4096 (upd f6 np (nI c)) := by
    show w8 (mA 6) = _
    rw [g8 _ (mA_ne (by omega)), g7 _ (mA_ne (by omega)), g6 _ (mA_25 (by omega)), g5 _ (mA_ne (by omega)), g4 _ (mA_ne (by omega)), g3 _ (mA_ne (by omega)), g2 _ (mA_ne (by omega))]
    exact e1
  have k10 : wz w8 (mA 10) 4096 (upd f10 np 1) := ⟨mA_16 _, by rw [g8 _ (mA_ne (by omega)), g7 _ (mA_ne (by omega)), g6 _ (mA_25 (by omega))]; exact e5⟩
  -- the list as it is before the last loop
  have hP0 := plF_cls (pc := pc) (g10 := fun q => if q < rfX (clsX (X c) pc np) (np + 1) ∧ upd f6 np (nI c) q = nI c then 0 else upd f10 np 1 q) hP hc hus (fun q _ => rfl)
  refine t_Mo_close_99 o8 (Nat.le_of_ble_eq_true rfl) (c_ringFirst (X := fu X c (clsX (X c) pc np)) (np := np + 1) o8 (by rw [fu_s]) k6 hc (by omega) (fun c' hc' t ht => ⟨(hP0.1 c' hc' t ht).1, (hP0.1 c' hc' t ht).2.1⟩) hP0.2.1 hP0.2.2 (t_Mo_close_104 rfl ?_))
  rw [fu_s]
  have hK : rfX (clsX (X c) pc np) (np + 1) ≤ np + 1 := by
    unfold rfX
    split
    · exact Nat.le_refl _
    · have := (hP0.1 c hc (xC (X c) + 1 - 32) (by rw [fu_s]; show _ < xC (X c) + 1; omega)).1
      rw [fu_s] at this
      exact Nat.le_of_lt this
  generalize hKK : rfX (clsX (X c) pc np) (np + 1) = K at *
  -- the waits that are there: 0 or 1
  have h01 : ∀ q, q < np + 1 → upd f10 np 1 q = 0 ∨ upd f10 np 1 q = 1 := by
    intro q hq2
    by_cases e : q = np
    · rw [e, pk_us]; exact Or.inr rfl
    · rw [pk_un e]
      obtain ⟨c', hc', t, ht, hp'⟩ := hP.2.1 q (by omega)
      have := (hP.1 c' hc' t ht).2.2.2.2.2
      rw [hp'] at this
      rw [this]
      cases decide (fwX (X c') ≤ t)
      · exact Or.inl rfl
      · exact Or.inr rfl
  have loop : ∀ m p, p + m = K → ∀ w9 g10, (∀ v, v ≠ mA 10 → w9 v = w8 v) → wz w9 (mA 10) 4096 g10 → (∀ q, q < np + 1 → g10 q = if q < p ∧ upd f6 np (nI c) q = nI c then 0 else upd f10 np 1 q) →
      Ev (d + 1) m_Mo_close 107 [some (.ref 25), some (.int (nI c)), some (.int (nI K)), some (.int (nI p))] [] w9 nc ns Q := by
    intro m
    induction m with
    | zero =>
      intro p hpK w9 g10 g9 z9 hg
      have ep : p = K := by omega
      subst ep
      have gA9 : ∀ {a}, 0 < a → a ≠ 10 → a ≠ 3 → a ≠ 4 → w9 (mA a) = w6 (mA a) := fun {a} h0 i10 i3 i4 => by rw [g9 _ (mA_ne i10), g8 _ (mA_ne i4), g7 _ (mA_ne i3)]
      have eX : ∀ c' : Nat, c' ≠ c → fu X c (clsX (X c) pc np) c' = X c' := fun c' e => fu_n _ _ e
      refine t_Mo_close_107 (fun _ => t_Mo_close_148 (hq w9 (fun v v1 v2 v3 v4 v5 v6 v7 v8 => ?_) (moO_f o8 (g9 25 (Ne.symm (mA_25 (by omega))))) ⟨⟨f2, wi_f hf2 ?_, fun c' hc' => ?_⟩, ⟨upd f3 c (nI (xT (X c))), ?_, fun c' hc' => ?_⟩, ?_⟩ ⟨_, _, _, _, g10, wi_f k6 (g9 _ (mA_ne (by omega))), ?_, ?_, ?_, z9, plF_cls (pc := pc) hP hc hus (by rw [hKK]; exact hg)⟩)) (fun g => absurd (nI_le (Nat.le_refl _) (by omega)) g)
      · rw [g9 v v8, g8 v v3, g7 v v2, g6 v v1, g5 v v8, g4 v v7, g3 v v6, g2 v v5, g1 v v4]
      · rw [gA9 (by omega) (by omega) (by omega) (by omega)]; exact gA (by omega) (by omega) (by omega) (by omega) (by omega) (by omega)
      · by_cases e : c' = c
        · subst e; rw [fu_s]; exact hf2' c' hc
        · rw [eX c' e]; exact hf2' c' hc'
      · show w9 (mA 3) = _
        rw [g9 _ (mA_ne (by omega)), g8 _ (mA_ne (by omega))]
        exact e7
      · by_cases e : c' = c
        · subst e
          rw [pk_us, fu_s]
          show _ = nI (fu (xF (X c')) (xC (X c') + 1) (xT (X c')) (xC (X c') + 1))
          rw [fu_s]
        · rw [pk_un e, eX c' e]; exact hf3' c' hc'
      · show w9 (mA 4) = _
        rw [g9 _ (mA_ne (by omega))]
        exact e8
      · show w9 (mA 7) = _
        rw [gA9 (by omega) (by omega) (by omega) (by omega), g6 _ (mA_25 (by omega)), g5 _ (mA_ne (by omega)), g4 _ (mA_ne (by omega)), g3 _ (mA_ne (by omega))]
        exact e2
      · show w9 (mA 8) = _
        rw [gA9 (by omega) (by omega) (by omega) (by omega), g6 _ (mA_25 (by omega)), g5 _ (mA_ne (by omega)), g4 _ (mA_ne (by omega))]
        exact e3
      · show w9 (mA 9) = _
        rw [gA9 (by omega) (by omega) (by omega) (by omega), g6 _ (mA_25 (by omega)), g5 _ (mA_ne (by omega))]
        exact e4
    | succ m ih =>
      intro p hpK w9 g10 g9 z9 hg
      have o9 := moO_f o8 (g9 25 (Ne.symm (mA_25 (by omega))))
      have k9 := wi_f k6 (g9 _ (mA_ne (by omega)))
      have pcl : (nI p).toNatClampNeg = p := nI_clamp (by omega)
      have pin : vp_in (nI p) 4096 := vp_in_nI (by omega) (by omega)
      have hgp : g10 p = upd f10 np 1 p := by rw [hg p (by omega), if_neg (by omega)]
      have put : ∀ x : Int32, (x = if upd f6 np (nI c) p = nI c then 0 else upd f10 np 1 p) → ∀ w10, w10 (mA 10) = some (.inl (.boolean, 4096, .inl (upd g10 p x))) → (∀ v, v ≠ mA 10 → w10 v = w9 v) → Ev (d + 1) m_Mo_close 142 [some (.ref 25), some (.int (nI c)), some (.int (nI K)), some (.int (nI p))] [] w10 nc ns Q := by
        intro x hx w10 e10 g10'
        refine t_Mo_close_142 rfl ?_
        rw [nI_1]
        refine ih (p + 1) (by omega) w10 _ (fun v hv => (g10' v hv).trans (g9 v hv)) ⟨mA_16 _, e10⟩ (fun q hq2 => ?_)
        by_cases e : q = p
        · subst e
          rw [pk_us, hx]
          by_cases e2 : upd f6 np (nI c) q = nI c
          · rw [if_pos e2, if_pos ⟨by omega, e2⟩]
          · rw [if_neg e2, if_neg (fun y => e2 y.2)]
        · rw [pk_un e, hg q hq2]
          by_cases e2 : q < p ∧ upd f6 np (nI c) q = nI c
          · rw [if_pos e2, if_pos ⟨by omega, e2.2⟩]
          · rw [if_neg e2, if_neg (fun y => e2 ⟨by omega, y.2⟩)]
      refine t_Mo_close_107 (fun g => absurd ((nI_leI (by omega) (by omega)).mp g) (by omega)) (fun _ => ?_)
      refine t_Mo_close_112 o9 rfl z9 pin (fun g => ?_) (fun g => ?_)
      · rw [pcl, hgp] at g
        refine t_Mo_close_140 z9 pin (es_w (fun w10 e10 g10' => ?_))
        rw [pcl] at e10
        exact put 0 (by rw [g]; split <;> rfl) w10 e10 g10'
      · rw [pcl, hgp] at g
        refine t_Mo_close_126 o9 rfl k9 pin (fun g2 => ?_) (fun g2 => ?_)
        · rw [pcl] at g2
          refine t_Mo_close_140 z9 pin (es_w (fun w10 e10 g10' => ?_))
          rw [pcl] at e10
          exact put 0 (by rw [if_pos g2]) w10 e10 g10'
        · rw [pcl] at g2
          refine t_Mo_close_136 z9 pin (es_w (fun w10 e10 g10' => ?_))
          rw [pcl] at e10
          refine put 1 ?_ w10 e10 g10'
          rw [if_neg g2]
          rcases h01 p (by omega) with e | e
          · exact absurd e g
          · exact e.symm
  exact loop K 0 (by omega) w8 _ (fun _ _ => rfl) k10 (fun q _ => by rw [if_neg (by omega)])
end Mo3
