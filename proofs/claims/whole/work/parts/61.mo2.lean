/-! ===== the reference: its list of packets ===== -/
/-- the reference's packets, against the channels' own -/
def plF (X : Nat → Chs) (np : Nat) (f6 f7 f8 f9 f10 : Nat → Int32) : Prop :=
  (∀ c, c < 4 → ∀ t, t < xC (X c) → xO (X c) t < np ∧ f6 (xO (X c) t) = nI c ∧ f7 (xO (X c) t) = nI (xF (X c) t) ∧ f8 (xO (X c) t) = nI (xF (X c) (t + 1) - xF (X c) t) ∧ f9 (xO (X c) t) = nI (xQ (X c) t) ∧ f10 (xO (X c) t) = b2i (decide (fwX (X c) ≤ t))) ∧
  (∀ p, p < np → ∃ c, c < 4 ∧ ∃ t, t < xC (X c) ∧ xO (X c) t = p) ∧
  (∀ c, c < 4 → ∀ t u, t < u → u < xC (X c) → xO (X c) t < xO (X c) u)
def plR (w : qk_W) (X : Nat → Chs) (np : Nat) : Prop :=
  ∃ f6 f7 f8 f9 f10, wi w (mA 6) 4096 f6 ∧ wi w (mA 7) 4096 f7 ∧ wi w (mA 8) 4096 f8 ∧ wi w (mA 9) 4096 f9 ∧ wz w (mA 10) 4096 f10 ∧ plF X np f6 f7 f8 f9 f10
def rfX (x : Chs) (np : Nat) : Nat := if xC x = 0 then np else xO x (xC x - 32)
section Mo2
variable {d : Nat} {w : qk_W} {nc ns : Nat} {Q : Option Value ⊕ Nat → qk_W → Nat → Nat → Prop} {s : Nat → Int32} {l : Nat → Int64} {X : Nat → Chs} {np : Nat}
theorem c_ringFirst {c : Nat} {f6 : Nat → Int32} (ho : moO w s l) (hn : s 11 = nI np) (h6 : wi w (mA 6) 4096 f6) (hc : c < 4) (hnp : np ≤ 4096)
    (ha : ∀ c, c < 4 → ∀ t, t < xC (X c) → xO (X c) t < np ∧ f6 (xO (X c) t) = nI c) (hb : ∀ p, p < np → ∃ c, c < 4 ∧ ∃ t, t < xC (X c) ∧ xO (X c) t = p) (hm : ∀ c, c < 4 → ∀ t u, t < u → u < xC (X c) → xO (X c) t < xO (X c) u)
    (hq : Q (.inl (some (.int (nI (rfX (X c) np))))) w nc ns) :
    Ev d m_Mo_ringFirst 0 [some (.ref 25), some (.int (nI c)), none, none, none] [] w nc ns Q := by
  refine t_Mo_ringFirst_0 rfl ho rfl ?_
  have e0 : ∀ a : Int32, a - 1 = a + (-1) := fun a => Int32.sub_eq_add_neg a 1
  have key : ∀ m t, m ≤ np → t ≤ xC (X c) → xC (X c) - t ≤ 32 → (∀ u, u < t → xO (X c) u < m) → (∀ u, t ≤ u → u < xC (X c) → m ≤ xO (X c) u) →
      Ev d m_Mo_ringFirst 16 [some (.ref 25), some (.int (nI c)), some (.int (nI (32 - (xC (X c) - t)))), some (.int (nI (if t = xC (X c) then np else xO (X c) t))), some (.int (nI m + (-1)))] [] w nc ns Q := by
    intro m
    induction m with
    | zero =>
      intro t hmn ht h32 hlo hhi
      refine t_Mo_ringFirst_16 (fun _ => t_Mo_ringFirst_48 ?_) (fun g => absurd (by decide) g)
      have t0 : t = 0 := by
        rcases Nat.eq_zero_or_pos t with e | e
        · exact e
        · exact absurd (hlo 0 e) (by omega)
      subst t0
      unfold rfX at hq
      by_cases e : xC (X c) = 0
      · rw [if_pos e] at hq; rw [if_pos e.symm]; exact hq
      · rw [if_neg e, show xC (X c) - 32 = 0 by omega] at hq; rw [if_neg (fun x => e x.symm)]; exact hq
    | succ m ih =>
      intro t hmn ht h32 hlo hhi
      rw [pk_m1]
      refine t_Mo_ringFirst_16 (fun g => absurd g (nI_pos (by omega))) (fun _ => ?_)
      refine t_Mo_ringFirst_21 (fun g => t_Mo_ringFirst_48 ?_) (fun g => ?_)
      · have h0 : 32 - (xC (X c) - t) ≤ 0 := (nI_leI (b := 0) (by omega) (by omega)).mp g
        unfold rfX at hq
        rw [if_neg (by omega), show xC (X c) - 32 = t by omega] at hq
        rw [if_neg (by omega)]
        exact hq
      have hleft : 0 < 32 - (xC (X c) - t) := by
        rcases Nat.eq_zero_or_pos (32 - (xC (X c) - t)) with e | e
        · rw [e] at g; exact absurd (by decide) g
        · exact e
      obtain ⟨c', hc', t', ht', hp⟩ := hb m (by omega)
      have hf := (ha c' hc' t' ht').2
      rw [hp] at hf
      refine t_Mo_ringFirst_25 ho rfl h6 (vp_in_nI (by omega) (by omega)) (fun g => ?_) (fun g => ?_)
      · rw [nI_clamp (by omega), hf] at g
        have hne : c' ≠ c := fun e => g (by rw [e])
        refine t_Mo_ringFirst_42 rfl (ih t (by omega) ht h32 (fun u hu => ?_) (fun u h1 h2 => by have := hhi u h1 h2; omega))
        have h1 := hlo u hu
        rcases Nat.eq_or_lt_of_le (Nat.le_of_lt_succ h1) with e | e
        · have h2 := (ha c hc u (by omega)).2
          rw [e, hf] at h2
          exact absurd ((nI_eq (by omega) (by omega)).mp h2) hne
        · exact e
      · rw [nI_clamp (by omega), hf] at g
        have ec : c' = c := (nI_eq (by omega) (by omega)).mp g
        subst ec
        have htt : t' < t := by
          rcases Nat.lt_or_ge t' t with e | e
          · exact e
          · have := hhi t' e ht'; omega
        have hlast : t' = t - 1 := by
          rcases Nat.eq_or_lt_of_le (show t' ≤ t - 1 by omega) with e | e
          · exact e
          · have h1 := hm c' hc t' (t - 1) e (by omega)
            have h2 := hlo (t - 1) (by omega)
            omega
        refine t_Mo_ringFirst_36 rfl rfl ?_
        have := ih (t - 1) (by omega) (by omega) (by omega) (fun u hu => by
          have h1 := hm c' hc u (t - 1) hu (by omega)
          rw [← hlast, hp] at h1
          exact h1) (fun u h1 h2 => by
          rcases Nat.eq_or_lt_of_le h1 with e | e
          · rw [← e, ← hlast, hp]; exact Nat.le_refl _
          · have := hhi u (by omega) h2; omega)
        rw [if_neg (show ¬ t - 1 = xC (X c') by omega), ← hlast, hp] at this
        rw [show 32 - (xC (X c') - t) = (32 - (xC (X c') - t')) + 1 by omega, pk_m1]
        exact this
  have := key np (xC (X c)) (Nat.le_refl _) (Nat.le_refl _) (by omega) (fun u hu => (ha c hc u hu).1) (fun u h1 h2 => absurd h2 (by omega))
  rw [Nat.sub_self, if_pos rfl, ← hn, ← e0] at this
  exact this
/-- the oldest number that a channel still has, as the reference finds it -/
theorem c_moldest {c : Nat} (ho : moO w s l) (hn : s 11 = nI np) (h : plR w X np) (hc : c < 4) (hnp : np ≤ 4096) (h0 : xF (X c) 0 = 0) (hq : Q (.inl (some (.int (nI (xF (X c) (xC (X c) - 32)))))) w nc ns) :
    Ev (d + 1) m_Mo_oldest 0 [some (.ref 25), some (.int (nI c)), none] [] w nc ns Q := by
  obtain ⟨f6, f7, f8, f9, f10, h6, h7, h8, h9, h10, ha, hb, hm⟩ := h
  refine t_Mo_oldest_0 ho (Nat.le_of_ble_eq_true rfl) (c_ringFirst (X := X) ho hn h6 hc hnp (fun c hc t ht => ⟨(ha c hc t ht).1, (ha c hc t ht).2.1⟩) hb hm ?_)
  unfold rfX
  by_cases e : xC (X c) = 0
  · rw [if_pos e]
    refine t_Mo_oldest_5 rfl ho rfl (fun g => absurd hn.symm g) (fun _ => t_Mo_oldest_14 ?_)
    rw [show xC (X c) - 32 = 0 by omega, h0] at hq
    exact hq
  · rw [if_neg e]
    obtain ⟨a1, a2, a3, a4⟩ := ha c hc (xC (X c) - 32) (by omega)
    refine t_Mo_oldest_5 rfl ho rfl (fun _ => t_Mo_oldest_18 ho rfl h7 (vp_in_nI (by omega) (by omega)) ?_) (fun g => ?_)
    · rw [nI_clamp (by omega), a3]
      exact hq
    · have g2 : nI (xO (X c) (xC (X c) - 32)) = nI np := g.trans hn
      exact absurd ((nI_eq (by omega) (by omega)).mp g2) (by omega)
end Mo2
