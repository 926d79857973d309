/-! ===== the centre ===== -/
def tmpI (w : qk_W) (n : Nat) : Prop := ∀ k, n ≤ k → w (tN k) = none
theorem tmpI_f {w w' : qk_W} {n m : Nat} (h : tmpI w n) (hm : n ≤ m) (e : ∀ v, v % 16 = 11 → w' v = w v) : tmpI w' m := fun k hk => by
  rw [e _ (by unfold tN; omega)]
  exact h k (by omega)
theorem tmpI_1 {w w' : qk_W} {n : Nat} (h : tmpI w n) (e : fr [tN n] w w') : tmpI w' (n + 1) := fun k hk => by
  rw [e _ (by simp; unfold tN; omega)]
  exact h k (by omega)
theorem fr_11 {w w' : qk_W} {n : Nat} (e : fr [tN n] w w') : frR 11 w w' := fun v hv => e v (by simp; rintro rfl; exact hv (by unfold tN; omega))
def emB (r : Nat → Nat) (z : Nat) : Prop := z = 24 ∧ getN r 8 8 = 0 ∧ getN r 64 32 = 0 ∧ getN r 96 32 = 0 ∧ getN r 128 32 = 0
def flB (r : Nat → Nat) (z : Nat) : Prop := getN r 64 32 + getN r 16 16 ≤ 32768 ∧ getN r 32 32 < getN r 64 32 + getN r 16 16 ∧ ∃ s, dec r (8 * (z - 4)) (nI (getN r 96 32)) (getN r 16 16 - 1) = some s ∧ 8 * (z - 4) - s.1 ≤ 7 ∧ getN r s.1 (8 * (z - 4) - s.1) = 0 ∧ s.2.2.2 = nI (getN r 128 32)
def soB (r : Nat → Nat) (z : Nat) : Prop := 24 ≤ z ∧ nI (getN r (8 * (z - 4)) 32) = crcV r (z - 4) ∧ getN r 0 8 < 4 ∧ getN r 8 8 ≤ 100 ∧ getN r 32 32 ≤ 32768 ∧ (getN r 16 16 = 0 → emB r z) ∧ (¬ getN r 16 16 = 0 → flB r z)
def dval (r : Nat → Nat) (z k : Nat) : Int32 := ((dec r (8 * (z - 4)) (nI (getN r 96 32)) k).map (fun s => s.2.2.2)).getD 0
theorem dec_some {r : Nat → Nat} {e : Nat} {fv : Int32} {k : Nat} : ∀ m, ∀ s, dec r e fv (k + m) = some s → ∃ s', dec r e fv k = some s'
  | 0, s, h => ⟨s, h⟩
  | m + 1, s, h => by
    rw [← Nat.add_assoc, dec] at h
    cases hd : dec r e fv (k + m) with
    | none => rw [hd] at h; cases h
    | some s' => exact dec_some m s' hd
section CeC
variable {d : Nat} {w : qk_W} {nc ns : Nat} {Q : Option Value ⊕ Nat → qk_W → Nat → Nat → Prop} {a rw' z : Nat} {r : Nat → Nat}
theorem gl32 (r : Nat → Nat) (p n : Nat) (hn : n ≤ 32) : getN r p n < 2 ^ 32 := Nat.lt_of_lt_of_le (getN_lt r p n) (Nat.pow_le_pow_right (by omega) hn)
theorem lz {n : Nat} (h : n < 2 ^ 32) : lg_cmp (lN n) 0 = 0 ↔ n = 0 := by
  rw [lgc_eq, show (0 : Int64) = lN 0 from rfl, pk_lEQ (by omega) (by omega)]
theorem c_isEmpty (h : meR w a rw' r z) (hz2 : z ≤ 512) (hq1 : emB r z → Q (.inl (some (.int 1))) w nc ns) (hq0 : ¬ emB r z → Q (.inl (some (.int 0))) w nc ns) :
    Ev (d + 1) m_Ce_isEmpty 0 [some (.ref a)] [] w nc ns Q := by
  refine t_Ce_isEmpty_0 h.1 rfl (fun g => t_Ce_isEmpty_60 (hq0 (fun e => g (by rw [e.1]; rfl)))) (fun g => ?_)
  have ez : z = 24 := (nI_eq (b := 24) (by omega) (by omega)).mp g
  refine t_Ce_isEmpty_9 h.1 (Nat.le_of_ble_eq_true rfl) (c_number (at' := 1) (n := 1) h (by omega) (by omega) ?_)
  refine t_Ce_isEmpty_15 (fun g => t_Ce_isEmpty_60 (hq0 (fun e => g ((lz (gl32 r 8 8 (by omega))).mpr e.2.1)))) (fun g => ?_)
  have e1 := (lz (gl32 r 8 8 (by omega))).mp g
  refine t_Ce_isEmpty_20 h.1 (Nat.le_of_ble_eq_true rfl) (c_number (at' := 8) (n := 4) h (by omega) (by omega) ?_)
  refine t_Ce_isEmpty_27 (fun g => t_Ce_isEmpty_60 (hq0 (fun e => g ((lz (gl32 r 64 32 (by omega))).mpr e.2.2.1)))) (fun g => ?_)
  have e2 := (lz (gl32 r 64 32 (by omega))).mp g
  refine t_Ce_isEmpty_32 h.1 (Nat.le_of_ble_eq_true rfl) (c_number (at' := 12) (n := 4) h (by omega) (by omega) ?_)
  refine t_Ce_isEmpty_39 (fun g => t_Ce_isEmpty_60 (hq0 (fun e => g ((lz (gl32 r 96 32 (by omega))).mpr e.2.2.2.1)))) (fun g => ?_)
  have e3 := (lz (gl32 r 96 32 (by omega))).mp g
  refine t_Ce_isEmpty_44 h.1 (Nat.le_of_ble_eq_true rfl) (c_number (at' := 16) (n := 4) h (by omega) (by omega) ?_)
  refine t_Ce_isEmpty_51 (fun g => t_Ce_isEmpty_60 (hq0 (fun e => g ((lz (gl32 r 128 32 (by omega))).mpr e.2.2.2.2)))) (fun g => t_Ce_isEmpty_56 (hq1 ⟨ez, e1, e2, e3, (lz (gl32 r 128 32 (by omega))).mp g⟩))
theorem c_isFilled (hk : wk w) (h : meR w a rw' r z) (ha : a % 16 = 8) (hr : rw' % 16 = 8) (hz : 24 ≤ z) (hz2 : z ≤ 512) (hn : ¬ getN r 16 16 = 0) (ht : tmpI w nc)
    (hq1 : flB r z → ∀ w', frR 11 w w' → tmpI w' (nc + 1) → Q (.inl (some (.int 1))) w' (nc + 1) (ns + 9))
    (hq0 : ¬ flB r z → ∀ w' nc' ns', frR 11 w w' → tmpI w' nc' → nc ≤ nc' → nc' ≤ nc + 1 → ns ≤ ns' → ns' ≤ ns + 9 → Q (.inl (some (.int 0))) w' nc' ns') :
    Ev (d + 3) m_Ce_isFilled 0 [some (.ref a), none, none, none, none, none, none] [] w nc ns Q := by
  have g16 : getN r 16 16 < 2 ^ 16 := getN_lt r 16 16
  have g64 := gl32 r 64 32 (by omega)
  have g32 := gl32 r 32 32 (by omega)
  refine t_Ce_isFilled_0 h.1 (Nat.le_of_ble_eq_true rfl) (c_number (at' := 2) (n := 2) h (by omega) (by omega) ?_)
  refine t_Ce_isFilled_6 rfl h.1 (Nat.le_of_ble_eq_true rfl) (c_number (at' := 8) (n := 4) h (by omega) (by omega) ?_)
  rw [show 8 * 2 = 16 from rfl, show 8 * 8 = 64 from rfl, show 8 * 4 = 32 from rfl]
  refine t_Ce_isFilled_14 rfl (fun g => t_Ce_isFilled_36 (hq0 (fun e => ?_) w nc ns frR_refl ht (by omega) (by omega) (by omega) (by omega))) (fun g => ?_)
  · rw [lN_add] at g
    have := (lgc_gt (b := 32768) (by omega) (by omega)).mp g
    have := e.1
    omega
  rw [lN_add] at g ⊢
  have hle : getN r 64 32 + getN r 16 16 ≤ 32768 := Nat.le_of_not_lt (fun e => g ((lgc_gt (b := 32768) (by omega) (by omega)).mpr e))
  refine t_Ce_isFilled_25 h.1 (Nat.le_of_ble_eq_true rfl) (c_number (at' := 4) (n := 4) h (by omega) (by omega) ?_)
  rw [show 8 * 4 = 32 from rfl]
  refine t_Ce_isFilled_31 (fun g => ?_) (fun g => t_Ce_isFilled_36 (hq0 (fun e => g ((lgc_lt (by omega) (by omega)).mpr e.2.1)) w nc ns frR_refl ht (by omega) (by omega) (by omega) (by omega)))
  have hlt := (lgc_lt (by omega) (by omega)).mp g
  refine t_Ce_isFilled_38 (tN nc) (by unfold tN; omega) (ht nc (Nat.le_refl _)) (es_w (fun w1 e1 f1 => ?_))
  have m1 := meR_f h (f1 _ (by unfold tN; omega)) (f1 _ (by unfold tN; omega))
  refine t_Ce_isFilled_41 (Nat.le_of_ble_eq_true rfl) (c_De_init m1 hz hz2 ⟨by unfold tN; omega, e1⟩ (by unfold tN; omega) (by unfold tN; omega) (fun w2 f2 d2 => ?_))
  have fT : fr [tN nc] w w2 := fun v hv => (f2 v hv).trans (f1 v (fun e => hv (by simp [e])))
  refine t_Ce_isFilled_46 rfl rfl rfl ?_
  have no : ∀ {w3}, fr [tN nc] w w3 → ¬ flB r z → Q (.inl (some (.int 0))) w3 (nc + 1) (ns + 9) := fun {w3} f3 hf => hq0 hf w3 _ _ (fr_11 f3) (tmpI_1 ht f3) (by omega) (by omega) (by omega) (by omega)
  have key : ∀ m k, k + m = getN r 16 16 - 1 → ∀ w3 s, fr [tN nc] w w3 → dec r (8 * (z - 4)) (nI (getN r 96 32)) k = some s → deR w3 (tN nc) a rw' r z k s →
      Ev (d + 3) m_Ce_isFilled 51 [some (.ref a), some (.long (lN (getN r 16 16))), none, some (.long (lN (getN r 64 32 + getN r 16 16))), none, some (.ref (tN nc)), some (.int (nI (k + 1)))] [] w3 (nc + 1) (ns + 9) Q := by
    intro m
    induction m with
    | zero =>
      intro k hkm w3 s f3 hs d3
      have d3' := d3
      obtain ⟨_, pl, tb, _, X, dw, _⟩ := d3'
      have m3 := meR_f h (f3 _ (by simp; unfold tN; omega)) (f3 _ (by simp; unfold tN; omega))
      have ek : k = getN r 16 16 - 1 := by omega
      refine t_Ce_isFilled_51 (fun _ => ?_) (fun g => absurd ?_ g)
      · refine t_Ce_isFilled_75 dw (Nat.le_of_ble_eq_true rfl) (c_isAtEnd d3 ?_)
        refine t_Ce_isFilled_80 (fun g => t_Ce_isFilled_101 (no f3 (fun e => ?_))) (fun g => ?_)
        · obtain ⟨s', hs', h1, h2, h3⟩ := e.2.2
          rw [← ek, hs] at hs'
          cases hs'
          rw [decide_eq_true h1, decide_eq_true h2] at g
          exact absurd g (by decide)
        · have hE : 8 * (z - 4) - s.1 ≤ 7 ∧ getN r s.1 (8 * (z - 4) - s.1) = 0 := by
            by_cases e1 : 8 * (z - 4) - s.1 ≤ 7
            · by_cases e2 : getN r s.1 (8 * (z - 4) - s.1) = 0
              · exact ⟨e1, e2⟩
              · rw [decide_eq_false e2, Bool.and_false] at g; exact absurd rfl g
            · rw [decide_eq_false e1, Bool.false_and] at g; exact absurd rfl g
          refine t_Ce_isFilled_83 dw rfl m3.1 (Nat.le_of_ble_eq_true rfl) (c_value (at' := 16) m3 (by omega) ?_)
          refine t_Ce_isFilled_94 (fun g2 => t_Ce_isFilled_101 (no f3 (fun e => ?_))) (fun g2 => t_Ce_isFilled_97 (hq1 ⟨hle, hlt, s, by rw [← ek]; exact hs, hE.1, hE.2, g2⟩ w3 (fr_11 f3) (tmpI_1 ht f3)))
          obtain ⟨s', hs', h1, h2, h3⟩ := e.2.2
          rw [← ek, hs] at hs'
          cases hs'
          exact g2 h3
      · rw [nI_l (by omega)]
        exact (lgc_ge (by omega) (by omega)).mpr (by omega)
    | succ m ih =>
      intro k hkm w3 s f3 hs d3
      have d3' := d3
      obtain ⟨_, pl, tb, _, X, dw, _⟩ := d3'
      have hk3 : wk w3 := wk_12 hk (f3 1 (by simp; unfold tN; omega)) (f3 2 (by simp; unfold tN; omega))
      refine t_Ce_isFilled_51 (fun g => absurd ((lgc_ge (a := k + 1) (b := getN r 16 16) (by omega) (by omega)).mp (by rw [nI_l (by omega)] at g; exact g)) (by omega)) (fun _ => ?_)
      refine t_Ce_isFilled_59 dw (Nat.le_of_ble_eq_true rfl) (c_advance hk3 d3 (fun s4 h4 w4 f4 d4 => ?_) (fun h4 w4 f4 => ?_))
      · refine t_Ce_isFilled_64 (fun _ => t_Ce_isFilled_69 rfl ?_) (fun g => absurd g (by decide))
        rw [nI_1]
        exact ih (k + 1) (by omega) w4 s4 (fr_trans f3 f4) (by rw [dec, hs]; exact h4) d4
      · refine t_Ce_isFilled_64 (fun g => absurd rfl g) (fun _ => t_Ce_isFilled_67 (no (fr_trans f3 f4) (fun e => ?_)))
        obtain ⟨s', hs', h1⟩ := e.2.2
        rw [show getN r 16 16 - 1 = (k + 1) + m by omega] at hs'
        obtain ⟨s5, hs5⟩ := dec_some m s' hs'
        rw [dec, hs] at hs5
        have : (some s).bind (dstep r (8 * (z - 4)) (k + 1)) = dstep r (8 * (z - 4)) (k + 1) s := rfl
        rw [this, h4] at hs5
        cases hs5
  exact key (getN r 16 16 - 1) 0 (by omega) w2 _ fT rfl d2
theorem c_isSound (hk : wk w) (h : meR w a rw' r z) (ha : a % 16 = 8) (hr : rw' % 16 = 8) (hz : 16 ≤ z) (hz2 : z ≤ 512) (ht : tmpI w nc)
    (hq1 : soB r z → ∀ w' nc' ns', frR 11 w w' → tmpI w' nc' → nc ≤ nc' → nc' ≤ nc + 1 → ns ≤ ns' → ns' ≤ ns + 9 → Q (.inl (some (.int 1))) w' nc' ns')
    (hq0 : ¬ soB r z → ∀ w' nc' ns', frR 11 w w' → tmpI w' nc' → nc ≤ nc' → nc' ≤ nc + 1 → ns ≤ ns' → ns' ≤ ns + 9 → Q (.inl (some (.int 0))) w' nc' ns') :
    Ev (d + 4) m_Ce_isSound 0 [some (.ref a)] [] w nc ns Q := by
  have no : ¬ soB r z → Q (.inl (some (.int 0))) w nc ns := fun hf => hq0 hf w nc ns frR_refl ht (by omega) (by omega) (by omega) (by omega)
  refine t_Ce_isSound_0 h.1 rfl (fun g => t_Ce_isSound_86 (no (fun e => ?_))) (fun g => ?_)
  · have := (nI_ltI (b := 24) (by omega) (by omega)).mp g
    have := e.1
    omega
  have h24 : 24 ≤ z := Nat.le_of_not_lt (fun e => g (nI_lt (b := 24) e (by decide)))
  refine t_Ce_isSound_9 h.1 (Nat.le_of_ble_eq_true rfl) (c_isSealed hk h (by omega) hz2 ?_)
  refine t_Ce_isSound_13 (fun g => t_Ce_isSound_86 (no (fun e => ?_))) (fun g => ?_)
  · rw [b2i_t (decide_eq_true e.2.1)] at g; exact absurd g (by decide)
  have e1 : nI (getN r (8 * (z - 4)) 32) = crcV r (z - 4) := by
    by_cases e : nI (getN r (8 * (z - 4)) 32) = crcV r (z - 4)
    · exact e
    · rw [b2i_f (by simp; exact e)] at g; exact absurd rfl g
  refine t_Ce_isSound_16 h.1 (Nat.le_of_ble_eq_true rfl) (c_number (at' := 0) (n := 1) h (by omega) (by omega) ?_)
  refine t_Ce_isSound_22 (Nat.le_of_ble_eq_true rfl) (c_isChannelL (by have := gl32 r (8 * 0) (8 * 1) (by omega); omega) ?_)
  refine t_Ce_isSound_25 (fun g => t_Ce_isSound_86 (no (fun e => ?_))) (fun g => ?_)
  · rw [b2i_t (decide_eq_true e.2.2.1)] at g; exact absurd g (by decide)
  have e2 : getN r 0 8 < 4 := by
    by_cases e : getN r 0 8 < 4
    · exact e
    · rw [b2i_f (show ¬ decide (getN r (8 * 0) (8 * 1) < 4) = true by simp; omega)] at g; exact absurd rfl g
  refine t_Ce_isSound_28 h.1 (Nat.le_of_ble_eq_true rfl) (c_number (at' := 1) (n := 1) h (by omega) (by omega) ?_)
  have g8 := gl32 r 8 8 (by omega)
  have g32 := gl32 r 32 32 (by omega)
  have g16 := gl32 r 16 16 (by omega)
  refine t_Ce_isSound_34 (fun g => t_Ce_isSound_86 (no (fun e => ?_))) (fun g => ?_)
  · have := (lgc_gt (a := getN r 8 8) (b := 100) (by omega) (by omega)).mp g
    have := e.2.2.2.1
    omega
  have e3 : getN r 8 8 ≤ 100 := Nat.le_of_not_lt (fun e => g ((lgc_gt (a := getN r 8 8) (b := 100) (by omega) (by omega)).mpr e))
  refine t_Ce_isSound_41 h.1 (Nat.le_of_ble_eq_true rfl) (c_number (at' := 4) (n := 4) h (by omega) (by omega) ?_)
  refine t_Ce_isSound_47 (fun g => t_Ce_isSound_86 (no (fun e => ?_))) (fun g => ?_)
  · have := (lgc_gt (a := getN r 32 32) (b := 32768) (by omega) (by omega)).mp g
    have := e.2.2.2.2.1
    omega
  have e4 : getN r 32 32 ≤ 32768 := Nat.le_of_not_lt (fun e => g ((lgc_gt (a := getN r 32 32) (b := 32768) (by omega) (by omega)).mpr e))
  refine t_Ce_isSound_54 h.1 (Nat.le_of_ble_eq_true rfl) (c_number (at' := 2) (n := 2) h (by omega) (by omega) ?_)
  refine t_Ce_isSound_60 (fun g => ?_) (fun g => ?_)
  · have hn : ¬ getN r 16 16 = 0 := fun e => g ((lz g16).mpr e)
    refine t_Ce_isSound_75 (Nat.le_of_ble_eq_true rfl) (c_isFilled hk h ha hr h24 hz2 hn ht (fun hf w1 f1 t1 => ?_) (fun hf w1 nc1 ns1 f1 t1 a1 a2 a3 a4 => ?_))
    · exact t_Ce_isSound_79 (fun g => absurd g (by decide)) (fun _ => t_Ce_isSound_82 (hq1 ⟨h24, e1, e2, e3, e4, fun e => absurd e hn, fun _ => hf⟩ w1 _ _ f1 t1 (by omega) (by omega) (by omega) (by omega)))
    · exact t_Ce_isSound_79 (fun _ => t_Ce_isSound_86 (hq0 (fun e => hf (e.2.2.2.2.2.2 hn)) w1 nc1 ns1 f1 t1 a1 a2 a3 a4)) (fun g => absurd rfl g)
  · have hn : getN r 16 16 = 0 := (lz g16).mp g
    refine t_Ce_isSound_65 (Nat.le_of_ble_eq_true rfl) (c_isEmpty h hz2 (fun hf => ?_) (fun hf => ?_))
    · exact t_Ce_isSound_69 (fun g => absurd g (by decide)) (fun _ => t_Ce_isSound_72 (hq1 ⟨h24, e1, e2, e3, e4, fun _ => hf, fun e => absurd hn e⟩ w nc ns frR_refl ht (by omega) (by omega) (by omega) (by omega)))
    · exact t_Ce_isSound_69 (fun _ => t_Ce_isSound_86 (no (fun e => hf (e.2.2.2.2.2.1 hn)))) (fun g => absurd rfl g)
end CeC
