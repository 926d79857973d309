/-! ===== the packet ===== -/
def pkW (w : qk_W) (pa ms rw' bl fi n : Nat) (od : Int32) (ib cd bi : Nat) (la sp : Int32) (blk : Nat → Int32) (r : Nat → Nat) (z : Nat) : Prop :=
  wo w pa 7 [.ref ms, .int (nI fi), .int (nI n), .int od, .ref bl, .int (nI ib), .int (nI cd), .int (nI bi), .int la, .int sp] ∧ meR w ms rw' r z ∧ wi w bl 15 blk ∧ 16 ≤ bl ∧ pa ≠ ms ∧ pa ≠ rw' ∧ pa ≠ bl ∧ ms ≠ bl ∧ rw' ≠ bl
/-- from bit 160 on the row holds the stream, and zeros up to the byte's end -/
def rowS (r : Nat → Nat) (st : Strm) : Prop := ∀ p, 160 ≤ p → p < 8 * ((st.1 + 7) / 8) → rbit r p = st.2 p
theorem bt_mask : ∀ s, s ≤ 8 → ∀ i, i < 32 → bt (qi_shl 1 (nI s) - 1) i = decide (i < s) := by decide +kernel
theorem bt_part {x : Int32} {so rm lf : Nat} (h1 : so ≤ rm) (h2 : rm ≤ 8) (h3 : lf + so ≤ 32) (h0 : 0 < so) {j : Nat} (hj : j < 32) :
    bt (qi_shl ((qi_ushr x (nI lf)) &&& ((qi_shl 1 (nI so)) - 1)) (nI (rm - so))) j = (decide (rm - so ≤ j) && decide (j < rm) && bt x (lf + (j - (rm - so)))) := by
  rw [q_shl _ (by omega) hj]
  by_cases g : rm - so ≤ j
  · rw [b_and, q_ushr _ (by omega), bt_mask so (by omega) _ (by omega), decide_eq_decide.mpr (show j - (rm - so) < so ↔ j < rm by omega)]
    cases decide (j < rm) <;> cases bt x (lf + (j - (rm - so))) <;> simp
  · rw [decide_eq_false g]; rfl
theorem rbit_upd (r : Nat → Nat) (k : Nat) (x : Int32) (p : Nat) : rbit (fun j => if j = k then vN x % 256 else r j) p = if p / 8 = k then bt x (7 - p % 8) else rbit r p := by
  unfold rbit
  simp only
  by_cases h : p / 8 = k
  · rw [if_pos h, if_pos h, show (256 : Nat) = 2 ^ 8 from rfl, Nat.testBit_mod_two_pow, decide_eq_true (by omega)]
    rfl
  · rw [if_neg h, if_neg h]
/-- one byte's part of a stream -/
theorem rowS_step {r : Nat → Nat} {st : Strm} {v : Nat} {x y : Int32} {so lf : Nat} (hs : rowS r st) (hok : sOK st) (h160 : 160 ≤ st.1) (hv : ∀ i, i < 32 → bt x i = v.testBit i) (h0 : 0 < so) (h1 : so ≤ 8 - st.1 % 8) (h3 : lf + so ≤ 32)
    (hy : ∀ j, j < 8 → bt y j = ((decide (¬ st.1 % 8 = 0) && (r (st.1 / 8)).testBit j) || (decide (8 - st.1 % 8 - so ≤ j) && decide (j < 8 - st.1 % 8) && bt x (lf + (j - (8 - st.1 % 8 - so)))))) :
    rowS (fun j => if j = st.1 / 8 then vN y % 256 else r j) (app st (v / 2 ^ lf) so) ∧ ∀ p, p < 160 → rbit (fun j => if j = st.1 / 8 then vN y % 256 else r j) p = rbit r p := by
  constructor
  · intro p hp1 hp2
    have hp3 : p < 8 * ((st.1 + so + 7) / 8) := hp2
    show _ = (if st.1 ≤ p ∧ p < st.1 + so then (v / 2 ^ lf).testBit (st.1 + so - 1 - p) else st.2 p)
    rw [rbit_upd]
    by_cases hb : p / 8 = st.1 / 8
    · rw [if_pos hb, hy _ (by omega)]
      by_cases hin : st.1 ≤ p ∧ p < st.1 + so
      · rw [if_pos hin, decide_eq_true (show 8 - st.1 % 8 - so ≤ 7 - p % 8 by omega), decide_eq_true (show 7 - p % 8 < 8 - st.1 % 8 by omega), Nat.testBit_div_two_pow, Bool.true_and, Bool.true_and, hv _ (by omega), show st.1 + so - 1 - p + lf = lf + (7 - p % 8 - (8 - st.1 % 8 - so)) by omega]
        by_cases hm : st.1 % 8 = 0
        · rw [decide_eq_false (by simp [hm])]; rfl
        · have := hs p hp1 (by omega)
          rw [hok p hin.1] at this
          unfold rbit at this
          rw [hb] at this
          rw [this]
          simp
      · rw [if_neg hin]
        have hz : (decide (8 - st.1 % 8 - so ≤ 7 - p % 8) && decide (7 - p % 8 < 8 - st.1 % 8)) = false := by
          by_cases g : 7 - p % 8 < 8 - st.1 % 8
          · rw [decide_eq_false (show ¬ 8 - st.1 % 8 - so ≤ 7 - p % 8 by omega)]; rfl
          · rw [decide_eq_false g]; simp
        rw [hz, Bool.false_and, Bool.or_false]
        by_cases hm : st.1 % 8 = 0
        · rw [decide_eq_false (by simp [hm]), Bool.false_and]
          exact (hok p (by omega)).symm
        · rw [decide_eq_true hm, Bool.true_and]
          have := hs p hp1 (by omega)
          unfold rbit at this
          rw [hb] at this
          exact this
    · rw [if_neg hb, if_neg (by omega)]
      exact hs p hp1 (by omega)
  · intro p hp
    rw [rbit_upd, if_neg (by omega)]
theorem app_app {st : Strm} {v w1 w2 : Nat} : app (app st (v / 2 ^ w2) w1) v w2 = app st v (w1 + w2) := by
  unfold app
  simp only
  congr 1
  · omega
  · funext p
    by_cases h : st.1 + w1 ≤ p ∧ p < st.1 + w1 + w2
    · rw [if_pos h, if_pos (by omega)]
      congr 1
      omega
    · rw [if_neg h]
      by_cases g : st.1 ≤ p ∧ p < st.1 + w1
      · rw [if_pos g, if_pos (by omega), Nat.testBit_div_two_pow]
        congr 1
        omega
      · rw [if_neg g, if_neg (by omega)]
theorem app_mod {st : Strm} {v w n : Nat} (h : w ≤ n) : app st (v % 2 ^ n) w = app st v w := by
  unfold app
  congr 1
  funext p
  by_cases g : st.1 ≤ p ∧ p < st.1 + w
  · rw [if_pos g, if_pos g, Nat.testBit_mod_two_pow, decide_eq_true (by omega), Bool.true_and]
  · rw [if_neg g, if_neg g]
theorem app_0 {st : Strm} {v : Nat} : app st v 0 = st := by
  unfold app
  obtain ⟨a, b⟩ := st
  simp only
  congr 1
  funext p
  rw [if_neg (by omega)]
section PaC
variable {d : Nat} {nc ns : Nat} {Q : Option Value ⊕ Nat → qk_W → Nat → Nat → Prop} {pa ms rw' bl fi n ib cd bi z : Nat} {od la sp : Int32} {blk : Nat → Int32} {r : Nat → Nat}
theorem c_write_loop {w0 : qk_W} {x : Int32} {wx : Nat} {st0 : Strm} {r0 : Nat → Nat} (hwx : wx ≤ 32) (hmax : st0.1 + wx ≤ 4064) (h160 : 160 ≤ st0.1) (hok : sOK st0)
    (hq : ∀ w' r', fr [pa, rw'] w0 w' → pkW w' pa ms rw' bl fi n od ib cd (st0.1 + wx - 160) la sp blk r' z → rowS r' (app st0 (vN x) wx) → (∀ p, p < 160 → rbit r' p = rbit r0 p) → Q (.inl none) w' nc ns) :
    ∀ l, l ≤ wx → ∀ (w : qk_W) (r : Nat → Nat) (o4 o5 o6 o7 : Option Value), fr [pa, rw'] w0 w → pkW w pa ms rw' bl fi n od ib cd (st0.1 + (wx - l) - 160) la sp blk r z → rowS r (app st0 (vN x / 2 ^ l) (wx - l)) → (∀ p, p < 160 → rbit r p = rbit r0 p) →
    Ev d m_Pa_write 2 [some (.ref pa), some (.int x), some (.int (nI wx)), some (.int (nI l)), o4, o5, o6, o7] [] w nc ns Q := by
  intro l
  induction l using Nat.strongRecOn with
  | ind l ih =>
  intro hl w r o4 o5 o6 o7 hf hp hs hh
  by_cases hl0 : l = 0
  · subst hl0
    refine t_Pa_write_2 (fun _ => t_Pa_write_117 ?_) (fun g => absurd (by decide) g)
    refine hq w r hf hp ?_ hh
    simpa using hs
  refine t_Pa_write_2 (fun g => absurd g (nI_nle (by omega) (by omega))) (fun _ => ?_)
  obtain ⟨h1, ⟨h2, ⟨f, h3, h4, h5⟩, h6⟩, h7, h8, a1, a2, a3, a4, a5⟩ := hp
  have eB : (app st0 (vN x / 2 ^ l) (wx - l)).1 = st0.1 + (wx - l) := rfl
  have hokB := app_ok hok (vN x / 2 ^ l) (wx - l)
  generalize hst : app st0 (vN x / 2 ^ l) (wx - l) = st at *
  generalize hB : st0.1 + (wx - l) = B at *
  have e1 : nI (B - 160) / 8 = nI ((B - 160) / 8) := pk_div (d := 8) (by omega) (by omega) (by omega)
  have e2 : qi_rem (nI (B - 160)) 8 = nI ((B - 160) % 8) := rem_nI (b := 8) (by omega) (by omega) (by omega)
  have e3 : (20 : Int32) + nI ((B - 160) / 8) = nI (B / 8) := by rw [show (20 : Int32) = nI 20 from rfl, nI_add]; exact congrArg nI (by omega)
  have e4 : (8 : Int32) - nI ((B - 160) % 8) = nI (8 - B % 8) := by rw [show (8 : Int32) = nI 8 from rfl, pk_sub (by omega)]; exact congrArg nI (by omega)
  -- what a step leaves
  have fin : ∀ so, 0 < so → so ≤ l → so ≤ 8 - B % 8 → ∀ y, (∀ j, j < 8 → bt y j = ((decide (¬ st.1 % 8 = 0) && (r (st.1 / 8)).testBit j) || (decide (8 - st.1 % 8 - so ≤ j) && decide (j < 8 - st.1 % 8) && bt x ((l - so) + (j - (8 - st.1 % 8 - so)))))) → ∀ o4 o5 x7,
      Ev d m_Pa_write 103 [some (.ref pa), some (.int x), some (.int (nI wx)), some (.int (nI (l - so))), o4, o5, some (.int (nI so)), x7] [] (qk_set w rw' (.inl (.byte, 512, .inl (upd f (B / 8) (nB (vN y % 256)))))) nc ns Q := by
    intro so g0 g1 g2 y hy o4 o5 x7
    refine t_Pa_write_103 (wo_n h1 a2) rfl (Nat.le_of_ble_eq_true rfl) ?_
    rw [nI_add]
    refine t_Pa_write_114 ?_
    obtain ⟨k1, k2⟩ := rowS_step (v := vN x) (x := x) (y := y) (so := so) (lf := l - so) hs hokB (by omega) (fun i _ => rfl) g0 (by omega) (by omega) hy
    have eapp : app st (vN x / 2 ^ (l - so)) so = app st0 (vN x / 2 ^ (l - so)) (wx - (l - so)) := by
      rw [← hst]
      have := app_app (st := st0) (v := vN x / 2 ^ (l - so)) (w1 := wx - l) (w2 := so)
      rw [Nat.div_div_eq_div_mul, ← Nat.pow_add, show l - so + so = l by omega, show wx - l + so = wx - (l - so) by omega] at this
      exact this
    rw [eapp] at k1
    refine ih (l - so) (by omega) (by omega) _ _ _ _ _ _ (fr_set (fr_set hf (by simp)) (by simp)) ⟨?_, ⟨wo_n (wo_n h2 h6) (Ne.symm a1), ⟨_, wb_n (wb_s h3.1) (Ne.symm a2), fun k hk => ?_, fun k => ?_⟩, h6⟩, wi_n (wi_n h7 (Ne.symm a5)) (Ne.symm a3), h8, a1, a2, a3, a4, a5⟩ k1 (fun p hp => (k2 p hp).trans (hh p hp))
    · rw [show st0.1 + (wx - (l - so)) - 160 = B - 160 + so by omega]
      exact wo_s h1.1
    · show upd f (B / 8) (nB (vN y % 256)) k = nB (if k = st.1 / 8 then vN y % 256 else r k)
      rw [eB]
      by_cases hk2 : k = B / 8
      · subst hk2; rw [pk_us, if_pos rfl]
      · rw [pk_un hk2, if_neg hk2, h4 k hk]
    · show (if k = st.1 / 8 then vN y % 256 else r k) < 256
      split
      · exact Nat.mod_lt _ (by omega)
      · exact h5 k
  have part : ∀ so, 0 < so → so ≤ l → so ≤ 8 - B % 8 → ∀ X3 X5 XD : Int32, X3 = nI (l - so) → X5 = nI so → XD = nI (8 - B % 8 - so) → ∀ x5, x5 = nI (8 - B % 8) →
      (¬ x5 = (8 : Int32) → Ev d m_Pa_write 88 [some (.ref pa), some (.int x), some (.int (nI wx)), some (.int X3), some (.int (nI (B / 8))), some (.int x5), some (.int X5), some (.int (qi_shl ((qi_ushr x X3) &&& ((qi_shl 1 X5) - 1)) XD))] [.int (nI (B / 8)), .ref rw'] w nc ns Q) ∧
      (x5 = (8 : Int32) → Ev d m_Pa_write 83 [some (.ref pa), some (.int x), some (.int (nI wx)), some (.int X3), some (.int (nI (B / 8))), some (.int x5), some (.int X5), some (.int (qi_shl ((qi_ushr x X3) &&& ((qi_shl 1 X5) - 1)) XD))] [.int (nI (B / 8)), .ref rw'] w nc ns Q) := by
    intro so g0 g1 g2 X3 X5 XD ex3 ex5 exd x5 e5
    subst ex3 ex5 exd e5
    have hbp : ∀ j, j < 32 → bt (qi_shl ((qi_ushr x (nI (l - so))) &&& ((qi_shl 1 (nI so)) - 1)) (nI (8 - B % 8 - so))) j = _ := fun j hj => bt_part (x := x) (so := so) (rm := 8 - B % 8) (lf := l - so) g2 (by omega) (by omega) g0 hj
    constructor
    · intro hne
      have hb8 : ¬ B % 8 = 0 := fun e => hne (by rw [e]; rfl)
      refine t_Pa_write_88 h1 rfl h2 rfl h3 (vp_in_nI (by omega) (by omega)) h3 (vp_in_nI (by omega) (by omega)) ?_
      rw [nI_clamp (by omega), b8_b8, b8_nB, h4 _ (by omega)]
      refine fin so g0 g1 g2 _ (fun j hj => ?_) _ _ _
      rw [b_or, bt_nB _ (by omega), if_pos hj, hbp j (by omega), eB, decide_eq_true hb8, Bool.true_and]
    · intro he
      have hb8 : B % 8 = 0 := by
        have := (nI_eq (a := 8 - B % 8) (b := 8) (by omega) (by omega)).mp he
        omega
      refine t_Pa_write_83 h3 (vp_in_nI (by omega) (by omega)) ?_
      rw [nI_clamp (by omega), b8_b8, b8_nB]
      refine fin so g0 g1 g2 _ (fun j hj => ?_) _ _ _
      rw [hbp j (by omega), eB, decide_eq_false (show ¬ ¬ B % 8 = 0 from fun g => g hb8), Bool.false_and, Bool.false_or]
  refine t_Pa_write_6 h1 rfl rfl (fun g => ?_) (fun g => ?_)
  · rw [e2, e4] at g
    have hle := (nI_leI (by omega) (by omega)).mp g
    rw [e1, e2, e3, e4]
    obtain ⟨q1, q2⟩ := part l (by omega) (Nat.le_refl _) hle (nI l - nI l) (nI l) (nI (8 - B % 8) - nI l) (pk_sub (Nat.le_refl _)) rfl (pk_sub hle) _ rfl
    exact t_Pa_write_41 rfl rfl h1 rfl h2 rfl q1 q2
  · rw [e2, e4] at g
    have hle : 8 - B % 8 < l := Nat.lt_of_not_le (fun h => g ((nI_leI (by omega) (by omega)).mpr h))
    rw [e1, e2, e3, e4]
    obtain ⟨q1, q2⟩ := part (8 - B % 8) (by omega) (by omega) (Nat.le_refl _) (nI l - nI (8 - B % 8)) (nI (8 - B % 8)) (nI (8 - B % 8) - nI (8 - B % 8)) (pk_sub (by omega)) rfl (pk_sub (Nat.le_refl _)) _ rfl
    exact t_Pa_write_36 rfl h1 rfl h2 rfl q1 q2
theorem c_write {w : qk_W} {x : Int32} {wx : Nat} {st0 : Strm} (h : pkW w pa ms rw' bl fi n od ib cd (st0.1 - 160) la sp blk r z) (hs : rowS r st0) (hwx : wx ≤ 32) (hmax : st0.1 + wx ≤ 4064) (h160 : 160 ≤ st0.1) (hok : sOK st0)
    (hq : ∀ w' r', fr [pa, rw'] w w' → pkW w' pa ms rw' bl fi n od ib cd ((app st0 (vN x) wx).1 - 160) la sp blk r' z → rowS r' (app st0 (vN x) wx) → (∀ p, p < 160 → rbit r' p = rbit r p) → Q (.inl none) w' nc ns) :
    Ev d m_Pa_write 0 [some (.ref pa), some (.int x), some (.int (nI wx)), none, none, none, none, none] [] w nc ns Q := by
  refine t_Pa_write_0 ?_
  refine c_write_loop (r0 := r) hwx hmax h160 hok hq wx (Nat.le_refl _) w r _ _ _ _ fr_refl ?_ ?_ (fun _ _ => rfl)
  · rw [Nat.sub_self, Nat.add_zero]; exact h
  · rw [Nat.sub_self, app_0]; exact hs
theorem c_fitsIn {w : qk_W} {x : Int32} {c : Nat} (hc : c < 10) (hq : Q (.inl (some (.int (b2i (fitB x (wd c)))))) w nc ns) : Ev d m_Pa_fitsIn 0 [some (.int x), some (.int (nI (wd c)))] [] w nc ns Q := by
  have hw := wd_le c
  refine t_Pa_fitsIn_0 (fun h => ?_) (fun h => ?_)
  · have h0 : ¬ wd c = 0 := fun e => h (by rw [e]; rfl)
    refine t_Pa_fitsIn_16 (fun g => t_Pa_fitsIn_32 ?_) (fun g => t_Pa_fitsIn_28 ?_)
    · rwa [b2i_f (fun e => g ((fitsIn_iff hc h0).mpr e))] at hq
    · rwa [b2i_t ((fitsIn_iff hc h0).mp g)] at hq
  · have h0 : wd c = 0 := (nI_eq (b := 0) (by omega) (by omega)).mp h
    unfold fitB at hq
    rw [if_pos h0] at hq
    refine t_Pa_fitsIn_4 (fun g => t_Pa_fitsIn_12 ?_) (fun g => t_Pa_fitsIn_8 ?_)
    · rwa [b2i_f (by simp [g])] at hq
    · rwa [b2i_t (by simp [g])] at hq
theorem c_codeWith {w : qk_W} {x : Int32} (hk : wk w) (h : pkW w pa ms rw' bl fi n od ib cd bi la sp blk r z) (hc : cd ≤ 9) (hq : Q (.inl (some (.int (nI (lc cd x))))) w nc ns) :
    Ev (d + 1) m_Pa_codeWith 0 [some (.ref pa), some (.int x), none] [] w nc ns Q := by
  refine t_Pa_codeWith_0 h.1 rfl rfl ?_
  have key : ∀ m c, c + m = 9 → lc c x = lc cd x → Ev (d + 1) m_Pa_codeWith 5 [some (.ref pa), some (.int x), some (.int (nI c))] [] w nc ns Q := by
    intro m
    induction m with
    | zero =>
      intro c hm he
      refine t_Pa_codeWith_5 (fun _ => t_Pa_codeWith_29 ?_) (fun g => absurd (nI_le (a := 9) (by omega) (by omega)) g)
      rw [← he, show c = 9 by omega, lc_9] at hq
      rw [show c = 9 by omega]
      exact hq
    | succ m ih =>
      intro c hm he
      refine t_Pa_codeWith_5 (fun g => absurd ((nI_leI (a := 9) (by omega) (by omega)).mp g) (by omega)) (fun _ => ?_)
      refine t_Pa_codeWith_11 (by rw [hk.1]; exact fun x => by cases x) hk.1 (vp_in_nI (by omega) (by omega)) (Nat.le_of_ble_eq_true rfl) ?_
      rw [nI_clamp (by omega)]
      show Ev d m_Pa_fitsIn 0 [some (.int x), some (.int (qk_wid.getD c 0))] [] w nc ns _
      rw [wd_tab c (by omega)]
      refine c_fitsIn (by omega) ?_
      refine t_Pa_codeWith_20 (fun g => t_Pa_codeWith_29 ?_) (fun g => ?_)
      · have hf : fitB x (wd c) = true := by
          cases hb : fitB x (wd c) with
          | true => rfl
          | false => rw [hb] at g; exact absurd rfl g
        rw [← he, lc_yes hf] at hq
        exact hq
      · have hf : ¬ fitB x (wd c) = true := by
          intro hb; rw [hb] at g; exact absurd g (by decide)
        refine t_Pa_codeWith_23 rfl ?_
        rw [nI_1]
        exact ih (c + 1) (by omega) (by rw [← lc_no (by omega) hf]; exact he)
  exact key (9 - cd) cd (by omega) rfl
theorem sizeFor_nI {b : Nat} (h : b < 2 ^ 30) : (20 : Int32) + (nI b + 7) / 8 + 4 = nI (24 + (b + 7) / 8) := by
  rw [show (7 : Int32) = nI 7 from rfl, nI_add, show (8 : Int32) = nI 8 from rfl, pk_div (by omega) (by omega) (by omega), show (20 : Int32) = nI 20 from rfl, show (4 : Int32) = nI 4 from rfl, nI_add, nI_add]
  exact congrArg nI (by omega)
theorem c_fits {w : qk_W} {x : Int32} (hk : wk w) (h : pkW w pa ms rw' bl fi n od ib cd bi la sp blk r z) (hc : cd ≤ 9) (hi : ib < 15) (hb : bi ≤ 4000) (hq : Q (.inl (some (.int (b2i (decide (24 + (bi + 4 + (ib + 1) * wd (lc cd (x - la - sp)) + 7) / 8 ≤ 512)))))) w nc ns) :
    Ev (d + 2) m_Pa_fits 0 [some (.ref pa), some (.int x), none] [] w nc ns Q := by
  refine t_Pa_fits_0 (by rw [hk.1]; exact fun x => by cases x) h.1 rfl rfl (Nat.le_of_ble_eq_true rfl) (c_codeWith hk h hc ?_)
  have hl := lc_le hc (x - la - sp)
  generalize lc cd (x - la - sp) = c at *
  have hw := wd_le c
  refine t_Pa_fits_18 hk.1 (vp_in_nI (by omega) (by omega)) rfl h.1 rfl rfl (Nat.le_of_ble_eq_true rfl) ?_
  have e : qk_wid.getD (nI c).toNatClampNeg 0 = nI (wd c) := by
    rw [nI_clamp (by omega)]
    exact wd_tab c (by omega)
  have hm : (ib + 1) * wd c ≤ 15 * 32 := Nat.mul_le_mul (by omega) hw
  rw [e, nI_1, pk_mul, show (4 : Int32) = nI 4 from rfl, nI_add, nI_add]
  refine t_Pa_sizeFor_0 ?_
  rw [sizeFor_nI (by omega)]
  refine t_Pa_fits_38 (fun g => t_Pa_fits_48 ?_) (fun g => t_Pa_fits_44 ?_)
  · have := (nI_ltI (a := 512) (by omega) (by omega)).mp g
    rwa [b2i_f (by simp; omega)] at hq
  · have : ¬ 512 < 24 + (bi + 4 + (ib + 1) * wd c + 7) / 8 := fun h => g ((nI_ltI (a := 512) (by omega) (by omega)).mpr h)
    rwa [b2i_t (by simp; omega)] at hq
theorem c_writeBlock {w : qk_W} {st0 : Strm} (hk : wk w) (h : pkW w pa ms rw' bl fi n od ib cd (st0.1 - 160) la sp blk r z) (hp : 16 ≤ rw' ∧ 16 ≤ pa) (hs : rowS r st0) (hc : cd ≤ 9) (hi : ib ≤ 15) (h160 : 160 ≤ st0.1) (hok : sOK st0) (hmax : st0.1 + 4 + ib * wd cd ≤ 4064)
    (hq : ∀ w' r', fr [pa, rw'] w w' → pkW w' pa ms rw' bl fi n od 0 0 ((eD blk (wd cd) (app st0 cd 4) ib).1 - 160) la sp blk r' z → rowS r' (eD blk (wd cd) (app st0 cd 4) ib) → (∀ p, p < 160 → rbit r' p = rbit r p) → Q (.inl none) w' nc ns) :
    Ev (d + 1) m_Pa_writeBlock 0 [some (.ref pa), none] [] w nc ns Q := by
  have hw := wd_le cd
  refine t_Pa_writeBlock_0 h.1 rfl (Nat.le_of_ble_eq_true rfl) (c_write (wx := 4) h hs (by omega) (by omega) h160 hok (fun w1 r1 f1 p1 s1 b1 => ?_))
  rw [vN_nI (by omega)] at p1 s1
  refine t_Pa_writeBlock_9 rfl ?_
  have key : ∀ m k, k + m = ib → ∀ w2 r2, fr [pa, rw'] w w2 → pkW w2 pa ms rw' bl fi n od ib cd ((eD blk (wd cd) (app st0 cd 4) k).1 - 160) la sp blk r2 z → rowS r2 (eD blk (wd cd) (app st0 cd 4) k) → (∀ p, p < 160 → rbit r2 p = rbit r p) →
      Ev (d + 1) m_Pa_writeBlock 11 [some (.ref pa), some (.int (nI k))] [] w2 nc ns Q := by
    intro m
    induction m with
    | zero =>
      intro k hk2 w2 r2 f2 p2 s2 b2
      obtain ⟨h1, h2, h7, h8, a1, a2, a3, a4, a5⟩ := p2
      have ek : k = ib := by omega
      subst ek
      refine t_Pa_writeBlock_11 h1 rfl (fun _ => ?_) (fun g => absurd (nI_le (Nat.le_refl _) (by omega)) g)
      refine t_Pa_writeBlock_43 h1 (Nat.le_of_ble_eq_true rfl) ?_
      refine t_Pa_writeBlock_48 (wo_s h1.1) (Nat.le_of_ble_eq_true rfl) ?_
      refine t_Pa_writeBlock_53 (hq _ r2 (fr_set (fr_set f2 (by simp)) (by simp)) ⟨wo_s h1.1, meR_f h2 ?_ ?_, wi_n (wi_n h7 (Ne.symm a3)) (Ne.symm a3), h8, a1, a2, a3, a4, a5⟩ s2 b2)
      · rw [qk_set_ne (Ne.symm a1), qk_set_ne (Ne.symm a1)]
      · rw [qk_set_ne (Ne.symm a2), qk_set_ne (Ne.symm a2)]
    | succ m ih =>
      intro k hk2 w2 r2 f2 p2 s2 b2
      have hk' : wk w2 := wk_f hk (fun v hv => f2 v (by simp; omega))
      refine t_Pa_writeBlock_11 p2.1 rfl (fun g => absurd ((nI_leI (by omega) (by omega)).mp g) (by omega)) (fun _ => ?_)
      refine t_Pa_writeBlock_19 p2.1 rfl p2.2.2.1 (vp_in_nI (by omega) (by omega)) (by rw [hk'.1]; exact fun x => by cases x) rfl hk'.1 (vp_in_nI (by omega) (by omega)) (Nat.le_of_ble_eq_true rfl) ?_
      rw [nI_clamp (by omega), nI_clamp (by omega)]
      show Ev d m_Pa_write 0 [some (.ref pa), some (.int (blk k)), some (.int (qk_wid.getD cd 0)), none, none, none, none, none] [] w2 nc ns _
      rw [wd_tab cd (by omega)]
      have e1 := eD_1 blk (wd cd) (app st0 cd 4) k
      have e2 : (app st0 cd 4).1 = st0.1 + 4 := rfl
      have hm2 : (k + 1) * wd cd ≤ ib * wd cd := Nat.mul_le_mul_right _ (by omega)
      rw [Nat.succ_mul] at hm2
      refine c_write p2 s2 hw (by omega) (by omega) (eD_ok (app_ok hok _ _) _) (fun w3 r3 f3 p3 s3 b3 => ?_)
      refine t_Pa_writeBlock_37 rfl ?_
      rw [nI_1]
      exact ih (k + 1) (by omega) w3 r3 (fr_trans f2 f3) p3 s3 (fun p hp => (b3 p hp).trans (b2 p hp))
  exact key ib 0 (by omega) w1 r1 f1 p1 s1 b1
end PaC
