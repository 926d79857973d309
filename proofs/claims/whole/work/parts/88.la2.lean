/-! ===== the law: pure parts of the cases that change something ===== -/
theorem rbit_row {r r' : Nat → Nat} {z : Nat} (h : ∀ k, k < z → r k = r' k) {p : Nat} (hp : p < 8 * z) : rbit r p = rbit r' p := by
  unfold rbit
  rw [h (p / 8) (by omega)]
theorem getN_row {r r' : Nat → Nat} {z : Nat} (h : ∀ k, k < z → r k = r' k) {p n : Nat} (hp : p + n ≤ 8 * z) : getN r p n = getN r' p n :=
  getN_congr (fun q _ h2 => rbit_row h (by omega))
theorem crc_row {r r' : Nat → Nat} {z : Nat} (h : ∀ k, k < z → r k = r' k) {n : Nat} (hn : n ≤ z) : crcV r n = crcV r' n := by
  unfold crcV
  rw [crc_congr (fun k hk => h k (by omega))]
theorem rqB_row {r r' : Nat → Nat} {z : Nat} (h : ∀ k, k < z → r k = r' k) (a : rqB r z) : rqB r' z := by
  obtain ⟨a1, a2, a3, a4, a5⟩ := a
  subst a1
  refine ⟨rfl, ?_, ?_, ?_, ?_⟩
  · rw [← getN_row h (by omega), ← crc_row h (by omega)]; exact a2
  · rw [← getN_row h (by omega)]; exact a3
  · rw [← getN_row h (by omega)]; exact a4
  · rw [← getN_row h (by omega), ← getN_row h (by omega)]; exact a5
theorem dstep_row {r r' : Nat → Nat} {z : Nat} (h : ∀ k, k < z → r k = r' k) {e k : Nat} (he : e ≤ 8 * z) (st : Dst) : dstep r e k st = dstep r' e k st := by
  have hd : dhd r e k st.1 st.2.1 = dhd r' e k st.1 st.2.1 := by
    unfold dhd
    by_cases e1 : k % 15 = 1
    · rw [if_pos e1, if_pos e1]
      by_cases e2 : st.1 + 4 ≤ e
      · rw [getN_row h (show st.1 + 4 ≤ 8 * z by omega)]
      · rw [if_neg (fun x => e2 x.1), if_neg (fun x => e2 x.1)]
    · rw [if_neg e1, if_neg e1]
  unfold dstep
  rw [hd]
  congr 1
  funext q
  unfold dst
  by_cases e2 : q.1 + q.2 ≤ e
  · rw [if_pos e2, if_pos e2, getN_row h (show q.1 + q.2 ≤ 8 * z by omega)]
  · rw [if_neg e2, if_neg e2]
theorem dec_row {r r' : Nat → Nat} {z : Nat} (h : ∀ k, k < z → r k = r' k) {e : Nat} (he : e ≤ 8 * z) {fv : Int32} : ∀ k, dec r e fv k = dec r' e fv k
  | 0 => rfl
  | k + 1 => by
    rw [dec, dec, dec_row h he k]
    congr 1
    funext st
    exact dstep_row h he st
theorem dval_row {r r' : Nat → Nat} {z : Nat} (h : ∀ k, k < z → r k = r' k) (hz : 24 ≤ z) : dval r z = dval r' z := by
  funext k
  unfold dval
  rw [getN_row h (show 96 + 32 ≤ 8 * z by omega), dec_row h (show 8 * (z - 4) ≤ 8 * z by omega)]
theorem dec_le {r : Nat → Nat} {e : Nat} {fv : Int32} (he : 160 ≤ e) : ∀ k st, dec r e fv k = some st → st.1 ≤ e
  | 0, st, h => by
    rw [← Option.some.inj h]
    exact he
  | k + 1, st, h => by
    rw [dec] at h
    cases hd : dec r e fv k with
    | none => rw [hd] at h; cases h
    | some s1 =>
      rw [hd] at h
      have h2 : dstep r e (k + 1) s1 = some st := h
      unfold dstep at h2
      cases hh : dhd r e (k + 1) s1.1 s1.2.1 with
      | none => rw [hh] at h2; cases h2
      | some q =>
        rw [hh] at h2
        have h3 : dst r e q s1.2.2.1 s1.2.2.2 = some st := h2
        unfold dst at h3
        by_cases e2 : q.1 + q.2 ≤ e
        · rw [if_pos e2] at h3
          rw [← Option.some.inj h3]
          exact e2
        · rw [if_neg e2] at h3; cases h3
theorem soB_row {r r' : Nat → Nat} {z : Nat} (h : ∀ k, k < z → r k = r' k) (a : soB r z) : soB r' z := by
  obtain ⟨a1, a2, a3, a4, a5, a6, a7⟩ := a
  have g : ∀ p n, p + n ≤ 192 → getN r p n = getN r' p n := fun p n hp => getN_row h (by omega)
  refine ⟨a1, ?_, ?_, ?_, ?_, fun e => ?_, fun e => ?_⟩
  · rw [← getN_row h (by omega), ← crc_row h (by omega)]; exact a2
  · rw [← g 0 8 (by omega)]; exact a3
  · rw [← g 8 8 (by omega)]; exact a4
  · rw [← g 32 32 (by omega)]; exact a5
  · rw [← g 16 16 (by omega)] at e
    obtain ⟨b1, b2, b3, b4, b5⟩ := a6 e
    exact ⟨b1, by rw [← g 8 8 (by omega)]; exact b2, by rw [← g 64 32 (by omega)]; exact b3, by rw [← g 96 32 (by omega)]; exact b4, by rw [← g 128 32 (by omega)]; exact b5⟩
  · rw [← g 16 16 (by omega)] at e
    obtain ⟨b1, b2, st, b3, b4, b5, b6⟩ := a7 e
    have hle := dec_le (by omega) _ st b3
    refine ⟨by rw [← g 64 32 (by omega), ← g 16 16 (by omega)]; exact b1, by rw [← g 32 32 (by omega), ← g 64 32 (by omega), ← g 16 16 (by omega)]; exact b2, st, ?_, b4, ?_, ?_⟩
    · rw [← dec_row h (by omega), ← g 96 32 (by omega), ← g 16 16 (by omega)]; exact b3
    · rw [← getN_row h (by omega)]; exact b5
    · rw [← g 128 32 (by omega)]; exact b6
theorem many_K {pc : Nat} {tu : Int32} : ∀ m (x : Chs) (cg : Nat) (v st : Int32), xU x ≤ xC x → xF x (xC x) ≤ xT x → opnX x < 1000 →
    opnX (manyX pc m (x, cg) v st tu).1 < 1000 ∧ 100 * (manyX pc m (x, cg) v st tu).2 + xF x (xC x) ≤ 100 * cg + xF (manyX pc m (x, cg) v st tu).1 (xC (manyX pc m (x, cg) v st tu).1) ∧ xA (manyX pc m (x, cg) v st tu).1 = xA x ∧ xF x (xC x) ≤ xF (manyX pc m (x, cg) v st tu).1 (xC (manyX pc m (x, cg) v st tu).1)
  | 0, x, cg, v, st, h1, h2, h3 => ⟨h3, Nat.le_refl _, rfl, Nat.le_refl _⟩
  | m + 1, x, cg, v, st, h1, h2, h3 => by
    obtain ⟨a1, a2, a3, a4, a5, a6, a7⟩ := take_K (v := v) (pc := pc) (cg := cg) h1 h2 h3
    obtain ⟨b1, b2, b3, b4⟩ := many_K m (takeX x v pc cg).1 (takeX x v pc cg).2 (v + st) (st + tu) a1 (by rw [a3]; exact a2) a4
    have e : manyX pc (m + 1) (x, cg) v st tu = manyX pc m ((takeX x v pc cg).1, (takeX x v pc cg).2) (v + st) (st + tu) tu := rfl
    rw [e]
    exact ⟨b1, by omega, b3.trans a6, by omega⟩
section La2
variable {w w' : qk_W} {s s' : Nat → Int32} {l l' : Nat → Int64} {X : Nat → Chs} {Y : Nat → Trs} {R R' : Nat → Nat → Nat} {L L' : Nat → Nat} {T T' : Nat → Bool} {np pc bad rej cla sl np' pc' bad' rej' cla' sl' : Nat} {lw lw' : Bool}
theorem msR_pc {p : Nat} (h : msR w s l X np pc) (o : moO w' s' l') (e11 : s' 11 = s 11) (e5 : s' 5 = nI p) (g : ∀ v, v ≠ 25 → w' v = w v) : msR w' s' l' X np p := by
  obtain ⟨ho, h11, h5, ⟨f1, w1, hf1⟩, ⟨f4, ⟨⟨f2, w2, hf2⟩, ⟨f3, w3, hf3⟩, w4⟩, h4⟩, hpl⟩ := h
  exact ⟨o, by rw [e11]; exact h11, e5, ⟨f1, wi_f w1 (g _ (mA_25 (by omega))), hf1⟩, ⟨f4, ⟨⟨f2, wi_f w2 (g _ (mA_25 (by omega))), hf2⟩, ⟨f3, wi_f w3 (g _ (mA_25 (by omega))), hf3⟩, wi_f w4 (g _ (mA_25 (by omega)))⟩, h4⟩, plR_f hpl (fun k a b => g _ (mA_25 (by omega)))⟩
/-- the reference's air changed -/
theorem moR_air (h : moR w s l X Y R L T np pc bad rej cla sl lw) (o : moO w' s' l') (g : ∀ v, v ≠ 25 → v ≠ mA 14 → v ≠ mA 15 → v ≠ mA 16 → w' v = w v) (es : ∀ k, 0 < k → k < 24 → k ≠ 17 → s' k = s k) (ha : maR w' s' sl' R' L' T') : moR w' s' l' X Y R' L' T' np pc bad rej cla sl' lw := by
  obtain ⟨h1, h2, h3, h4, h5, h6, h7, h8, h9, f, hf⟩ := h
  have eA : ∀ k, 0 < k → k ≠ 14 → k ≠ 15 → k ≠ 16 → w' (mA k) = w (mA k) := fun k a b c d => g _ (mA_25 a) (mA_ne b) (mA_ne c) (mA_ne d)
  refine ⟨msR_f h1 o (es 11 (by omega) (by omega) (by omega)) (es 5 (by omega) (by omega) (by omega)) (fun k a b _ => eA k (by omega) (by omega) (by omega) (by omega)), akR_f h2 (eA _ (by omega) (by omega) (by omega) (by omega)), ?_, ha, hvR_f h5 (eA _ (by omega) (by omega) (by omega) (by omega)) (eA _ (by omega) (by omega) (by omega) (by omega)), ohR_f h6 (eA _ (by omega) (by omega) (by omega) (by omega)), ?_, ?_, ?_, f, wi_f hf (eA _ (by omega) (by omega) (by omega) (by omega))⟩
  · rw [es 13 (by omega) (by omega) (by omega)]; exact h3
  · rw [es 21 (by omega) (by omega) (by omega)]; exact h7
  · rw [es 22 (by omega) (by omega) (by omega)]; exact h8
  · rw [es 23 (by omega) (by omega) (by omega)]; exact h9
/-- the reference's station took or closed something -/
theorem moR_st {c : Nat} {y : Chs} (h : moR w s l X Y R L T np pc bad rej cla sl lw) (g : ∀ v, frM v → w' v = w v) (es : ∀ k, k ≠ 11 → k ≠ 0 → s' k = s k) (hm : msR w' s' l' (fu X c y) np' pc) (eA : xA y = xA (X c)) : moR w' s' l' (fu X c y) Y R L T np' pc bad rej cla sl lw := by
  obtain ⟨h1, h2, h3, h4, h5, h6, h7, h8, h9, f, hf⟩ := h
  have e : ∀ k, 11 ≤ k → w' (mA k) = w (mA k) := fun k hk => g _ (frM_A hk)
  refine ⟨hm, akR_same (akR_f h2 (e _ (by omega))) eA, ?_, maR_f h4 (es 17 (by omega) (by omega)) (e _ (by omega)) (e _ (by omega)) (e _ (by omega)), hvR_f h5 (e _ (by omega)) (e _ (by omega)), ohR_f h6 (e _ (by omega)), ?_, ?_, ?_, f, wi_f hf (e _ (by omega))⟩
  · rw [es 13 (by omega) (by omega)]; exact h3
  · rw [es 21 (by omega) (by omega)]; exact h7
  · rw [es 22 (by omega) (by omega)]; exact h8
  · rw [es 23 (by omega) (by omega)]; exact h9
/-- a channel with more samples, or a packet closed -/
theorem jP_st {k c : Nat} {y : Chs} (h : jP k X np pc sl) (hk : k < 512) (hc : c < 4) (ho : opnX y < 1000) (eA : xA y = xA (X c)) (hF : xF (X c) (xC (X c)) ≤ xF y (xC y)) (hp : 100 * np' + xF (X c) (xC (X c)) ≤ 100 * np + xF y (xC y) + 100) : jP (k + 1) (fu X c y) np' pc sl := by
  obtain ⟨h1, h2, h3, h4, h5, h6⟩ := h
  have e := sum4_fu (fun x : Chs => xF x (xC x)) X hc y
  refine ⟨h1, fun c' hc' => ?_, fun c' hc' n hn ha => ?_, by omega, by omega, by omega⟩
  · by_cases ec : c' = c
    · subst ec; rw [fu_s]; exact ho
    · rw [fu_n _ _ ec]; exact h2 c' hc'
  · by_cases ec : c' = c
    · subst ec
      rw [fu_s] at ha ⊢
      rw [eA] at ha
      exact Nat.lt_of_lt_of_le (h3 c' hc' n hn ha) hF
    · rw [fu_n _ _ ec] at ha ⊢; exact h3 c' hc' n hn ha
/-- asked numbers or sent packets alone -/
theorem jP_as {k c : Nat} {y : Chs} (h : jP k X np pc sl) (hk : k < 512) (hc : c < 4) (e1 : xT y = xT (X c)) (e2 : xC y = xC (X c)) (e3 : xF y = xF (X c)) (hA : ∀ n, n < 32768 → xA y n = true → n < xF (X c) (xC (X c))) (hs : sl' ≤ sl + 1) : jP (k + 1) (fu X c y) np pc sl' := by
  obtain ⟨h1, h2, h3, h4, h5, h6⟩ := h
  have e := sum4_fu (fun x : Chs => xF x (xC x)) X hc y
  rw [e3, e2] at e
  refine ⟨h1, fun c' hc' => ?_, fun c' hc' n hn ha => ?_, by omega, by omega, by omega⟩
  · by_cases ec : c' = c
    · subst ec
      rw [fu_s]
      unfold opnX
      rw [e1, e2, e3]
      exact h2 c' hc'
    · rw [fu_n _ _ ec]; exact h2 c' hc'
  · by_cases ec : c' = c
    · subst ec
      rw [fu_s] at ha ⊢
      rw [e2, e3]
      exact hA n hn ha
    · rw [fu_n _ _ ec] at ha ⊢; exact h3 c' hc' n hn ha
theorem jN_X {k c nc ns nc' ns' : Nat} {y : Chs} (h : jN k X Y sl nc ns) (hc : c < 4) (hm : mkC (X c) ≤ mkC y) (hs : sl ≤ sl') (h1 : nc' ≤ nc + 4 * (mkC y - mkC (X c)) + 2 * (min sl' 64 - min sl 64)) (h2 : ns' ≤ ns + 539 * (mkC y - mkC (X c)) + 514 * (min sl' 64 - min sl 64)) : jN (k + 1) (fu X c y) Y sl' nc' ns' := by
  obtain ⟨a, b⟩ := h
  have e := sum4_fu mkC X hc y
  exact ⟨by omega, by omega⟩
theorem jN_Y {k c nc ns nc' ns' : Nat} {y : Trs} (h : jN k X Y sl nc ns) (hc : c < 4) (hm : cnt (yP (Y c)) 32 ≤ cnt (yP y) 32) (h1 : nc' ≤ nc + 3 + 3 * (cnt (yP y) 32 - cnt (yP (Y c)) 32)) (h2 : ns' ≤ ns + 27 + 2050 * (cnt (yP y) 32 - cnt (yP (Y c)) 32)) : jN (k + 1) X (fu Y c y) sl nc' ns' := by
  obtain ⟨a, b⟩ := h
  have e := sum4_fu (fun y : Trs => cnt (yP y) 32) Y hc y
  exact ⟨by omega, by omega⟩
theorem mkC_same {x y : Chs} (e1 : xT y = xT x) (e2 : xC y = xC x) (e3 : xF y = xF x) : mkC y = mkC x := by
  unfold mkC
  rw [e1, e2, e3]
end La2
