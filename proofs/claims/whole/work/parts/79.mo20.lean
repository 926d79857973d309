/-! ===== the reference: deliver ===== -/
/-- the oldest numbers heard -/
def ohR (w : qk_W) (Y : Nat → Trs) : Prop := ∃ f, wi w (mA 20) 4 f ∧ ∀ c, c < 4 → f c = nI (yO (Y c))
theorem ohR_f {w w' : qk_W} {Y : Nat → Trs} (h : ohR w Y) (e : w' (mA 20) = w (mA 20)) : ohR w' Y := by
  obtain ⟨f, a, b⟩ := h
  exact ⟨f, wi_f a e, b⟩
theorem ohR_same {w : qk_W} {Y : Nat → Trs} {c : Nat} {y : Trs} (h : ohR w Y) (e : yO y = yO (Y c)) : ohR w (fu Y c y) := by
  obtain ⟨f, a, b⟩ := h
  exact ⟨f, a, fun c' hc' => by rw [fu_pr yO e]; exact b c' hc'⟩
theorem hvR_same {w : qk_W} {Y : Nat → Trs} {c : Nat} {y : Trs} (h : hvR w Y) (e1 : yV y = yV (Y c)) (e2 : yH y = yH (Y c)) : hvR w (fu Y c y) := by
  obtain ⟨fv, fh, a, b, k⟩ := h
  exact ⟨fv, fh, a, b, fun c' hc' q hq => by rw [fu_pr yV e1, fu_pr yH e2]; exact k c' hc' q hq⟩
theorem hU_0 (H : Nat → Nat) (fi q1 : Nat) : hU H fi 0 q1 = H := by
  funext n
  unfold hU
  by_cases e : 0 < H n
  · rw [if_pos e]
  · rw [if_neg e, if_neg (by omega)]; omega
theorem vU_0 (V : Nat → Int32) (H : Nat → Nat) (fi : Nat) (val : Nat → Int32) : vU V H fi 0 val = V := by
  funext n
  unfold vU
  by_cases e : 0 < H n
  · rw [if_pos e]
  · rw [if_neg e, if_neg (by omega)]
theorem hs_in {H : Nat → Nat} {fi k q1 : Nat} (hq : 0 < q1) (h : H (fi + k) = 0) : hs (hU H fi (k + 1) q1) = fun j => if j = fi + k then true else hs (hU H fi k q1) j := by
  funext n
  unfold hs hU
  by_cases e : n = fi + k
  · subst e
    rw [if_pos rfl, if_neg (by omega), if_pos (by omega), decide_eq_true hq]
  · rw [if_neg e]
    by_cases e1 : 0 < H n
    · rw [if_pos e1, if_pos e1]
    · rw [if_neg e1, if_neg e1]
      by_cases e2 : fi ≤ n ∧ n < fi + k
      · rw [if_pos (by omega), if_pos e2]
      · rw [if_neg (by omega), if_neg e2]
theorem hU_out {H : Nat → Nat} {fi k q1 : Nat} (h : 0 < H (fi + k)) : hU H fi (k + 1) q1 = hU H fi k q1 := by
  funext n
  unfold hU
  by_cases e1 : 0 < H n
  · rw [if_pos e1, if_pos e1]
  · rw [if_neg e1, if_neg e1]
    by_cases e : n = fi + k
    · subst e; exact absurd h e1
    · by_cases e2 : fi ≤ n ∧ n < fi + k
      · rw [if_pos (by omega), if_pos e2]
      · rw [if_neg (by omega), if_neg e2]
theorem vU_out {V : Nat → Int32} {H : Nat → Nat} {fi k : Nat} {val : Nat → Int32} (h : 0 < H (fi + k)) : vU V H fi (k + 1) val = vU V H fi k val := by
  funext n
  unfold vU
  by_cases e1 : 0 < H n
  · rw [if_pos e1, if_pos e1]
  · rw [if_neg e1, if_neg e1]
    by_cases e : n = fi + k
    · subst e; exact absurd h e1
    · by_cases e2 : fi ≤ n ∧ n < fi + k
      · rw [if_pos (by omega), if_pos e2]
      · rw [if_neg (by omega), if_neg e2]
section Mo20
variable {d : Nat} {w : qk_W} {nc ns : Nat} {Q : Option Value ⊕ Nat → qk_W → Nat → Nat → Prop} {s : Nat → Int32} {l : Nat → Int64} {R : Nat → Nat → Nat} {L : Nat → Nat} {T : Nat → Bool} {sl : Nat} {Y : Nat → Trs}
theorem c_mdeliver {x : Int32} {f0 : Nat → Int32} (ho : moO w s l) (ha : maR w s sl R L T) (hv : hvR w Y) (hoh : ohR w Y) (hY : ∀ c, c < 4 → yO (Y c) ≤ 32768) (hf0 : wi w (mA 31) 32768 f0)
    (hqn : isSl sl T x = false → ∀ w', (∀ v, v ≠ 25 → w' v = w v) → moO w' (fu s 0 1) l → Q (.inl (some (.int 0))) w' nc ns)
    (hq0 : ∀ n, x = nI n → n < sl → sl ≤ n + 64 → T (n % 64) = false → ¬ soB (R (n % 64)) (L (n % 64)) → ∀ w' s' l' f, (∀ v, v ≠ 25 → v ≠ mA 31 → w' v = w v) → moO w' s' l' → s' 0 = 0 → (∀ k, 0 < k → k < 24 → k ≠ 21 → s' k = s k) → s' 21 = s 21 + 1 → wi w' (mA 31) 32768 f → Q (.inl (some (.int (-1)))) w' nc ns)
    (hq1 : ∀ n, x = nI n → n < sl → sl ≤ n + 64 → T (n % 64) = false → soB (R (n % 64)) (L (n % 64)) → getN (R (n % 64)) 16 16 = 0 → ∀ w' s' l' f, (∀ v, v ≠ 25 → v ≠ mA 20 → v ≠ mA 31 → w' v = w v) → moO w' s' l' → s' 0 = 0 → (∀ k, 0 < k → k < 24 → s' k = s k) → wi w' (mA 31) 32768 f → hvR w' (fu Y (getN (R (n % 64)) 0 8) (oldY (Y (getN (R (n % 64)) 0 8)) (getN (R (n % 64)) 32 32))) → ohR w' (fu Y (getN (R (n % 64)) 0 8) (oldY (Y (getN (R (n % 64)) 0 8)) (getN (R (n % 64)) 32 32))) → Q (.inl (some (.int 0))) w' nc ns)
    (hq2 : ∀ n, x = nI n → n < sl → sl ≤ n + 64 → T (n % 64) = false → soB (R (n % 64)) (L (n % 64)) → ¬ getN (R (n % 64)) 16 16 = 0 → clash (Y (getN (R (n % 64)) 0 8)) (getN (R (n % 64)) 64 32) (getN (R (n % 64)) 16 16) (dval (R (n % 64)) (L (n % 64))) → ∀ w' s' l' f, (∀ v, v ≠ 25 → v ≠ mA 20 → v ≠ mA 31 → w' v = w v) → moO w' s' l' → s' 0 = 0 → (∀ k, 0 < k → k < 24 → k ≠ 22 → s' k = s k) → s' 22 = s 22 + 1 → wi w' (mA 31) 32768 f → hvR w' (fu Y (getN (R (n % 64)) 0 8) (oldY (Y (getN (R (n % 64)) 0 8)) (getN (R (n % 64)) 32 32))) → ohR w' (fu Y (getN (R (n % 64)) 0 8) (oldY (Y (getN (R (n % 64)) 0 8)) (getN (R (n % 64)) 32 32))) → Q (.inl (some (.int (-2)))) w' nc ns)
    (hq3 : ∀ n, x = nI n → n < sl → sl ≤ n + 64 → T (n % 64) = false → soB (R (n % 64)) (L (n % 64)) → ¬ getN (R (n % 64)) 16 16 = 0 → ¬ clash (Y (getN (R (n % 64)) 0 8)) (getN (R (n % 64)) 64 32) (getN (R (n % 64)) 16 16) (dval (R (n % 64)) (L (n % 64))) → ∀ w' s' l' f, (∀ v, v ≠ 25 → v ≠ mA 18 → v ≠ mA 19 → v ≠ mA 20 → v ≠ mA 31 → w' v = w v) → moO w' s' l' → s' 0 = 0 → (∀ k, 0 < k → k < 24 → s' k = s k) → wi w' (mA 31) 32768 f → (∀ pm, hvR w' (fu Y (getN (R (n % 64)) 0 8) (keepY (Y (getN (R (n % 64)) 0 8)) (getN (R (n % 64)) 64 32) (getN (R (n % 64)) 16 16) (getN (R (n % 64)) 8 8 + 1) (dval (R (n % 64)) (L (n % 64))) (getN (R (n % 64)) 32 32) pm))) → (∀ pm, ohR w' (fu Y (getN (R (n % 64)) 0 8) (keepY (Y (getN (R (n % 64)) 0 8)) (getN (R (n % 64)) 64 32) (getN (R (n % 64)) 16 16) (getN (R (n % 64)) 8 8 + 1) (dval (R (n % 64)) (L (n % 64))) (getN (R (n % 64)) 32 32) pm))) → Q (.inl (some (.int (nI (cnt (hs (hU (yH (Y (getN (R (n % 64)) 0 8))) (getN (R (n % 64)) 64 32) (getN (R (n % 64)) 16 16) (getN (R (n % 64)) 8 8 + 1))) 32768 - cnt (hs (yH (Y (getN (R (n % 64)) 0 8)))) 32768))))) w' nc ns) :
    Ev (d + 3) m_Mo_deliver 0 [some (.ref 25), some (.int x), none, none, none] [] w nc ns Q := by
  refine t_Mo_deliver_0 ho (Nat.le_of_ble_eq_true rfl) (c_misSlot ho ha (fun n a b c e => ?_) (fun e => ?_))
  · refine t_Mo_deliver_6 (fun g => absurd g (by decide)) (fun _ => t_Mo_deliver_9 ho (Nat.le_of_ble_eq_true rfl) (es_w (fun w1 e1 g1 => ?_)))
    rw [moL_0] at e1
    have o1 : moO w1 (fu s 0 0) l := ⟨by decide, e1⟩
    have hqa := hq0 n a b c e
    have hqb := hq1 n a b c e
    have hqc := hq2 n a b c e
    have hqd := hq3 n a b c e
    clear hq0 hq1 hq2 hq3 hqn
    obtain ⟨h17, hsl, har, hln, h5, hK⟩ := id ha
    have hm : n % 64 < 64 := Nat.mod_lt _ (by omega)
    have hl := hK (n % 64) hm (Nat.lt_of_le_of_lt (Nat.mod_le _ _) b)
    have er : qi_rem x 64 = nI (n % 64) := by rw [a]; exact rem_nI (by omega) (b := 64) (by omega) (by omega)
    generalize n % 64 = j at *
    refine t_Mo_deliver_17 o1 rfl (fun _ => t_Mo_deliver_26 o1 (Nat.le_of_ble_eq_true rfl) (es_w (fun w2 e2 g2 => ?_))) (fun g => absurd (by rw [fu_s]; decide) g)
    rw [er, moL_24] at e2
    have o2 : moO w2 (fu (fu s 0 0) 24 (nI j)) l := ⟨by decide, e2⟩
    have r2 : rdS w s j (fu (fu s 0 0) 24 (nI j) 25) w2 := ⟨fun v hv => by rw [g2 v hv, g1 v hv], _, _, o2, fu_s _ _ _, rfl, rfl, fun k k0 k1 => by rw [fu_n _ _ (by omega), fu_n _ _ (by omega)]⟩
    refine t_Mo_deliver_34 o2 (Nat.le_of_ble_eq_true rfl) (c_misMessage (R := R) r2 har hln hm hl.1 hl.2 hf0 (fun hso w3 s3 l3 f3 g3 o3 q0 qs q26 q28 q27 q30 q29 wf3 hf3 => ?_) (fun hso w3 s3 l3 f3 g3 o3 q0 qs wf3 => ?_))
    · refine t_Mo_deliver_38 (fun _ => ?_) (fun g => absurd g (by decide))
      generalize hr : R j = r at *
      generalize hzz : L j = z at *
      have hc4 := hso.2.2.1
      have hp100 := hso.2.2.2.1
      have hold := hso.2.2.2.2.1
      have hb16 := getN_lt r 16 16
      have hnum : getN r 64 32 + getN r 16 16 ≤ 32768 := by
        by_cases e0 : getN r 16 16 = 0
        · have := (hso.2.2.2.2.2.1 e0).2.2.1; omega
        · exact (hso.2.2.2.2.2.2 e0).1
      generalize hC : getN r 0 8 = C at *
      generalize hO : getN r 32 32 = old at *
      generalize hFI : getN r 64 32 = fi at *
      generalize hN : getN r 16 16 = N at *
      generalize hP : getN r 8 8 = P at *
      obtain ⟨f20, w20, hf20⟩ := hoh
      obtain ⟨fv, fh, w18, w19, hvh⟩ := hv
      have hyo := hY C hc4
      have ccl : (nI C).toNatClampNeg = C := nI_clamp (by omega)
      have w20' : wi w3 (mA 20) 4 f20 := wi_f w20 (g3 _ (mA_25 (by omega)) (mA_ne (by omega)))
      have eo : Int32.toInt64 (nI (yO (Y C))) = lN (yO (Y C)) := nI_l (by omega)
      -- behind the oldest
      have aft : ∀ (w4 : qk_W), w4 (mA 20) = some (.inl (.int, 4, .inl (upd f20 C (nI (max (yO (Y C)) old))))) → (∀ v, v ≠ mA 20 → w4 v = w3 v) → Ev (d + 3) m_Mo_deliver 97 [some (.ref 25), some (.int x), none, none, none] [] w4 nc ns Q := by
        intro w4 e4 g4
        have o4 := moO_f o3 (g4 25 (Ne.symm (mA_25 (by omega))))
        have wf4 : wi w4 (mA 31) 32768 f3 := wi_f wf3 (g4 _ (mA_ne (by omega)))
        have gg : ∀ k, 0 < k → k ≠ 20 → k ≠ 31 → w4 (mA k) = w (mA k) := fun k k0 k1 k2 => by rw [g4 _ (mA_ne k1), g3 _ (mA_25 k0) (mA_ne k2)]
        have w18' : wi w4 (mA 18) 131072 fv := wi_f w18 (gg 18 (by omega) (by omega) (by omega))
        have w19' : wb w4 (mA 19) 131072 fh := wb_f w19 (gg 19 (by omega) (by omega) (by omega))
        have fr4 : ∀ v, v ≠ 25 → v ≠ mA 20 → v ≠ mA 31 → w4 v = w v := fun v v1 v2 v3 => by rw [g4 v v2]; exact g3 v v1 v3
        have oh4 : ∀ y : Trs, yO y = max (yO (Y C)) old → ohR w4 (fu Y C y) := by
          intro y hy
          refine ⟨_, e4, fun c' hc' => ?_⟩
          by_cases ec : c' = C
          · subst ec; rw [pk_us, fu_s, hy]
          · rw [pk_un ec, fu_n _ _ ec]; exact hf20 c' hc'
        have hv4 : hvR w4 (fu Y C (oldY (Y C) old)) := hvR_same ⟨fv, fh, w18', w19', hvh⟩ rfl rfl
        refine t_Mo_deliver_97 o4 rfl rfl rfl ?_
        rw [q26, q29, lN_i, ix_nI]
        have at1 : ∀ k, nI (32768 * C + fi) + nI k = nI (32768 * C + (fi + k)) := fun k => by rw [nI_add]; exact congrArg nI (by omega)
        by_cases hN0 : N = 0
        · subst hN0
          refine t_Mo_deliver_113 o4 rfl (fun _ => t_Mo_deliver_168 rfl (t_Mo_deliver_173 o4 rfl (fun _ => t_Mo_deliver_235 ?_) (fun g => absurd (by rw [q27]; decide) g))) (fun g => absurd (by rw [q27]; decide) g)
          exact hqb hso rfl w4 s3 l3 f3 fr4 o4 q0 qs wf4 hv4 (oh4 _ rfl)
        -- the second loop
        have lp2 : ¬ clash (Y C) fi N (dval r z) → ∀ m k, k + m = N → ∀ (w5 : qk_W) (u : Nat) (fv5 fh5 : Nat → Int32), (∀ v, v ≠ mA 18 → v ≠ mA 19 → w5 v = w4 v) → wi w5 (mA 18) 131072 fv5 → wb w5 (mA 19) 131072 fh5 → (∀ c', c' < 4 → ∀ q, q < 32768 → fh5 (32768 * c' + q) = nI (if c' = C then hU (yH (Y C)) fi k (P + 1) q else yH (Y c') q) ∧ (0 < (if c' = C then hU (yH (Y C)) fi k (P + 1) q else yH (Y c') q) → fv5 (32768 * c' + q) = if c' = C then vU (yV (Y C)) (yH (Y C)) fi k (dval r z) q else yV (Y c') q)) → cnt (hs (hU (yH (Y C)) fi k (P + 1))) 32768 = cnt (hs (yH (Y C))) 32768 + u → u ≤ k →
            Ev (d + 3) m_Mo_deliver 173 [some (.ref 25), some (.int x), some (.int (nI (32768 * C + fi))), some (.int (nI u)), some (.int (nI k))] [] w5 nc ns Q := by
          intro hncl m
          induction m with
          | zero =>
            intro k hk w5 u fv5 fh5 g5 w18'' w19'' hvh5 hcnt huk
            have o5 := moO_f o4 (g5 25 (Ne.symm (mA_25 (by omega))) (Ne.symm (mA_25 (by omega))))
            have ek : k = N := by omega
            subst ek
            refine t_Mo_deliver_173 o5 rfl (fun _ => t_Mo_deliver_235 ?_) (fun g => absurd (by rw [q27]; exact nI_le (Nat.le_refl _) (by omega)) g)
            have fr5 : ∀ v, v ≠ 25 → v ≠ mA 18 → v ≠ mA 19 → v ≠ mA 20 → v ≠ mA 31 → w5 v = w v := fun v v1 v2 v3 v4 v5 => by rw [g5 v v2 v3]; exact fr4 v v1 v4 v5
            have wf5 : wi w5 (mA 31) 32768 f3 := wi_f wf4 (g5 _ (mA_ne (by omega)) (mA_ne (by omega)))
            have e0 : ¬ k = 0 := hN0
            have fin := hqd hso e0 hncl w5 s3 l3 f3 fr5 o5 q0 (fun k k0 k1 => qs k k0 k1) wf5 (fun pm => ⟨fv5, fh5, w18'', w19'', fun c' hc' q hq => ?_⟩) (fun pm => ohR_f (oh4 _ rfl) (g5 _ (mA_ne (by omega)) (mA_ne (by omega))))
            · rwa [hcnt, show cnt (hs (yH (Y C))) 32768 + u - cnt (hs (yH (Y C))) 32768 = u by omega] at fin
            · obtain ⟨b1, b2⟩ := hvh5 c' hc' q hq
              by_cases ec : c' = C
              · subst ec
                rw [if_pos rfl] at b1 b2
                rw [if_pos rfl] at b2
                rw [fu_s]
                refine ⟨b1, ?_, b2⟩
                show hU (yH (Y c')) fi k (P + 1) q ≤ 101
                have := (hvh c' hc' q hq).2.1
                unfold hU
                split
                · exact this
                · split <;> omega
              · rw [if_neg ec] at b1 b2
                rw [if_neg ec] at b2
                rw [fu_n _ _ ec]
                exact ⟨b1, (hvh c' hc' q hq).2.1, b2⟩
          | succ m ih =>
            intro k hk w5 u fv5 fh5 g5 w18'' w19'' hvh5 hcnt huk
            have o5 := moO_f o4 (g5 25 (Ne.symm (mA_25 (by omega))) (Ne.symm (mA_25 (by omega))))
            refine t_Mo_deliver_173 o5 rfl (fun g => ?_) (fun _ => ?_)
            · rw [q27] at g
              exact absurd ((nI_leI (by omega) (by omega)).mp g) (by omega)
            have hfk := (hvh5 C hc4 (fi + k) (by omega)).1
            rw [if_pos rfl] at hfk
            have hcur : hU (yH (Y C)) fi k (P + 1) (fi + k) = yH (Y C) (fi + k) := by
              unfold hU
              split
              · rfl
              · rw [if_neg (by omega)]; omega
            rw [hcur] at hfk
            have h101 := (hvh C hc4 (fi + k) (by omega)).2.1
            refine t_Mo_deliver_182 o5 rfl w19'' (by rw [at1]; exact vp_in_nI (by omega) (by omega)) (fun g => t_Mo_deliver_229 rfl ?_) (fun g => ?_)
            · rw [at1, nI_clamp (by omega), hfk] at g
              have hpos : 0 < yH (Y C) (fi + k) := Nat.pos_of_ne_zero (fun z => g (by rw [z]; rfl))
              rw [nI_1]
              refine ih (k + 1) (by omega) w5 u fv5 fh5 g5 w18'' w19'' ?_ ?_ (by omega)
              · rw [hU_out hpos, vU_out hpos]; exact hvh5
              · rw [hU_out hpos]; exact hcnt
            · rw [at1, nI_clamp (by omega), hfk] at g
              have hz0 : yH (Y C) (fi + k) = 0 := (nI_eq (b := 0) (by omega) (by omega)).mp g
              refine t_Mo_deliver_194 o5 rfl rfl w19'' (by rw [at1]; exact vp_in_nI (by omega) (by omega)) (es_w (fun w6 e6 g6 => ?_))
              rw [at1, nI_clamp (by omega), b8_b8, b8_nB, q28, nI_1, vN_nI (by omega), Nat.mod_eq_of_lt (by omega), nB_nI (by omega)] at e6
              have o6 := moO_f o5 (g6 25 (Ne.symm (mA_25 (by omega))))
              refine t_Mo_deliver_210 o6 rfl rfl (wi_f wf4 (by rw [g6 _ (mA_ne (by omega)), g5 _ (mA_ne (by omega)) (mA_ne (by omega))])) (vp_in_nI (by omega) (by omega)) (wi_f w18'' (g6 _ (mA_ne (by omega)))) (by rw [at1]; exact vp_in_nI (by omega) (by omega)) (mA_16 _) (es_w (fun w7 e7 g7 => t_Mo_deliver_226 rfl ?_))
              rw [at1, nI_clamp (by omega), nI_clamp (by omega), hf3 k (by omega)] at e7
              rw [nI_1, nI_1]
              refine ih (k + 1) (by omega) w7 (u + 1) _ _ (fun v v1 v2 => by rw [g7 v v1, g6 v v2]; exact g5 v v1 v2) e7 ⟨mA_16 _, by rw [g7 _ (mA_ne (by omega))]; exact e6⟩ (fun c' hc' q hq => ?_) ?_ (by omega)
              · obtain ⟨b1, b2⟩ := hvh5 c' hc' q hq
                by_cases ec : c' = C
                · subst ec
                  rw [if_pos rfl] at b1
                  rw [if_pos rfl, if_pos rfl] at b2
                  rw [if_pos rfl, if_pos rfl]
                  by_cases eq : q = fi + k
                  · subst eq
                    rw [pk_us, pk_us]
                    have h1 : hU (yH (Y c')) fi (k + 1) (P + 1) (fi + k) = P + 1 := by unfold hU; rw [if_neg (by omega), if_pos (by omega)]
                    have h2 : vU (yV (Y c')) (yH (Y c')) fi (k + 1) (dval r z) (fi + k) = dval r z k := by
                      unfold vU
                      rw [if_neg (by omega), if_pos (by omega)]
                      congr 1
                      omega
                    rw [h1, h2]
                    exact ⟨rfl, fun _ => rfl⟩
                  · rw [pk_un (by omega), pk_un (by omega)]
                    have h1 : hU (yH (Y c')) fi (k + 1) (P + 1) q = hU (yH (Y c')) fi k (P + 1) q := by
                      unfold hU
                      by_cases e1 : 0 < yH (Y c') q
                      · rw [if_pos e1, if_pos e1]
                      · rw [if_neg e1, if_neg e1]
                        by_cases e2 : fi ≤ q ∧ q < fi + k
                        · rw [if_pos (by omega), if_pos e2]
                        · rw [if_neg (by omega), if_neg e2]
                    have h2 : vU (yV (Y c')) (yH (Y c')) fi (k + 1) (dval r z) q = vU (yV (Y c')) (yH (Y c')) fi k (dval r z) q := by
                      unfold vU
                      by_cases e1 : 0 < yH (Y c') q
                      · rw [if_pos e1, if_pos e1]
                      · rw [if_neg e1, if_neg e1]
                        by_cases e2 : fi ≤ q ∧ q < fi + k
                        · rw [if_pos (by omega), if_pos e2]
                        · rw [if_neg (by omega), if_neg e2]
                    rw [h1, h2]
                    exact ⟨b1, b2⟩
                · rw [if_neg ec] at b1
                  rw [if_neg ec, if_neg ec] at b2
                  rw [if_neg ec, if_neg ec]
                  rw [pk_un (by omega), pk_un (by omega)]
                  exact ⟨b1, b2⟩
              · rw [hs_in (by omega) hz0, cnt_ins _ _ (by unfold hs; rw [hcur, hz0]; rfl) 32768, hcnt, if_pos (by omega)]
                omega
        -- the first loop
        have lp1 : ∀ m k, k + m = N → (∀ q, q < k → 0 < yH (Y C) (fi + q) → yV (Y C) (fi + q) = dval r z q) → ∀ o4', Ev (d + 3) m_Mo_deliver 113 [some (.ref 25), some (.int x), some (.int (nI (32768 * C + fi))), some (.int (nI k)), o4'] [] w4 nc ns Q := by
          intro m
          induction m with
          | zero =>
            intro k hk hok o4'
            have ek : k = N := by omega
            refine t_Mo_deliver_113 o4 rfl (fun _ => t_Mo_deliver_168 rfl ?_) (fun g => absurd (by rw [q27]; exact nI_le (by omega) (by omega)) g)
            refine lp2 (fun hcl => ?_) N 0 (by omega) w4 0 fv fh (fun _ _ _ => rfl) w18' w19' (fun c' hc' q hq => ?_) ?_ (by omega)
            · obtain ⟨q, h1, h2, h3⟩ := hcl
              exact h3 (hok q (by omega) h2)
            · rw [hU_0, vU_0]
              obtain ⟨b1, b2, b3⟩ := hvh c' hc' q hq
              by_cases ec : c' = C
              · subst ec
                rw [if_pos rfl, if_pos rfl]
                exact ⟨b1, b3⟩
              · rw [if_neg ec, if_neg ec]
                exact ⟨b1, b3⟩
            · rw [hU_0, Nat.add_zero]
          | succ m ih =>
            intro k hk hok o4'
            obtain ⟨b1, b2, b3⟩ := hvh C hc4 (fi + k) (by omega)
            have nx : (0 < yH (Y C) (fi + k) → yV (Y C) (fi + k) = dval r z k) → Ev (d + 3) m_Mo_deliver 162 [some (.ref 25), some (.int x), some (.int (nI (32768 * C + fi))), some (.int (nI k)), o4'] [] w4 nc ns Q := by
              intro hk2
              refine t_Mo_deliver_162 rfl ?_
              rw [nI_1]
              refine ih (k + 1) (by omega) (fun q hq h0 => ?_) _
              by_cases eq : q = k
              · subst eq; exact hk2 h0
              · exact hok q (by omega) h0
            refine t_Mo_deliver_113 o4 rfl (fun g => ?_) (fun _ => ?_)
            · rw [q27] at g
              exact absurd ((nI_leI (by omega) (by omega)).mp g) (by omega)
            refine t_Mo_deliver_121 o4 rfl w19' (by rw [at1]; exact vp_in_nI (by omega) (by omega)) (fun g => ?_) (fun g => ?_)
            · rw [at1, nI_clamp (by omega), b1] at g
              have := (nI_leI (b := 0) (by omega) (by omega)).mp g
              exact nx (fun h0 => absurd h0 (by omega))
            · rw [at1, nI_clamp (by omega), b1] at g
              have hpos : 0 < yH (Y C) (fi + k) := Nat.lt_of_not_le (fun z => g (nI_le (b := 0) z (by omega)))
              refine t_Mo_deliver_132 o4 rfl w18' (by rw [at1]; exact vp_in_nI (by omega) (by omega)) rfl wf4 (vp_in_nI (by omega) (by omega)) (fun g2 => ?_) (fun g2 => ?_)
              · rw [at1, nI_clamp (by omega), nI_clamp (by omega), b3 hpos, hf3 k (by omega)] at g2
                exact nx (fun _ => g2)
              · rw [at1, nI_clamp (by omega), nI_clamp (by omega), b3 hpos, hf3 k (by omega)] at g2
                refine t_Mo_deliver_149 o4 rfl (Nat.le_of_ble_eq_true rfl) (es_w (fun w5 e5 g5 => t_Mo_deliver_159 ?_))
                rw [moL_22] at e5
                have o5 : moO w5 (fu s3 22 (s3 22 + 1)) l3 := ⟨by decide, e5⟩
                exact hqc hso (by omega) ⟨k, by omega, hpos, g2⟩ w5 _ _ f3 (fun v v1 v2 v3 => by rw [g5 v v1]; exact fr4 v v1 v2 v3) o5 (by rw [fu_n _ _ (by omega)]; exact q0) (fun k k0 k1 k2 => by rw [fu_n _ _ k2]; exact qs k k0 k1) (by rw [fu_s, qs 22 (by omega) (by omega)]) (wi_f wf4 (g5 _ (mA_25 (by omega)))) (hvR_f hv4 (g5 _ (mA_25 (by omega))) (g5 _ (mA_25 (by omega)))) (ohR_f (oh4 _ rfl) (g5 _ (mA_25 (by omega))))
        exact lp1 N 0 (by omega) (fun q hq => absurd hq (by omega)) _
      refine t_Mo_deliver_53 o3 rfl rfl rfl w20' (by rw [q26]; exact vp_in_nI hc4 (by omega)) (fun g => ?_) (fun g => ?_)
      · rw [q26, q30, ccl, hf20 C hc4, eo] at g
        have hle := (lgc_le (by omega) (by omega)).mp g
        rw [q26]
        refine t_Mo_deliver_87 o3 rfl rfl w20' (by rw [q26]; exact vp_in_nI hc4 (by omega)) w20' (vp_in_nI hc4 (by omega)) (mA_16 _) (es_w (fun w4 e4 g4 => aft w4 ?_ g4))
        rw [q26, ccl, hf20 C hc4] at e4
        rw [show max (yO (Y C)) old = yO (Y C) by omega]
        exact e4
      · rw [q26, q30, ccl, hf20 C hc4, eo] at g
        have hgt : yO (Y C) < old := Nat.lt_of_not_le (fun z => g ((lgc_le (by omega) (by omega)).mpr z))
        rw [q26]
        refine t_Mo_deliver_79 o3 rfl w20' (vp_in_nI hc4 (by omega)) (mA_16 _) (es_w (fun w4 e4 g4 => aft w4 ?_ g4))
        rw [ccl, q30, lN_i] at e4
        rw [show max (yO (Y C)) old = old by omega]
        exact e4
    · refine t_Mo_deliver_38 (fun g => absurd rfl g) (fun _ => t_Mo_deliver_41 o3 rfl (Nat.le_of_ble_eq_true rfl) (es_w (fun w4 e4 g4 => t_Mo_deliver_51 ?_)))
      rw [moL_21] at e4
      have o4 : moO w4 (fu s3 21 (s3 21 + 1)) l3 := ⟨by decide, e4⟩
      exact hqa hso w4 _ _ f3 (fun v v1 v2 => by rw [g4 v v1]; exact g3 v v1 v2) o4 (by rw [fu_n _ _ (by omega)]; exact q0) (fun k k0 k1 k2 => by rw [fu_n _ _ k2]; exact qs k k0 k1) (by rw [fu_s, qs 21 (by omega) (by omega)]) (wi_f wf3 (g4 _ (mA_25 (by omega))))
  · refine t_Mo_deliver_6 (fun _ => t_Mo_deliver_13 ho (Nat.le_of_ble_eq_true rfl) (es_w (fun w1 e1 g1 => ?_))) (fun g => absurd rfl g)
    rw [moL_0] at e1
    have o1 : moO w1 (fu s 0 1) l := ⟨by decide, e1⟩
    exact t_Mo_deliver_17 o1 rfl (fun g => absurd (show (1 : Int32) ≤ 0 by rw [fu_s] at g; exact g) (by decide)) (fun _ => t_Mo_deliver_24 (hqn e w1 g1 o1))
end Mo20
