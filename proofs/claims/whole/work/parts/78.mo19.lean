/-! ===== the reference: a message; deliver ===== -/
theorem moL_26 {s : Nat → Int32} {l : Nat → Int64} {x : Int32} : (moL s l).set 26 (.int x) = moL (fu s 26 x) l := by
  unfold moL
  simp [fu]
theorem moL_27 {s : Nat → Int32} {l : Nat → Int64} {x : Int32} : (moL s l).set 27 (.int x) = moL (fu s 27 x) l := by
  unfold moL
  simp [fu]
theorem moL_28 {s : Nat → Int32} {l : Nat → Int64} {x : Int32} : (moL s l).set 28 (.int x) = moL (fu s 28 x) l := by
  unfold moL
  simp [fu]
theorem moL_29 {s : Nat → Int32} {l : Nat → Int64} {x : Int64} : (moL s l).set 29 (.long x) = moL s (fu l 29 x) := by
  unfold moL
  simp [fu]
theorem moL_30 {s : Nat → Int32} {l : Nat → Int64} {x : Int64} : (moL s l).set 30 (.long x) = moL s (fu l 30 x) := by
  unfold moL
  simp [fu]
theorem moL_21 {s : Nat → Int32} {l : Nat → Int64} {x : Int32} : (moL s l).set 21 (.int x) = moL (fu s 21 x) l := by
  unfold moL
  simp [fu]
theorem moL_22 {s : Nat → Int32} {l : Nat → Int64} {x : Int32} : (moL s l).set 22 (.int x) = moL (fu s 22 x) l := by
  unfold moL
  simp [fu]
section Mo19
variable {d : Nat} {w : qk_W} {nc ns : Nat} {Q : Option Value ⊕ Nat → qk_W → Nat → Nat → Prop} {s : Nat → Int32} {l : Nat → Int64} {R : Nat → Nat → Nat} {L : Nat → Nat} {T : Nat → Bool} {sl : Nat} {Y : Nat → Trs}
def rdF (w0 : qk_W) (s0 : Nat → Int32) (j : Nat) (y a b c : Int32) (e f : Int64) (w : qk_W) : Prop := (∀ v, v ≠ 25 → w v = w0 v) ∧ ∃ s l, moO w s l ∧ s 24 = nI j ∧ s 25 = y ∧ s 0 = 0 ∧ (∀ k, 0 < k → k < 24 → s k = s0 k) ∧ s 26 = a ∧ s 28 = b ∧ s 27 = c ∧ l 30 = e ∧ l 29 = f
theorem c_mgetF {w0 : qk_W} {s0 : Nat → Int32} {j n p : Nat} {a b c : Int32} {e f : Int64} (h : rdF w0 s0 j (nI p) a b c e f w) (ha : arR w0 R) (hj : j < 64) (hn : n ≤ 32) (hb : p + n ≤ 4096) (hq : ∀ w', rdF w0 s0 j (nI (p + n)) a b c e f w' → Q (.inl (some (.long (lN (getN (R j) p n))))) w' nc ns) :
    Ev d m_Mo_get 0 [some (.ref 25), some (.int (nI n)), none, none, none] [] w nc ns Q := by
  obtain ⟨g, s1, l1, o, h24, h25, h0, hs, h26, h28, h27, h30, h29⟩ := h
  refine c_mget o h24 h25 (arR_f ha (g _ (mA_25 (by omega)))) hj hn hb (fun w' g' o' => hq w' ⟨fun v hv => by rw [g' v hv]; exact g v hv, _, _, o', ?_, fu_s _ _ _, ?_, fun k k0 k1 => ?_, ?_, ?_, ?_, h30, h29⟩)
  · rw [fu_n _ _ (by omega)]; exact h24
  · rw [fu_n _ _ (by omega)]; exact h0
  · rw [fu_n _ _ (by omega)]; exact hs k k0 k1
  · rw [fu_n _ _ (by omega)]; exact h26
  · rw [fu_n _ _ (by omega)]; exact h28
  · rw [fu_n _ _ (by omega)]; exact h27
theorem c_misMessage {w0 : qk_W} {s0 : Nat → Int32} {j : Nat} {y : Int32} {f0 : Nat → Int32} (h : rdS w0 s0 j y w) (ha : arR w0 R) (hL : lnR w0 L) (hj : j < 64) (h16 : 16 ≤ L j) (h512 : L j ≤ 512) (hf0 : wi w0 (mA 31) 32768 f0)
    (hq1 : soB (R j) (L j) → ∀ w' s' l' f, (∀ v, v ≠ 25 → v ≠ mA 31 → w' v = w0 v) → moO w' s' l' → s' 0 = 0 → (∀ k, 0 < k → k < 24 → s' k = s0 k) → s' 26 = nI (getN (R j) 0 8) → s' 28 = nI (getN (R j) 8 8) → s' 27 = nI (getN (R j) 16 16) → l' 30 = lN (getN (R j) 32 32) → l' 29 = lN (getN (R j) 64 32) → wi w' (mA 31) 32768 f → (∀ i, i < getN (R j) 16 16 → f i = dval (R j) (L j) i) → Q (.inl (some (.int 1))) w' nc ns)
    (hq0 : ¬ soB (R j) (L j) → ∀ w' s' l' f, (∀ v, v ≠ 25 → v ≠ mA 31 → w' v = w0 v) → moO w' s' l' → s' 0 = 0 → (∀ k, 0 < k → k < 24 → s' k = s0 k) → wi w' (mA 31) 32768 f → Q (.inl (some (.int 0))) w' nc ns) :
    Ev (d + 2) m_Mo_isMessage 0 [some (.ref 25), none, none, none] [] w nc ns Q := by
  obtain ⟨fl, k1, k2⟩ := hL
  generalize hr : R j = r at *
  generalize hz : L j = z at *
  have jcl : (nI j).toNatClampNeg = j := nI_clamp (by omega)
  obtain ⟨g, s1, l1, o1, h24, h25, h0, hs⟩ := id h
  have hb8 := getN_lt r 0 8
  have hb88 := getN_lt r 8 8
  have hb16 := getN_lt r 16 16
  have hb32 := getN_lt r 32 32
  have hb64 := getN_lt r 64 32
  have hb96 := getN_lt r 96 32
  have hb128 := getN_lt r 128 32
  refine t_Mo_isMessage_0 o1 rfl rfl (wi_f k1 (g _ (mA_25 (by omega)))) (by rw [h24]; exact vp_in_nI hj (by omega)) (fun q => ?_) (fun q => ?_)
  · rw [h24, jcl, k2 j hj, hz] at q
    have hlt := (nI_ltI (b := 24) (by omega) (by omega)).mp q
    exact t_Mo_isMessage_24 (hq0 (fun hso => absurd hso.1 (by omega)) w s1 l1 f0 (fun v v1 v2 => g v v1) o1 h0 hs (wi_f hf0 (g _ (mA_25 (by omega)))))
  rw [h24, jcl, k2 j hj, hz] at q ⊢
  have hz24 : 24 ≤ z := Nat.le_of_not_lt (fun e => q (nI_lt (b := 24) e (by omega)))
  refine t_Mo_isMessage_16 o1 (Nat.le_of_ble_eq_true rfl) (c_misCheckedR (R := R) h ha hj (by omega) h512 (fun w2 y2 r2 => ?_))
  rw [hr]
  obtain ⟨g2, s2, l2, o2, t24, t25, t0, ts⟩ := id r2
  refine t_Mo_isMessage_21 (fun q2 => ?_) (fun q2 => ?_)
  · have hck : nI (getN r (8 * (z - 4)) 32) = crcV r (z - 4) := by
      by_cases e : nI (getN r (8 * (z - 4)) 32) = crcV r (z - 4)
      · exact e
      · rw [decide_eq_false e] at q2; exact absurd rfl q2
    refine t_Mo_isMessage_26 o2 (Nat.le_of_ble_eq_true rfl) (es_w (fun w3 e3 g3 => ?_))
    rw [moL_25] at e3
    have o3 : moO w3 (fu s2 25 0) l2 := ⟨by decide, e3⟩
    have r3 : rdF w0 s0 j (nI 0) (s2 26) (s2 28) (s2 27) (l2 30) (l2 29) w3 := ⟨fun v hv => by rw [g3 v hv, g2 v hv], _, _, o3, by rw [fu_n _ _ (by omega)]; exact t24, fu_s _ _ _, by rw [fu_n _ _ (by omega)]; exact t0, fun k k0 k1 => by rw [fu_n _ _ (by omega)]; exact ts k k0 k1, fu_n _ _ (by omega), fu_n _ _ (by omega), fu_n _ _ (by omega), rfl, rfl⟩
    generalize s2 26 = a26 at r3
    generalize s2 28 = a28 at r3
    generalize s2 27 = a27 at r3
    generalize l2 30 = a30 at r3
    generalize l2 29 = a29 at r3
    refine t_Mo_isMessage_31 o3 (Nat.le_of_ble_eq_true rfl) (c_mgetF (n := 8) r3 ha hj (by omega) (by omega) (fun w4 r4 => ?_))
    rw [hr]
    obtain ⟨u, s4, l4, o4, u24, u25, u0, us, u26, u28, u27, u30, u29⟩ := r4
    refine t_Mo_isMessage_38 o4 (Nat.le_of_ble_eq_true rfl) (es_w (fun w5 e5 g5 => ?_))
    rw [moL_26, lN_i] at e5
    have o5 : moO w5 (fu s4 26 (nI (getN r 0 8))) l4 := ⟨by decide, e5⟩
    have r5 : rdF w0 s0 j (nI 8) (nI (getN r 0 8)) a28 a27 a30 a29 w5 := ⟨fun v hv => by rw [g5 v hv]; exact u v hv, _, _, o5, by rw [fu_n _ _ (by omega)]; exact u24, by rw [fu_n _ _ (by omega)]; exact u25, by rw [fu_n _ _ (by omega)]; exact u0, fun k k0 k1 => by rw [fu_n _ _ (by omega)]; exact us k k0 k1, fu_s _ _ _, by rw [fu_n _ _ (by omega)]; exact u28, by rw [fu_n _ _ (by omega)]; exact u27, u30, u29⟩
    refine t_Mo_isMessage_42 o5 (Nat.le_of_ble_eq_true rfl) (c_mgetF (n := 8) r5 ha hj (by omega) (by omega) (fun w4 r4 => ?_))
    clear u u24 u25 u0 us u26 u28 u27 u30 u29 o4 e5 g5 o5 r5
    rw [hr]
    obtain ⟨u, s4, l4, o4, u24, u25, u0, us, u26, u28, u27, u30, u29⟩ := r4
    refine t_Mo_isMessage_49 o4 (Nat.le_of_ble_eq_true rfl) (es_w (fun w5 e5 g5 => ?_))
    rw [moL_28, lN_i] at e5
    have o5 : moO w5 (fu s4 28 (nI (getN r 8 8))) l4 := ⟨by decide, e5⟩
    have r5 : rdF w0 s0 j (nI 16) (nI (getN r 0 8)) (nI (getN r 8 8)) a27 a30 a29 w5 := ⟨fun v hv => by rw [g5 v hv]; exact u v hv, _, _, o5, by rw [fu_n _ _ (by omega)]; exact u24, by rw [fu_n _ _ (by omega)]; exact u25, by rw [fu_n _ _ (by omega)]; exact u0, fun k k0 k1 => by rw [fu_n _ _ (by omega)]; exact us k k0 k1, by rw [fu_n _ _ (by omega)]; exact u26, fu_s _ _ _, by rw [fu_n _ _ (by omega)]; exact u27, u30, u29⟩
    refine t_Mo_isMessage_53 o5 (Nat.le_of_ble_eq_true rfl) (c_mgetF (n := 16) r5 ha hj (by omega) (by omega) (fun w4 r4 => ?_))
    clear u u24 u25 u0 us u26 u28 u27 u30 u29 o4 e5 g5 o5 r5
    rw [hr]
    obtain ⟨u, s4, l4, o4, u24, u25, u0, us, u26, u28, u27, u30, u29⟩ := r4
    refine t_Mo_isMessage_60 o4 (Nat.le_of_ble_eq_true rfl) (es_w (fun w5 e5 g5 => ?_))
    rw [moL_27, lN_i] at e5
    have o5 : moO w5 (fu s4 27 (nI (getN r 16 16))) l4 := ⟨by decide, e5⟩
    have r5 : rdF w0 s0 j (nI 32) (nI (getN r 0 8)) (nI (getN r 8 8)) (nI (getN r 16 16)) a30 a29 w5 := ⟨fun v hv => by rw [g5 v hv]; exact u v hv, _, _, o5, by rw [fu_n _ _ (by omega)]; exact u24, by rw [fu_n _ _ (by omega)]; exact u25, by rw [fu_n _ _ (by omega)]; exact u0, fun k k0 k1 => by rw [fu_n _ _ (by omega)]; exact us k k0 k1, by rw [fu_n _ _ (by omega)]; exact u26, by rw [fu_n _ _ (by omega)]; exact u28, fu_s _ _ _, u30, u29⟩
    refine t_Mo_isMessage_64 o5 (Nat.le_of_ble_eq_true rfl) (c_mgetF (n := 32) r5 ha hj (by omega) (by omega) (fun w4 r4 => ?_))
    clear u u24 u25 u0 us u26 u28 u27 u30 u29 o4 e5 g5 o5 r5
    rw [hr]
    obtain ⟨u, s4, l4, o4, u24, u25, u0, us, u26, u28, u27, u30, u29⟩ := r4
    refine t_Mo_isMessage_71 o4 (Nat.le_of_ble_eq_true rfl) (es_w (fun w5 e5 g5 => ?_))
    rw [moL_30] at e5
    have o5 : moO w5 s4 (fu l4 30 (lN (getN r 32 32))) := ⟨by decide, e5⟩
    have r5 : rdF w0 s0 j (nI 64) (nI (getN r 0 8)) (nI (getN r 8 8)) (nI (getN r 16 16)) (lN (getN r 32 32)) a29 w5 := ⟨fun v hv => by rw [g5 v hv]; exact u v hv, _, _, o5, u24, u25, u0, us, u26, u28, u27, fu_s _ _ _, by rw [fu_n _ _ (by omega)]; exact u29⟩
    refine t_Mo_isMessage_74 o5 (Nat.le_of_ble_eq_true rfl) (c_mgetF (n := 32) r5 ha hj (by omega) (by omega) (fun w4 r4 => ?_))
    clear u u24 u25 u0 us u26 u28 u27 u30 u29 o4 e5 g5 o5 r5
    rw [hr]
    obtain ⟨u, s4, l4, o4, u24, u25, u0, us, u26, u28, u27, u30, u29⟩ := r4
    refine t_Mo_isMessage_81 o4 (Nat.le_of_ble_eq_true rfl) (es_w (fun w5 e5 g5 => ?_))
    rw [moL_29] at e5
    have o5 : moO w5 s4 (fu l4 29 (lN (getN r 64 32))) := ⟨by decide, e5⟩
    have r5 : rdF w0 s0 j (nI 96) (nI (getN r 0 8)) (nI (getN r 8 8)) (nI (getN r 16 16)) (lN (getN r 32 32)) (lN (getN r 64 32)) w5 := ⟨fun v hv => by rw [g5 v hv]; exact u v hv, _, _, o5, u24, u25, u0, us, u26, u28, u27, by rw [fu_n _ _ (by omega)]; exact u30, fu_s _ _ _⟩
    refine t_Mo_isMessage_84 o5 (Nat.le_of_ble_eq_true rfl) (c_mgetF (n := 32) r5 ha hj (by omega) (by omega) (fun w6 r6 => ?_))
    clear u u24 u25 u0 us u26 u28 u27 u30 u29 o4 e5 g5 o5 r5
    rw [hr]
    obtain ⟨_, s6, l6, o6, _⟩ := id r6
    refine t_Mo_isMessage_90 rfl o6 (Nat.le_of_ble_eq_true rfl) (c_mgetF (n := 32) r6 ha hj (by omega) (by omega) (fun w7 r7 => ?_))
    rw [hr]
    obtain ⟨u, s7, l7, o7, u24, u25, u0, us, u26, u28, u27, u30, u29⟩ := r7
    have fr7 : ∀ v, v ≠ 25 → v ≠ mA 31 → w7 v = w0 v := fun v v1 v2 => u v v1
    have wf7 : wi w7 (mA 31) 32768 f0 := wi_f hf0 (u _ (mA_25 (by omega)))
    have no : ¬ soB r z → Q (.inl (some (.int 0))) w7 nc ns := fun hn => hq0 hn w7 s7 l7 f0 fr7 o7 u0 us wf7
    refine t_Mo_isMessage_98 rfl o7 rfl (fun q3 => t_Mo_isMessage_117 (no (fun hso => ?_))) (fun q3 => ?_)
    · rw [u26] at q3
      have := (nI_ltI (a := 3) (by omega) (by omega)).mp q3
      exact absurd hso.2.2.1 (by omega)
    rw [u26] at q3
    have hc4 : getN r 0 8 < 4 := Nat.lt_of_not_le (fun e => q3 (nI_lt (a := 3) (by omega) (by omega)))
    rw [lN_i, lN_i]
    refine t_Mo_isMessage_108 o7 rfl (fun q4 => ?_) (fun q4 => t_Mo_isMessage_117 (no (fun hso => ?_)))
    rotate_left
    · rw [u28] at q4
      exact q4 (nI_le (b := 100) hso.2.2.2.1 (by omega))
    rw [u28] at q4
    have hp100 : getN r 8 8 ≤ 100 := (nI_leI (b := 100) (by omega) (by omega)).mp q4
    refine t_Mo_isMessage_119 o7 rfl (fun q5 => ?_) (fun q5 => ?_)
    · rw [u27] at q5
      have hm0 : ¬ getN r 16 16 = 0 := fun e => q5 (by rw [e]; rfl)
      have eb : Int32.toInt64 (nI (getN r 16 16)) = lN (getN r 16 16) := nI_l (by omega)
      refine t_Mo_isMessage_173 o7 rfl rfl (fun q6 => t_Mo_isMessage_210 (no (fun hso => ?_))) (fun q6 => ?_)
      · rw [u29, u27, eb, lN_add] at q6
        have := (lgc_gt (b := 32768) (by omega) (by omega)).mp q6
        have := (hso.2.2.2.2.2.2 hm0).1
        omega
      rw [u29, u27, eb, lN_add] at q6
      have hsum : getN r 64 32 + getN r 16 16 ≤ 32768 := Nat.le_of_not_lt (fun e => q6 ((lgc_gt (b := 32768) (by omega) (by omega)).mpr e))
      have esub : lN (getN r 64 32 + getN r 16 16) - 1 = lN (getN r 64 32 + getN r 16 16 - 1) := lN_sub (b := 1) (by omega)
      refine t_Mo_isMessage_190 o7 rfl rfl rfl (fun q7 => ?_) (fun q7 => t_Mo_isMessage_210 (no (fun hso => ?_)))
      rotate_left
      · rw [u30, u29, u27, eb, lN_add, esub] at q7
        have := (hso.2.2.2.2.2.2 hm0).2.1
        exact q7 ((lgc_le (by omega) (by omega)).mpr (by omega))
      rw [u30, u29, u27, eb, lN_add, esub] at q7
      have hold : getN r 32 32 ≤ getN r 64 32 + getN r 16 16 - 1 := (lgc_le (by omega) (by omega)).mp q7
      have e8 : (8 : Int32) * (nI z - 4) = nI (8 * (z - 4)) := by rw [show (4 : Int32) = nI 4 from rfl, pk_sub (by omega), show (8 : Int32) = nI 8 from rfl, pk_mul]
      refine t_Mo_isMessage_212 o7 (Nat.le_of_ble_eq_true rfl) ?_
      rw [e8]
      refine c_misRead (R := R) (j := j) (n := getN r 16 16) (f0 := f0) o7 u24 u25 u27 (arR_f ha (u _ (mA_25 (by omega)))) hj hz24 h512 (by omega) (by omega) wf7 (fun st d1 d2 d3 w8 y8 f8 g8 o8 wf8 hall => ?_) (fun hno w8 y8 f8 g8 o8 wf8 => ?_)
      · rw [hr] at d1 d3 hall
        have fr8 : ∀ v, v ≠ 25 → v ≠ mA 31 → w8 v = w0 v := fun v v1 v2 => by rw [g8 v v1 v2]; exact u v v1
        have t0' : fu s7 25 y8 0 = 0 := by rw [fu_n _ _ (by omega)]; exact u0
        have ts' : ∀ k, 0 < k → k < 24 → fu s7 25 y8 k = s0 k := fun k k0 k1 => by rw [fu_n _ _ (by omega)]; exact us k k0 k1
        have e27 : fu s7 25 y8 27 = nI (getN r 16 16) := by rw [fu_n _ _ (by omega)]; exact u27
        have i1 : fu s7 25 y8 27 - 1 = nI (getN r 16 16 - 1) := by rw [e27]; exact sub1 (by omega)
        obtain ⟨st', hd', hf'⟩ := hall (getN r 16 16 - 1) (by omega)
        have est : st' = st := Option.some.inj (hd'.symm.trans d1)
        refine t_Mo_isMessage_223 (fun q8 => absurd q8 (by decide)) (fun _ => t_Mo_isMessage_226 o8 rfl rfl wf8 (by rw [i1]; exact vp_in_nI (by omega) (by omega)) (fun q9 => t_Mo_isMessage_245 ?_) (fun q9 => t_Mo_isMessage_241 ?_))
        · rw [i1, nI_clamp (by omega), hf', est] at q9
          refine hq0 (fun hso => ?_) w8 _ _ f8 fr8 o8 t0' ts' wf8
          obtain ⟨_, _, s9, d4, _, _, d5⟩ := hso.2.2.2.2.2.2 hm0
          have : s9 = st := Option.some.inj (d4.symm.trans d1)
          rw [this] at d5
          exact q9 d5
        · rw [i1, nI_clamp (by omega), hf', est] at q9
          refine hq1 ⟨hz24, hck, hc4, hp100, by omega, fun e => absurd e hm0, fun _ => ⟨hsum, by omega, st, d1, d2, d3, q9⟩⟩ w8 _ _ f8 fr8 o8 t0' ts' (by rw [fu_n _ _ (by omega)]; exact u26) (by rw [fu_n _ _ (by omega)]; exact u28) e27 u30 u29 wf8 (fun i hi => ?_)
          obtain ⟨st2, hd2, hf2⟩ := hall i hi
          rw [hf2]
          unfold dval
          rw [hd2]
          rfl
      · rw [hr] at hno
        refine t_Mo_isMessage_223 (fun _ => t_Mo_isMessage_245 ?_) (fun q8 => absurd rfl q8)
        refine hq0 (fun hso => ?_) w8 _ _ f8 (fun v v1 v2 => by rw [g8 v v1 v2]; exact u v v1) o8 (by rw [fu_n _ _ (by omega)]; exact u0) (fun k k0 k1 => by rw [fu_n _ _ (by omega)]; exact us k k0 k1) wf8
        obtain ⟨_, _, s9, d4, d5, d6, _⟩ := hso.2.2.2.2.2.2 hm0
        exact hno ⟨s9, d4, d5, d6⟩
    · rw [u27] at q5
      have hm0 : getN r 16 16 = 0 := (nI_z (by omega)).mp q5
      have no2 : ¬ (z = 24 ∧ getN r 8 8 = 0 ∧ getN r 64 32 = 0 ∧ getN r 96 32 = 0 ∧ getN r 128 32 = 0 ∧ getN r 32 32 ≤ 32768) → Q (.inl (some (.int 0))) w7 nc ns := by
        intro hn
        refine no (fun hso => hn ?_)
        obtain ⟨a1, a2, a3, a4, a5⟩ := hso.2.2.2.2.2.1 hm0
        exact ⟨a1, a2, a3, a4, a5, hso.2.2.2.2.1⟩
      refine t_Mo_isMessage_126 (fun q6 => t_Mo_isMessage_171 (no2 (fun e => q6 (by rw [e.1]; rfl)))) (fun q6 => ?_)
      have h24' : z = 24 := (nI_eq (b := 24) (by omega) (by omega)).mp q6
      refine t_Mo_isMessage_132 o7 rfl (fun q7 => t_Mo_isMessage_171 (no2 (fun e => q7 (by rw [u28, e.2.1]; rfl)))) (fun q7 => ?_)
      rw [u28] at q7
      have h8 := (nI_z (by omega)).mp q7
      refine t_Mo_isMessage_139 o7 rfl (fun q8 => t_Mo_isMessage_171 (no2 (fun e => q8 (by rw [u29]; exact (lz (by omega)).mpr e.2.2.1)))) (fun q8 => ?_)
      rw [u29] at q8
      have h64 := (lz (by omega)).mp q8
      refine t_Mo_isMessage_148 (fun q9 => t_Mo_isMessage_171 (no2 (fun e => q9 ((nI_z (n := getN r 96 32) (by omega)).mpr e.2.2.2.1)))) (fun q9 => ?_)
      have h96 := (nI_z (n := getN r 96 32) (by omega)).mp q9
      refine t_Mo_isMessage_152 (fun qa => t_Mo_isMessage_171 (no2 (fun e => qa ((nI_z (n := getN r 128 32) (by omega)).mpr e.2.2.2.2.1)))) (fun qa => ?_)
      have h128 := (nI_z (n := getN r 128 32) (by omega)).mp qa
      refine t_Mo_isMessage_156 o7 rfl (fun qb => t_Mo_isMessage_171 (no2 (fun e => ?_))) (fun qb => t_Mo_isMessage_167 ?_)
      · rw [u30] at qb
        have := (lgc_gt (b := 32768) (by omega) (by omega)).mp qb
        have := e.2.2.2.2.2
        omega
      · rw [u30] at qb
        have hold : getN r 32 32 ≤ 32768 := Nat.le_of_not_lt (fun e => qb ((lgc_gt (b := 32768) (by omega) (by omega)).mpr e))
        exact hq1 ⟨hz24, hck, hc4, hp100, hold, fun _ => ⟨h24', h8, h64, h96, h128⟩, fun e => absurd hm0 e⟩ w7 s7 l7 f0 fr7 o7 u0 us u26 u28 u27 u30 u29 wf7 (fun i hi => absurd hi (by omega))
  · have hck : ¬ nI (getN r (8 * (z - 4)) 32) = crcV r (z - 4) := by
      intro e
      rw [decide_eq_true e] at q2
      exact absurd q2 (by decide)
    exact t_Mo_isMessage_24 (hq0 (fun hso => hck hso.2.1) w2 s2 l2 f0 (fun v v1 v2 => g2 v v1) o2 t0 ts (wi_f hf0 (g2 _ (mA_25 (by omega)))))
end Mo19
