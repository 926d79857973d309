/-! ===== the reference: mend, hear ===== -/
theorem shr_byte {x : Int32} {n : Nat} (hn : n ≤ 24) : vN (qi_shr x (nI n)) % 256 = vN x / 2 ^ n % 256 := by
  refine Nat.eq_of_testBit_eq (fun i => ?_)
  rw [show (256 : Nat) = 2 ^ 8 from rfl, Nat.testBit_mod_two_pow, Nat.testBit_mod_two_pow, Nat.testBit_div_two_pow]
  by_cases h : i < 8
  · rw [← bt_vN, ← bt_vN]
    have e : bt (qi_shr x (nI n)) i = bt x (n + i) := by
      show bt (x >>> (nI n &&& 31)) i = _
      rw [b_sshr n (by omega) x (by omega), if_pos (by omega)]
    rw [e, Nat.add_comm n i]
  · rw [decide_eq_false h]; rfl
theorem moL_23 {s : Nat → Int32} {l : Nat → Int64} {x : Int32} : (moL s l).set 23 (.int x) = moL (fu s 23 x) l := by
  unfold moL
  simp [fu]
theorem lgc_le {a b : Nat} (ha : a < 2 ^ 63) (hb : b < 2 ^ 63) : lg_cmp (lN a) (lN b) ≤ 0 ↔ a ≤ b := by
  have := lgc_gt ha hb
  constructor
  · intro h
    exact Nat.le_of_not_lt (fun e => absurd (this.mpr e) (Int32.not_lt.mpr h))
  · intro h
    exact Int32.not_lt.mp (fun e => absurd (this.mp e) (by omega))
theorem askR_0 (A : Nat → Bool) (fm to : Nat) : askR A fm to 0 = A := by
  funext n
  simp [askR]
theorem askR_in {A : Nat → Bool} {fm to a : Nat} (h1 : fm ≤ a) (h2 : a ≤ to) : askR A fm to (a + 1) = fun j => if j = a then true else askR A fm to a j := by
  funext j
  unfold askR
  by_cases e : j = a
  · subst e; simp [h1, h2]
  · rw [if_neg e]
    congr 2
    exact decide_eq_decide.mpr (by omega)
theorem askR_out {A : Nat → Bool} {fm to a : Nat} (h : ¬ (fm ≤ a ∧ a ≤ to) ∨ A a = true) : askR A fm to (a + 1) = askR A fm to a := by
  funext j
  unfold askR
  by_cases e : j = a
  · subst e
    rcases h with h | h
    · by_cases e1 : fm ≤ j
      · have : ¬ j ≤ to := fun x => h ⟨e1, x⟩
        simp [this]
      · simp [e1]
    · simp [h]
  · congr 2
    exact decide_eq_decide.mpr (by omega)
section Mo17
variable {d : Nat} {w : qk_W} {nc ns : Nat} {Q : Option Value ⊕ Nat → qk_W → Nat → Nat → Prop} {s : Nat → Int32} {l : Nat → Int64} {X : Nat → Chs} {np pc : Nat} {R : Nat → Nat → Nat} {L : Nat → Nat} {T : Nat → Bool} {sl : Nat}
theorem c_mmend {x : Int32} (ho : moO w s l) (h : maR w s sl R L T)
    (hq1 : ∀ n, x = nI n → n < sl → sl ≤ n + 64 → T (n % 64) = false → ∀ w', (∀ v, v ≠ 25 → v ≠ mA 14 → w' v = w v) → moO w' (fu s 0 0) l → maR w' (fu s 0 0) sl (fu R (n % 64) (putR (R (n % 64)) (L (n % 64) - 4) 4 (vN (crcV (R (n % 64)) (L (n % 64) - 4))))) L T → Q (.inl none) w' nc ns)
    (hq0 : isSl sl T x = false → ∀ w', (∀ v, v ≠ 25 → w' v = w v) → moO w' (fu s 0 1) l → Q (.inl none) w' nc ns) :
    Ev (d + 1) m_Mo_mend 0 [some (.ref 25), some (.int x), none, none, none] [] w nc ns Q := by
  refine t_Mo_mend_0 ho (Nat.le_of_ble_eq_true rfl) (c_misSlot ho h (fun n a b c e => ?_) (fun e => ?_))
  · refine t_Mo_mend_6 (fun g => absurd g (by decide)) (fun _ => t_Mo_mend_9 ho (Nat.le_of_ble_eq_true rfl) (es_w (fun w1 e1 g1 => ?_)))
    rw [moL_0] at e1
    have o1 : moO w1 (fu s 0 0) l := ⟨by decide, e1⟩
    have hq := hq1 n a b c e
    obtain ⟨h17, hs, ⟨f, f1, f2, f3⟩, ⟨fl, k1, k2⟩, h5, hK⟩ := id h
    have hm : n % 64 < 64 := Nat.mod_lt _ (by omega)
    have hl := hK (n % 64) hm (Nat.lt_of_le_of_lt (Nat.mod_le _ _) b)
    have er : qi_rem x 64 = nI (n % 64) := by rw [a]; exact rem_nI (by omega) (b := 64) (by omega) (by omega)
    generalize n % 64 = j at *
    refine t_Mo_mend_17 o1 rfl (fun _ => ?_) (fun g => absurd (by rw [fu_s]; decide) g)
    refine t_Mo_mend_25 o1 rfl (wi_f k1 (g1 _ (mA_25 (by omega)))) (by rw [er]; exact vp_in_nI hm (by omega)) (Nat.le_of_ble_eq_true rfl) ?_
    rw [er, nI_clamp (by omega), k2 j hm, show nI (L j) - 4 = nI (L j - 4) from pk_sub (b := 4) (by omega)]
    refine c_mcheck o1 (arR_f ⟨f, f1, f2, f3⟩ (g1 _ (mA_25 (by omega)))) hm (by omega) (t_Mo_mend_46 rfl ?_)
    generalize hC : crcV (R j) (L j - 4) = C at *
    have loop : ∀ m k, k + m = 4 → ∀ (w2 : qk_W) (f' : Nat → Int32), (∀ v, v ≠ mA 14 → w2 v = w1 v) → wb w2 (mA 14) 32768 f' → (∀ i, i < 64 → ∀ q, q < 512 → f' (512 * i + q) = nB (if i = j ∧ L j - 4 ≤ q ∧ q < L j - 4 + k then vN C / 2 ^ (8 * (L j - 4 + 4 - 1 - q)) % 256 else R i q)) →
        Ev (d + 1) m_Mo_mend 50 [some (.ref 25), some (.int x), some (.int (nI (L j))), some (.int C), some (.int (nI k))] [] w2 nc ns Q := by
      intro m
      induction m with
      | zero =>
        intro k hk w2 f' g2 b2 hf
        have ek : k = 4 := by omega
        subst ek
        refine t_Mo_mend_50 (fun _ => t_Mo_mend_93 (hq w2 (fun v v1 v2 => by rw [g2 v v2, g1 v v1]) (moO_f o1 (g2 25 (Ne.symm (mA_25 (by omega))))) ⟨by rw [fu_n _ _ (by omega)]; exact h17, hs, ⟨f', b2, fun i hi q hq' => ?_, fun i q => ?_⟩, ⟨fl, wi_f k1 (by rw [g2 _ (mA_ne (by omega)), g1 _ (mA_25 (by omega))]), k2⟩, thR_f h5 (by rw [g2 _ (mA_ne (by omega)), g1 _ (mA_25 (by omega))]), hK⟩)) (fun g => absurd (by decide) g)
        · rw [hf i hi q hq']
          by_cases ei : i = j
          · subst ei
            rw [fu_s]
            unfold putR
            congr 1
            by_cases e2 : L i - 4 ≤ q ∧ q < L i - 4 + 4
            · rw [if_pos ⟨rfl, e2⟩, if_pos e2]
            · rw [if_neg (fun z => e2 z.2), if_neg e2]
          · rw [fu_n _ _ ei, if_neg (fun z => ei z.1)]
        · by_cases ei : i = j
          · subst ei
            rw [fu_s]
            exact putR_lt (f3 i) _ _ _ _
          · rw [fu_n _ _ ei]; exact f3 i q
      | succ m ih =>
        intro k hk w2 f' g2 b2 hf
        have o2 := moO_f o1 (g2 25 (Ne.symm (mA_25 (by omega))))
        have eix : (((512 : Int32) * qi_rem x 64) + nI (L j)) - 4 + nI k = nI (512 * j + (L j - 4 + k)) := by
          rw [er, ix512, show nI (512 * j + L j) - 4 = nI (512 * j + L j - 4) from pk_sub (b := 4) (by omega), nI_add]
          exact congrArg nI (by omega)
        have e24 : (24 : Int32) - 8 * nI k = nI (24 - 8 * k) := by
          rw [show (8 : Int32) = nI 8 from rfl, pk_mul]
          exact pk_sub (a := 24) (by omega)
        refine t_Mo_mend_50 (fun g => absurd ((nI_leI (a := 4) (by omega) (by omega)).mp g) (by omega)) (fun _ => ?_)
        refine t_Mo_mend_56 o2 rfl b2 (by rw [eix]; exact vp_in_nI (by omega) (by omega)) (es_w (fun w3 e3 g3 => t_Mo_mend_87 rfl ?_))
        rw [eix, nI_clamp (by omega), b8_b8, b8_nB, e24, shr_byte (by omega)] at e3
        rw [nI_1]
        refine ih (k + 1) (by omega) w3 _ (fun v hv => by rw [g3 v hv]; exact g2 v hv) ⟨mA_16 _, e3⟩ (fun i hi q hq' => ?_)
        by_cases ei : i = j ∧ q = L j - 4 + k
        · obtain ⟨ei, eq⟩ := ei
          subst ei
          subst eq
          rw [pk_us, if_pos ⟨rfl, by omega, by omega⟩]
          congr 4
          omega
        · rw [pk_un (by omega), hf i hi q hq']
          congr 1
          by_cases e2 : i = j ∧ L j - 4 ≤ q ∧ q < L j - 4 + k
          · rw [if_pos e2, if_pos ⟨e2.1, e2.2.1, by omega⟩]
          · rw [if_neg e2, if_neg (fun z => e2 ⟨z.1, z.2.1, by have := z.2.2; omega⟩)]
    exact loop 4 0 (by omega) w1 f (fun _ _ => rfl) (wb_f f1 (g1 _ (mA_25 (by omega)))) (fun i hi q hq' => by rw [f2 i hi q hq', if_neg (by omega)])
  · refine t_Mo_mend_6 (fun _ => t_Mo_mend_13 ho (Nat.le_of_ble_eq_true rfl) (es_w (fun w1 e1 g1 => ?_))) (fun g => absurd rfl g)
    rw [moL_0] at e1
    have o1 : moO w1 (fu s 0 1) l := ⟨by decide, e1⟩
    exact t_Mo_mend_17 o1 rfl (fun g => absurd (show (1 : Int32) ≤ 0 by rw [fu_s] at g; exact g) (by decide)) (fun _ => t_Mo_mend_24 (hq0 e w1 g1 o1))
/-- while a row is read: the place is y -/
def rdS (w0 : qk_W) (s0 : Nat → Int32) (j : Nat) (y : Int32) (w : qk_W) : Prop := (∀ v, v ≠ 25 → w v = w0 v) ∧ ∃ s l, moO w s l ∧ s 24 = nI j ∧ s 25 = y ∧ s 0 = 0 ∧ ∀ k, 0 < k → k < 24 → s k = s0 k
theorem c_mgetR {w0 : qk_W} {s0 : Nat → Int32} {j n b : Nat} (h : rdS w0 s0 j (nI b) w) (ha : arR w0 R) (hj : j < 64) (hn : n ≤ 32) (hb : b + n ≤ 4096) (hq : ∀ w', rdS w0 s0 j (nI (b + n)) w' → Q (.inl (some (.long (lN (getN (R j) b n))))) w' nc ns) :
    Ev d m_Mo_get 0 [some (.ref 25), some (.int (nI n)), none, none, none] [] w nc ns Q := by
  obtain ⟨g, s1, l1, o, h24, h25, h0, hs⟩ := h
  refine c_mget o h24 h25 (arR_f ha (g _ (mA_25 (by omega)))) hj hn hb (fun w' g' o' => hq w' ⟨fun v hv => by rw [g' v hv]; exact g v hv, _, _, o', ?_, fu_s _ _ _, ?_, fun k k0 k1 => ?_⟩)
  · rw [fu_n _ _ (by omega)]; exact h24
  · rw [fu_n _ _ (by omega)]; exact h0
  · rw [fu_n _ _ (by omega)]; exact hs k k0 k1
theorem c_misCheckedR {w0 : qk_W} {s0 : Nat → Int32} {j z : Nat} {y : Int32} (h : rdS w0 s0 j y w) (ha : arR w0 R) (hj : j < 64) (hz : 4 ≤ z) (hz2 : z ≤ 512) (hq : ∀ w' y', rdS w0 s0 j y' w' → Q (.inl (some (.int (b2i (decide (nI (getN (R j) (8 * (z - 4)) 32) = crcV (R j) (z - 4))))))) w' nc ns) :
    Ev (d + 1) m_Mo_isChecked 0 [some (.ref 25), some (.int (nI z))] [] w nc ns Q := by
  obtain ⟨g, s1, l1, o, h24, h25, h0, hs⟩ := h
  refine c_misChecked o h24 (arR_f ha (g _ (mA_25 (by omega)))) hj hz hz2 (fun w' b g' o' => hq w' b ⟨fun v hv => by rw [g' v hv]; exact g v hv, _, _, o', ?_, fu_s _ _ _, ?_, fun k k0 k1 => ?_⟩)
  · rw [fu_n _ _ (by omega)]; exact h24
  · rw [fu_n _ _ (by omega)]; exact h0
  · rw [fu_n _ _ (by omega)]; exact hs k k0 k1
theorem c_mhear {x : Int32} (h : msR w s l X np pc) (hX : chK X) (hk : akR w X) (ha : maR w s sl R L T)
    (hq1 : ∀ n, x = nI n → n < sl → sl ≤ n + 64 → T (n % 64) = false → rqB (R (n % 64)) (L (n % 64)) → ∀ w' s' l', (∀ v, v ≠ 25 → v ≠ mA 12 → w' v = w v) → moO w' s' l' → (∀ k, 0 < k → k < 24 → s' k = s k) → s' 0 = 0 → akR w' (fu X (getN (R (n % 64)) 0 8) (setA (X (getN (R (n % 64)) 0 8)) (askR (xA (X (getN (R (n % 64)) 0 8))) (getN (R (n % 64)) 32 32) (getN (R (n % 64)) 64 32) (xF (X (getN (R (n % 64)) 0 8)) (xC (X (getN (R (n % 64)) 0 8))))))) → Q (.inl (some (.int (nI (cnt (askR (xA (X (getN (R (n % 64)) 0 8))) (getN (R (n % 64)) 32 32) (getN (R (n % 64)) 64 32) (xF (X (getN (R (n % 64)) 0 8)) (xC (X (getN (R (n % 64)) 0 8))))) 32768 - cnt (xA (X (getN (R (n % 64)) 0 8))) 32768))))) w' nc ns)
    (hq2 : ∀ n, x = nI n → n < sl → sl ≤ n + 64 → T (n % 64) = false → ¬ rqB (R (n % 64)) (L (n % 64)) → ∀ w' s' l', (∀ v, v ≠ 25 → w' v = w v) → moO w' s' l' → (∀ k, 0 < k → k < 23 → s' k = s k) → s' 23 = s 23 + 1 → s' 0 = 0 → Q (.inl (some (.int (-1)))) w' nc ns)
    (hq0 : isSl sl T x = false → ∀ w', (∀ v, v ≠ 25 → w' v = w v) → moO w' (fu s 0 1) l → Q (.inl (some (.int 0))) w' nc ns) :
    Ev (d + 2) m_Mo_hear 0 [some (.ref 25), some (.int x), none, none, none, none, none, none, none, none] [] w nc ns Q := by
  have ho := h.1
  refine t_Mo_hear_0 ho (Nat.le_of_ble_eq_true rfl) (c_misSlot ho ha (fun n a b c e => ?_) (fun e => ?_))
  · refine t_Mo_hear_6 (fun g => absurd g (by decide)) (fun _ => t_Mo_hear_9 ho (Nat.le_of_ble_eq_true rfl) (es_w (fun w1 e1 g1 => ?_)))
    rw [moL_0] at e1
    have o1 : moO w1 (fu s 0 0) l := ⟨by decide, e1⟩
    have hqa := hq1 n a b c e
    have hqb := hq2 n a b c e
    obtain ⟨h17, hs, har, ⟨fl, k1, k2⟩, h5, hK⟩ := id ha
    have hm : n % 64 < 64 := Nat.mod_lt _ (by omega)
    have hl := hK (n % 64) hm (Nat.lt_of_le_of_lt (Nat.mod_le _ _) b)
    have er : qi_rem x 64 = nI (n % 64) := by rw [a]; exact rem_nI (by omega) (b := 64) (by omega) (by omega)
    generalize n % 64 = j at *
    refine t_Mo_hear_17 o1 rfl (fun _ => t_Mo_hear_26 o1 (Nat.le_of_ble_eq_true rfl) (es_w (fun w2 e2 g2 => ?_))) (fun g => absurd (by rw [fu_s]; decide) g)
    rw [er, moL_24] at e2
    have o2 : moO w2 (fu (fu s 0 0) 24 (nI j)) l := ⟨by decide, e2⟩
    have r2 : rdS w s j (fu (fu s 0 0) 24 (nI j) 25) w2 := ⟨fun v hv => by rw [g2 v hv, g1 v hv], _, _, o2, fu_s _ _ _, rfl, rfl, fun k k0 k1 => by rw [fu_n _ _ (by omega), fu_n _ _ (by omega)]⟩
    generalize hy2 : fu (fu s 0 0) 24 (nI j) 25 = y2 at r2
    generalize hr : R j = r at *
    -- behind the look at the check: rb says whether it was right so far
    have aft : ∀ (rb : Bool) (w3 : qk_W) (o3 o4 o5 o6 o7 o8 o9 : Option Value), (rb = true ↔ L j = 16 ∧ nI (getN r 96 32) = crcV r 12) → rdS w s j (nI 0) w3 → Ev (d + 2) m_Mo_hear 68 [some (.ref 25), some (.int x), some (.int (b2i rb)), o3, none, none, none, none, none, none] [] w3 nc ns Q := by
      intro rb w3 o3 o4 o5 o6 o7 o8 o9 hrb r3
      obtain ⟨_, s3, l3, m3, _⟩ := id r3
      have hcl := getN_lt r 0 8
      have hzl := getN_lt r 8 24
      have hfl := getN_lt r 32 32
      have htl := getN_lt r 64 32
      refine t_Mo_hear_68 m3 (Nat.le_of_ble_eq_true rfl) (c_mgetR (n := 8) r3 har hm (by omega) (by omega) (fun w4 r4 => ?_))
      obtain ⟨_, s4, l4, m4, _⟩ := id r4
      rw [hr]
      refine t_Mo_hear_74 rfl m4 (Nat.le_of_ble_eq_true rfl) (c_mgetR (n := 24) r4 har hm (by omega) (by omega) (fun w5 r5 => ?_))
      rw [hr, lN_i]
      -- what was right in all
      have lst : ∀ (rc : Bool) (w6 : qk_W), (rc = true ↔ L j = 16 ∧ nI (getN r 96 32) = crcV r 12 ∧ getN r 0 8 < 4 ∧ getN r 8 24 = 0) → rdS w s j (nI 64) w6 → Ev (d + 2) m_Mo_hear 108 [some (.ref 25), some (.int x), some (.int (b2i rc)), some (.int (nI (getN r 0 8))), none, none, none, none, none, none] [.long (lN (getN r 32 32))] w6 nc ns Q := by
        intro rc w6 hrc r6
        obtain ⟨_, s6, l6, m6, _⟩ := id r6
        refine t_Mo_hear_108 rfl m6 (Nat.le_of_ble_eq_true rfl) (c_mgetR (n := 32) r6 har hm (by omega) (by omega) (fun w7 r7 => ?_))
        obtain ⟨f7, s7, l7, m7, m24, m25, m0, hs7⟩ := id r7
        rw [hr]
        have bad : ¬ rqB r (L j) → Ev (d + 2) m_Mo_hear 130 [some (.ref 25), some (.int x), some (.int (b2i rc)), some (.int (nI (getN r 0 8))), some (.long (lN (getN r 32 32))), none, some (.long (lN (getN r 64 32))), none, none, none] [] w7 nc ns Q := by
          intro hn
          refine t_Mo_hear_130 m7 rfl (Nat.le_of_ble_eq_true rfl) (es_w (fun w8 e8 g8 => t_Mo_hear_140 ?_))
          rw [moL_23] at e8
          have o8 : moO w8 (fu s7 23 (s7 23 + 1)) l7 := ⟨by decide, e8⟩
          exact hqb hn w8 _ _ (fun v hv => by rw [g8 v hv, f7 v hv]) o8 (fun k k0 k1 => by rw [fu_n _ _ (by omega)]; exact hs7 k k0 (by omega)) (by rw [fu_s, hs7 23 (by omega) (by omega)]) (by rw [fu_n _ _ (by omega)]; exact m0)
        refine t_Mo_hear_116 rfl (fun g => bad (fun hq => ?_)) (fun g => ?_)
        · have : rc = true := hrc.mpr ⟨hq.1, hq.2.1, hq.2.2.1, hq.2.2.2.1⟩
          rw [this] at g
          exact absurd g (by decide)
        · have hrc1 : rc = true := by
            cases rc
            · exact absurd rfl g
            · rfl
          obtain ⟨q1, q2, q3, q4⟩ := hrc.mp hrc1
          refine t_Mo_hear_122 (fun g2 => ?_) (fun g2 => bad (fun hq => g2 ((lgc_le (by omega) (by omega)).mpr hq.2.2.2.2)))
          have q5 : getN r 32 32 ≤ getN r 64 32 := (lgc_le (by omega) (by omega)).mp g2
          have hqc := hqa ⟨q1, q2, q3, q4, q5⟩
          obtain ⟨x1, x2, x3, x4⟩ := hX _ q3
          generalize hcc : getN r 0 8 = c at *
          generalize hff : getN r 32 32 = fm at *
          generalize htt : getN r 64 32 = to at *
          obtain ⟨_, _, _, _, ⟨f4, ⟨_, ⟨f3, k3, k3'⟩, _⟩, _⟩, _⟩ := id h
          have ccl : (nI c).toNatClampNeg = c := nI_clamp (by omega)
          refine t_Mo_hear_142 rfl ?_
          have loop : ∀ m a, a + m = xF (X c) (xC (X c)) → ∀ (w8 : qk_W) (k : Nat), (∀ v, v ≠ mA 12 → w8 v = w7 v) → akR w8 (fu X c (setA (X c) (askR (xA (X c)) fm to a))) → cnt (askR (xA (X c)) fm to a) 32768 = cnt (xA (X c)) 32768 + k →
              Ev (d + 2) m_Mo_hear 148 [some (.ref 25), some (.int x), some (.int (b2i rc)), some (.int (nI c)), some (.long (lN fm)), none, some (.long (lN to)), none, some (.int (nI k)), some (.int (nI a))] [] w8 nc ns Q := by
            intro m
            induction m with
            | zero =>
              intro a ha' w8 k g8 ak8 hc8
              have m8 := moO_f m7 (g8 25 (Ne.symm (mA_25 (by omega))))
              refine t_Mo_hear_148 m8 rfl (wi_f k3 (by rw [g8 _ (mA_ne (by omega)), f7 _ (mA_25 (by omega))])) (vp_in_nI q3 (by omega)) (fun _ => t_Mo_hear_214 ?_) (fun g => absurd ?_ g)
              · have ea : a = xF (X c) (xC (X c)) := by omega
                subst ea
                have := hqc w8 s7 l7 (fun v v1 v2 => by rw [g8 v v2, f7 v v1]) m8 (fun k k0 k1 => hs7 k k0 k1) m0 ak8
                rwa [hc8, show cnt (xA (X c)) 32768 + k - cnt (xA (X c)) 32768 = k by omega] at this
              · rw [ccl, k3' c q3]
                exact nI_le (by omega) (by omega)
            | succ m ih =>
              intro a ha' w8 k g8 ak8 hc8
              have m8 := moO_f m7 (g8 25 (Ne.symm (mA_25 (by omega))))
              have hle := cnt_le (askR (xA (X c)) fm to a) 32768
              have ea : Int32.toInt64 (nI a) = lN a := nI_l (by omega)
              refine t_Mo_hear_148 m8 rfl (wi_f k3 (by rw [g8 _ (mA_ne (by omega)), f7 _ (mA_25 (by omega))])) (vp_in_nI q3 (by omega)) (fun g => ?_) (fun _ => ?_)
              · rw [ccl, k3' c q3] at g
                exact absurd ((nI_leI (by omega) (by omega)).mp g) (by omega)
              have skip : (¬ (fm ≤ a ∧ a ≤ to) ∨ xA (X c) a = true) → Ev (d + 2) m_Mo_hear 208 [some (.ref 25), some (.int x), some (.int (b2i rc)), some (.int (nI c)), some (.long (lN fm)), none, some (.long (lN to)), none, some (.int (nI k)), some (.int (nI a))] [] w8 nc ns Q := by
                intro hsk
                refine t_Mo_hear_208 rfl ?_
                rw [nI_1]
                have e9 := askR_out (A := xA (X c)) hsk
                exact ih (a + 1) (by omega) w8 k g8 (by rw [e9]; exact ak8) (by rw [e9]; exact hc8)
              refine t_Mo_hear_159 (fun g => ?_) (fun g => ?_)
              · rw [ea] at g
                exact skip (Or.inl (fun z => absurd ((lgc_lt (by omega) (by omega)).mp g) (by omega)))
              rw [ea] at g
              have h1 : fm ≤ a := Nat.le_of_not_lt (fun z => g ((lgc_lt (by omega) (by omega)).mpr z))
              refine t_Mo_hear_168 (fun g => ?_) (fun g => ?_)
              · rw [ea] at g
                exact skip (Or.inl (fun z => absurd ((lgc_gt (by omega) (by omega)).mp g) (by omega)))
              rw [ea] at g
              have h2 : a ≤ to := Nat.le_of_not_lt (fun z => g ((lgc_gt (by omega) (by omega)).mpr z))
              obtain ⟨f, hf, hf'⟩ := id ak8
              have hfa := hf' c q3 a (by omega)
              rw [fu_s] at hfa
              have hfa' : f (32768 * c + a) = b2i (xA (X c) a) := by
                rw [hfa]
                show b2i (askR (xA (X c)) fm to a a) = _
                unfold askR
                simp
              refine t_Mo_hear_177 m8 rfl hf (by rw [ix_nI]; exact vp_in_nI (by omega) (by omega)) (fun g => ?_) (fun g => ?_)
              · rw [ix_nI, nI_clamp (by omega), hfa'] at g
                refine skip (Or.inr ?_)
                cases hxa : xA (X c) a
                · rw [hxa] at g; exact absurd rfl g
                · rfl
              · rw [ix_nI, nI_clamp (by omega), hfa'] at g
                have hxa : xA (X c) a = false := by
                  cases hxa : xA (X c) a
                  · rfl
                  · rw [hxa] at g; exact absurd g (by decide)
                refine t_Mo_hear_192 m8 rfl hf (by rw [ix_nI]; exact vp_in_nI (by omega) (by omega)) (es_w (fun w9 e9 g9 => t_Mo_hear_205 rfl ?_))
                rw [ix_nI, nI_clamp (by omega)] at e9
                rw [nI_1, nI_1]
                have e10 := askR_in (A := xA (X c)) h1 h2
                refine ih (a + 1) (by omega) w9 (k + 1) (fun v hv => by rw [g9 v hv, g8 v hv]) ?_ ?_
                · rw [e10]
                  refine ⟨_, ⟨mA_16 _, e9⟩, fun c' hc' a' ha2 => ?_⟩
                  by_cases ec : c' = c
                  · subst ec
                    rw [fu_s]
                    show upd f (32768 * c' + a) 1 (32768 * c' + a') = b2i (if a' = a then true else askR (xA (X c')) fm to a a')
                    by_cases ex : a' = a
                    · rw [ex, pk_us, if_pos rfl]; rfl
                    · rw [pk_un (by omega), if_neg ex, hf' c' hc' a' ha2, fu_s]
                      rfl
                  · rw [fu_n _ _ ec, pk_un (by omega), hf' c' hc' a' ha2, fu_n _ _ ec]
                · rw [e10, cnt_ins _ a (by unfold askR; simp [hxa]) 32768, hc8, if_pos (by omega)]
                  omega
          refine loop (xF (X c) (xC (X c))) 0 (by omega) w7 0 (fun _ _ => rfl) ?_ ?_
          · rw [askR_0]
            exact akR_same (akR_f hk (f7 _ (mA_25 (by omega)))) rfl
          · rw [askR_0, Nat.add_zero]
      obtain ⟨_, s5, l5, m5, _⟩ := id r5
      have no : ¬ (L j = 16 ∧ nI (getN r 96 32) = crcV r 12 ∧ getN r 0 8 < 4 ∧ getN r 8 24 = 0) → Ev (d + 2) m_Mo_hear 100 [some (.ref 25), some (.int x), some (.int (b2i rb)), some (.int (nI (getN r 0 8))), none, none, none, none, none, none] [] w5 nc ns Q := by
        intro hn
        refine t_Mo_hear_100 rfl m5 (Nat.le_of_ble_eq_true rfl) (c_mgetR (n := 32) r5 har hm (by omega) (by omega) (fun w6 r6 => ?_))
        rw [hr]
        exact lst false w6 ⟨fun z => absurd z (by decide), fun z => absurd z hn⟩ r6
      refine t_Mo_hear_82 (fun g => no (fun z => g ((lz (n := getN r 8 24) (by omega)).mpr z.2.2.2))) (fun g => ?_)
      have z4 := (lz (n := getN r 8 24) (by omega)).mp g
      refine t_Mo_hear_87 (fun g => no (fun z => ?_)) (fun g => ?_)
      · have : rb = true := hrb.mpr ⟨z.1, z.2.1⟩
        rw [this] at g
        exact absurd g (by decide)
      have hrb1 : rb = true := by
        cases rb
        · exact absurd rfl g
        · rfl
      obtain ⟨z1, z2⟩ := hrb.mp hrb1
      refine t_Mo_hear_91 (fun g => no (fun z => absurd ((nI_leI (a := 4) (by omega) (by omega)).mp g) (by omega))) (fun g => ?_)
      have z3 : getN r 0 8 < 4 := Nat.lt_of_not_le (fun z => g (nI_le (a := 4) z (by omega)))
      refine t_Mo_hear_96 rfl m5 (Nat.le_of_ble_eq_true rfl) (c_mgetR (n := 32) r5 har hm (by omega) (by omega) (fun w6 r6 => ?_))
      rw [hr]
      exact lst true w6 ⟨fun _ => ⟨z1, z2, z3, z4⟩, fun _ => rfl⟩ r6
    have h2j : fu (fu s 0 0) 24 (nI j) 24 = nI j := fu_s _ _ _
    refine t_Mo_hear_34 o2 rfl rfl (wi_f k1 (r2.1 _ (mA_25 (by omega)))) (by rw [h2j]; exact vp_in_nI hm (by omega)) (fun g => ?_) (fun g => ?_)
    · rw [h2j, nI_clamp (by omega), k2 j hm] at g
      refine t_Mo_hear_61 rfl o2 (Nat.le_of_ble_eq_true rfl) (es_w (fun w3 e3 g3 => ?_))
      rw [moL_25] at e3
      have o3 : moO w3 (fu (fu (fu s 0 0) 24 (nI j)) 25 0) l := ⟨by decide, e3⟩
      refine aft false w3 none none none none none none none ⟨fun z => absurd z (by decide), fun z => absurd (by rw [z.1]; rfl) g⟩ ⟨fun v hv => by rw [g3 v hv, r2.1 v hv], _, _, o3, by rw [fu_n _ _ (by omega), fu_s], fu_s _ _ _, rfl, fun k k0 k1 => by rw [fu_n _ _ (by omega), fu_n _ _ (by omega), fu_n _ _ (by omega)]⟩
    · rw [h2j, nI_clamp (by omega), k2 j hm] at g
      have h16 : L j = 16 := (nI_eq (b := 16) (by omega) (by omega)).mp g
      refine t_Mo_hear_48 o2 (Nat.le_of_ble_eq_true rfl) (c_misCheckedR (z := 16) r2 har hm (by omega) (by omega) (fun w3 y3 r3 => ?_))
      rw [hr]
      obtain ⟨f3, s3, l3, m3, m24, m25, m0, hs3⟩ := id r3
      have go : ∀ rb : Bool, (rb = true ↔ L j = 16 ∧ nI (getN r 96 32) = crcV r 12) → ∀ w4 : qk_W, w4 25 = some (.inr (11, (moL s3 l3).set 25 (.int 0))) → (∀ v, v ≠ 25 → w4 v = w3 v) → Ev (d + 2) m_Mo_hear 68 [some (.ref 25), some (.int x), some (.int (b2i rb)), none, none, none, none, none, none, none] [] w4 nc ns Q := by
        intro rb hrb w4 e4 g4
        rw [moL_25] at e4
        have o4 : moO w4 (fu s3 25 0) l3 := ⟨by decide, e4⟩
        exact aft rb w4 none none none none none none none hrb ⟨fun v hv => by rw [g4 v hv, f3 v hv], _, _, o4, by rw [fu_n _ _ (by omega)]; exact m24, fu_s _ _ _, by rw [fu_n _ _ (by omega)]; exact m0, fun k k0 k1 => by rw [fu_n _ _ (by omega)]; exact hs3 k k0 k1⟩
      refine t_Mo_hear_54 (fun g => t_Mo_hear_61 rfl m3 (Nat.le_of_ble_eq_true rfl) (es_w (fun w4 e4 g4 => go false ⟨fun z => absurd z (by decide), fun z => ?_⟩ w4 e4 g4))) (fun g => t_Mo_hear_57 rfl m3 (Nat.le_of_ble_eq_true rfl) (es_w (fun w4 e4 g4 => go true ⟨fun _ => ⟨h16, ?_⟩, fun _ => rfl⟩ w4 e4 g4)))
      · rw [decide_eq_true z.2] at g
        exact absurd g (by decide)
      · by_cases z : nI (getN r (8 * (16 - 4)) 32) = crcV r (16 - 4)
        · exact z
        · rw [decide_eq_false z] at g
          exact absurd rfl g
  · refine t_Mo_hear_6 (fun _ => t_Mo_hear_13 ho (Nat.le_of_ble_eq_true rfl) (es_w (fun w1 e1 g1 => ?_))) (fun g => absurd rfl g)
    rw [moL_0] at e1
    have o1 : moO w1 (fu s 0 1) l := ⟨by decide, e1⟩
    exact t_Mo_hear_17 o1 rfl (fun g => absurd (show (1 : Int32) ≤ 0 by rw [fu_s] at g; exact g) (by decide)) (fun _ => t_Mo_hear_24 (hq0 e w1 g1 o1))
end Mo17
