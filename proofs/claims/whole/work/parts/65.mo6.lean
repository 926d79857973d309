/-! ===== the reference: a message from its beginning to its end ===== -/
def thR (w : qk_W) (T : Nat → Bool) : Prop := ∃ f, wz w (mA 16) 64 f ∧ ∀ j, j < 64 → f j = b2i (T j)
def lnR (w : qk_W) (L : Nat → Nat) : Prop := ∃ f, wi w (mA 15) 64 f ∧ ∀ j, j < 64 → f j = nI (L j)
theorem thR_f {w w' : qk_W} {T : Nat → Bool} (h : thR w T) (e : w' (mA 16) = w (mA 16)) : thR w' T := by
  obtain ⟨f, h1, h2⟩ := h
  exact ⟨f, wz_f h1 e, h2⟩
theorem lnR_f {w w' : qk_W} {L : Nat → Nat} (h : lnR w L) (e : w' (mA 15) = w (mA 15)) : lnR w' L := by
  obtain ⟨f, h1, h2⟩ := h
  exact ⟨f, wi_f h1 e, h2⟩
/-- a stream filled up to whole bytes -/
def pad (st : Strm) : Strm := (8 * ((st.1 + 7) / 8), st.2)
theorem pad_ok {st : Strm} (h : sOK st) : sOK (pad st) := fun p hp => h p (by have : 8 * ((st.1 + 7) / 8) ≤ p := hp; omega)
section Mo6
variable {d : Nat} {w : qk_W} {nc ns : Nat} {Q : Option Value ⊕ Nat → qk_W → Nat → Nat → Prop} {s : Nat → Int32} {l : Nat → Int64} {R : Nat → Nat → Nat}
theorem c_mputS {j n : Nat} {x : Int32} {st0 : Strm} (ho : moO w s l) (h24 : s 24 = nI j) (h25 : s 25 = nI st0.1) (ha : arR w R) (hst : ∀ p, p < 4096 → rbit (R j) p = st0.2 p) (hok : sOK st0) (hj : j < 64) (hn : n ≤ 32) (hb : st0.1 + n ≤ 4096)
    (hq : ∀ w' R', (∀ v, v ≠ 25 → v ≠ mA 14 → w' v = w v) → moO w' (fu s 25 (nI (app st0 (vN x) n).1)) l → arR w' R' → (∀ i, i ≠ j → R' i = R i) → (∀ p, p < 4096 → rbit (R' j) p = (app st0 (vN x) n).2 p) → Q (.inl none) w' nc ns) :
    Ev d m_Mo_put 0 [some (.ref 25), some (.int x), some (.int (nI n)), none, none] [] w nc ns Q := by
  refine t_Mo_put_0 ?_
  rw [show nI n - 1 = nI n + (-1) from Int32.sub_eq_add_neg (nI n) 1]
  refine c_mput (R := R) w s st0 hj hn hb hok hq h24 n (Nat.le_refl _) w R none (fun _ _ _ => rfl) ?_ ha (fun _ _ => rfl) (fun p hp => ?_)
  · have : fu s 25 (nI (st0.1 + (n - n))) = s := by
      funext k
      by_cases e : k = 25
      · rw [e, fu_s, h25, Nat.sub_self, Nat.add_zero]
      · exact fu_n _ _ e
    rw [this]
    exact ho
  · rw [Nat.sub_self, app_0]
    exact hst p hp
theorem c_mbegin {sl : Nat} {T : Nat → Bool} (ho : moO w s l) (h17 : s 17 = nI sl) (hsl : sl < 2 ^ 30) (ha : arR w R) (hT : thR w T)
    (hq : ∀ w' R', (∀ v, v ≠ 25 → v ≠ mA 14 → v ≠ mA 16 → w' v = w v) → moO w' (fu (fu s 24 (nI (sl % 64))) 25 (nI 0)) l → arR w' R' → (∀ i, i ≠ sl % 64 → R' i = R i) → (∀ p, p < 4096 → rbit (R' (sl % 64)) p = false) → thR w' (fu T (sl % 64) false) → Q (.inl none) w' nc ns) :
    Ev d m_Mo_begin 0 [some (.ref 25), none] [] w nc ns Q := by
  have hj : sl % 64 < 64 := Nat.mod_lt _ (by omega)
  have er : qi_rem (s 17) 64 = nI (sl % 64) := by rw [h17]; exact rem_nI (b := 64) (by omega) (by omega) (by omega)
  refine t_Mo_begin_0 ho rfl (Nat.le_of_ble_eq_true rfl) (es_w (fun w1 e1 g1 => ?_))
  rw [show qi_rem (s 17) 64 = nI (sl % 64) from er, moL_24] at e1
  generalize hjj : sl % 64 = j at *
  have o1 : moO w1 (fu s 24 (nI j)) l := ⟨by decide, e1⟩
  obtain ⟨fT, t1, t2⟩ := hT
  refine t_Mo_begin_11 o1 rfl rfl (wz_f t1 (g1 _ (mA_25 (by omega)))) (by rw [fu_s]; exact vp_in_nI hj (by omega)) (es_w (fun w2 e2 g2 => ?_))
  rw [fu_s, nI_clamp (by omega)] at e2
  have o2 := moO_f o1 (g2 25 (Ne.symm (mA_25 (by omega))))
  have a2 := arR_f ha (show w2 (mA 14) = w (mA 14) by rw [g2 _ (mA_ne (by omega)), g1 _ (mA_25 (by omega))])
  refine t_Mo_begin_21 rfl ?_
  have key : ∀ m k, k + m = 512 → ∀ w3 R3, (∀ v, v ≠ mA 14 → w3 v = w2 v) → arR w3 R3 → (∀ i, i ≠ j → R3 i = R i) → (∀ i, i < k → R3 j i = 0) → Ev d m_Mo_begin 23 [some (.ref 25), some (.int (nI k))] [] w3 nc ns Q := by
    intro m
    induction m with
    | zero =>
      intro k hk w3 R3 g3 a3 hR hz
      have o3 := moO_f o2 (g3 25 (Ne.symm (mA_25 (by omega))))
      refine t_Mo_begin_23 (fun _ => t_Mo_begin_52 o3 (Nat.le_of_ble_eq_true rfl) (es_w (fun w4 e4 g4 => t_Mo_begin_57 ?_))) (fun g => absurd (nI_le (a := 512) (by omega) (by omega)) g)
      rw [moL_25] at e4
      refine hq w4 R3 (fun v v1 v2 v3 => by rw [g4 v v1, g3 v v2, g2 v v3, g1 v v1]) ⟨by decide, e4⟩ (arR_f a3 (g4 _ (mA_25 (by omega)))) hR (fun p hp => ?_) ⟨upd fT j 0, ⟨mA_16 _, ?_⟩, fun i hi => ?_⟩
      · unfold rbit
        rw [hz (p / 8) (by omega)]
        exact Nat.zero_testBit _
      · rw [g4 _ (mA_25 (by omega)), g3 _ (mA_ne (by omega))]
        exact e2
      · by_cases e : i = j
        · subst e; rw [pk_us, fu_s]; rfl
        · rw [pk_un e, fu_n _ _ e]; exact t2 i hi
    | succ m ih =>
      intro k hk w3 R3 g3 a3 hR hz
      have o3 := moO_f o2 (g3 25 (Ne.symm (mA_25 (by omega))))
      obtain ⟨f, f1, f2, f3⟩ := a3
      have eix : (512 : Int32) * fu s 24 (nI j) 24 + nI k = nI (512 * j + k) := by rw [fu_s, ix512]
      refine t_Mo_begin_23 (fun g => absurd ((nI_leI (a := 512) (by omega) (by omega)).mp g) (by omega)) (fun _ => ?_)
      refine t_Mo_begin_30 o3 rfl rfl f1 (by rw [eix]; exact vp_in_nI (by omega) (by omega)) (es_w (fun w4 e4 g4 => t_Mo_begin_46 rfl ?_))
      rw [eix, nI_clamp (by omega)] at e4
      rw [nI_1]
      refine ih (k + 1) (by omega) w4 (fu R3 j (fu (R3 j) k 0)) (fun v hv => (g4 v hv).trans (g3 v hv)) ⟨_, ⟨f1.1, e4⟩, fun i hi q hq2 => ?_, fun i q => ?_⟩ (fun i hi => by rw [fu_n _ _ hi]; exact hR i hi) (fun i hi => ?_)
      · by_cases e : i = j
        · subst e
          rw [fu_s]
          by_cases e' : q = k
          · subst e'; rw [pk_us, fu_s]; decide
          · rw [pk_un (by omega), fu_n _ _ e']; exact f2 i hi q hq2
        · rw [fu_n _ _ e, pk_un (by omega)]; exact f2 i hi q hq2
      · by_cases e : i = j
        · subst e
          rw [fu_s]
          by_cases e' : q = k
          · subst e'; rw [fu_s]; omega
          · rw [fu_n _ _ e']; exact f3 i q
        · rw [fu_n _ _ e]; exact f3 i q
      · rw [fu_s]
        by_cases e' : i = k
        · rw [e', fu_s]
        · rw [fu_n _ _ e']; exact hz i (by omega)
  exact key 512 0 (by omega) w2 R (fun _ _ => rfl) a2 (fun _ _ => rfl) (fun i hi => absurd hi (by omega))
theorem c_mend {j sl : Nat} {st0 : Strm} {L : Nat → Nat} (ho : moO w s l) (h24 : s 24 = nI j) (h25 : s 25 = nI st0.1) (h17 : s 17 = nI sl) (hsl : sl < 2 ^ 30) (ha : arR w R) (hL : lnR w L) (hst : ∀ p, p < 4096 → rbit (R j) p = st0.2 p) (hok : sOK st0) (hj : j < 64) (hb : st0.1 ≤ 4064)
    (hq : ∀ w' R' s', (∀ v, v ≠ 25 → v ≠ mA 14 → v ≠ mA 15 → w' v = w v) → moO w' s' l → s' 17 = nI (sl + 1) → (∀ k, k ≠ 17 → k ≠ 25 → s' k = s k) → arR w' R' → (∀ i, i ≠ j → R' i = R i) → (∀ p, p < 4096 → rbit (R' j) p = (app (pad st0) (vN (crcV (R j) ((st0.1 + 7) / 8))) 32).2 p) → lnR w' (fu L j ((st0.1 + 7) / 8 + 4)) → Q (.inl (some (.int (nI sl)))) w' nc ns) :
    Ev (d + 1) m_Mo_end 0 [some (.ref 25)] [] w nc ns Q := by
  have e8 : (nI st0.1 + 7) / 8 * 8 = nI (8 * ((st0.1 + 7) / 8)) := by
    rw [show (7 : Int32) = nI 7 from rfl, nI_add, show (8 : Int32) = nI 8 from rfl, pk_div (by omega) (by omega) (by omega), pk_mul, Nat.mul_comm]
  refine t_Mo_end_0 ho rfl (Nat.le_of_ble_eq_true rfl) (es_w (fun w1 e1 g1 => ?_))
  rw [show (s 25 + 7) / 8 * 8 = nI (8 * ((st0.1 + 7) / 8)) by rw [h25, e8], moL_25] at e1
  have o1 : moO w1 (fu s 25 (nI (8 * ((st0.1 + 7) / 8)))) l := ⟨by decide, e1⟩
  have a1 := arR_f ha (g1 _ (mA_25 (by omega)))
  refine t_Mo_end_17 o1 rfl rfl (Nat.le_of_ble_eq_true rfl) ?_
  rw [fu_s, fu_n _ _ (show (24 : Nat) ≠ 25 by omega), h24, show nI (8 * ((st0.1 + 7) / 8)) / 8 = nI ((st0.1 + 7) / 8) by rw [show (8 : Int32) = nI 8 from rfl, pk_div (by omega) (by omega) (by omega)]; exact congrArg nI (by omega)]
  refine c_mcheck o1 a1 hj (by omega) ?_
  refine t_Mo_end_33 o1 (Nat.le_of_ble_eq_true rfl) (c_mputS (n := 32) (st0 := pad st0) o1 (by rw [fu_n _ _ (by omega)]; exact h24) (by rw [fu_s]; rfl) a1 (fun p hp => hst p hp) (pad_ok hok) hj (by omega) (by show 8 * ((st0.1 + 7) / 8) + 32 ≤ 4096; omega) (fun w2 R2 g2 o2 a2 hR hb2 => ?_))
  rw [fu_fu] at o2
  have eN : (app (pad st0) (vN (crcV (R j) ((st0.1 + 7) / 8))) 32).1 = 8 * ((st0.1 + 7) / 8 + 4) := by
    show 8 * ((st0.1 + 7) / 8) + 32 = _
    omega
  rw [eN] at o2
  obtain ⟨fL, l1, l2⟩ := hL
  have l1' := wi_f l1 (show w2 (mA 15) = w (mA 15) by rw [g2 _ (mA_25 (by omega)) (mA_ne (by omega)), g1 _ (mA_25 (by omega))])
  have es24 : fu s 25 (nI (8 * ((st0.1 + 7) / 8 + 4))) 24 = nI j := by rw [fu_n _ _ (by omega)]; exact h24
  refine t_Mo_end_38 o2 rfl rfl rfl l1' (by rw [es24]; exact vp_in_nI hj (by omega)) (mA_16 _) (es_w (fun w3 e3 g3 => ?_))
  rw [es24, fu_s, nI_clamp (by omega), show nI (8 * ((st0.1 + 7) / 8 + 4)) / 8 = nI ((st0.1 + 7) / 8 + 4) by rw [show (8 : Int32) = nI 8 from rfl, pk_div (by omega) (by omega) (by omega)]; exact congrArg nI (by omega)] at e3
  have o3 := moO_f o2 (g3 25 (Ne.symm (mA_25 (by omega))))
  refine t_Mo_end_54 o3 rfl (Nat.le_of_ble_eq_true rfl) (es_w (fun w4 e4 g4 => ?_))
  rw [fu_n _ _ (show (17 : Nat) ≠ 25 by omega), h17, nI_1, moL_17] at e4
  refine t_Mo_end_64 ⟨by decide, e4⟩ rfl ?_
  rw [fu_s, nI_pred]
  refine hq w4 R2 _ (fun v v1 v2 v3 => by rw [g4 v v1, g3 v v3, g2 v v1 v2, g1 v v1]) ⟨by decide, e4⟩ (fu_s _ _ _) (fun k k1 k2 => by rw [fu_n _ _ k1, fu_n _ _ k2]) (arR_f a2 (by rw [g4 _ (mA_25 (by omega)), g3 _ (mA_ne (by omega))])) hR hb2 ⟨_, (g4 _ (mA_25 (by omega))).trans e3, fun i hi => ?_⟩
  by_cases e : i = j
  · subst e; rw [pk_us, fu_s]
  · rw [pk_un e, fu_n _ _ e]; exact l2 i hi
end Mo6
