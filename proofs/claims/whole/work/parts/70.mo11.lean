/-! ===== the reference: air, spoil, the check of a row ===== -/
section Mo11
variable {d : Nat} {w : qk_W} {nc ns : Nat} {Q : Option Value ⊕ Nat → qk_W → Nat → Nat → Prop} {s : Nat → Int32} {l : Nat → Int64} {R : Nat → Nat → Nat} {L : Nat → Nat} {T : Nat → Bool} {sl : Nat}
theorem c_mair {x y : Int32} (ho : moO w s l) (h : maR w s sl R L T)
    (hq1 : ∀ n i, x = nI n → n < sl → sl ≤ n + 64 → T (n % 64) = false → y = nI i → i < L (n % 64) → ∀ w', (∀ v, v ≠ 25 → w' v = w v) → moO w' (fu s 0 0) l → Q (.inl (some (.int (nI (R (n % 64) i))))) w' nc ns)
    (hq2 : ∀ n, x = nI n → n < sl → sl ≤ n + 64 → T (n % 64) = false → (∀ i, i < L (n % 64) → y ≠ nI i) → ∀ w', (∀ v, v ≠ 25 → w' v = w v) → moO w' (fu s 0 1) l → Q (.inl (some (.int 0))) w' nc ns)
    (hq0 : isSl sl T x = false → ∀ w', (∀ v, v ≠ 25 → w' v = w v) → moO w' (fu s 0 1) l → Q (.inl (some (.int 0))) w' nc ns) :
    Ev (d + 2) m_Mo_air 0 [some (.ref 25), some (.int x), some (.int y)] [] w nc ns Q := by
  have no : (∀ w', (∀ v, v ≠ 25 → w' v = w v) → moO w' (fu s 0 1) l → Q (.inl (some (.int 0))) w' nc ns) → Ev (d + 2) m_Mo_air 7 [some (.ref 25), some (.int x), some (.int y)] [.int 0, .ref 25] w nc ns Q := by
    intro hq
    refine t_Mo_air_7 (fun _ => t_Mo_air_14 ho (Nat.le_of_ble_eq_true rfl) (es_w (fun w1 e1 g1 => ?_))) (fun g => absurd rfl g)
    rw [moL_0] at e1
    have o1 : moO w1 (fu s 0 1) l := ⟨by decide, e1⟩
    exact t_Mo_air_18 o1 rfl (fun g => absurd (show (1 : Int32) ≤ 0 by rw [fu_s] at g; exact g) (by decide)) (fun _ => t_Mo_air_25 (hq w1 g1 o1))
  refine t_Mo_air_0 ho (Nat.le_of_ble_eq_true rfl) (c_misByte ho h (fun n i a b c e ey hi => ?_) (fun n a b c e hn => no (hq2 n a b c e hn)) (fun e => no (hq0 e)))
  refine t_Mo_air_7 (fun g => absurd g (by decide)) (fun _ => t_Mo_air_10 ho (Nat.le_of_ble_eq_true rfl) (es_w (fun w1 e1 g1 => ?_)))
  rw [moL_0] at e1
  have o1 : moO w1 (fu s 0 0) l := ⟨by decide, e1⟩
  have hq := hq1 n i a b c e ey hi w1 g1 o1
  obtain ⟨h17, hs, ⟨f, f1, f2, f3⟩, _, _, hK⟩ := h
  have hm : n % 64 < 64 := Nat.mod_lt _ (by omega)
  have hl := hK (n % 64) hm (Nat.lt_of_le_of_lt (Nat.mod_le _ _) b)
  have eix : (512 : Int32) * qi_rem x 64 + y = nI (512 * (n % 64) + i) := by rw [a, ey, show qi_rem (nI n) 64 = nI (n % 64) from rem_nI (by omega) (b := 64) (by omega) (by omega), ix512]
  refine t_Mo_air_18 o1 rfl (fun _ => t_Mo_air_29 o1 rfl (wb_f f1 (g1 _ (mA_25 (by omega)))) (by rw [eix]; exact vp_in_nI (by omega) (by omega)) ?_) (fun g => absurd (by rw [fu_s]; decide) g)
  rw [eix, nI_clamp (by omega), f2 _ hm i (by omega), nB_255 (f3 _ _)]
  exact hq
theorem c_mspoil {x y mk : Int32} (ho : moO w s l) (h : maR w s sl R L T)
    (hq1 : ∀ n i, x = nI n → n < sl → sl ≤ n + 64 → T (n % 64) = false → y = nI i → i < L (n % 64) → ∀ w', (∀ v, v ≠ 25 → v ≠ mA 14 → w' v = w v) → moO w' (fu s 0 0) l → maR w' (fu s 0 0) sl (fu R (n % 64) (fu (R (n % 64)) i (xorB (R (n % 64) i) mk))) L T → Q (.inl none) w' nc ns)
    (hq2 : ∀ n, x = nI n → n < sl → sl ≤ n + 64 → T (n % 64) = false → (∀ i, i < L (n % 64) → y ≠ nI i) → ∀ w', (∀ v, v ≠ 25 → w' v = w v) → moO w' (fu s 0 1) l → Q (.inl none) w' nc ns)
    (hq0 : isSl sl T x = false → ∀ w', (∀ v, v ≠ 25 → w' v = w v) → moO w' (fu s 0 1) l → Q (.inl none) w' nc ns) :
    Ev (d + 2) m_Mo_spoil 0 [some (.ref 25), some (.int x), some (.int y), some (.int mk)] [] w nc ns Q := by
  have no : (∀ w', (∀ v, v ≠ 25 → w' v = w v) → moO w' (fu s 0 1) l → Q (.inl none) w' nc ns) → Ev (d + 2) m_Mo_spoil 7 [some (.ref 25), some (.int x), some (.int y), some (.int mk)] [.int 0, .ref 25] w nc ns Q := by
    intro hq
    refine t_Mo_spoil_7 (fun _ => t_Mo_spoil_14 ho (Nat.le_of_ble_eq_true rfl) (es_w (fun w1 e1 g1 => ?_))) (fun g => absurd rfl g)
    rw [moL_0] at e1
    have o1 : moO w1 (fu s 0 1) l := ⟨by decide, e1⟩
    exact t_Mo_spoil_18 o1 rfl (fun _ => t_Mo_spoil_58 (hq w1 g1 o1)) (fun g => absurd (show (1 : Int32) = 0 by rw [fu_s] at g; exact g) (by decide))
  refine t_Mo_spoil_0 ho (Nat.le_of_ble_eq_true rfl) (c_misByte ho h (fun n i a b c e ey hi => ?_) (fun n a b c e hn => no (hq2 n a b c e hn)) (fun e => no (hq0 e)))
  refine t_Mo_spoil_7 (fun g => absurd g (by decide)) (fun _ => t_Mo_spoil_10 ho (Nat.le_of_ble_eq_true rfl) (es_w (fun w1 e1 g1 => ?_)))
  rw [moL_0] at e1
  have o1 : moO w1 (fu s 0 0) l := ⟨by decide, e1⟩
  have hq := hq1 n i a b c e ey hi
  obtain ⟨h17, hs, ⟨f, f1, f2, f3⟩, h4, h5, hK⟩ := h
  have hm : n % 64 < 64 := Nat.mod_lt _ (by omega)
  have hl := hK (n % 64) hm (Nat.lt_of_le_of_lt (Nat.mod_le _ _) b)
  have eix : (512 : Int32) * qi_rem x 64 + y = nI (512 * (n % 64) + i) := by rw [a, ey, show qi_rem (nI n) 64 = nI (n % 64) from rem_nI (by omega) (b := 64) (by omega) (by omega), ix512]
  refine t_Mo_spoil_18 o1 rfl (fun g => absurd (fu_s _ _ _) g) (fun _ => t_Mo_spoil_25 o1 rfl (wb_f f1 (g1 _ (mA_25 (by omega)))) (by rw [eix]; exact vp_in_nI (by omega) (by omega)) (es_w (fun w2 e2 g2 => t_Mo_spoil_58 ?_)))
  rw [eix, nI_clamp (by omega), b8_b8, b8_nB, f2 _ hm i (by omega)] at e2
  generalize n % 64 = j at *
  refine hq w2 (fun v v1 v2 => by rw [g2 v v2, g1 v v1]) (moO_f o1 (g2 25 (Ne.symm (mA_25 (by omega))))) ⟨by rw [fu_n _ _ (by omega)]; exact h17, hs, ⟨_, ⟨mA_16 _, e2⟩, fun i' hi' k hk => ?_, fun i' k => ?_⟩, lnR_f h4 (by rw [g2 _ (mA_ne (by omega)), g1 _ (mA_25 (by omega))]), thR_f h5 (by rw [g2 _ (mA_ne (by omega)), g1 _ (mA_25 (by omega))]), hK⟩
  · by_cases e3 : i' = j
    · subst e3
      rw [fu_s]
      by_cases e4 : k = i
      · subst e4; rw [pk_us, fu_s]; rfl
      · rw [pk_un (by omega), fu_n _ _ e4]; exact f2 i' hi' k hk
    · rw [fu_n _ _ e3, pk_un (by omega)]; exact f2 i' hi' k hk
  · by_cases e3 : i' = j
    · subst e3
      rw [fu_s]
      by_cases e4 : k = i
      · subst e4; rw [fu_s]; exact Nat.mod_lt _ (by omega)
      · rw [fu_n _ _ e4]; exact f3 i' k
    · rw [fu_n _ _ e3]; exact f3 i' k
theorem c_misChecked {j z : Nat} (ho : moO w s l) (h24 : s 24 = nI j) (ha : arR w R) (hj : j < 64) (hz : 4 ≤ z) (hz2 : z ≤ 512)
    (hq : ∀ w' b, (∀ v, v ≠ 25 → w' v = w v) → moO w' (fu s 25 b) l → Q (.inl (some (.int (b2i (decide (nI (getN (R j) (8 * (z - 4)) 32) = crcV (R j) (z - 4))))))) w' nc ns) :
    Ev (d + 1) m_Mo_isChecked 0 [some (.ref 25), some (.int (nI z))] [] w nc ns Q := by
  refine t_Mo_isChecked_0 ho (Nat.le_of_ble_eq_true rfl) (es_w (fun w1 e1 g1 => ?_))
  rw [show (8 : Int32) * (nI z - 4) = nI (8 * (z - 4)) by rw [show (4 : Int32) = nI 4 from rfl, pk_sub hz, show (8 : Int32) = nI 8 from rfl, pk_mul], moL_25] at e1
  have o1 : moO w1 (fu s 25 (nI (8 * (z - 4)))) l := ⟨by decide, e1⟩
  have a1 := arR_f ha (g1 _ (mA_25 (by omega)))
  refine t_Mo_isChecked_10 o1 (Nat.le_of_ble_eq_true rfl) (c_mget (n := 32) o1 (by rw [fu_n _ _ (by omega)]; exact h24) (fu_s _ _ _) a1 hj (by omega) (by omega) (fun w2 g2 o2 => ?_))
  rw [fu_fu] at o2
  have a2 := arR_f a1 (g2 _ (mA_25 (by omega)))
  refine t_Mo_isChecked_16 o2 rfl (Nat.le_of_ble_eq_true rfl) ?_
  rw [fu_n _ _ (show (24 : Nat) ≠ 25 by omega), h24, show (4 : Int32) = nI 4 from rfl, pk_sub hz, lN_i]
  refine c_mcheck o2 a2 hj (by omega) ?_
  have hq' := hq w2 _ (fun v hv => by rw [g2 v hv, g1 v hv]) o2
  refine t_Mo_isChecked_28 (fun g => t_Mo_isChecked_35 ?_) (fun g => t_Mo_isChecked_31 ?_)
  · rwa [decide_eq_false g] at hq'
  · rwa [decide_eq_true g] at hq'
end Mo11
