/-! ===== the reference: slots ===== -/
section Mo7
variable {d : Nat} {w : qk_W} {nc ns : Nat} {Q : Option Value ⊕ Nat → qk_W → Nat → Nat → Prop} {s : Nat → Int32} {l : Nat → Int64} {R : Nat → Nat → Nat} {L : Nat → Nat} {T : Nat → Bool} {sl : Nat}
/-- the air's part of the reference -/
def maR (w : qk_W) (s : Nat → Int32) (sl : Nat) (R : Nat → Nat → Nat) (L : Nat → Nat) (T : Nat → Bool) : Prop := s 17 = nI sl ∧ sl < 2 ^ 30 ∧ arR w R ∧ lnR w L ∧ thR w T ∧ airK sl L
theorem maR_f {w w' : qk_W} {s s' : Nat → Int32} (h : maR w s sl R L T) (e : s' 17 = s 17) (e1 : w' (mA 14) = w (mA 14)) (e2 : w' (mA 15) = w (mA 15)) (e3 : w' (mA 16) = w (mA 16)) : maR w' s' sl R L T := by
  obtain ⟨h1, h2, h3, h4, h5, h6⟩ := h
  exact ⟨e.trans h1, h2, arR_f h3 e1, lnR_f h4 e2, thR_f h5 e3, h6⟩
theorem c_misSlot {x : Int32} (ho : moO w s l) (h : maR w s sl R L T)
    (hq1 : ∀ n, x = nI n → n < sl → sl ≤ n + 64 → T (n % 64) = false → Q (.inl (some (.int 1))) w nc ns) (hq0 : isSl sl T x = false → Q (.inl (some (.int 0))) w nc ns) :
    Ev d m_Mo_isSlot 0 [some (.ref 25), some (.int x)] [] w nc ns Q := by
  obtain ⟨h17, hs, _, _, ⟨f, t1, t2⟩, _⟩ := h
  refine t_Mo_isSlot_0 (fun h => t_Mo_isSlot_39 (hq0 (by simp [isSl, h]))) (fun hx => ?_)
  obtain ⟨n, hn, rfl⟩ := nI_of hx
  rw [isSl_nI hn] at hq0
  refine t_Mo_isSlot_4 ho rfl (fun h => t_Mo_isSlot_39 (hq0 ?_)) (fun h => ?_)
  · rw [h17] at h
    have := (nI_leI (by omega) hn).mp h
    simp [Nat.not_lt.mpr this]
  rw [h17] at h
  have hns : n < sl := Nat.lt_of_not_le (fun g => h ((nI_leI (by omega) hn).mpr g))
  have e64 : nI n < s 17 - 64 ↔ ¬ sl ≤ n + 64 := by
    rw [h17, Int32.lt_iff_toInt_lt, show (64 : Int32) = nI 64 from rfl, pk_sub_toInt (by omega) (by omega), nI_toInt hn]
    omega
  refine t_Mo_isSlot_12 ho rfl (fun h => t_Mo_isSlot_39 (hq0 ?_)) (fun h => ?_)
  · simp [e64.mp h]
  have h64 : sl ≤ n + 64 := Classical.not_not.mp (fun g => h (e64.mpr g))
  have er : qi_rem (nI n) 64 = nI (n % 64) := rem_nI hn (b := 64) (by omega) (by omega)
  have hm : n % 64 < 64 := Nat.mod_lt _ (by omega)
  refine t_Mo_isSlot_23 ho rfl t1 (by rw [er]; exact vp_in_nI hm (by omega)) (fun g => t_Mo_isSlot_39 (hq0 ?_)) (fun g => t_Mo_isSlot_35 (hq1 n rfl hns h64 ?_))
  · rw [er, nI_clamp (by omega), t2 _ hm] at g
    cases ht : T (n % 64) with
    | true => simp
    | false => rw [ht] at g; exact absurd rfl g
  · rw [er, nI_clamp (by omega), t2 _ hm] at g
    cases ht : T (n % 64) with
    | true => rw [ht] at g; exact absurd g (by decide)
    | false => rfl
theorem c_mlength {x : Int32} (ho : moO w s l) (h : maR w s sl R L T)
    (hq1 : ∀ n, x = nI n → n < sl → sl ≤ n + 64 → T (n % 64) = false → ∀ w', (∀ v, v ≠ 25 → w' v = w v) → moO w' (fu s 0 0) l → Q (.inl (some (.int (nI (L (n % 64)))))) w' nc ns)
    (hq0 : isSl sl T x = false → ∀ w', (∀ v, v ≠ 25 → w' v = w v) → moO w' (fu s 0 1) l → Q (.inl (some (.int 0))) w' nc ns) :
    Ev (d + 1) m_Mo_length 0 [some (.ref 25), some (.int x)] [] w nc ns Q := by
  refine t_Mo_length_0 ho (Nat.le_of_ble_eq_true rfl) (c_misSlot ho h (fun n a b c e => ?_) (fun e => ?_))
  · refine t_Mo_length_6 (fun g => absurd g (by decide)) (fun _ => t_Mo_length_9 ho (Nat.le_of_ble_eq_true rfl) (es_w (fun w1 e1 g1 => ?_)))
    rw [moL_0] at e1
    have o1 : moO w1 (fu s 0 0) l := ⟨by decide, e1⟩
    obtain ⟨h17, hs, _, ⟨fL, l1, l2⟩, _, hK⟩ := h
    subst a
    have er : qi_rem (nI n) 64 = nI (n % 64) := rem_nI (by omega) (b := 64) (by omega) (by omega)
    have hm : n % 64 < 64 := Nat.mod_lt _ (by omega)
    refine t_Mo_length_17 o1 rfl (fun _ => t_Mo_length_28 o1 rfl (wi_f l1 (g1 _ (mA_25 (by omega)))) (by rw [er]; exact vp_in_nI hm (by omega)) ?_) (fun g => absurd (by rw [fu_s]; decide) g)
    rw [er, nI_clamp (by omega), l2 _ hm]
    exact hq1 n rfl b c e w1 g1 o1
  · refine t_Mo_length_6 (fun _ => t_Mo_length_13 ho (Nat.le_of_ble_eq_true rfl) (es_w (fun w1 e1 g1 => ?_))) (fun g => absurd rfl g)
    rw [moL_0] at e1
    have o1 : moO w1 (fu s 0 1) l := ⟨by decide, e1⟩
    exact t_Mo_length_17 o1 rfl (fun g => absurd (show (1 : Int32) ≤ 0 by rw [fu_s] at g; exact g) (by decide)) (fun _ => t_Mo_length_24 (hq0 e w1 g1 o1))
theorem c_mlose {x : Int32} (ho : moO w s l) (h : maR w s sl R L T)
    (hq1 : ∀ n, x = nI n → n < sl → sl ≤ n + 64 → T (n % 64) = false → ∀ w', (∀ v, v ≠ 25 → v ≠ mA 16 → w' v = w v) → moO w' (fu s 0 0) l → maR w' (fu s 0 0) sl R L (fu T (n % 64) true) → Q (.inl none) w' nc ns)
    (hq0 : isSl sl T x = false → ∀ w', (∀ v, v ≠ 25 → w' v = w v) → moO w' (fu s 0 1) l → Q (.inl none) w' nc ns) :
    Ev (d + 1) m_Mo_lose 0 [some (.ref 25), some (.int x)] [] w nc ns Q := by
  refine t_Mo_lose_0 ho (Nat.le_of_ble_eq_true rfl) (c_misSlot ho h (fun n a b c e => ?_) (fun e => ?_))
  · refine t_Mo_lose_6 (fun g => absurd g (by decide)) (fun _ => t_Mo_lose_9 ho (Nat.le_of_ble_eq_true rfl) (es_w (fun w1 e1 g1 => ?_)))
    rw [moL_0] at e1
    have o1 : moO w1 (fu s 0 0) l := ⟨by decide, e1⟩
    obtain ⟨h17, hs, h3, h4, ⟨f, t1, t2⟩, hK⟩ := h
    subst a
    have er : qi_rem (nI n) 64 = nI (n % 64) := rem_nI (by omega) (b := 64) (by omega) (by omega)
    have hm : n % 64 < 64 := Nat.mod_lt _ (by omega)
    refine t_Mo_lose_17 o1 rfl (fun g => absurd (fu_s _ _ _) g) (fun _ => t_Mo_lose_24 o1 rfl (wz_f t1 (g1 _ (mA_25 (by omega)))) (by rw [er]; exact vp_in_nI hm (by omega)) (es_w (fun w2 e2 g2 => t_Mo_lose_34 ?_)))
    rw [er, nI_clamp (by omega)] at e2
    refine hq1 n rfl b c e w2 (fun v v1 v2 => by rw [g2 v v2, g1 v v1]) (moO_f o1 (g2 25 (Ne.symm (mA_25 (by omega))))) ⟨by rw [fu_n _ _ (by omega)]; exact h17, hs, arR_f h3 (by rw [g2 _ (mA_ne (by omega)), g1 _ (mA_25 (by omega))]), lnR_f h4 (by rw [g2 _ (mA_ne (by omega)), g1 _ (mA_25 (by omega))]), ⟨upd f (n % 64) 1, ⟨mA_16 _, e2⟩, fun i hi => ?_⟩, hK⟩
    by_cases ei : i = n % 64
    · rw [ei, pk_us, fu_s]; rfl
    · rw [pk_un ei, fu_n _ _ ei]; exact t2 i hi
  · refine t_Mo_lose_6 (fun _ => t_Mo_lose_13 ho (Nat.le_of_ble_eq_true rfl) (es_w (fun w1 e1 g1 => ?_))) (fun g => absurd rfl g)
    rw [moL_0] at e1
    have o1 : moO w1 (fu s 0 1) l := ⟨by decide, e1⟩
    exact t_Mo_lose_17 o1 rfl (fun _ => t_Mo_lose_34 (hq0 e w1 g1 o1)) (fun g => absurd (show (1 : Int32) = 0 by rw [fu_s] at g; exact g) (by decide))
theorem c_misByte {x y : Int32} (ho : moO w s l) (h : maR w s sl R L T)
    (hq1 : ∀ n i, x = nI n → n < sl → sl ≤ n + 64 → T (n % 64) = false → y = nI i → i < L (n % 64) → Q (.inl (some (.int 1))) w nc ns)
    (hq2 : ∀ n, x = nI n → n < sl → sl ≤ n + 64 → T (n % 64) = false → (∀ i, i < L (n % 64) → y ≠ nI i) → Q (.inl (some (.int 0))) w nc ns)
    (hq0 : isSl sl T x = false → Q (.inl (some (.int 0))) w nc ns) :
    Ev (d + 1) m_Mo_isByte 0 [some (.ref 25), some (.int x), some (.int y)] [] w nc ns Q := by
  refine t_Mo_isByte_0 ho (Nat.le_of_ble_eq_true rfl) (c_misSlot ho h (fun n a b c e => ?_) (fun e => t_Mo_isByte_5 (fun _ => t_Mo_isByte_29 (hq0 e)) (fun g => absurd rfl g)))
  obtain ⟨h17, hs, _, ⟨fL, l1, l2⟩, _, hK⟩ := h
  have hm : n % 64 < 64 := Nat.mod_lt _ (by omega)
  have hl := hK (n % 64) hm (Nat.lt_of_le_of_lt (Nat.mod_le _ _) b)
  refine t_Mo_isByte_5 (fun g => absurd g (by decide)) (fun _ => t_Mo_isByte_8 (fun g => t_Mo_isByte_29 (hq2 n a b c e (fun i hi ey => ?_))) (fun g => ?_))
  · rw [ey] at g; exact nI_pos (n := i) (by omega) g
  obtain ⟨i, hi, rfl⟩ := nI_of g
  have er : qi_rem x 64 = nI (n % 64) := by rw [a]; exact rem_nI (by omega) (b := 64) (by omega) (by omega)
  refine t_Mo_isByte_12 ho rfl l1 (by rw [er]; exact vp_in_nI hm (by omega)) (fun g => t_Mo_isByte_29 (hq2 n a b c e (fun i' hi' ey => ?_))) (fun g => t_Mo_isByte_25 (hq1 n i a b c e rfl ?_))
  · rw [er, nI_clamp (by omega), l2 _ hm] at g
    have h1 := (nI_leI (by omega) hi).mp g
    have h2 := (nI_eq hi (by omega)).mp ey
    omega
  · rw [er, nI_clamp (by omega), l2 _ hm] at g
    exact Nat.lt_of_not_le (fun e => g (nI_le e hi))
end Mo7
