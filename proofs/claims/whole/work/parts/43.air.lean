/-! ===== names of cells: v % 16 is the region (0..3 channels, 4..7 tracks, 8 air, 9 reference, 10 the rest, 11 temporaries) ===== -/
def frR (k : Nat) (w w' : qk_W) : Prop := ∀ v, v % 16 ≠ k → w' v = w v
theorem frR_refl {k : Nat} {w : qk_W} : frR k w w := fun _ _ => rfl
theorem frR_trans {k : Nat} {w w1 w2 : qk_W} (h : frR k w w1) (g : frR k w1 w2) : frR k w w2 := fun v hv => (g v hv).trans (h v hv)
theorem frR_set {k : Nat} {w w1 : qk_W} {a : Nat} {e : qk_C} (h : frR k w w1) (ha : a % 16 = k) : frR k w (qk_set w1 a e) := fun v hv => (qk_set_ne (fun x : v = a => hv (x ▸ ha))).trans (h v hv)
theorem fr_R {k : Nat} {l : List Nat} {w w1 w2 : qk_W} (h : frR k w w1) (g : fr l w1 w2) (hl : ∀ a ∈ l, a % 16 = k) : frR k w w2 := fun v hv => (g v (fun x => hv (hl v x))).trans (h v hv)
theorem rem_nI {a b : Nat} (ha : a < 2 ^ 31) (h0 : 0 < b) (hb : b < 2 ^ 31) : qi_rem (nI a) (nI b) = nI (a % b) := pk_rem ha h0 hb
theorem xor_nneg {a b : Nat} (ha : a < 2 ^ 31) (hb : b < 2 ^ 31) : 0 ≤ nI a ^^^ nI b := by
  rw [nx_xor]
  exact nI_pos' (Nat.xor_lt_two_pow ha hb)
theorem c_floorMod {d : Nat} {w : qk_W} {nc ns : Nat} {Q : Option Value ⊕ Nat → qk_W → Nat → Nat → Prop} {a b : Nat} (ha : a < 2 ^ 31) (h0 : 0 < b) (hb : b < 2 ^ 31) (hq : Q (.inl (some (.int (nI (a % b))))) w nc ns) :
    Ev d m_Math_floorMod 0 [some (.int (nI a)), some (.int (nI b)), none] [] w nc ns Q := by
  refine t_Math_floorMod_0 (nI_ne0 h0 hb) (fun _ => t_Math_floorMod_18 ?_) (fun h => absurd (xor_nneg ha hb) h)
  rw [rem_nI ha h0 hb]
  exact hq
def aO : Nat := 24
def aP : Nat := 40
def aM (j : Nat) : Nat := 16 * (8 + 2 * j) + 8
def aW (j : Nat) : Nat := 16 * (9 + 2 * j) + 8
/-- the air but for the message at j0 -/
def airH (w : qk_W) (s : Nat) (R : Nat → Nat → Nat) (L : Nat → Nat) (T : Nat → Bool) (j0 : Nat) : Prop :=
  wo w aO 4 [.ref aP, .int (nI s)] ∧ (∃ f, wr "QuakeLink$Message" w aP 64 f ∧ ∀ j, j < 64 → f j = if j < s then some (aM j) else none) ∧
  (∀ j, j < 64 → s ≤ j → w (aM j) = none ∧ w (aW j) = none) ∧
  ∀ j, j < 64 → j < s → j ≠ j0 → ∃ r, meR w (aM j) (aW j) r (if T j then 0 else L j) ∧ ∀ k, k < L j → r k = R j k
def airR (w : qk_W) (s : Nat) (R : Nat → Nat → Nat) (L : Nat → Nat) (T : Nat → Bool) : Prop := airH w s R L T 64
theorem airH_f {w w' : qk_W} {s : Nat} {R : Nat → Nat → Nat} {L : Nat → Nat} {T : Nat → Bool} {j0 : Nat} (h : airH w s R L T j0) (e : ∀ v, v % 16 = 8 → w' v = w v) : airH w' s R L T j0 := by
  obtain ⟨h1, ⟨f, h2, h3⟩, h4, h5⟩ := h
  refine ⟨wo_f h1 (e _ (by decide)), ⟨f, wr_f h2 (e _ (by decide)), h3⟩, fun j a b => ?_, fun j a b c => ?_⟩
  · rw [e (aM j) (by unfold aM; omega), e (aW j) (by unfold aW; omega)]; exact h4 j a b
  · obtain ⟨r, g1, g2⟩ := h5 j a b c
    exact ⟨r, meR_f g1 (e _ (by unfold aM; omega)) (e _ (by unfold aW; omega)), g2⟩
/-- only the message at j0 was written -/
theorem airH_m {w w' : qk_W} {s : Nat} {R : Nat → Nat → Nat} {L : Nat → Nat} {T : Nat → Bool} {j0 : Nat} (h : airH w s R L T j0) (hj : j0 < 64) (hs : j0 < s) (e : ∀ v, v ≠ aM j0 → v ≠ aW j0 → w' v = w v) : airH w' s R L T j0 := by
  obtain ⟨h1, ⟨f, h2, h3⟩, h4, h5⟩ := h
  refine ⟨wo_f h1 (e _ (by unfold aO aM; omega) (by unfold aO aW; omega)), ⟨f, wr_f h2 (e _ (by unfold aP aM; omega) (by unfold aP aW; omega)), h3⟩, fun j a b => ?_, fun j a b c => ?_⟩
  · rw [e (aM j) (by unfold aM; omega) (by unfold aM aW; omega), e (aW j) (by unfold aM aW; omega) (by unfold aW; omega)]; exact h4 j a b
  · obtain ⟨r, g1, g2⟩ := h5 j a b c
    exact ⟨r, meR_f g1 (e _ (by unfold aM; omega) (by unfold aM aW; omega)) (e _ (by unfold aM aW; omega) (by unfold aW; omega)), g2⟩
theorem airR_hole {w : qk_W} {s : Nat} {R : Nat → Nat → Nat} {L : Nat → Nat} {T : Nat → Bool} (h : airR w s R L T) {j0 : Nat} (hj : j0 < 64) (hs : j0 < s) : airH w s R L T j0 ∧ ∃ r, meR w (aM j0) (aW j0) r (if T j0 then 0 else L j0) ∧ ∀ k, k < L j0 → r k = R j0 k := by
  obtain ⟨h1, h2, h4, h5⟩ := h
  exact ⟨⟨h1, h2, h4, fun j a b _ => h5 j a b (by omega)⟩, h5 j0 hj hs (by omega)⟩
theorem airH_fill {w : qk_W} {s : Nat} {R R' : Nat → Nat → Nat} {L L' : Nat → Nat} {T T' : Nat → Bool} {j0 : Nat} (h : airH w s R L T j0) {r : Nat → Nat} (hm : meR w (aM j0) (aW j0) r (if T' j0 then 0 else L' j0)) (hr : ∀ k, k < L' j0 → r k = R' j0 k)
    (hs : ∀ j, j < 64 → j ≠ j0 → R' j = R j ∧ L' j = L j ∧ T' j = T j) : airR w s R' L' T' := by
  obtain ⟨h1, h2, h4, h5⟩ := h
  refine ⟨h1, h2, h4, fun j a b _ => ?_⟩
  by_cases hj : j = j0
  · subst hj; exact ⟨r, hm, hr⟩
  · obtain ⟨e1, e2, e3⟩ := hs j a hj
    rw [e1, e2, e3]
    exact h5 j a b hj
def isSl (s : Nat) (T : Nat → Bool) (x : Int32) : Bool := decide (¬ x < 0) && decide (x.toNatClampNeg < s) && decide (s ≤ x.toNatClampNeg + 64) && !T (x.toNatClampNeg % 64)
theorem isSl_nI {s : Nat} {T : Nat → Bool} {n : Nat} (h : n < 2 ^ 31) : isSl s T (nI n) = (decide (n < s) && decide (s ≤ n + 64) && !T (n % 64)) := by
  unfold isSl
  rw [nI_clamp h, decide_eq_true (nI_pos h), Bool.true_and]
section AirC
variable {d : Nat} {w : qk_W} {nc ns : Nat} {Q : Option Value ⊕ Nat → qk_W → Nat → Nat → Prop} {s : Nat} {R : Nat → Nat → Nat} {L : Nat → Nat} {T : Nat → Bool}
theorem c_latest {o : Nat} {v0 : Value} {x : Int32} (h : wo w o 4 [v0, .int x]) (hq : Q (.inl (some (.int (x - 1)))) w nc ns) : Ev d m_Ai_latest 0 [some (.ref o)] [] w nc ns Q := t_Ai_latest_0 h rfl hq
theorem c_find {x : Int32} (h : airR w s R L T) (hs : s < 2 ^ 30) (hL : ∀ j, j < 64 → j < s → 16 ≤ L j ∧ L j ≤ 512)
    (h1 : ∀ n, x = nI n → n < s → s ≤ n + 64 → T (n % 64) = false → Q (.inl (some (.ref (aM (n % 64))))) w nc ns) (h0 : isSl s T x = false → Q (.inl (some .null)) w nc ns) :
    Ev d m_Ai_find 0 [some (.ref aO), some (.int x), none] [] w nc ns Q := by
  obtain ⟨g1, ⟨f, g2, g3⟩, g4, g5⟩ := h
  refine t_Ai_find_0 (fun h => t_Ai_find_23 (h0 (by simp [isSl, h]))) (fun hx => ?_)
  obtain ⟨n, hn, rfl⟩ := nI_of hx
  rw [isSl_nI hn] at h0
  refine t_Ai_find_4 g1 rfl (fun h => t_Ai_find_23 (h0 ?_)) (fun h => ?_)
  · have := (nI_leI (by omega) hn).mp h
    simp [Nat.not_lt.mpr this]
  have hns : n < s := Nat.lt_of_not_le (fun g => h ((nI_leI (by omega) hn).mpr g))
  have e64 : nI s - 64 ≤ nI n ↔ s ≤ n + 64 := by
    rw [Int32.le_iff_toInt_le, show (64 : Int32) = nI 64 from rfl, pk_sub_toInt (by omega) (by omega), nI_toInt hn]
    omega
  refine t_Ai_find_12 g1 rfl (fun h => ?_) (fun h => t_Ai_find_23 (h0 ?_))
  · have h64 := e64.mp h
    have er : qi_rem (nI n) 64 = nI (n % 64) := rem_nI hn (b := 64) (by omega) (by omega)
    have hm : n % 64 < 64 := Nat.mod_lt _ (by omega)
    have hms : n % 64 < s := Nat.lt_of_le_of_lt (Nat.mod_le _ _) hns
    obtain ⟨r, k1, k2⟩ := g5 (n % 64) hm hms (by omega)
    have hl := hL (n % 64) hm hms
    refine t_Ai_find_25 g1 rfl g2 (by rw [er]; exact vp_in_nI hm (by omega)) (c10 := aM (n % 64)) (by rw [er, nI_clamp (by omega), g3 _ hm, if_pos hms]) ?_
    cases ht : T (n % 64) with
    | true =>
      rw [ht] at k1
      refine t_Ai_find_39 k1.1 rfl (fun h => absurd rfl h) (fun _ => t_Ai_find_46 (h0 (by simp [ht])))
    | false =>
      rw [ht] at k1
      refine t_Ai_find_39 k1.1 rfl (fun _ => t_Ai_find_50 rfl (h1 n rfl hns h64 ht)) (fun h => absurd h (nI_ne0 (n := L (n % 64)) (by omega) (by omega)))
  · simp [show ¬ s ≤ n + 64 from fun g => h (e64.mpr g)]
theorem c_add {z : Nat} (h : airR w s R L T) (hs : s < 2 ^ 30)
    (hq : ∀ w' r, frR 8 w w' → airH w' (s + 1) R L T (s % 64) → meR w' (aM (s % 64)) (aW (s % 64)) r z → Q (.inl (some (.ref (aM (s % 64))))) w' (nc + if s < 64 then 2 else 0) (ns + if s < 64 then 514 else 0)) :
    Ev (d + 2) m_Ai_add 0 [some (.ref aO), some (.int (nI z)), none] [] w nc ns Q := by
  obtain ⟨g1, ⟨f, g2, g3⟩, g4, g5⟩ := h
  have hm : s % 64 < 64 := Nat.mod_lt _ (by omega)
  refine t_Ai_add_0 g1 rfl (Nat.le_of_ble_eq_true rfl) (c_floorMod (b := 64) (by omega) (by omega) (by omega) ?_)
  have cl : (nI (s % 64)).toNatClampNeg = s % 64 := nI_clamp (by omega)
  by_cases h64 : s < 64
  · rw [if_pos h64, if_pos h64] at hq
    have em : s % 64 = s := Nat.mod_eq_of_lt h64
    obtain ⟨n1, n2⟩ := g4 s h64 (Nat.le_refl _)
    rw [em] at hq cl ⊢
    have a1 : aO ≠ aM s := by unfold aO aM; omega
    have a2 : aP ≠ aM s := by unfold aP aM; omega
    have a3 : aP ≠ aW s := by unfold aP aW; omega
    have a4 : aO ≠ aW s := by unfold aO aW; omega
    have a5 : aM s ≠ aW s := by unfold aM aW; omega
    have a6 : aO ≠ aP := by decide
    refine t_Ai_add_9n rfl g1 rfl g2 (vp_in_nI (by omega) (by omega)) (by rw [cl, g3 s h64, if_neg (Nat.lt_irrefl _)]) ?_
    refine t_Ai_add_19 (aM s) (by unfold aM; omega) n1 g1 rfl ?_
    refine t_Ai_add_27 (Nat.le_of_ble_eq_true rfl) (c_Me_init (aW s) (wo_s (by unfold aM; omega)) (by unfold aW; omega) (by rw [qk_set_ne (Ne.symm a5)]; exact n2) (fun w1 hf hme => ?_))
    have e0 : ∀ v, v ≠ aM s → v ≠ aW s → w1 v = w v := fun v b c => (hf v (by simp [b, c])).trans (qk_set_ne b)
    have g2' : wr "QuakeLink$Message" w1 aP 64 f := wr_f g2 (e0 _ a2 a3)
    have g1' := wo_f g1 (e0 _ a1 a4)
    refine t_Ai_add_31 g2' (vp_in_nI (by omega) (by omega)) hme.1 ?_
    rw [cl]
    refine t_Ai_add_32 (wo_n g1' a6) rfl (Nat.le_of_ble_eq_true rfl) ?_
    rw [nI_1]
    have g2'' : wr "QuakeLink$Message" (qk_set (qk_set w1 aP (.inl (.object "QuakeLink$Message", 64, .inr (.inr (.inr (.inr (va_up f s (some (aM s))))))))) aO (.inr (4, [.ref aP, .int (nI (s + 1))]))) aP 64 (va_up f s (some (aM s))) := wr_n (wr_s (by decide)) (Ne.symm a6)
    refine t_Ai_add_42 (wo_s (by decide)) rfl g2'' (vp_in_nI (by omega) (by omega)) (by rw [cl, va_up_self]) (wo_n (wo_n hme.1 (Ne.symm a2)) (Ne.symm a1)) (Nat.le_of_ble_eq_true rfl) ?_
    refine t_Ai_add_52 (wo_n (wo_s (by decide)) a1) rfl (wr_n g2'' a2) (vp_in_nI (by omega) (by omega)) (by rw [cl, va_up_self]) ?_
    refine hq _ (fun _ => 0) ?_ ⟨wo_n (wo_s (by decide)) a1, ⟨_, wr_n g2'' a2, fun j hj => ?_⟩, fun j a b => ?_, fun j a b c => ?_⟩ ⟨wo_s (by unfold aM; omega), rowR_f hme.2.1 ?_, a5⟩
    · intro v hv
      rw [qk_set_ne (by rintro rfl; exact hv (by unfold aM; omega)), qk_set_ne (by rintro rfl; exact hv (by decide)), qk_set_ne (by rintro rfl; exact hv (by decide)), e0 v (by rintro rfl; exact hv (by unfold aM; omega)) (by rintro rfl; exact hv (by unfold aW; omega))]
    · by_cases hjs : j = s
      · subst hjs; rw [va_up_self, if_pos (by omega)]
      · rw [va_up_ne _ _ hjs, g3 j hj]
        by_cases g : j < s
        · rw [if_pos g, if_pos (by omega)]
        · rw [if_neg g, if_neg (by omega)]
    · rw [qk_set_ne (by unfold aM; omega), qk_set_ne (by unfold aM aO; omega), qk_set_ne (by unfold aM aP; omega), e0 _ (by unfold aM; omega) (by unfold aM aW; omega), qk_set_ne (by unfold aM aW; omega), qk_set_ne (by unfold aW aO; omega), qk_set_ne (by unfold aW aP; omega), e0 _ (by unfold aM aW; omega) (by unfold aW; omega)]
      exact g4 j a (by omega)
    · obtain ⟨r, k1, k2⟩ := g5 j a (by omega) (by omega)
      exact ⟨r, meR_f k1 (by rw [qk_set_ne (by unfold aM; omega), qk_set_ne (by unfold aM aO; omega), qk_set_ne (by unfold aM aP; omega), e0 _ (by unfold aM; omega) (by unfold aM aW; omega)]) (by rw [qk_set_ne (by unfold aM aW; omega), qk_set_ne (by unfold aW aO; omega), qk_set_ne (by unfold aW aP; omega), e0 _ (by unfold aM aW; omega) (by unfold aW; omega)]), k2⟩
    · rw [qk_set_ne (Ne.symm a5), qk_set_ne (Ne.symm a4), qk_set_ne (Ne.symm a3)]
  · rw [if_neg h64, if_neg h64] at hq
    have hms : s % 64 < s := by omega
    obtain ⟨r, k1, k2⟩ := g5 (s % 64) hm hms (by omega)
    generalize s % 64 = j0 at *
    have a1 : aO ≠ aM j0 := by unfold aO aM; omega
    have a2 : aP ≠ aM j0 := by unfold aP aM; omega
    have a3 : aP ≠ aW j0 := by unfold aP aW; omega
    have a4 : aO ≠ aW j0 := by unfold aO aW; omega
    have a5 : aM j0 ≠ aW j0 := by unfold aM aW; omega
    have a6 : aO ≠ aP := by decide
    refine t_Ai_add_9 rfl g1 rfl g2 (vp_in_nI (by omega) (by omega)) (c11 := aM j0) (by rw [cl, g3 _ hm, if_pos hms]) ?_
    refine t_Ai_add_32 g1 rfl (Nat.le_of_ble_eq_true rfl) ?_
    rw [nI_1]
    have g2'' := wr_n (b := aO) (x := .inr (4, [.ref aP, .int (nI (s + 1))])) g2 (Ne.symm a6)
    refine t_Ai_add_42 (wo_s (by decide)) rfl g2'' (vp_in_nI (by omega) (by omega)) (by rw [cl, g3 _ hm, if_pos hms]) (wo_n k1.1 (Ne.symm a1)) (Nat.le_of_ble_eq_true rfl) ?_
    refine t_Ai_add_52 (wo_n (wo_s (by decide)) a1) rfl (wr_n g2'' a2) (vp_in_nI (by omega) (by omega)) (by rw [cl, g3 _ hm, if_pos hms]) ?_
    refine hq _ r ?_ ⟨wo_n (wo_s (by decide)) a1, ⟨_, wr_n g2'' a2, fun j hj => ?_⟩, fun j a b => ?_, fun j a b c => ?_⟩ ⟨wo_s (by unfold aM; omega), rowR_f k1.2.1 ?_, a5⟩
    · intro v hv
      rw [qk_set_ne (by rintro rfl; exact hv (by unfold aM; omega)), qk_set_ne (by rintro rfl; exact hv (by decide))]
    · rw [g3 j hj, if_pos (by omega), if_pos (by omega)]
    · omega
    · obtain ⟨r', k1, k2⟩ := g5 j a (by omega) (by omega)
      exact ⟨r', meR_f k1 (by rw [qk_set_ne (by unfold aM; omega), qk_set_ne (by unfold aM aO; omega)]) (by rw [qk_set_ne (by unfold aM aW; omega), qk_set_ne (by unfold aW aO; omega)]), k2⟩
    · rw [qk_set_ne (Ne.symm a5), qk_set_ne (Ne.symm a4)]
theorem c_Ai_init {v0 : Value} (h : wo w aO 4 [v0, .int 0]) (hn : w aP = none) (hm : ∀ j, j < 64 → w (aM j) = none ∧ w (aW j) = none) (hq : ∀ w', frR 8 w w' → airR w' 0 R L T → Q (.inl none) w' (nc + 1) (ns + 64)) :
    Ev (d + 1) m_Ai_init 0 [some (.ref aO)] [] w nc ns Q := by
  refine t_Ai_init_0 (Nat.le_of_ble_eq_true rfl) ?_
  refine t_Ai_init_4 rfl aP (by decide) hn ?_
  refine t_Ai_init_10 rfl (wo_n h (by decide)) (Nat.le_of_ble_eq_true rfl) (qk_fitA _ _) ?_
  refine t_Ai_init_13 (hq _ (frR_set (frR_set frR_refl (by decide)) (by decide)) ⟨wo_s (by decide), ⟨_, wr_n (wr_s (by decide)) (by decide), fun j _ => rfl⟩, fun j a _ => ?_, fun j a b => absurd b (by omega)⟩)
  rw [qk_set_ne (by unfold aM aO; omega), qk_set_ne (by unfold aM aP; omega), qk_set_ne (by unfold aW aO; omega), qk_set_ne (by unfold aW aP; omega)]
  exact hm j a
end AirC
