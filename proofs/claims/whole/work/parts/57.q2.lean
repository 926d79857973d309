/-! ===== QuakeLink: the air's calls and the centre's ===== -/
def airK (sl : Nat) (L : Nat → Nat) : Prop := ∀ j, j < 64 → j < sl → 16 ≤ L j ∧ L j ≤ 512
def xorB (a : Nat) (x : Int32) : Nat := vN (nB a ^^^ x) % 256
section Q2
variable {d : Nat} {w : qk_W} {nc ns : Nat} {Q : Option Value ⊕ Nat → qk_W → Nat → Nat → Prop} {X : Nat → Chs} {pc bad cg : Nat} {lw : Bool} {Y : Nat → Trs} {rej cla : Nat} {sl : Nat} {R : Nat → Nat → Nat} {L : Nat → Nat} {T : Nat → Bool}
theorem c_msgOf {x : Int32} (hO : qO w) (h : airR w sl R L T) (hs : sl < 2 ^ 30) (hL : airK sl L) (ht : tmpI w nc)
    (hq1 : ∀ n, x = nI n → n < sl → sl ≤ n + 64 → T (n % 64) = false → Q (.inl (some (.ref (aM (n % 64))))) w nc ns)
    (hq0 : isSl sl T x = false → ∀ w', exW w w' nc 12 → Q (.inr (tN nc)) w' (nc + 1) (ns + 6)) :
    Ev (d + 6) m_Q_messageOf 0 [some (.ref gQ), some (.int x), none] [] w nc ns Q := by
  refine t_Q_messageOf_0 hO rfl h.1 (Nat.le_of_ble_eq_true rfl) (c_find h hs hL (fun n a b c e => ?_) (fun e => ?_))
  · exact t_Q_messageOf_8 rfl (t_Q_messageOf_23 rfl (hq1 n a b c e))
  · exact t_Q_messageOf_8n rfl (t_Q_messageOf_13 (tN nc) (tN16 _) (ht nc (Nat.le_refl _)) (hq0 e _ exW_set))
/-- a message that is there -/
theorem airR_at {n : Nat} (h : airR w sl R L T) (h1 : n < sl) (h2 : T (n % 64) = false) : airH w sl R L T (n % 64) ∧ ∃ r, meR w (aM (n % 64)) (aW (n % 64)) r (L (n % 64)) ∧ ∀ k, k < L (n % 64) → r k = R (n % 64) k := by
  obtain ⟨g1, r, g2, g3⟩ := airR_hole h (j0 := n % 64) (Nat.mod_lt _ (by omega)) (Nat.lt_of_le_of_lt (Nat.mod_le _ _) h1)
  rw [h2] at g2
  exact ⟨g1, r, g2, g3⟩
theorem c_msgByte {x y : Int32} (hO : qO w) (h : airR w sl R L T) (hs : sl < 2 ^ 30) (hL : airK sl L) (ht : tmpI w nc)
    (hq1 : ∀ n i, x = nI n → n < sl → sl ≤ n + 64 → T (n % 64) = false → y = nI i → i < L (n % 64) → Q (.inl (some (.ref (aM (n % 64))))) w nc ns)
    (hq2 : ∀ n, x = nI n → n < sl → sl ≤ n + 64 → T (n % 64) = false → (∀ i, i < L (n % 64) → y ≠ nI i) → ∀ w', exW w w' nc 12 → Q (.inr (tN nc)) w' (nc + 1) (ns + 6))
    (hq0 : isSl sl T x = false → ∀ w', exW w w' nc 12 → Q (.inr (tN nc)) w' (nc + 1) (ns + 6)) :
    Ev (d + 7) m_Q_messageWithByte 0 [some (.ref gQ), some (.int x), some (.int y), none] [] w nc ns Q := by
  refine t_Q_messageWithByte_0 hO (Nat.le_of_ble_eq_true rfl) (c_msgOf hO h hs hL ht (fun n a b c e => ?_) (fun e w' hw' => hq0 e w' hw'))
  obtain ⟨_, r, m, _⟩ := airR_at h b e
  have hl := hL (n % 64) (Nat.mod_lt _ (by omega)) (Nat.lt_of_le_of_lt (Nat.mod_le _ _) b)
  refine t_Q_messageWithByte_5 rfl rfl (fun g => t_Q_messageWithByte_18 (tN nc) (tN16 _) (ht nc (Nat.le_refl _)) (hq2 n a b c e (fun i hi ey => ?_) _ exW_set)) (fun g => ?_)
  · rw [ey] at g; exact nI_pos (n := i) (by omega) g
  obtain ⟨i, hi, rfl⟩ := nI_of g
  refine t_Q_messageWithByte_10 m.1 rfl (fun g => ?_) (fun g => t_Q_messageWithByte_18 (tN nc) (tN16 _) (ht nc (Nat.le_refl _)) (hq2 n a b c e (fun i' hi' ey => ?_) _ exW_set))
  · exact t_Q_messageWithByte_28 rfl (hq1 n i a b c e rfl ((nI_ltI hi (by omega)).mp g))
  · have := (nI_eq hi (by omega)).mp ey
    exact g (nI_lt (by omega) (by omega))
theorem c_Qlose {x : Int32} (hO : qO w) (h : airR w sl R L T) (hs : sl < 2 ^ 30) (hL : airK sl L) (ht : tmpI w nc)
    (hq1 : ∀ n, x = nI n → n < sl → sl ≤ n + 64 → T (n % 64) = false → ∀ w', frR 8 w w' → airR w' sl R L (fu T (n % 64) true) → Q (.inl none) w' nc ns)
    (hq0 : isSl sl T x = false → ∀ w', exW w w' nc 12 → Q (.inr (tN nc)) w' (nc + 1) (ns + 6)) :
    Ev (d + 8) m_Q_lose 0 [some (.ref gQ), some (.int x)] [] w nc ns Q := by
  refine t_Q_lose_0 hO (Nat.le_of_ble_eq_true rfl) (c_msgOf hO h hs hL ht (fun n a b c e => ?_) (fun e w' hw' => hq0 e w' hw'))
  obtain ⟨h1, r, m, hr⟩ := airR_at h b e
  have hj : n % 64 < 64 := Nat.mod_lt _ (by omega)
  refine t_Q_lose_5 m.1 (Nat.le_of_ble_eq_true rfl) (es_w (fun w1 e1 f1 => t_Q_lose_9 (hq1 n a b c e w1 (fun v hv => f1 v (by rintro rfl; exact hv (by unfold aM; omega))) ?_)))
  refine airH_fill (airH_m h1 hj (Nat.lt_of_le_of_lt (Nat.mod_le _ _) b) (fun v v1 _ => f1 v v1)) (r := r) ?_ hr (fun j _ hne => ⟨rfl, rfl, fu_n _ _ hne⟩)
  rw [fu_s, if_pos rfl]
  exact ⟨⟨by unfold aM; omega, e1⟩, rowR_f m.2.1 (f1 _ (Ne.symm m.2.2)), m.2.2⟩
theorem c_Qlength {x : Int32} (hO : qO w) (h : airR w sl R L T) (hs : sl < 2 ^ 30) (hL : airK sl L) (ht : tmpI w nc)
    (hq1 : ∀ n, x = nI n → n < sl → sl ≤ n + 64 → T (n % 64) = false → Q (.inl (some (.int (nI (L (n % 64)))))) w nc ns)
    (hq0 : isSl sl T x = false → ∀ w', exW w w' nc 12 → Q (.inr (tN nc)) w' (nc + 1) (ns + 6)) :
    Ev (d + 8) m_Q_length 0 [some (.ref gQ), some (.int x)] [] w nc ns Q := by
  refine t_Q_length_0 hO (Nat.le_of_ble_eq_true rfl) (c_msgOf hO h hs hL ht (fun n a b c e => ?_) (fun e w' hw' => hq0 e w' hw'))
  obtain ⟨_, r, m, _⟩ := airR_at h b e
  exact t_Q_length_5 m.1 rfl (hq1 n a b c e)
theorem c_Qair {x y : Int32} (hO : qO w) (h : airR w sl R L T) (hs : sl < 2 ^ 30) (hL : airK sl L) (ht : tmpI w nc)
    (hq1 : ∀ n i, x = nI n → n < sl → sl ≤ n + 64 → T (n % 64) = false → y = nI i → i < L (n % 64) → R (n % 64) i < 256 → Q (.inl (some (.int (nI (R (n % 64) i))))) w nc ns)
    (hq2 : ∀ n, x = nI n → n < sl → sl ≤ n + 64 → T (n % 64) = false → (∀ i, i < L (n % 64) → y ≠ nI i) → ∀ w', exW w w' nc 12 → Q (.inr (tN nc)) w' (nc + 1) (ns + 6))
    (hq0 : isSl sl T x = false → ∀ w', exW w w' nc 12 → Q (.inr (tN nc)) w' (nc + 1) (ns + 6)) :
    Ev (d + 8) m_Q_air 0 [some (.ref gQ), some (.int x), some (.int y)] [] w nc ns Q := by
  refine t_Q_air_0 hO (Nat.le_of_ble_eq_true rfl) (c_msgByte hO h hs hL ht (fun n i a b c e ey hi => ?_) (fun n a b c e hn w' hw' => hq2 n a b c e hn w' hw') (fun e w' hw' => hq0 e w' hw'))
  obtain ⟨_, r, m, hr⟩ := airR_at h b e
  have hl := hL (n % 64) (Nat.mod_lt _ (by omega)) (Nat.lt_of_le_of_lt (Nat.mod_le _ _) b)
  obtain ⟨m1, ⟨f, m2, m3, m4⟩, m5⟩ := m
  have h256 : R (n % 64) i < 256 := by rw [← hr i hi]; exact m4 i
  have := hq1 n i a b c e ey hi h256
  subst ey
  refine t_Q_air_6 m1 rfl m2 (vp_in_nI (by omega) (by omega)) ?_
  rw [nI_clamp (by omega), m3 i (by omega), nB_255 (m4 i), hr i hi]
  exact this
theorem c_Qspoil {x y mk : Int32} (hO : qO w) (h : airR w sl R L T) (hs : sl < 2 ^ 30) (hL : airK sl L) (ht : tmpI w nc)
    (hq1 : ∀ n i, x = nI n → n < sl → sl ≤ n + 64 → T (n % 64) = false → y = nI i → i < L (n % 64) → ∀ w', frR 8 w w' → airR w' sl (fu R (n % 64) (fu (R (n % 64)) i (xorB (R (n % 64) i) mk))) L T → Q (.inl none) w' nc ns)
    (hq2 : ∀ n, x = nI n → n < sl → sl ≤ n + 64 → T (n % 64) = false → (∀ i, i < L (n % 64) → y ≠ nI i) → ∀ w', exW w w' nc 12 → Q (.inr (tN nc)) w' (nc + 1) (ns + 6))
    (hq0 : isSl sl T x = false → ∀ w', exW w w' nc 12 → Q (.inr (tN nc)) w' (nc + 1) (ns + 6)) :
    Ev (d + 8) m_Q_spoil 0 [some (.ref gQ), some (.int x), some (.int y), some (.int mk), none] [] w nc ns Q := by
  refine t_Q_spoil_0 hO (Nat.le_of_ble_eq_true rfl) (c_msgByte hO h hs hL ht (fun n i a b c e ey hi => ?_) (fun n a b c e hn w' hw' => hq2 n a b c e hn w' hw') (fun e w' hw' => hq0 e w' hw'))
  obtain ⟨h1, r, m, hr⟩ := airR_at h b e
  have hl := hL (n % 64) (Nat.mod_lt _ (by omega)) (Nat.lt_of_le_of_lt (Nat.mod_le _ _) b)
  have hj : n % 64 < 64 := Nat.mod_lt _ (by omega)
  have hq := hq1 n i a b c e ey hi
  subst ey
  obtain ⟨m1, ⟨f, m2, m3, m4⟩, m5⟩ := m
  refine t_Q_spoil_6 rfl m1 rfl m2 (vp_in_nI (by omega) (by omega)) (es_w (fun w1 e1 f1 => t_Q_spoil_25 (hq w1 (fun v hv => f1 v (by rintro rfl; exact hv (by unfold aW; omega))) ?_)))
  rw [nI_clamp (by omega), b8_b8, b8_nB, m3 i (by omega)] at e1
  refine airH_fill (airH_m h1 hj (Nat.lt_of_le_of_lt (Nat.mod_le _ _) b) (fun v _ v2 => f1 v v2)) (r := fu r i (xorB (r i) mk)) ?_ (fun k hk => ?_) (fun j _ hne => ⟨fu_n _ _ hne, rfl, rfl⟩)
  · rw [e, if_neg (by decide)]
    refine ⟨wo_f m1 (f1 _ m5), ⟨_, ⟨m2.1, e1⟩, fun k hk => ?_, fun k => ?_⟩, m5⟩
    · by_cases ek : k = i
      · subst ek; rw [pk_us, fu_s]; rfl
      · rw [pk_un ek, fu_n _ _ ek, m3 k hk]
    · by_cases ek : k = i
      · subst ek; rw [fu_s]; exact Nat.mod_lt _ (by omega)
      · rw [fu_n _ _ ek]; exact m4 k
  · rw [fu_s]
    by_cases ek : k = i
    · subst ek; rw [fu_s, fu_s, hr k hk]
    · rw [fu_n _ _ ek, fu_n _ _ ek, hr k hk]
theorem c_Qmend {x : Int32} (hk : wk w) (hO : qO w) (h : airR w sl R L T) (hs : sl < 2 ^ 30) (hL : airK sl L) (ht : tmpI w nc)
    (hq1 : ∀ n, x = nI n → n < sl → sl ≤ n + 64 → T (n % 64) = false → ∀ w', frR 8 w w' → airR w' sl (fu R (n % 64) (putR (R (n % 64)) (L (n % 64) - 4) 4 (vN (crcV (R (n % 64)) (L (n % 64) - 4))))) L T → Q (.inl none) w' nc ns)
    (hq0 : isSl sl T x = false → ∀ w', exW w w' nc 12 → Q (.inr (tN nc)) w' (nc + 1) (ns + 6)) :
    Ev (d + 8) m_Q_mend 0 [some (.ref gQ), some (.int x)] [] w nc ns Q := by
  refine t_Q_mend_0 hO (Nat.le_of_ble_eq_true rfl) (c_msgOf hO h hs hL ht (fun n a b c e => ?_) (fun e w' hw' => hq0 e w' hw'))
  obtain ⟨h1, r, m, hr⟩ := airR_at h b e
  have hl := hL (n % 64) (Nat.mod_lt _ (by omega)) (Nat.lt_of_le_of_lt (Nat.mod_le _ _) b)
  have hj : n % 64 < 64 := Nat.mod_lt _ (by omega)
  refine t_Q_mend_5 m.1 (Nat.le_of_ble_eq_true rfl) (c_seal hk m (by omega) (by omega) (fun w1 f1 m1 => t_Q_mend_8 (hq1 n a b c e w1 (fun v hv => f1 v (by simp; rintro rfl; exact hv (by unfold aW; omega))) ?_)))
  refine airH_fill (airH_m h1 hj (Nat.lt_of_le_of_lt (Nat.mod_le _ _) b) (fun v _ v2 => f1 v (by simp [v2]))) (r := putR r (L (n % 64) - 4) 4 (vN (crcV r (L (n % 64) - 4)))) (by rw [e, if_neg (by decide)]; exact m1) (fun k hk2 => ?_) (fun j _ hne => ⟨fu_n _ _ hne, rfl, rfl⟩)
  rw [fu_s]
  have ec : crcV r (L (n % 64) - 4) = crcV (R (n % 64)) (L (n % 64) - 4) := by
    unfold crcV
    rw [crc_congr (fun k hk3 => hr k (by omega))]
  rw [ec]
  unfold putR
  split
  · rfl
  · exact hr k hk2
theorem c_Qhear {x : Int32} (hk : wk w) (hO : qO w) (hst : stR w X pc bad cg lw) (h : airR w sl R L T) (hs : sl < 2 ^ 30) (hL : airK sl L) (ht : tmpI w nc)
    (hq1 : ∀ n r, x = nI n → n < sl → sl ≤ n + 64 → T (n % 64) = false → (∀ k, k < L (n % 64) → r k = R (n % 64) k) → (∀ k, r k < 256) → rqB r (L (n % 64)) → ∀ w', frR (12 + getN r 0 8) w w' → chT w' (getN r 0 8) (setA (X (getN r 0 8)) (askR (xA (X (getN r 0 8))) (getN r 32 32) (getN r 64 32) (xF (X (getN r 0 8)) (xC (X (getN r 0 8)))))) → Q (.inl (some (.int (nI (cnt (askR (xA (X (getN r 0 8))) (getN r 32 32) (getN r 64 32) (xF (X (getN r 0 8)) (xC (X (getN r 0 8))))) 32768 - cnt (xA (X (getN r 0 8))) 32768))))) w' nc ns)
    (hq2 : ∀ n r, x = nI n → n < sl → sl ≤ n + 64 → T (n % 64) = false → (∀ k, k < L (n % 64) → r k = R (n % 64) k) → (∀ k, r k < 256) → ¬ rqB r (L (n % 64)) → ∀ w', (∀ v, v ≠ gS → w' v = w v) → stO w' pc (bad + 1) cg lw → Q (.inl (some (.int (-1)))) w' nc ns)
    (hq0 : isSl sl T x = false → ∀ w', exW w w' nc 12 → Q (.inr (tN nc)) w' (nc + 1) (ns + 6)) :
    Ev (d + 8) m_Q_hear 0 [some (.ref gQ), some (.int x)] [] w nc ns Q := by
  refine t_Q_hear_0 hO rfl (Nat.le_of_ble_eq_true rfl) (c_msgOf hO h hs hL ht (fun n a b c e => ?_) (fun e w' hw' => hq0 e w' hw'))
  obtain ⟨h1, r, m, hr⟩ := airR_at h b e
  have hl := hL (n % 64) (Nat.mod_lt _ (by omega)) (Nat.lt_of_le_of_lt (Nat.mod_le _ _) b)
  have h256 : ∀ k, r k < 256 := by
    obtain ⟨_, ⟨_, _, _, m4⟩, _⟩ := m
    exact m4
  exact t_Q_hear_9 hst.1 (Nat.le_of_ble_eq_true rfl) (c_StReceive hk hst m hl.1 hl.2 (fun hrq w1 f1 c1 => t_Q_hear_12 (hq1 n r a b c e hr h256 hrq w1 f1 c1)) (fun hrq w1 f1 o1 => t_Q_hear_12 (hq2 n r a b c e hr h256 hrq w1 f1 o1)))
theorem c_Qturn (hk : wk w) (hO : qO w) (h : stR w X pc bad cg lw) (hod : ∀ c, c < 4 → ∀ s, s < xC (X c) → xO (X c) s < 2 ^ 30) (hA : ∀ c, c < 4 → ∀ n, n < 32768 → xA (X c) n = true → n < xF (X c) (xC (X c))) (ha : airR w sl R L T) (hsl : sl < 2 ^ 30)
    (hq1 : ∀ c, c < 4 → wtX (X c) → (∀ c', c' < 4 → wtX (X c') → xO (X c) (fwX (X c)) ≤ xO (X c') (fwX (X c'))) → ((∀ c', c' < 4 → laX (X c') = 32768) ∨ lw = false) → ∀ w' r, (∀ v, v % 16 ≠ 8 → v % 16 ≠ 12 + c → v ≠ gS → w' v = w v) → stO w' pc bad cg true → chT w' c (setU (X c) (fwX (X c) + 1)) → airH w' (sl + 1) R L T (sl % 64) → meR w' (aM (sl % 64)) (aW (sl % 64)) r (szP (xS (X c)) (xF (X c) (fwX (X c))) (xF (X c) (fwX (X c) + 1) - xF (X c) (fwX (X c)))) → rowM r c (xS (X c)) (xF (X c) (fwX (X c))) (xF (X c) (fwX (X c) + 1) - xF (X c) (fwX (X c))) (xQ (X c) (fwX (X c))) (xF (X c) (xC (X c) - 32)) → Q (.inl (some (.int (nI sl)))) w' (nc + if sl < 64 then 2 else 0) (ns + if sl < 64 then 514 else 0))
    (hq2 : ∀ c, c < 4 → laX (X c) < 32768 → (∀ c', c' < 4 → laX (X c) ≤ laX (X c')) → (∀ c', c' < c → laX (X c) < laX (X c')) → ((∀ c', c' < 4 → ¬ wtX (X c')) ∨ lw = true) → laX (X c) < xF (X c) (xC (X c) - 32) → ∀ w' r, (∀ v, v % 16 ≠ 8 → v % 16 ≠ 12 + c → v ≠ gS → w' v = w v) → stO w' pc bad cg false → chT w' c (setA (X c) (delR (xA (X c)) 0 (xF (X c) (xC (X c) - 32) - 1))) → airH w' (sl + 1) R L T (sl % 64) → meR w' (aM (sl % 64)) (aW (sl % 64)) r 24 → rowE r c (xF (X c) (xC (X c) - 32)) → Q (.inl (some (.int (nI sl)))) w' (nc + if sl < 64 then 2 else 0) (ns + if sl < 64 then 514 else 0))
    (hq3 : ∀ c, c < 4 → laX (X c) < 32768 → (∀ c', c' < 4 → laX (X c) ≤ laX (X c')) → (∀ c', c' < c → laX (X c) < laX (X c')) → ((∀ c', c' < 4 → ¬ wtX (X c')) ∨ lw = true) → xF (X c) (xC (X c) - 32) ≤ laX (X c) → ∀ s, s < xC (X c) → xF (X c) s ≤ laX (X c) → laX (X c) < xF (X c) (s + 1) → ∀ w' r, (∀ v, v % 16 ≠ 8 → v % 16 ≠ 12 + c → v ≠ gS → w' v = w v) → stO w' pc bad cg false → chT w' c (setA (X c) (delR (xA (X c)) (xF (X c) s) (xF (X c) (s + 1) - 1))) → airH w' (sl + 1) R L T (sl % 64) → meR w' (aM (sl % 64)) (aW (sl % 64)) r (szP (xS (X c)) (xF (X c) s) (xF (X c) (s + 1) - xF (X c) s)) → rowM r c (xS (X c)) (xF (X c) s) (xF (X c) (s + 1) - xF (X c) s) (xQ (X c) s) (xF (X c) (xC (X c) - 32)) → Q (.inl (some (.int (nI sl)))) w' (nc + if sl < 64 then 2 else 0) (ns + if sl < 64 then 514 else 0))
    (hq0 : (∀ c', c' < 4 → ¬ wtX (X c')) → (∀ c', c' < 4 → laX (X c') = 32768) → Q (.inl (some (.int (-1)))) w nc ns) :
    Ev (d + 8) m_Q_turn 0 [some (.ref gQ)] [] w nc ns Q := by
  have fin : ∀ w1 nc1 ns1, w1 gQ = w gQ → airH w1 (sl + 1) R L T (sl % 64) → Q (.inl (some (.int (nI sl)))) w1 nc1 ns1 → Ev (d + 8) m_Q_turn 11 [some (.ref gQ)] [.int 1] w1 nc1 ns1 Q := by
    intro w1 nc1 ns1 e1 a1 hq
    refine t_Q_turn_11 (fun g => absurd g (by decide)) (fun _ => t_Q_turn_14 (wo_f hO e1) rfl a1.1 (Nat.le_of_ble_eq_true rfl) (c_latest a1.1 (t_Q_turn_21 ?_)))
    rw [nI_pred]
    exact hq
  refine t_Q_turn_0 hO rfl rfl h.1 (Nat.le_of_ble_eq_true rfl) (c_sendNext hk h hod hA ha hsl ?_ ?_ ?_ ?_)
  · intro c hc hw hm hor w1 r f1 o1 c1 a1 m1 r1
    exact fin w1 _ _ (f1 gQ (by decide) (by unfold gQ; omega) (by decide)) a1 (hq1 c hc hw hm hor w1 r f1 o1 c1 a1 m1 r1)
  · intro c hc hw hm hst hor g w1 r f1 o1 c1 a1 m1 r1
    exact fin w1 _ _ (f1 gQ (by decide) (by unfold gQ; omega) (by decide)) a1 (hq2 c hc hw hm hst hor g w1 r f1 o1 c1 a1 m1 r1)
  · intro c hc hw hm hst hor g s s1 s2 s3 w1 r f1 o1 c1 a1 m1 r1
    exact fin w1 _ _ (f1 gQ (by decide) (by unfold gQ; omega) (by decide)) a1 (hq3 c hc hw hm hst hor g s s1 s2 s3 w1 r f1 o1 c1 a1 m1 r1)
  · intro h1 h2
    exact t_Q_turn_11 (fun _ => t_Q_turn_24 (hq0 h1 h2)) (fun g => absurd rfl g)
theorem c_Qask (hk : wk w) (hO : qO w) (h : ceR w Y rej cla) (ha : airR w sl R L T) (hsl : sl < 2 ^ 30)
    (hq0 : (∀ c, c < 4 → sgY (Y c) = 32768) → Q (.inl (some (.int (-1)))) w nc ns)
    (hq1 : ∀ c, c < 4 → sgY (Y c) < 32768 → (∀ c', c' < 4 → sgY (Y c) ≤ sgY (Y c')) → (∀ c', c' < c → sgY (Y c) < sgY (Y c')) → ∀ w' r, frR 8 w w' → airH w' (sl + 1) R L T (sl % 64) → meR w' (aM (sl % 64)) (aW (sl % 64)) r 16 → rowQ r c (sgY (Y c)) (nxP (yH (Y c)) (sgY (Y c)) - 1) → Q (.inl (some (.int (nI sl)))) w' (nc + if sl < 64 then 2 else 0) (ns + if sl < 64 then 514 else 0)) :
    Ev (d + 8) m_Q_ask 0 [some (.ref gQ)] [] w nc ns Q := by
  refine t_Q_ask_0 hO rfl rfl h.1 (Nat.le_of_ble_eq_true rfl) (c_sendRequest hk h ha hsl (fun h1 => ?_) (fun c hc hl hm hst w1 r f1 a1 m1 r1 => ?_))
  · exact t_Q_ask_11 (fun _ => t_Q_ask_24 (hq0 h1)) (fun g => absurd rfl g)
  · refine t_Q_ask_11 (fun g => absurd g (by decide)) (fun _ => t_Q_ask_14 (wo_f hO (f1 gQ (by decide))) rfl a1.1 (Nat.le_of_ble_eq_true rfl) (c_latest a1.1 (t_Q_ask_21 ?_)))
    rw [nI_pred]
    exact hq1 c hc hl hm hst w1 r f1 a1 m1 r1
theorem b2i_nar (b : Bool) : narrow .boolean (.int (b2i b)) = .int (b2i b) := by cases b <;> decide
theorem c_Qhas {x y : Int32} (hO : qO w) (h : ceR w Y rej cla) (ht : tmpI w nc) (hq1 : ∀ c, c < 4 → x = nI c → Q (.inl (some (.int (b2i (sIn (hs (yH (Y c))) y))))) w nc ns) (hq0 : (∀ c, c < 4 → x ≠ nI c) → ∀ w', exW w w' nc 12 → Q (.inr (tN nc)) w' (nc + 1) (ns + 6)) :
    Ev (d + 8) m_Q_has 0 [some (.ref gQ), some (.int x), some (.int y)] [] w nc ns Q := by
  refine t_Q_has_0 hO (Nat.le_of_ble_eq_true rfl) (c_trOf hO h ht (fun c hc e => ?_) (fun hn w' hw' => hq0 hn w' hw'))
  have y1 := (h.2.2 c hc).1
  exact t_Q_has_5 y1.2.1 rfl (trR_ns y1) (Nat.le_of_ble_eq_true rfl) (c_contains y1.2.2.1 (t_Q_has_12 (b2i_nar _) (hq1 c hc e)))
theorem c_Qat {x y : Int32} (hO : qO w) (h : ceR w Y rej cla) (ht : tmpI w nc) (hq1 : ∀ c n, c < 4 → x = nI c → n < 32768 → y = nI n → 0 < yH (Y c) n → Q (.inl (some (.int (yV (Y c) n)))) w nc ns) (hq2 : ∀ c, c < 4 → x = nI c → sIn (hs (yH (Y c))) y = false → Q (.inl (some (.int 0))) w nc ns) (hq0 : (∀ c, c < 4 → x ≠ nI c) → ∀ w', exW w w' nc 12 → Q (.inr (tN nc)) w' (nc + 1) (ns + 6)) :
    Ev (d + 8) m_Q_at 0 [some (.ref gQ), some (.int x), some (.int y)] [] w nc ns Q := by
  refine t_Q_at_0 hO (Nat.le_of_ble_eq_true rfl) (c_trOf hO h ht (fun c hc e => ?_) (fun hn w' hw' => hq0 hn w' hw'))
  have y1 := (h.2.2 c hc).1
  exact t_Q_at_5 y1.2.1 (Nat.le_of_ble_eq_true rfl) (c_valueOf y1 (fun n n1 n2 n3 => t_Q_at_9 (hq1 c n hc e n1 n2 n3)) (fun g => t_Q_at_9 (hq2 c hc e g)))
theorem c_QqualityAt {x y : Int32} (hO : qO w) (h : ceR w Y rej cla) (ht : tmpI w nc) (hq1 : ∀ c n, c < 4 → x = nI c → n < 32768 → y = nI n → 0 < yH (Y c) n → Q (.inl (some (.int (nI (yH (Y c) n - 1))))) w nc ns) (hq2 : ∀ c, c < 4 → x = nI c → sIn (hs (yH (Y c))) y = false → Q (.inl (some (.int (-1)))) w nc ns) (hq0 : (∀ c, c < 4 → x ≠ nI c) → ∀ w', exW w w' nc 12 → Q (.inr (tN nc)) w' (nc + 1) (ns + 6)) :
    Ev (d + 8) m_Q_qualityAt 0 [some (.ref gQ), some (.int x), some (.int y)] [] w nc ns Q := by
  refine t_Q_qualityAt_0 hO (Nat.le_of_ble_eq_true rfl) (c_trOf hO h ht (fun c hc e => ?_) (fun hn w' hw' => hq0 hn w' hw'))
  have y1 := (h.2.2 c hc).1
  exact t_Q_qualityAt_5 y1.2.1 (Nat.le_of_ble_eq_true rfl) (c_qualityOf y1 (fun n n1 n2 n3 => t_Q_qualityAt_9 (hq1 c n hc e n1 n2 n3)) (fun g => t_Q_qualityAt_9 (hq2 c hc e g)))
theorem c_Qgaps {x : Int32} (hO : qO w) (h : ceR w Y rej cla) (ht : tmpI w nc) (hq1 : ∀ c n, c < 4 → x = nI c → (∀ i, i < n → gst (yH (Y c)) i < 32768) → gst (yH (Y c)) n = 32768 → Q (.inl (some (.int (nI n)))) w nc ns) (hq0 : (∀ c, c < 4 → x ≠ nI c) → ∀ w', exW w w' nc 12 → Q (.inr (tN nc)) w' (nc + 1) (ns + 6)) :
    Ev (d + 8) m_Q_gaps 0 [some (.ref gQ), some (.int x)] [] w nc ns Q := by
  refine t_Q_gaps_0 hO (Nat.le_of_ble_eq_true rfl) (c_trOf hO h ht (fun c hc e => ?_) (fun hn w' hw' => hq0 hn w' hw'))
  have y1 := (h.2.2 c hc).1
  exact t_Q_gaps_5 y1.2.1 (Nat.le_of_ble_eq_true rfl) (c_gaps y1 (fun n n1 n2 => t_Q_gaps_8 (hq1 c n hc e n1 n2)))
theorem c_Qgap {x y : Int32} {fl : Bool} (hO : qO w) (h : ceR w Y rej cla) (ht : tmpI w nc)
    (hq1 : ∀ c i, c < 4 → x = nI c → i < 2 ^ 31 → y = nI i → gst (yH (Y c)) i < 32768 → Q (.inl (some (.int (if fl then nI (nxP (yH (Y c)) (gst (yH (Y c)) i) - 1) else nI (gst (yH (Y c)) i))))) w nc ns)
    (hq2 : ∀ c, c < 4 → x = nI c → (∀ i, i < 2 ^ 31 → y = nI i → gst (yH (Y c)) i = 32768) → ∀ w', exW w w' nc 12 → Q (.inr (tN nc)) w' (nc + 1) (ns + 6))
    (hq0 : (∀ c, c < 4 → x ≠ nI c) → ∀ w', exW w w' nc 12 → Q (.inr (tN nc)) w' (nc + 1) (ns + 6)) :
    Ev (d + 8) m_Q_gap 0 [some (.ref gQ), some (.int x), some (.int y), some (.int (b2i fl)), none, none] [] w nc ns Q := by
  refine t_Q_gap_0 hO (Nat.le_of_ble_eq_true rfl) (c_trOf hO h ht (fun c hc e => ?_) (fun hn w' hw' => hq0 hn w' hw'))
  have y1 := (h.2.2 c hc).1
  refine t_Q_gap_5 rfl y1.2.1 (Nat.le_of_ble_eq_true rfl) (c_sog y1 (fun hneg => ?_) (fun i hi ey => ?_))
  · refine t_Q_gap_13 rfl (fun g => absurd rfl g) (fun _ => t_Q_gap_22 (tN nc) (tN16 _) (ht nc (Nat.le_refl _)) (hq2 c hc e (fun i hi ey => ?_) _ exW_set))
    rw [ey] at hneg
    exact absurd hneg (nI_pos hi)
  · have hle := gst_le (yH (Y c)) i
    refine t_Q_gap_13 rfl (fun g => ?_) (fun g => t_Q_gap_22 (tN nc) (tN16 _) (ht nc (Nat.le_refl _)) (hq2 c hc e (fun i' hi' ey' => ?_) _ exW_set))
    · have hlt : gst (yH (Y c)) i < 32768 := Nat.lt_of_le_of_ne hle (fun e => g (by rw [e]; rfl))
      have hg := gst_lt hlt
      have hq := hq1 c i hc e hi ey hlt
      cases fl with
      | false => exact t_Q_gap_32 (fun _ => t_Q_gap_46 hq) (fun g => absurd rfl g)
      | true =>
        refine t_Q_gap_32 (fun g => absurd g (by decide)) (fun _ => t_Q_gap_36 y1.2.1 (Nat.le_of_ble_eq_true rfl) (c_eog y1 hle (t_Q_gap_43 ?_)))
        rw [show (1 : Int32) = nI 1 from rfl, pk_sub (by omega)]
        exact hq
    · have := (nI_eq hi hi').mp (ey.symm.trans ey')
      subst this
      exact (nI_eq (b := 32768) (by omega) (by omega)).mp g
end Q2
