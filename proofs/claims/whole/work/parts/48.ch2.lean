/-! ===== the channel: sending and asking ===== -/
/-- the row of a sent packet -/
def rowM (r : Nat → Nat) (c : Nat) (S : Nat → Int32) (fi n q old : Nat) : Prop :=
  getN r 0 8 = c ∧ getN r 8 8 = q ∧ getN r 16 16 = n ∧ getN r 32 32 = old ∧ getN r 64 32 = fi ∧ getN r 96 32 = vN (S fi) ∧ getN r 128 32 = vN (S (fi + n - 1)) ∧
  (∀ p, 160 ≤ p → p < 8 * (szP S fi n - 4) → rbit r p = (eF S fi n).2 p) ∧ getN r (8 * (szP S fi n - 4)) 32 = vN (crcV r (szP S fi n - 4))
/-- the row of an empty message -/
def rowE (r : Nat → Nat) (c old : Nat) : Prop :=
  getN r 0 8 = c ∧ getN r 8 8 = 0 ∧ getN r 16 16 = 0 ∧ getN r 32 32 = old ∧ getN r 64 32 = 0 ∧ getN r 96 32 = 0 ∧ getN r 128 32 = 0 ∧ getN r 160 32 = vN (crcV r 20)
theorem eF_ge (S : Nat → Int32) (fi n : Nat) : 160 ≤ (eF S fi n).1 := by
  unfold eF
  split
  · exact eN_ge _ _ _
  · rw [eB_1]; have := eN_ge S fi ((n - 1) / 15); omega
theorem szP_8 (S : Nat → Int32) (fi n : Nat) : 8 * (szP S fi n - 4) = 8 * (((eF S fi n).1 + 7) / 8) := by
  have := eF_ge S fi n
  unfold szP
  omega
theorem crcV_put {r : Nat → Nat} {m v : Nat} : crcV (putR r m 4 v) m = crcV r m := by
  unfold crcV
  rw [crc_congr (r' := r) (fun k hk => by unfold putR; rw [if_neg (by omega)])]
theorem getN_put' {r : Nat → Nat} {a n v p m : Nat} (hp : p = 8 * a) (hm : m = 8 * n) (hv : v < 2 ^ m) : getN (putR r a n v) p m = v := by
  subst hp hm
  rw [getN_put]
  exact Nat.mod_eq_of_lt hv
theorem getN_copy {r0 r1 : Nat → Nat} {z p n : Nat} (h : p + n ≤ 8 * z) : getN (fun k => if k < z then r0 k else r1 k) p n = getN r0 p n := by
  refine getN_congr (fun x h1 h2 => ?_)
  unfold rbit
  simp only
  rw [if_pos (by omega)]
theorem rbit_copy {r0 r1 : Nat → Nat} {z p : Nat} (h : p < 8 * z) : rbit (fun k => if k < z then r0 k else r1 k) p = rbit r0 p := by
  unfold rbit
  simp only
  rw [if_pos (by omega)]
def fr2 (a b : Nat) (w w' : qk_W) : Prop := ∀ v, v % 16 ≠ a → v % 16 ≠ b → w' v = w v
theorem wk_12 {w w' : qk_W} (h : wk w) (e1 : w' 1 = w 1) (e2 : w' 2 = w 2) : wk w' := ⟨wi_f h.1 e1, wi_f h.2 e2⟩
section Ch2
variable {d : Nat} {w : qk_W} {nc ns : Nat} {Q : Option Value ⊕ Nat → qk_W → Nat → Nat → Prop} {c tk cl us : Nat} {A : Nat → Bool} {S : Nat → Int32} {F q od : Nat → Nat} {sl : Nat} {R : Nat → Nat → Nat} {L : Nat → Nat} {T : Nat → Bool}
theorem c_send {s : Nat} (hk : wk w) (h : chR w c S tk cl F q od us A) (hs : s < cl) (hs2 : cl ≤ s + 32) (ha : airR w sl R L T) (hsl : sl < 2 ^ 30)
    (hq : ∀ w' r, frR 8 w w' → airH w' (sl + 1) R L T (sl % 64) → meR w' (aM (sl % 64)) (aW (sl % 64)) r (szP S (F s) (F (s + 1) - F s)) → rowM r c S (F s) (F (s + 1) - F s) (q s) (F (cl - 32)) → Q (.inl none) w' (nc + if sl < 64 then 2 else 0) (ns + if sl < 64 then 514 else 0)) :
    Ev (d + 4) m_Ch_send 0 [some (.ref (cO c)), some (.ref (cK c (s % 33))), some (.ref aO), none] [] w nc ns Q := by
  have hcl := chI_cl h.2.1
  have hmono := chI_mono h.2.1
  have h0 := h
  obtain ⟨h1, h2, h3, h4, h5⟩ := h
  obtain ⟨i1, i2, i3, i4, i5, i6, i7⟩ := h2
  obtain ⟨j1, j2, j3, j4⟩ := i2 s hs
  have hFo : F (cl - 32) ≤ 32768 := by have := hmono cl (Nat.le_refl _) (cl - 32) (by omega); omega
  obtain ⟨_, _, _, _, _, _, r0, pk, g1, g2, g3, g4, g5, g6, g7⟩ := h4.2 s hs hs2 (by omega)
  have hz : 24 ≤ szP S (F s) (F (s + 1) - F s) := by unfold szP; omega
  refine t_Ch_send_0 pk.1 rfl pk.2.1.1 rfl ha.1 (Nat.le_of_ble_eq_true rfl) (c_add ha hsl (fun w1 rr f1 a1 m1 => ?_))
  have hj : sl % 64 < 64 := Nat.mod_lt _ (by omega)
  have pk1 := pkW_f pk (f1 _ (by unfold cK; omega)) (f1 _ (by unfold cM; omega)) (f1 _ (by unfold cR; omega)) (f1 _ (by unfold cL; omega))
  have ch1 := chR_f h0 (fun v hv => f1 v (by omega))
  refine t_Ch_send_11 rfl pk1.1 rfl m1.1 (Nat.le_of_ble_eq_true rfl) (c_copy m1 pk1.2.1 j3 (by unfold cM aW; omega) (fun w2 f2 m2 => ?_))
  have ch2 := chR_f ch1 (w' := w2) (fun v hv => f2 v (by simp; unfold aW; omega))
  refine t_Ch_send_20 rfl ch2.2.2.1.1 (Nat.le_of_ble_eq_true rfl) (c_oldest ch2 ?_)
  refine t_Ch_send_27 m2.1 (Nat.le_of_ble_eq_true rfl) (c_put (at' := 4) (n := 4) m2 (by omega) (by omega) (fun w3 f3 m3 => ?_))
  rw [vN_nI (show F (cl - 32) < 2 ^ 32 by omega)] at m3
  have hk3 : wk w3 := wk_12 hk (by rw [f3 1 (by simp; unfold aW; omega), f2 1 (by simp; unfold aW; omega), f1 1 (by omega)]) (by rw [f3 2 (by simp; unfold aW; omega), f2 2 (by simp; unfold aW; omega), f1 2 (by omega)])
  refine t_Ch_send_30 m3.1 (Nat.le_of_ble_eq_true rfl) (c_seal hk3 m3 (by omega) j3 (fun w4 f4 m4 => t_Ch_send_34 ?_))
  have fW : ∀ v, v ≠ aW (sl % 64) → w4 v = w1 v := fun v hv => by rw [f4 v (by simp [hv]), f3 v (by simp [hv]), f2 v (by simp [hv])]
  have hb7 := szP_8 S (F s) (F (s + 1) - F s)
  have hz8 : ∀ {p}, p < 8 * (szP S (F s) (F (s + 1) - F s) - 4) → p < 8 * szP S (F s) (F (s + 1) - F s) := fun h => by omega
  refine hq w4 _ (fun v hv => ?_) (airH_m a1 hj (by omega) (fun v _ hv => fW v hv)) m4 ⟨?_, ?_, ?_, ?_, ?_, ?_, ?_, fun p p1 p2 => ?_, ?_⟩
  · rw [fW v (by rintro rfl; exact hv (by unfold aW; omega))]
    exact f1 v hv
  · rw [getN_put_ne (by omega), getN_put_ne (by omega), getN_copy (by omega)]; exact g1
  · rw [getN_put_ne (by omega), getN_put_ne (by omega), getN_copy (by omega)]; exact g2
  · rw [getN_put_ne (by omega), getN_put_ne (by omega), getN_copy (by omega)]; exact g3
  · rw [getN_put_ne (by omega), getN_put' (by omega) (by omega) (by omega)]
  · rw [getN_put_ne (by omega), getN_put_ne (by omega), getN_copy (by omega)]; exact g4
  · rw [getN_put_ne (by omega), getN_put_ne (by omega), getN_copy (by omega)]; exact g5
  · rw [getN_put_ne (by omega), getN_put_ne (by omega), getN_copy (by omega)]; exact g6
  · rw [rbit_putR, if_neg (by omega), rbit_putR, if_neg (by omega), rbit_copy (hz8 p2)]
    exact g7 p p1 (by rw [← hb7]; exact p2)
  · rw [crcV_put, getN_put' rfl (by omega) (vN_lt _)]
theorem c_sendEmpty (hk : wk w) (h : chR w c S tk cl F q od us A) (ha : airR w sl R L T) (hsl : sl < 2 ^ 30)
    (hq : ∀ w' r, frR 8 w w' → airH w' (sl + 1) R L T (sl % 64) → meR w' (aM (sl % 64)) (aW (sl % 64)) r 24 → rowE r c (F (cl - 32)) → Q (.inl none) w' (nc + if sl < 64 then 2 else 0) (ns + if sl < 64 then 514 else 0)) :
    Ev (d + 4) m_Ch_sendEmpty 0 [some (.ref (cO c)), some (.ref aO), none] [] w nc ns Q := by
  have hcl := chI_cl h.2.1
  have hmono := chI_mono h.2.1
  have hc := h.1
  have hFo : F (cl - 32) ≤ 32768 := by have := hmono cl (Nat.le_refl _) (cl - 32) (by omega); omega
  have hj : sl % 64 < 64 := Nat.mod_lt _ (by omega)
  refine t_Ch_sendEmpty_0 ha.1 (Nat.le_of_ble_eq_true rfl) (c_add (z := 24) ha hsl (fun w1 rr f1 a1 m1 => ?_))
  have ch1 := chR_f h (fun v hv => f1 v (by omega))
  refine t_Ch_sendEmpty_6 rfl ch1.2.2.1.1 rfl m1.1 (Nat.le_of_ble_eq_true rfl) (c_put (at' := 0) (n := 1) m1 (by omega) (by omega) (fun w2 f2 m2 => ?_))
  refine t_Ch_sendEmpty_17 m2.1 (Nat.le_of_ble_eq_true rfl) (c_put (at' := 1) (n := 1) m2 (by omega) (by omega) (fun w3 f3 m3 => ?_))
  refine t_Ch_sendEmpty_24 m3.1 (Nat.le_of_ble_eq_true rfl) (c_put (at' := 2) (n := 2) m3 (by omega) (by omega) (fun w4 f4 m4 => ?_))
  have ch4 := chR_f ch1 (w' := w4) (fun v hv => by rw [f4 v (by simp; unfold aW; omega), f3 v (by simp; unfold aW; omega), f2 v (by simp; unfold aW; omega)])
  refine t_Ch_sendEmpty_31 rfl ch4.2.2.1.1 (Nat.le_of_ble_eq_true rfl) (c_oldest ch4 ?_)
  refine t_Ch_sendEmpty_38 m4.1 (Nat.le_of_ble_eq_true rfl) (c_put (at' := 4) (n := 4) m4 (by omega) (by omega) (fun w5 f5 m5 => ?_))
  refine t_Ch_sendEmpty_41 m5.1 (Nat.le_of_ble_eq_true rfl) (c_put (at' := 8) (n := 4) m5 (by omega) (by omega) (fun w6 f6 m6 => ?_))
  refine t_Ch_sendEmpty_49 m6.1 (Nat.le_of_ble_eq_true rfl) (c_put (at' := 12) (n := 4) m6 (by omega) (by omega) (fun w7 f7 m7 => ?_))
  refine t_Ch_sendEmpty_57 m7.1 (Nat.le_of_ble_eq_true rfl) (c_put (at' := 16) (n := 4) m7 (by omega) (by omega) (fun w8 f8 m8 => ?_))
  rw [vN_nI (show F (cl - 32) < 2 ^ 32 by omega), vN_nI (show c < 2 ^ 32 by omega), show vN 0 = 0 from rfl] at m8
  have fW8 : ∀ v, v ≠ aW (sl % 64) → w8 v = w1 v := fun v hv => by rw [f8 v (by simp [hv]), f7 v (by simp [hv]), f6 v (by simp [hv]), f5 v (by simp [hv]), f4 v (by simp [hv]), f3 v (by simp [hv]), f2 v (by simp [hv])]
  have hk8 : wk w8 := wk_12 hk (by rw [fW8 1 (by unfold aW; omega), f1 1 (by omega)]) (by rw [fW8 2 (by unfold aW; omega), f1 2 (by omega)])
  refine t_Ch_sendEmpty_65 m8.1 (Nat.le_of_ble_eq_true rfl) (c_seal hk8 m8 (by omega) (by omega) (fun w9 f9 m9 => t_Ch_sendEmpty_69 ?_))
  have fW : ∀ v, v ≠ aW (sl % 64) → w9 v = w1 v := fun v hv => by rw [f9 v (by simp [hv]), fW8 v hv]
  refine hq w9 _ (fun v hv => ?_) (airH_m a1 hj (by omega) (fun v _ hv => fW v hv)) m9 ⟨?_, ?_, ?_, ?_, ?_, ?_, ?_, ?_⟩
  · rw [fW v (by rintro rfl; exact hv (by unfold aW; omega))]
    exact f1 v hv
  · rw [getN_put_ne (by omega), getN_put_ne (by omega), getN_put_ne (by omega), getN_put_ne (by omega), getN_put_ne (by omega), getN_put_ne (by omega), getN_put_ne (by omega), getN_put' (by omega) (by omega) (by omega)]
  · rw [getN_put_ne (by omega), getN_put_ne (by omega), getN_put_ne (by omega), getN_put_ne (by omega), getN_put_ne (by omega), getN_put_ne (by omega), getN_put' (by omega) (by omega) (by omega)]
  · rw [getN_put_ne (by omega), getN_put_ne (by omega), getN_put_ne (by omega), getN_put_ne (by omega), getN_put_ne (by omega), getN_put' (by omega) (by omega) (by omega)]
  · rw [getN_put_ne (by omega), getN_put_ne (by omega), getN_put_ne (by omega), getN_put_ne (by omega), getN_put' (by omega) (by omega) (by omega)]
  · rw [getN_put_ne (by omega), getN_put_ne (by omega), getN_put_ne (by omega), getN_put' (by omega) (by omega) (by omega)]
  · rw [getN_put_ne (by omega), getN_put_ne (by omega), getN_put' (by omega) (by omega) (by omega)]
  · rw [getN_put_ne (by omega), getN_put' (by omega) (by omega) (by omega)]
  · rw [show 24 - 4 = 20 from rfl, crcV_put, getN_put' (by omega) (by omega) (vN_lt _)]
theorem c_sendWaiting (hk : wk w) (h : chR w c S tk cl F q od us A) (hw : max us (cl - 32) < cl) (ha : airR w sl R L T) (hsl : sl < 2 ^ 30)
    (hq : ∀ w' r, fr2 8 (12 + c) w w' → chR w' c S tk cl F q od (max us (cl - 32) + 1) A → airH w' (sl + 1) R L T (sl % 64) → meR w' (aM (sl % 64)) (aW (sl % 64)) r (szP S (F (max us (cl - 32))) (F (max us (cl - 32) + 1) - F (max us (cl - 32)))) → rowM r c S (F (max us (cl - 32))) (F (max us (cl - 32) + 1) - F (max us (cl - 32))) (q (max us (cl - 32))) (F (cl - 32)) → Q (.inl none) w' (nc + if sl < 64 then 2 else 0) (ns + if sl < 64 then 514 else 0)) :
    Ev (d + 5) m_Ch_sendWaiting 0 [some (.ref (cO c)), some (.ref aO), none] [] w nc ns Q := by
  have hcl := chI_cl h.2.1
  have hus := h.2.1.2.2.2.2.2.2
  have hmk := mkN_le cl (F cl) tk
  refine t_Ch_sendWaiting_0 h.2.2.1.1 (Nat.le_of_ble_eq_true rfl) (c_firstThatWaits h.2.2.1 (by omega) (by omega) ?_)
  generalize hsv : max us (cl - 32) = s at *
  refine t_Ch_sendWaiting_4 rfl h.2.2.1.1 (Nat.le_of_ble_eq_true rfl) (c_packet h.2.2.1 (by omega) (by omega) ?_)
  refine t_Ch_sendWaiting_11 h.2.2.1.1 (Nat.le_of_ble_eq_true rfl) (c_send hk h hw (by omega) ha hsl (fun w1 r f1 a1 m1 hr => ?_))
  have ch1 := chR_f h (fun v hv => f1 v (by have := h.1; omega))
  obtain ⟨h1, h2, h3, h4, h5⟩ := ch1
  refine t_Ch_sendWaiting_15 h3.1 (Nat.le_of_ble_eq_true rfl) (es_w (fun w2 e2 f2 => t_Ch_sendWaiting_22 ?_))
  rw [nI_1] at e2
  have fO : ∀ v, v ≠ cO c → w2 v = w1 v := f2
  refine hq w2 r (fun v v1 v2 => ?_) ⟨h1, ⟨h2.1, h2.2.1, h2.2.2.1, h2.2.2.2.1, h2.2.2.2.2.1, h2.2.2.2.2.2.1, by omega⟩, ?_, ?_, fun g => ?_⟩ (airH_f a1 (fun v hv => fO v (by unfold cO; omega))) (meR_f m1 (fO _ (by unfold aM cO; omega)) (fO _ (by unfold aW cO; omega))) hr
  · rw [fO v (by rintro rfl; exact v2 (by unfold cO; omega))]
    exact f1 v v1
  · obtain ⟨g1, g2, ⟨f, g3, g4⟩, g5⟩ := h3
    refine ⟨⟨by unfold cO; omega, e2⟩, nsR_f g2 (fO _ (by unfold cA cO; omega)) (fO _ (by unfold cB cO; omega)), ⟨f, wr_f g3 (fO _ (by unfold cP cO; omega)), g4⟩, fun p a b => ?_⟩
    rw [fO _ (by unfold cK cO; omega), fO _ (by unfold cM cO; omega), fO _ (by unfold cR cO; omega), fO _ (by unfold cL cO; omega)]
    exact g5 p a b
  · exact chP_x h4 (fun p _ _ _ => ⟨fO _ (by unfold cK cO; omega), fO _ (by unfold cM cO; omega), fO _ (by unfold cR cO; omega), fO _ (by unfold cL cO; omega)⟩)
  · exact opR_f (h5 g) (fO _ (by unfold cK cO; omega)) (fO _ (by unfold cM cO; omega)) (fO _ (by unfold cR cO; omega)) (fO _ (by unfold cL cO; omega))
theorem c_packetWith {a : Nat} (h : chR w c S tk cl F q od us A) (h1 : F (cl - 32) ≤ a) (h2 : a < F cl) (hq : ∀ s, s < cl → cl ≤ s + 32 → F s ≤ a → a < F (s + 1) → Q (.inl (some (.ref (cK c (s % 33))))) w nc ns) :
    Ev (d + 3) m_Ch_packetWith 0 [some (.ref (cO c)), some (.int (nI a)), none] [] w nc ns Q := by
  have hcl := chI_cl h.2.1
  have hmk := mkN_le cl (F cl) tk
  have h0 : 0 < cl := by
    rcases Nat.eq_zero_or_pos cl with e | e
    · rw [e, h.2.1.1] at h2; omega
    · exact e
  refine t_Ch_packetWith_0 h.2.2.1.1 (Nat.le_of_ble_eq_true rfl) (c_firstOfRing h.2.2.1 (by omega) (t_Ch_packetWith_4 rfl ?_))
  have key : ∀ m s, s + m = cl - 1 → cl ≤ s + 32 → F s ≤ a → Ev (d + 3) m_Ch_packetWith 5 [some (.ref (cO c)), some (.int (nI a)), some (.int (nI s))] [] w nc ns Q := by
    intro m
    induction m with
    | zero =>
      intro s hs hs2 hFs
      refine t_Ch_packetWith_5 h.2.2.1.1 rfl (fun _ => ?_) (fun g => absurd ?_ g)
      · refine t_Ch_packetWith_35 h.2.2.1.1 (Nat.le_of_ble_eq_true rfl) (c_packet h.2.2.1 (by omega) (by omega) (t_Ch_packetWith_40 rfl (hq s (by omega) hs2 hFs ?_)))
        rw [show s + 1 = cl by omega]
        exact h2
      · rw [show (1 : Int32) = nI 1 from rfl, pk_sub (by omega)]; exact nI_le (by omega) (by omega)
    | succ m ih =>
      intro s hs hs2 hFs
      have hm1 := chI_mono h.2.1 cl (Nat.le_refl _) (s + 1) (by omega)
      refine t_Ch_packetWith_5 h.2.2.1.1 rfl (fun g => absurd ((nI_leI (a := cl - 1) (b := s) (by omega) (by omega)).mp (by rw [show (1 : Int32) = nI 1 from rfl, pk_sub (by omega)] at g; exact g)) (by omega)) (fun _ => ?_)
      refine t_Ch_packetWith_15 h.2.2.1.1 (Nat.le_of_ble_eq_true rfl) ?_
      rw [nI_1]
      refine c_packet h.2.2.1 (by omega) (by omega) ?_
      obtain ⟨_, _, _, _, _, _, _, pk, _⟩ := h.2.2.2.1.2 (s + 1) (by omega) (by omega) (by omega)
      refine t_Ch_packetWith_23 pk.1 rfl (fun g => ?_) (fun g => ?_)
      · have hlt := (nI_ltI (by omega) (by omega)).mp g
        exact t_Ch_packetWith_35 h.2.2.1.1 (Nat.le_of_ble_eq_true rfl) (c_packet h.2.2.1 (by omega) (by omega) (t_Ch_packetWith_40 rfl (hq s (by omega) hs2 hFs hlt)))
      · have hge : F (s + 1) ≤ a := Nat.le_of_not_lt (fun e => g (nI_lt e (by omega)))
        refine t_Ch_packetWith_29 rfl ?_
        rw [nI_1]
        exact ih (s + 1) (by omega) (by omega) hge
  exact key (cl - 1 - (cl - 32)) (cl - 32) (by omega) (by omega) h1
/-- the channel with another set of asked numbers -/
theorem chR_asked {w1 w2 : qk_W} {A' : Nat → Bool} (h : chR w1 c S tk cl F q od us A) (f : fr [cA c, cB c] w1 w2) (hn : nsR w2 (cA c) (cB c) A') : chR w2 c S tk cl F q od us A' := by
  obtain ⟨h1, h2, h3, h4, h5⟩ := h
  have e : ∀ v, v ≠ cA c → v ≠ cB c → w2 v = w1 v := fun v a b => f v (by simp [a, b])
  obtain ⟨g1, g2, ⟨ff, g3, g4⟩, g5⟩ := h3
  refine ⟨h1, h2, ⟨wo_f g1 (e _ (by unfold cO cA; omega) (by unfold cO cB; omega)), hn, ⟨ff, wr_f g3 (e _ (by unfold cP cA; omega) (by unfold cP cB; omega)), g4⟩, fun p a b => ?_⟩, chP_x h4 (fun p _ _ _ => ⟨e _ (by unfold cK cA; omega) (by unfold cK cB; omega), e _ (by unfold cM cA; omega) (by unfold cM cB; omega), e _ (by unfold cR cA; omega) (by unfold cR cB; omega), e _ (by unfold cL cA; omega) (by unfold cL cB; omega)⟩), fun g => opR_f (h5 g) (e _ (by unfold cK cA; omega) (by unfold cK cB; omega)) (e _ (by unfold cM cA; omega) (by unfold cM cB; omega)) (e _ (by unfold cR cA; omega) (by unfold cR cB; omega)) (e _ (by unfold cL cA; omega) (by unfold cL cB; omega))⟩
  rw [e _ (by unfold cK cA; omega) (by unfold cK cB; omega), e _ (by unfold cM cA; omega) (by unfold cM cB; omega), e _ (by unfold cR cA; omega) (by unfold cR cB; omega), e _ (by unfold cL cA; omega) (by unfold cL cB; omega)]
  exact g5 p a b
theorem chR_nsO {w1 : qk_W} (h : chR w1 c S tk cl F q od us A) : wo w1 (cA c) 3 [.ref (cB c), .int (nI (cnt A 32768))] := by
  obtain ⟨f, g1, _⟩ := h.2.2.1.2.1
  exact g1
theorem c_sendAsked (hk : wk w) (h : chR w c S tk cl F q od us A) (hl : nxt (fun n => A n == true) 0 < 32768) (hA : ∀ n, n < 32768 → A n = true → n < F cl) (ha : airR w sl R L T) (hsl : sl < 2 ^ 30)
    (hq1 : nxt (fun n => A n == true) 0 < F (cl - 32) → ∀ w' r, fr2 8 (12 + c) w w' → chR w' c S tk cl F q od us (delR A 0 (F (cl - 32) - 1)) → airH w' (sl + 1) R L T (sl % 64) → meR w' (aM (sl % 64)) (aW (sl % 64)) r 24 → rowE r c (F (cl - 32)) → Q (.inl none) w' (nc + if sl < 64 then 2 else 0) (ns + if sl < 64 then 514 else 0))
    (hq2 : F (cl - 32) ≤ nxt (fun n => A n == true) 0 → ∀ s, s < cl → F s ≤ nxt (fun n => A n == true) 0 → nxt (fun n => A n == true) 0 < F (s + 1) → ∀ w' r, fr2 8 (12 + c) w w' → chR w' c S tk cl F q od us (delR A (F s) (F (s + 1) - 1)) → airH w' (sl + 1) R L T (sl % 64) → meR w' (aM (sl % 64)) (aW (sl % 64)) r (szP S (F s) (F (s + 1) - F s)) → rowM r c S (F s) (F (s + 1) - F s) (q s) (F (cl - 32)) → Q (.inl none) w' (nc + if sl < 64 then 2 else 0) (ns + if sl < 64 then 514 else 0)) :
    Ev (d + 5) m_Ch_sendAsked 0 [some (.ref (cO c)), some (.ref aO), none, none, none] [] w nc ns Q := by
  have hcl := chI_cl h.2.1
  have hmono := chI_mono h.2.1 cl (Nat.le_refl _)
  have hc := h.1
  have hspec := nxt_spec (fun n => A n == true) (s := 0) (by omega)
  have hin : nxt (fun n => A n == true) 0 < F cl := hA _ hl (by have := hspec.2.2.2 hl; simpa using this)
  have hFo : F (cl - 32) ≤ 32768 := by have := hmono (cl - 32) (by omega); omega
  refine t_Ch_sendAsked_0 h.2.2.1.1 rfl (chR_nsO h) (Nat.le_of_ble_eq_true rfl) (c_next (fl := true) (s := 0) h.2.2.1.2.1 (by omega) ?_)
  generalize hle : nxt (fun n => A n == true) 0 = le at *
  refine t_Ch_sendAsked_9 rfl h.2.2.1.1 (Nat.le_of_ble_eq_true rfl) (c_oldest h ?_)
  refine t_Ch_sendAsked_14 rfl (fun g => ?_) (fun g => ?_)
  · have hge := (nI_leI (by omega) (by omega)).mp g
    refine t_Ch_sendAsked_39 h.2.2.1.1 (Nat.le_of_ble_eq_true rfl) (c_packetWith h hge hin (fun s s1 s2 s3 s4 => ?_))
    refine t_Ch_sendAsked_44 rfl h.2.2.1.1 (Nat.le_of_ble_eq_true rfl) (c_send hk h s1 s2 ha hsl (fun w1 r f1 a1 m1 hr => ?_))
    have ch1 := chR_f h (fun v hv => f1 v (by omega))
    obtain ⟨_, _, _, _, _, _, _, pk, _⟩ := ch1.2.2.2.1.2 s s1 s2 (by omega)
    refine t_Ch_sendAsked_53 ch1.2.2.1.1 rfl pk.1 rfl rfl (chR_nsO ch1) (Nat.le_of_ble_eq_true rfl) ?_
    have hs1 := hmono (s + 1) (by omega)
    rw [nI_add, show F s + (F (s + 1) - F s) = F (s + 1) by omega, show (1 : Int32) = nI 1 from rfl, pk_sub (by omega)]
    refine c_exclude ch1.2.2.1.2.1 (by omega) (by omega) (fun w2 f2 n2 => t_Ch_sendAsked_78 ?_)
    refine hq2 hge s s1 s3 s4 w2 r (fun v v1 v2 => ?_) (chR_asked ch1 f2 n2) (airH_f a1 (fun v hv => f2 v (by simp; unfold cA cB; omega))) (meR_f m1 (f2 _ (by simp; unfold aM cA cB; omega)) (f2 _ (by simp; unfold aW cA cB; omega))) hr
    rw [f2 v (by simp; unfold cA cB; omega)]
    exact f1 v v1
  · have hlt : le < F (cl - 32) := Nat.lt_of_not_le (fun e => g (nI_le e (by omega)))
    refine t_Ch_sendAsked_20 h.2.2.1.1 (Nat.le_of_ble_eq_true rfl) (c_sendEmpty hk h ha hsl (fun w1 r f1 a1 m1 hr => ?_))
    have ch1 := chR_f h (fun v hv => f1 v (by omega))
    refine t_Ch_sendAsked_25 ch1.2.2.1.1 rfl (chR_nsO ch1) (Nat.le_of_ble_eq_true rfl) ?_
    rw [show (1 : Int32) = nI 1 from rfl, pk_sub (by omega)]
    refine c_exclude (s := 0) ch1.2.2.1.2.1 (by omega) (by omega) (fun w2 f2 n2 => t_Ch_sendAsked_36 ?_)
    refine hq1 hlt w2 r (fun v v1 v2 => ?_) (chR_asked ch1 f2 n2) (airH_f a1 (fun v hv => f2 v (by simp; unfold cA cB; omega))) (meR_f m1 (f2 _ (by simp; unfold aM cA cB; omega)) (f2 _ (by simp; unfold aW cA cB; omega))) hr
    rw [f2 v (by simp; unfold cA cB; omega)]
    exact f1 v v1
def askR (A : Nat → Bool) (fm to ic : Nat) : Nat → Bool := fun n => A n || (decide (fm ≤ n) && decide (n ≤ to) && decide (n < ic))
theorem c_askFor {fm to : Nat} (h : chR w c S tk cl F q od us A) (hf : fm < 2 ^ 32) (ht : to < 2 ^ 32) (hq : ∀ w', frR (12 + c) w w' → chR w' c S tk cl F q od us (askR A fm to (F cl)) → Q (.inl (some (.int (nI (cnt (askR A fm to (F cl)) 32768 - cnt A 32768))))) w' nc ns) :
    Ev (d + 3) m_Ch_askFor 0 [some (.ref (cO c)), some (.long (lN fm)), none, some (.long (lN to)), none, none, none] [] w nc ns Q := by
  have hcl := chI_cl h.2.1
  have hc := h.1
  have same : (∀ n, n < 32768 → ¬ (fm ≤ n ∧ n ≤ to ∧ n < F cl)) → Q (.inl (some (.int 0))) w nc ns := by
    intro hn
    have e : ∀ n, n < 32768 → A n = askR A fm to (F cl) n := by
      intro n hn2
      unfold askR
      have := hn n hn2
      by_cases g1 : fm ≤ n
      · by_cases g2 : n ≤ to
        · rw [decide_eq_false (show ¬ n < F cl by omega)]; simp
        · rw [decide_eq_false g2]; simp
      · rw [decide_eq_false g1]; simp
    have := hq w frR_refl (chR_asked h fr_refl (nsR_c h.2.2.1.2.1 e))
    rw [← cnt_congr e, Nat.sub_self] at this
    exact this
  have emin : ∀ a b : Nat, a < 2 ^ 63 → b < 2 ^ 63 → (if lN b < lN a then lN b else lN a) = lN (min a b) := by
    intro a b ha hb
    by_cases g : b < a
    · rw [if_pos ((pk_lLT hb ha).mpr g), Nat.min_eq_right (by omega)]
    · rw [if_neg (fun x => g ((pk_lLT hb ha).mp x)), Nat.min_eq_left (by omega)]
  refine t_Ch_askFor_0 (Nat.le_of_ble_eq_true rfl) (c_minJ ?_)
  rw [show (32768 : Int64) = lN 32768 from rfl, emin _ _ (by omega) (by omega)]
  refine t_Ch_askFor_7 rfl h.2.2.1.1 rfl (Nat.le_of_ble_eq_true rfl) (c_minJ ?_)
  rw [lN_i]
  by_cases hz : F cl = 0
  · have e1 : Int32.toInt64 (nI (F cl) - 1) = -1 := by rw [hz]; decide
    have e2 : (if (-1 : Int64) < lN to then (-1 : Int64) else lN to) = -1 := by
      rw [if_pos]
      rw [Int64.lt_iff_toInt_lt, pk_lT (by omega)]
      have : (-1 : Int64).toInt = -1 := by decide
      omega
    rw [e1, e2]
    refine t_Ch_askFor_21 rfl (fun g => absurd g ?_) (fun _ => t_Ch_askFor_31 (same (fun n _ g => by omega)))
    rw [Int32.le_iff_toInt_le, nI_toInt (by omega)]
    have : (Int64.toInt32 (-1)).toInt = -1 := by decide
    omega
  · rw [show (1 : Int32) = nI 1 from rfl, pk_sub (by omega), nI_l (by omega), emin _ _ (by omega) (by omega)]
    refine t_Ch_askFor_21 rfl (fun g => ?_) (fun g => t_Ch_askFor_31 (same (fun n hn g2 => ?_)))
    · rw [lN_i] at g ⊢
      have hle := (nI_leI (by omega) (by omega)).mp g
      refine t_Ch_askFor_35 h.2.2.1.1 rfl (chR_nsO h) (Nat.le_of_ble_eq_true rfl) (c_include h.2.2.1.2.1 (by omega) (by omega) (fun w1 f1 n1 => t_Ch_askFor_46 ?_))
      have e : ∀ n, n < 32768 → insR A (min fm 32768) (min to (F cl - 1)) n = askR A fm to (F cl) n := by
        intro n hn
        unfold insR askR
        congr 1
        rw [Bool.and_assoc, decide_eq_decide.mpr (show min fm 32768 ≤ n ↔ fm ≤ n by omega)]
        congr 1
        rw [← Bool.decide_and]
        exact decide_eq_decide.mpr (by omega)
      rw [cnt_congr e]
      exact hq w1 (fun v hv => f1 v (by simp; unfold cA cB; omega)) (chR_asked h f1 (nsR_c n1 e))
    · rw [lN_i] at g
      exact g (nI_le (by omega) (by omega))
theorem c_Ch_init {v0 v3 : Value} (hc : c < 4) (h : wo w (cO c) 2 [v0, .int 0, .int 0, v3, .int 0, .int 0, .int 0]) (h1 : w (cA c) = none) (h2 : w (cB c) = none) (h3 : w (cP c) = none) (h4 : ∀ p, p < 33 → w (cK c p) = none ∧ w (cM c p) = none ∧ w (cR c p) = none ∧ w (cL c p) = none)
    (hq : ∀ w', frR (12 + c) w w' → chR w' c S 0 0 (fun _ => 0) q od 0 (fun _ => false) → Q (.inl none) w' (nc + 3) (ns + 1059)) :
    Ev (d + 2) m_Ch_init 0 [some (.ref (cO c)), some (.int (nI c))] [] w nc ns Q := by
  refine t_Ch_init_0 (Nat.le_of_ble_eq_true rfl) ?_
  refine t_Ch_init_4 rfl (cA c) (by unfold cA; omega) h1 (es_w (fun w1 e1 f1 => ?_))
  refine t_Ch_init_8 (Nat.le_of_ble_eq_true rfl) (c_Ns_init (cB c) ⟨by unfold cA; omega, e1⟩ (by unfold cB; omega) (by rw [f1 _ (by unfold cA cB; omega)]; exact h2) (fun w2 f2 n2 => ?_))
  have e2 : ∀ v, v ≠ cA c → v ≠ cB c → w2 v = w v := fun v a b => (f2 v (by simp [a, b])).trans (f1 v a)
  refine t_Ch_init_12 rfl (wo_f h (e2 _ (by unfold cO cA; omega) (by unfold cO cB; omega))) (Nat.le_of_ble_eq_true rfl) (qk_fitL _ _) (es_w (fun w3 e3 f3 => ?_))
  refine t_Ch_init_15 rfl (cP c) (by unfold cP; omega) (by rw [f3 _ (by unfold cP cO; omega), e2 _ (by unfold cP cA; omega) (by unfold cP cB; omega)]; exact h3) (es_w (fun w4 e4 f4 => ?_))
  refine t_Ch_init_21 rfl ⟨by unfold cO; omega, (f4 _ (by unfold cO cP; omega)).trans e3⟩ (Nat.le_of_ble_eq_true rfl) (qk_fitA _ _) (es_w (fun w5 e5 f5 => ?_))
  refine t_Ch_init_24 ⟨by unfold cO; omega, e5⟩ (Nat.le_of_ble_eq_true rfl) (es_w (fun w6 e6 f6 => t_Ch_init_29 ?_))
  have eE : ∀ v, v ≠ cO c → v ≠ cP c → w6 v = w2 v := fun v a b => by rw [f6 v a, f5 v a, f4 v b, f3 v a]
  refine hq w6 (fun v hv => ?_) ⟨hc, ⟨rfl, fun s hs => absurd hs (by omega), Nat.le_refl _, Nat.zero_le _, Nat.zero_le _, fun g => absurd g (Nat.lt_irrefl _), Nat.le_refl _⟩, ⟨⟨by unfold cO; omega, e6⟩, nsR_f n2 (eE _ (by unfold cA cO; omega) (by unfold cA cP; omega)) (eE _ (by unfold cB cO; omega) (by unfold cB cP; omega)), ⟨fun _ => none, ⟨by unfold cP; omega, ?_⟩, fun p _ => ?_⟩, fun p a _ => ?_⟩, ⟨fun p _ b => absurd (show p < 0 from b) (Nat.not_lt_zero p), fun s a => absurd a (by omega)⟩, fun g => absurd g (Nat.lt_irrefl _)⟩
  · rw [eE v (by rintro rfl; exact hv (by unfold cO; omega)) (by rintro rfl; exact hv (by unfold cP; omega))]
    exact e2 v (by rintro rfl; exact hv (by unfold cA; omega)) (by rintro rfl; exact hv (by unfold cB; omega))
  · rw [f6 _ (by unfold cP cO; omega), f5 _ (by unfold cP cO; omega)]
    exact e4
  · rfl
  · rw [eE _ (by unfold cK cO; omega) (by unfold cK cP; omega), eE _ (by unfold cM cO; omega) (by unfold cM cP; omega), eE _ (by unfold cR cO; omega) (by unfold cR cP; omega), eE _ (by unfold cL cO; omega) (by unfold cL cP; omega), e2 _ (by unfold cK cA; omega) (by unfold cK cB; omega), e2 _ (by unfold cM cA; omega) (by unfold cM cB; omega), e2 _ (by unfold cR cA; omega) (by unfold cR cB; omega), e2 _ (by unfold cL cA; omega) (by unfold cL cB; omega)]
    exact h4 p a
end Ch2
