/-! ===== decoding ===== -/
abbrev Dst : Type := Nat × Nat × Int32 × Int32
def sgn (n w : Nat) : Int32 := if w = 0 then 0 else qi_shr (qi_shl (nI n) (nI (32 - w))) (nI (32 - w))
def dhd (r : Nat → Nat) (e k p w : Nat) : Option (Nat × Nat) := if k % 15 = 1 then (if p + 4 ≤ e ∧ getN r p 4 ≤ 9 then some (p + 4, wd (getN r p 4)) else none) else some (p, w)
def dst (r : Nat → Nat) (e : Nat) (q : Nat × Nat) (sp v : Int32) : Option Dst := if q.1 + q.2 ≤ e then some (q.1 + q.2, q.2, sp + sgn (getN r q.1 q.2) q.2, v + (sp + sgn (getN r q.1 q.2) q.2)) else none
def dstep (r : Nat → Nat) (e k : Nat) (s : Dst) : Option Dst := (dhd r e k s.1 s.2.1).bind (fun q => dst r e q s.2.2.1 s.2.2.2)
def dec (r : Nat → Nat) (e : Nat) (fv : Int32) : Nat → Option Dst
  | 0 => some (160, 0, 0, fv)
  | k + 1 => (dec r e fv k).bind (dstep r e (k + 1))
/-- the decoder between two calls; X is what it has taken -/
def deW (w : qk_W) (a ms rw' : Nat) (r : Nat → Nat) (z pl tb ib wi' p : Nat) (sp v : Int32) : Prop :=
  ∃ X : Int64, wo w a 9 [.int v, .ref ms, .int (nI (z - 4)), .int (nI pl), .long X, .int (nI tb), .int (nI ib), .int (nI wi'), .int sp] ∧ meR w ms rw' r z ∧ a ≠ ms ∧ a ≠ rw' ∧ p + tb = 8 * pl ∧ 20 ≤ pl ∧ pl ≤ z - 4 ∧ X.toBitVec.toNat % 2 ^ tb = getN r p tb ∧ 24 ≤ z ∧ z ≤ 512
def deR (w : qk_W) (a ms rw' : Nat) (r : Nat → Nat) (z k : Nat) (s : Dst) : Prop := s.2.1 ≤ 32 ∧ ∃ pl tb, tb < 8 ∧ deW w a ms rw' r z pl tb (k % 15) s.2.1 s.1 s.2.2.1 s.2.2.2
def lV (X : Int64) : Nat := X.toBitVec.toNat
theorem lV_lt (X : Int64) : lV X < 2 ^ 64 := X.toBitVec.isLt
theorem lN_lV (X : Int64) : lN (lV X) = X := Int64.toBitVec_inj.mp (by show BitVec.ofNat 64 X.toBitVec.toNat = X.toBitVec; simp)
theorem lV_lN {n : Nat} (h : n < 2 ^ 64) : lV (lN n) = n := by show (BitVec.ofNat 64 n).toNat = n; simp; omega
theorem lV_load {X : Int64} {b : Nat} (hb : b < 256) : lV (ql_shl X 8 ||| lN b) = lV X * 256 % 2 ^ 64 + b := by
  have e1 : (ql_shl X 8).toBitVec.toNat = lV X * 256 % 2 ^ 64 := by
    unfold ql_shl
    rw [Int64.toBitVec_shiftLeft]
    show (X.toBitVec <<< (BitVec.toNat (((8 : Int32).toInt64 &&& 63).toBitVec.smod 64))).toNat = _
    rw [show BitVec.toNat (((8 : Int32).toInt64 &&& 63).toBitVec.smod 64) = 8 by decide, BitVec.toNat_shiftLeft, Nat.shiftLeft_eq]
    rfl
  show (ql_shl X 8 ||| lN b).toBitVec.toNat = _
  rw [Int64.toBitVec_or, BitVec.toNat_or, e1, lN_bv, BitVec.toNat_ofNat, Nat.mod_eq_of_lt (show b < 2 ^ 64 by omega)]
  have : lV X * 256 % 2 ^ 64 = (lV X * 256 % 2 ^ 64 / 256) * 256 := by omega
  rw [this, or_256 hb]
theorem lV_ushr {X : Int64} {k : Nat} (hk : k < 64) : lV (ql_ushr X (nI k)) = lV X / 2 ^ k := by
  show (X.toUInt64 >>> ((nI k).toInt64.toUInt64 &&& Int64.toUInt64 63)).toBitVec.toNat = _
  rw [UInt64.toBitVec_shiftRight]
  show (X.toBitVec >>> (((nI k).toInt64.toUInt64 &&& Int64.toUInt64 63).toBitVec % 64).toNat).toNat = _
  rw [show (((nI k).toInt64.toUInt64 &&& Int64.toUInt64 63).toBitVec % 64).toNat = k from (by decide +kernel : ∀ k, k < 64 → (((nI k).toInt64.toUInt64 &&& Int64.toUInt64 63).toBitVec % 64).toNat = k) k hk, BitVec.toNat_ushiftRight, Nat.shiftRight_eq_div_pow]
  rfl
theorem lV_mask : ∀ b, b ≤ 32 → lV (ql_shl 1 (nI b) - 1) = 2 ^ b - 1 := by decide +kernel
theorem lV_and (X Y : Int64) : lV (X &&& Y) = lV X &&& lV Y := by
  show (X &&& Y).toBitVec.toNat = _
  rw [Int64.toBitVec_and, BitVec.toNat_and]
  rfl
theorem lV_low {X : Int64} {b : Nat} (hb : b ≤ 32) : lV (X &&& (ql_shl 1 (nI b) - 1)) = lV X % 2 ^ b := by
  rw [lV_and, lV_mask b hb, Nat.and_two_pow_sub_one_eq_mod]
theorem lV_int (X : Int64) : Int64.toInt32 X = nI (lV X) := by
  conv => lhs; rw [← lN_lV X]
  exact lN_i _
theorem deW_f {w w' : qk_W} {a ms rw' z pl tb ib wi' p : Nat} {r : Nat → Nat} {sp v : Int32} (h : deW w a ms rw' r z pl tb ib wi' p sp v) (e : ∀ x, x = a ∨ x = ms ∨ x = rw' → w' x = w x) : deW w' a ms rw' r z pl tb ib wi' p sp v := by
  obtain ⟨X, h1, h2, h3⟩ := h
  exact ⟨X, wo_f h1 (e _ (Or.inl rfl)), meR_f h2 (e _ (Or.inr (Or.inl rfl))) (e _ (Or.inr (Or.inr rfl))), h3⟩
theorem deR_f {w w' : qk_W} {a ms rw' z k : Nat} {r : Nat → Nat} {s : Dst} (h : deR w a ms rw' r z k s) (e : ∀ x, x = a ∨ x = ms ∨ x = rw' → w' x = w x) : deR w' a ms rw' r z k s := by
  obtain ⟨h1, pl, tb, h2, h3⟩ := h
  exact ⟨h1, pl, tb, h2, deW_f h3 e⟩
section DeC
variable {d : Nat} {w : qk_W} {nc ns : Nat} {Q : Option Value ⊕ Nat → qk_W → Nat → Nat → Prop} {a ms rw' z pl tb ib wi' p : Nat} {r : Nat → Nat} {sp v : Int32}
theorem c_isLeft {b : Nat} (h : deW w a ms rw' r z pl tb ib wi' p sp v) (ht : tb < 64) (hb : b ≤ 32) (hq : Q (.inl (some (.int (b2i (decide (p + b ≤ 8 * (z - 4))))))) w nc ns) :
    Ev d m_De_isLeft 0 [some (.ref a), some (.int (nI b))] [] w nc ns Q := by
  obtain ⟨X, h1, h2, h3, h4, h5, h6, h7, h8, h9, h10⟩ := h
  have e : nI tb + 8 * (nI (z - 4) - nI pl) = nI (tb + 8 * (z - 4 - pl)) := by
    rw [pk_sub (by omega), show (8 : Int32) = nI 8 from rfl, pk_mul, nI_add]
  refine t_De_isLeft_0 h1 rfl rfl rfl (fun g => t_De_isLeft_25 ?_) (fun g => t_De_isLeft_21 ?_)
  · rw [e] at g
    have := (nI_ltI (by omega) (by omega)).mp g
    rwa [b2i_f (by simp; omega)] at hq
  · rw [e] at g
    have : ¬ (tb + 8 * (z - 4 - pl) < b) := fun x => g (nI_lt x (by omega))
    rwa [b2i_t (by simp; omega)] at hq
theorem c_read_loop {w0 : qk_W} {b : Nat} (hb : b ≤ 32) (hl : p + b ≤ 8 * (z - 4))
    (hq : ∀ w' pl' tb', fr [a] w0 w' → tb' < 8 → deW w' a ms rw' r z pl' tb' ib wi' (p + b) sp v → Q (.inl (some (.int (nI (getN r p b))))) w' nc ns) :
    ∀ m pl tb, pl + m = z - 4 → tb < b + 8 → ∀ w, fr [a] w0 w → deW w a ms rw' r z pl tb ib wi' p sp v →
    Ev d m_De_read 0 [some (.ref a), some (.int (nI b))] [] w nc ns Q := by
  intro m
  have done : ∀ pl tb w, fr [a] w0 w → deW w a ms rw' r z pl tb ib wi' p sp v → b ≤ tb → tb < b + 8 → Ev d m_De_read 72 [some (.ref a), some (.int (nI b))] [] w nc ns Q := by
    intro pl tb w f h hbt htb
    obtain ⟨X, h1, h2, h3, h4, h5, h6, h7, h8, h9, h10⟩ := h
    refine t_De_read_72 h1 rfl (Nat.le_of_ble_eq_true rfl) (es_w (fun w1 e1 f1 => ?_))
    rw [pk_sub hbt] at e1
    refine t_De_read_82 ⟨h1.1, e1⟩ rfl rfl ?_
    have hsplit := getN_add r p b (tb - b)
    rw [show b + (tb - b) = tb by omega] at hsplit
    have hg2 := getN_lt r (p + b) (tb - b)
    have hpow : 2 ^ tb = 2 ^ (tb - b) * 2 ^ b := by rw [← Nat.pow_add]; congr 1; omega
    have hX : lV X % 2 ^ tb = getN r p tb := h8
    have e2 : lV X / 2 ^ (tb - b) % 2 ^ b = getN r p b := by
      have : lV X / 2 ^ (tb - b) % 2 ^ b = (lV X % 2 ^ tb) / 2 ^ (tb - b) := by rw [hpow, Nat.mod_mul_right_div_self]
      rw [this, hX, hsplit, Nat.add_comm, Nat.mul_comm, Nat.add_mul_div_left _ _ (Nat.two_pow_pos _), Nat.div_eq_of_lt hg2, Nat.zero_add]
    have e3 : lV X % 2 ^ (tb - b) = getN r (p + b) (tb - b) := by
      have : lV X % 2 ^ (tb - b) = (lV X % 2 ^ tb) % 2 ^ (tb - b) := by rw [hpow, Nat.mod_mul_right_mod]
      rw [this, hX, hsplit, Nat.mul_add_mod_self_right, Nat.mod_eq_of_lt hg2]
    rw [lV_int, lV_low hb, lV_ushr (by omega), e2]
    refine hq w1 pl (tb - b) (fun x hx => ?_) (by omega) ⟨X, ⟨h1.1, e1⟩, meR_f h2 (f1 _ (Ne.symm h3)) (f1 _ (Ne.symm h4)), h3, h4, by omega, h6, h7, e3, h9, h10⟩
    rw [f1 x (fun e => hx (by simp [e]))]
    exact f x hx
  induction m with
  | zero =>
    intro pl tb hm htb w f h
    have h' := h
    obtain ⟨X, h1, h2, h3, h4, h5, h6, h7, h8, h9, h10⟩ := h
    refine t_De_read_0 h1 rfl (fun g => done pl tb w f h' ((nI_leI (by omega) (by omega)).mp g) htb) (fun g => ?_)
    exact t_De_read_8 h1 rfl rfl (fun _ => done pl tb w f h' (by omega) htb) (fun g2 => absurd (nI_le (by omega) (by omega)) g2)
  | succ m ih =>
    intro pl tb hm htb w f h
    have h' := h
    obtain ⟨X, h1, h2, h3, h4, h5, h6, h7, h8, h9, h10⟩ := h
    refine t_De_read_0 h1 rfl (fun g => done pl tb w f h' ((nI_leI (by omega) (by omega)).mp g) htb) (fun g => ?_)
    have hlt : tb < b := Nat.lt_of_not_le (fun x => g (nI_le x (by omega)))
    refine t_De_read_8 h1 rfl rfl (fun g2 => absurd ((nI_leI (by omega) (by omega)).mp g2) (by omega)) (fun _ => ?_)
    obtain ⟨k1, ⟨ff, k2, k3, k4⟩, k5⟩ := h2
    refine t_De_read_19 h1 rfl rfl k1 rfl rfl k2 (vp_in_nI (by omega) (by omega)) (Nat.le_of_ble_eq_true rfl) ?_
    rw [nI_clamp (by omega), k3 _ (by omega), nB_255 (k4 _), nI_l (by have := k4 pl; omega)]
    refine es_w (fun w1 e1 f1 => ?_)
    refine t_De_read_48 ⟨h1.1, e1⟩ rfl (Nat.le_of_ble_eq_true rfl) (es_w (fun w2 e2 f2 => ?_))
    refine t_De_read_59 ⟨h1.1, e2⟩ rfl (Nat.le_of_ble_eq_true rfl) (es_w (fun w3 e3 f3 => ?_))
    rw [nI_1, show (8 : Int32) = nI 8 from rfl, nI_add] at e3
    refine t_De_read_69 ?_
    have fA : ∀ x, x ≠ a → w3 x = w x := fun x hx => by rw [f3 x hx, f2 x hx, f1 x hx]
    refine ih (pl + 1) (tb + 8) (by omega) (by omega) w3 (fun x hx => ?_) ⟨_, ⟨h1.1, e3⟩, meR_f ⟨k1, ⟨ff, k2, k3, k4⟩, k5⟩ (fA _ (Ne.symm h3)) (fA _ (Ne.symm h4)), h3, h4, by omega, by omega, by omega, ?_, h9, h10⟩
    · rw [fA x (fun e => hx (by simp [e]))]; exact f x hx
    · show lV (ql_shl X 8 ||| lN (r pl)) % 2 ^ (tb + 8) = getN r p (tb + 8)
      have hX : lV X % 2 ^ tb = getN r p tb := h8
      rw [lV_load (k4 pl), getN_add, show p + tb = 8 * pl from h5, getN_8 (k4 pl), ← hX]
      have hd1 : 2 ^ (tb + 8) ∣ 2 ^ 64 := Nat.pow_dvd_pow 2 (by omega)
      have hp8 : 2 ^ (tb + 8) = 2 ^ tb * 256 := by rw [Nat.pow_add]
      rw [Nat.add_mod, Nat.mod_mod_of_dvd _ hd1, hp8, Nat.mul_mod_mul_right]
      have h1 : lV X % 2 ^ tb < 2 ^ tb := Nat.mod_lt _ (Nat.two_pow_pos _)
      have h2 := k4 pl
      have h3 : r pl % (2 ^ tb * 256) = r pl := Nat.mod_eq_of_lt (by have := Nat.two_pow_pos tb; omega)
      rw [h3, Nat.mod_eq_of_lt (by have := Nat.two_pow_pos tb; omega)]
theorem c_read {b : Nat} (h : deW w a ms rw' r z pl tb ib wi' p sp v) (ht : tb < 8) (hb : b ≤ 32) (hl : p + b ≤ 8 * (z - 4))
    (hq : ∀ w' pl' tb', fr [a] w w' → tb' < 8 → deW w' a ms rw' r z pl' tb' ib wi' (p + b) sp v → Q (.inl (some (.int (nI (getN r p b))))) w' nc ns) :
    Ev d m_De_read 0 [some (.ref a), some (.int (nI b))] [] w nc ns Q := by
  have h' := h
  obtain ⟨X, h1, h2, h3, h4, h5, h6, h7, h8, h9, h10⟩ := h
  exact c_read_loop hb hl hq (z - 4 - pl) pl tb (by omega) (by omega) w fr_refl h'
theorem c_readWidth (hk : wk w) (h : deW w a ms rw' r z pl tb ib wi' p sp v) (ht : tb < 8)
    (hq1 : p + 4 ≤ 8 * (z - 4) → getN r p 4 ≤ 9 → ∀ w' pl' tb', fr [a] w w' → tb' < 8 → deW w' a ms rw' r z pl' tb' ib (wd (getN r p 4)) (p + 4) sp v → Q (.inl (some (.int 1))) w' nc ns)
    (hq0 : ¬ (p + 4 ≤ 8 * (z - 4) ∧ getN r p 4 ≤ 9) → ∀ w', fr [a] w w' → Q (.inl (some (.int 0))) w' nc ns) :
    Ev (d + 1) m_De_readWidth 0 [some (.ref a), none] [] w nc ns Q := by
  have h' := h
  obtain ⟨X, h1, h2, h3, h4, h5, h6, h7, h8, h9, h10⟩ := h
  refine t_De_readWidth_0 h1 (Nat.le_of_ble_eq_true rfl) (c_isLeft (b := 4) h' (by omega) (by omega) ?_)
  refine t_De_readWidth_5 (fun g => ?_) (fun g => t_De_readWidth_8 (hq0 (fun x => ?_) w fr_refl))
  · have hl : p + 4 ≤ 8 * (z - 4) := by
      by_cases e : p + 4 ≤ 8 * (z - 4)
      · exact e
      · rw [decide_eq_false e] at g; exact absurd rfl g
    refine t_De_readWidth_10 h1 (Nat.le_of_ble_eq_true rfl) (c_read (b := 4) h' ht (by omega) hl (fun w1 pl1 tb1 f1 t1 d1 => ?_))
    have hg := getN_lt r p 4
    refine t_De_readWidth_15 rfl (fun g2 => ?_) (fun g2 => t_De_readWidth_22 (hq0 (fun x => ?_) w1 f1))
    · have h9' : getN r p 4 ≤ 9 := (nI_leI (b := 9) (by omega) (by omega)).mp g2
      have d1' := d1
      obtain ⟨X1, k1, k2, k3⟩ := d1
      have hk1 : wk w1 := wk_12 hk (f1 1 (by have := h1.1; simp; omega)) (f1 2 (by have := h1.1; simp; omega))
      refine t_De_readWidth_24 (by rw [hk1.1]; exact fun x => by cases x) hk1.1 (vp_in_nI (by omega) (by omega)) k1 (Nat.le_of_ble_eq_true rfl) (es_w (fun w2 e2 f2 => ?_))
      rw [show qk_wid.getD (nI (getN r p 4)).toNatClampNeg 0 = nI (wd (getN r p 4)) by rw [nI_clamp (by omega)]; exact wd_tab _ (by omega)] at e2
      refine t_De_readWidth_33 (hq1 hl h9' w2 pl1 tb1 (fun x hx => ?_) t1 ⟨X1, ⟨h1.1, e2⟩, meR_f k2 (f2 _ (Ne.symm h3)) (f2 _ (Ne.symm h4)), k3⟩)
      rw [f2 x (fun e => hx (by simp [e]))]
      exact f1 x hx
    · exact g2 (nI_le (b := 9) x.2 (by decide))
  · rw [decide_eq_true x.1] at g; exact absurd g (by decide)
theorem c_advance {k : Nat} {s : Dst} (hk : wk w) (h : deR w a ms rw' r z k s)
    (hq1 : ∀ s', dstep r (8 * (z - 4)) (k + 1) s = some s' → ∀ w', fr [a] w w' → deR w' a ms rw' r z (k + 1) s' → Q (.inl (some (.int 1))) w' nc ns)
    (hq0 : dstep r (8 * (z - 4)) (k + 1) s = none → ∀ w', fr [a] w w' → Q (.inl (some (.int 0))) w' nc ns) :
    Ev (d + 2) m_De_advance 0 [some (.ref a), none] [] w nc ns Q := by
  obtain ⟨p, ww, sp, v⟩ := s
  obtain ⟨hw32, pl, tb, htb, h⟩ := h
  simp only at hw32 h
  -- what is left once the width is known
  have rest : ∀ w1 pl1 tb1 p1 ww1, fr [a] w w1 → tb1 < 8 → ww1 ≤ 32 → deW w1 a ms rw' r z pl1 tb1 (k % 15) ww1 p1 sp v → dhd r (8 * (z - 4)) (k + 1) p ww = some (p1, ww1) →
      Ev (d + 2) m_De_advance 16 [some (.ref a), none] [] w1 nc ns Q := by
    intro w1 pl1 tb1 p1 ww1 f1 t1 hw1 d1 hd
    have est : dstep r (8 * (z - 4)) (k + 1) (p, ww, sp, v) = dst r (8 * (z - 4)) (p1, ww1) sp v := by
      unfold dstep
      simp only
      rw [hd]
      rfl
    rw [est] at hq1 hq0
    have fin : ∀ w2, fr [a] w w2 → deW w2 a ms rw' r z pl1 tb1 ((k + 1) % 15) ww1 p1 sp v → Ev (d + 2) m_De_advance 39 [some (.ref a), none] [] w2 nc ns Q := by
      intro w2 f2 d2
      have d2' := d2
      obtain ⟨X, h1, h2, h3, h4, h5, h6, h7, h8, h9, h10⟩ := d2
      -- the last step
      have last : ∀ w3 pl3 tb3 sp3 o1, fr [a] w w3 → tb3 < 8 → deW w3 a ms rw' r z pl3 tb3 ((k + 1) % 15) ww1 (p1 + ww1) sp3 v → p1 + ww1 ≤ 8 * (z - 4) → sp3 = sp + sgn (getN r p1 ww1) ww1 → Ev (d + 2) m_De_advance 88 [some (.ref a), o1] [] w3 nc ns Q := by
        intro w3 pl3 tb3 sp3 o1 f3 t3 d3 hle hsp
        obtain ⟨X3, k1, k2, k3⟩ := d3
        refine t_De_advance_88 k1 rfl rfl (Nat.le_of_ble_eq_true rfl) (es_w (fun w4 e4 f4 => t_De_advance_101 ?_))
        refine hq1 (p1 + ww1, ww1, sp3, v + sp3) (by unfold dst; rw [if_pos hle, hsp]) w4 (fun x hx => ?_) ⟨hw1, pl3, tb3, t3, X3, ⟨k1.1, e4⟩, meR_f k2 (f4 _ (Ne.symm h3)) (f4 _ (Ne.symm h4)), k3⟩
        rw [f4 x (fun e => hx (by simp [e]))]
        exact f3 x hx
      refine t_De_advance_39 h1 rfl (fun g => ?_) (fun g => ?_)
      · have h0 : ww1 = 0 := Nat.le_zero.mp ((nI_leI (b := 0) (by omega) (by omega)).mp g)
        subst h0
        refine last w2 pl1 tb1 sp none f2 t1 d2' (by omega) ?_
        unfold sgn
        rw [if_pos rfl]
        exact (Int32.add_zero sp).symm
      · have h0 : ¬ ww1 = 0 := fun e => g (by rw [e]; decide)
        refine t_De_advance_46 h1 rfl (Nat.le_of_ble_eq_true rfl) (c_isLeft d2' (by omega) hw1 ?_)
        refine t_De_advance_54 (fun g2 => ?_) (fun g2 => t_De_advance_57 (hq0 ?_ w2 f2))
        · have hle : p1 + ww1 ≤ 8 * (z - 4) := by
            by_cases e : p1 + ww1 ≤ 8 * (z - 4)
            · exact e
            · rw [decide_eq_false e] at g2; exact absurd rfl g2
          refine t_De_advance_59 h1 rfl rfl (Nat.le_of_ble_eq_true rfl) (c_read d2' t1 hw1 hle (fun w3 pl3 tb3 f3 t3 d3 => ?_))
          obtain ⟨X3, k1, k2, k3⟩ := d3
          refine t_De_advance_80 k1 (Nat.le_of_ble_eq_true rfl) (es_w (fun w4 e4 f4 => ?_))
          refine last w4 pl3 tb3 (sp + sgn (getN r p1 ww1) ww1) _ (fun x hx => ?_) t3 ⟨X3, ⟨k1.1, ?_⟩, meR_f k2 (f4 _ (Ne.symm h3)) (f4 _ (Ne.symm h4)), k3⟩ hle rfl
          · rw [f4 x (fun e => hx (by simp [e])), f3 x hx]
            exact f2 x hx
          · rw [e4]
            unfold sgn
            rw [if_neg h0, show (32 : Int32) = nI 32 from rfl, pk_sub hw1]
            rfl
        · unfold dst
          rw [if_neg]
          intro e
          rw [decide_eq_true e] at g2
          exact absurd g2 (by decide)
    have d1' := d1
    obtain ⟨X, h1, h2, h3, h4, h5⟩ := d1
    refine t_De_advance_16 h1 rfl (fun g => ?_) (fun g => ?_)
    · refine t_De_advance_30 h1 rfl h1 (Nat.le_of_ble_eq_true rfl) (es_w (fun w2 e2 f2 => ?_))
      have hne : ¬ k % 15 = 14 := fun e => g (by rw [e]; rfl)
      rw [nI_1, show k % 15 + 1 = (k + 1) % 15 by omega] at e2
      exact fin w2 (fun x hx => by rw [f2 x (fun e => hx (by simp [e]))]; exact f1 x hx) ⟨X, ⟨h1.1, e2⟩, meR_f h2 (f2 _ (Ne.symm h3)) (f2 _ (Ne.symm h4)), h3, h4, h5⟩
    · refine t_De_advance_26 h1 (Nat.le_of_ble_eq_true rfl) (es_w (fun w2 e2 f2 => ?_))
      have he : k % 15 = 14 := (nI_eq (b := 14) (by omega) (by omega)).mp g
      refine fin w2 (fun x hx => by rw [f2 x (fun e => hx (by simp [e]))]; exact f1 x hx) ⟨X, ⟨h1.1, ?_⟩, meR_f h2 (f2 _ (Ne.symm h3)) (f2 _ (Ne.symm h4)), h3, h4, h5⟩
      rw [e2, show (k + 1) % 15 = 0 by omega]
      rfl
  have h' := h
  obtain ⟨X, h1, h2, h3, h4, h5⟩ := h
  refine t_De_advance_0 h1 rfl (fun g => ?_) (fun g => ?_)
  · have hne : ¬ k % 15 = 0 := fun e => g (by rw [e]; rfl)
    exact rest w pl tb p ww fr_refl htb hw32 h' (by unfold dhd; rw [if_neg (by omega)])
  · have he : k % 15 = 0 := (nI_eq (b := 0) (by omega) (by omega)).mp g
    refine t_De_advance_7 h1 (Nat.le_of_ble_eq_true rfl) (c_readWidth hk h' htb (fun a1 a2 w1 pl1 tb1 f1 t1 d1 => ?_) (fun hn w1 f1 => ?_))
    · refine t_De_advance_11 (fun _ => ?_) (fun g => absurd g (by decide))
      exact rest w1 pl1 tb1 (p + 4) _ f1 t1 (wd_le _) d1 (by unfold dhd; rw [if_pos (by omega), if_pos ⟨a1, a2⟩])
    · refine t_De_advance_11 (fun g => absurd rfl g) (fun _ => t_De_advance_14 (hq0 ?_ w1 f1))
      unfold dstep dhd
      simp only
      rw [if_pos (by omega), if_neg hn]
      rfl
theorem c_isAtEnd {k : Nat} {s : Dst} (h : deR w a ms rw' r z k s) (hq : Q (.inl (some (.int (b2i (decide (8 * (z - 4) - s.1 ≤ 7) && decide (getN r s.1 (8 * (z - 4) - s.1) = 0)))))) w nc ns) :
    Ev d m_De_isAtEnd 0 [some (.ref a)] [] w nc ns Q := by
  obtain ⟨p, ww, sp, v⟩ := s
  obtain ⟨hw32, pl, tb, htb, X, h1, h2, h3, h4, h5, h6, h7, h8, h9, h10⟩ := h
  simp only at *
  refine t_De_isAtEnd_0 h1 rfl rfl (fun g => t_De_isAtEnd_33 ?_) (fun g => ?_)
  · have : ¬ pl = z - 4 := fun e => g (by rw [e])
    rw [decide_eq_false (by omega), Bool.false_and] at hq
    exact hq
  · have hpl : pl = z - 4 := (nI_eq (by omega) (by omega)).mp g
    rw [decide_eq_true (by omega), Bool.true_and, show 8 * (z - 4) - p = tb by omega] at hq
    have hX : lV X % 2 ^ tb = getN r p tb := h8
    have hz : lg_cmp (X &&& (ql_shl 1 (nI tb) - 1)) 0 = 0 ↔ getN r p tb = 0 := by
      have e0 : lV (X &&& (ql_shl 1 (nI tb) - 1)) = getN r p tb := by rw [lV_low (by omega)]; exact hX
      have e1 : (X &&& (ql_shl 1 (nI tb) - 1)) = 0 ↔ getN r p tb = 0 := by
        constructor
        · intro e; rw [← e0, e]; rfl
        · intro e
          rw [← lN_lV (X &&& (ql_shl 1 (nI tb) - 1)), e0, e]
          rfl
      rw [← e1]
      unfold lg_cmp
      constructor
      · intro e
        split at e
        · exact absurd e (by decide)
        · split at e
          · assumption
          · exact absurd e (by decide)
      · intro e
        rw [e]
        decide
    refine t_De_isAtEnd_11 h1 rfl rfl (fun g2 => t_De_isAtEnd_33 ?_) (fun g2 => t_De_isAtEnd_29 ?_)
    · rw [hz] at g2
      rwa [b2i_f (by simp [g2])] at hq
    · rw [hz] at g2
      rwa [b2i_t (by simp [g2])] at hq
theorem c_De_init {v1 : Value} (hm : meR w ms rw' r z) (hz : 24 ≤ z) (hz2 : z ≤ 512) (h : wo w a 9 [.int 0, v1, .int 0, .int 0, .long 0, .int 0, .int 0, .int 0, .int 0]) (h1 : a ≠ ms) (h2 : a ≠ rw')
    (hq : ∀ w', fr [a] w w' → deR w' a ms rw' r z 0 (160, 0, 0, nI (getN r 96 32)) → Q (.inl none) w' nc ns) :
    Ev (d + 2) m_De_init 0 [some (.ref a), some (.ref ms)] [] w nc ns Q := by
  refine t_De_init_0 (Nat.le_of_ble_eq_true rfl) ?_
  refine t_De_init_4 h (Nat.le_of_ble_eq_true rfl) (es_w (fun w1 e1 f1 => ?_))
  refine t_De_init_10 rfl ⟨h.1, e1⟩ (Nat.le_of_ble_eq_true rfl) (qk_fitL _ _) (es_w (fun w2 e2 f2 => ?_))
  have fA2 : ∀ x, x ≠ a → w2 x = w x := fun x hx => by rw [f2 x hx, f1 x hx]
  have m2 := meR_f hm (fA2 _ (Ne.symm h1)) (fA2 _ (Ne.symm h2))
  refine t_De_init_15 m2.1 rfl ⟨h.1, e2⟩ (Nat.le_of_ble_eq_true rfl) (es_w (fun w3 e3 f3 => ?_))
  have m3 := meR_f m2 (f3 _ (Ne.symm h1)) (f3 _ (Ne.symm h2))
  refine t_De_init_25 rfl m3.1 (Nat.le_of_ble_eq_true rfl) (c_value (at' := 12) m3 (by omega) ?_)
  refine t_De_init_32 ⟨h.1, e3⟩ (Nat.le_of_ble_eq_true rfl) (es_w (fun w4 e4 f4 => t_De_init_35 ?_))
  rw [show (4 : Int32) = nI 4 from rfl, pk_sub (by omega)] at e4
  refine hq w4 (fun x hx => ?_) ⟨by show 0 ≤ 32; omega, 20, 0, by omega, 0, ⟨h.1, e4⟩, meR_f m3 (f4 _ (Ne.symm h1)) (f4 _ (Ne.symm h2)), h1, h2, rfl, by omega, by omega, by simp [getN], hz, hz2⟩
  have : x ≠ a := fun e => hx (by simp [e])
  rw [f4 x this, f3 x this]
  exact fA2 x this
end DeC
