/-! ===== the reference: reading a message ===== -/
theorem sgn_bits {n w i : Nat} (h0 : 0 < w) (hw : w ≤ 32) (hi : i < 32) : bt (sgn n w) i = if i < w then n.testBit i else n.testBit (w - 1) := by
  unfold sgn
  rw [if_neg (by omega)]
  have e : bt (qi_shr (qi_shl (nI n) (nI (32 - w))) (nI (32 - w))) i = if (32 - w) + i < 32 then bt (qi_shl (nI n) (nI (32 - w))) (32 - w + i) else bt (qi_shl (nI n) (nI (32 - w))) 31 := by
    show bt (qi_shl (nI n) (nI (32 - w)) >>> (nI (32 - w) &&& 31)) i = _
    rw [b_sshr (32 - w) (by omega) _ hi]
  rw [e]
  by_cases h : i < w
  · rw [if_pos (by omega), if_pos h, q_shl _ (by omega) (by omega), decide_eq_true (by omega), Bool.true_and, bt_nI _ (by omega)]
    congr 1
    omega
  · rw [if_neg (by omega), if_neg h, q_shl _ (by omega) (by omega), decide_eq_true (by omega), Bool.true_and, bt_nI _ (by omega)]
    congr 1
    omega
theorem tb_lt {n k i : Nat} (h : n < 2 ^ k) (hi : k ≤ i) : n.testBit i = false :=
  Nat.testBit_lt_two_pow (Nat.lt_of_lt_of_le h (Nat.pow_le_pow_right (by omega) hi))
theorem sgn_lo {n w : Nat} (h0 : 0 < w) (hw : w ≤ 32) (h : n < 2 ^ (w - 1)) : sgn n w = nI n := by
  refine b_ext (fun i hi => ?_)
  rw [sgn_bits h0 hw hi, bt_nI _ hi]
  split
  · rfl
  · rw [tb_lt h (Nat.le_refl _), tb_lt h (by omega)]
theorem nI_wrap {n p : Nat} (hp : p ≤ 2 ^ 32) : nI n - nI p = nI (n + (2 ^ 32 - p)) := by
  refine Int32.toBitVec_inj.mp (BitVec.eq_of_toNat_eq ?_)
  show (BitVec.ofNat 32 n - BitVec.ofNat 32 p).toNat = (BitVec.ofNat 32 (n + (2 ^ 32 - p))).toNat
  rw [BitVec.toNat_sub, BitVec.toNat_ofNat, BitVec.toNat_ofNat, BitVec.toNat_ofNat]
  omega
theorem sgn_hi {n w : Nat} (h0 : 0 < w) (hw : w ≤ 32) (h : 2 ^ (w - 1) ≤ n) (h2 : n < 2 ^ w) : sgn n w = nI n - nI (2 ^ w) := by
  have hp : 2 ^ w ≤ 2 ^ 32 := Nat.pow_le_pow_right (by omega) hw
  rw [nI_wrap hp]
  refine b_ext (fun i hi => ?_)
  rw [sgn_bits h0 hw hi, bt_nI _ hi]
  have e : n + (2 ^ 32 - 2 ^ w) = 2 ^ w * (2 ^ (32 - w) - 1) + n := by
    rw [Nat.mul_sub, ← Nat.pow_add, show w + (32 - w) = 32 by omega]
    omega
  rw [e, Nat.testBit_two_pow_mul_add _ h2]
  by_cases g : i < w
  · rw [if_pos g, if_pos g]
  · rw [if_neg g, if_neg g, Nat.testBit_two_pow_sub_one, decide_eq_true (by omega)]
    have hpw : 2 ^ w = 2 ^ (w - 1) + 2 ^ (w - 1) := by
      rw [← Nat.two_mul, ← Nat.pow_succ']
      congr 1
      omega
    have := Nat.testBit_two_pow_mul_add 1 (b := n - 2 ^ (w - 1)) (i := w - 1) (by omega) (w - 1)
    rw [show 2 ^ (w - 1) * 1 + (n - 2 ^ (w - 1)) = n by omega, if_neg (by omega), Nat.sub_self] at this
    rw [this]
    decide
theorem shl1_tab : ∀ w, w ≤ 32 → ql_shl 1 (nI w) = lN (2 ^ w) := by decide +kernel
theorem nI_z {n : Nat} (h : n < 2 ^ 32) : nI n = 0 ↔ n = 0 := by
  constructor
  · intro e
    have := congrArg vN e
    rw [vN_nI h] at this
    exact this
  · intro e; rw [e]; rfl
theorem getN_0 (r : Nat → Nat) (p : Nat) : getN r p 0 = 0 := rfl
/-- n samples can be read, and nothing is left but zeros up to the byte's end -/
def rdB (r : Nat → Nat) (e : Nat) (fv : Int32) (n : Nat) : Prop := ∃ st, dec r e fv (n - 1) = some st ∧ e - st.1 ≤ 7 ∧ getN r st.1 (e - st.1) = 0
section Mo18
variable {d : Nat} {w : qk_W} {nc ns : Nat} {Q : Option Value ⊕ Nat → qk_W → Nat → Nat → Prop} {s : Nat → Int32} {l : Nat → Int64} {R : Nat → Nat → Nat} {L : Nat → Nat} {T : Nat → Bool} {sl : Nat}
theorem c_misRead {j z n : Nat} {fv : Int32} {f0 : Nat → Int32} (ho : moO w s l) (h24 : s 24 = nI j) (h25 : s 25 = nI 160) (h27 : s 27 = nI n) (ha : arR w R) (hj : j < 64) (hz : 24 ≤ z) (hz2 : z ≤ 512) (hn1 : 1 ≤ n) (hn2 : n ≤ 32768) (hf0 : wi w (mA 31) 32768 f0)
    (hq1 : ∀ st, dec (R j) (8 * (z - 4)) fv (n - 1) = some st → 8 * (z - 4) - st.1 ≤ 7 → getN (R j) st.1 (8 * (z - 4) - st.1) = 0 → ∀ w' y f, (∀ v, v ≠ 25 → v ≠ mA 31 → w' v = w v) → moO w' (fu s 25 y) l → wi w' (mA 31) 32768 f → (∀ i, i < n → ∃ st', dec (R j) (8 * (z - 4)) fv i = some st' ∧ f i = st'.2.2.2) → Q (.inl (some (.int 1))) w' nc ns)
    (hq0 : ¬ rdB (R j) (8 * (z - 4)) fv n → ∀ w' y f, (∀ v, v ≠ 25 → v ≠ mA 31 → w' v = w v) → moO w' (fu s 25 y) l → wi w' (mA 31) 32768 f → Q (.inl (some (.int 0))) w' nc ns) :
    Ev (d + 1) m_Mo_isRead 0 [some (.ref 25), some (.int fv), some (.int (nI (8 * (z - 4)))), none, none, none, none, none] [] w nc ns Q := by
  generalize hr : R j = r at *
  generalize he : 8 * (z - 4) = e at *
  have he1 : 160 ≤ e ∧ e ≤ 4064 := by omega
  refine t_Mo_isRead_0 ho rfl hf0 (vp_in_nI (n := 0) (by omega) (by omega)) (mA_16 _) (es_w (fun w1 e1 g1 => t_Mo_isRead_7 rfl ?_))
  rw [show (0 : Int32).toNatClampNeg = 0 from rfl] at e1
  have loop : ∀ m i, i + 1 + m = n → ∀ (w2 : qk_W) (f : Nat → Int32) (p c : Nat) (sp v : Int32) (o6 o7 : Option Value), (∀ v, v ≠ 25 → v ≠ mA 31 → w2 v = w v) → moO w2 (fu s 25 (nI p)) l → wi w2 (mA 31) 32768 f → dec r e fv i = some (p, wd c, sp, v) → c ≤ 9 → p ≤ e → (∀ q, q < i + 1 → ∃ st', dec r e fv q = some st' ∧ f q = st'.2.2.2) →
      Ev (d + 1) m_Mo_isRead 15 [some (.ref 25), some (.int fv), some (.int (nI e)), some (.int sp), some (.int (nI (wd c))), some (.int (nI (i + 1))), o6, o7] [] w2 nc ns Q := by
    intro m
    induction m with
    | zero =>
      intro i hi w2 f p c sp v o6 o7 g2' o2 wf2 hd hc hp hall
      refine t_Mo_isRead_15 o2 rfl (fun _ => ?_) (fun g => absurd ?_ g)
      · have en : n - 1 = i := by omega
        refine t_Mo_isRead_163 o2 rfl (fun g => ?_) (fun g => t_Mo_isRead_174 ?_)
        · rw [fu_s, pk_sub hp] at g
          have h7 : e - p ≤ 7 := (nI_leI (b := 7) (by omega) (by omega)).mp g
          refine t_Mo_isRead_176 o2 rfl (Nat.le_of_ble_eq_true rfl) ?_
          rw [fu_s, pk_sub hp]
          refine c_mget (R := R) (j := j) o2 (by rw [fu_n _ _ (by omega)]; exact h24) (fu_s _ _ _) (arR_f ha (g2' _ (mA_25 (by omega)) (mA_ne (by omega)))) hj (by omega) (by omega) (fun w3 g3 o3 => ?_)
          rw [hr, fu_fu] at *
          have hl := getN_lt r p (e - p)
          have hl2 : getN r p (e - p) < 2 ^ 32 := Nat.lt_of_lt_of_le hl (Nat.pow_le_pow_right (by omega) (by omega))
          refine t_Mo_isRead_186 (fun g => t_Mo_isRead_195 ?_) (fun g => t_Mo_isRead_191 ?_)
          · refine hq0 ?_ w3 _ f (fun v v1 v2 => by rw [g3 v v1]; exact g2' v v1 v2) o3 (wi_f wf2 (g3 _ (mA_25 (by omega))))
            rintro ⟨st, h1, h2, h3⟩
            rw [en, hd] at h1
            cases h1
            exact g ((lz hl2).mpr h3)
          · refine hq1 _ (by rw [en]; exact hd) h7 ((lz hl2).mp g) w3 _ f (fun v v1 v2 => by rw [g3 v v1]; exact g2' v v1 v2) o3 (wi_f wf2 (g3 _ (mA_25 (by omega)))) (fun q hq => hall q (by omega))
        · rw [fu_s, pk_sub hp] at g
          refine hq0 ?_ w2 _ f g2' o2 wf2
          rintro ⟨st, h1, h2, h3⟩
          rw [en, hd] at h1
          cases h1
          exact g (nI_le (b := 7) h2 (by omega))
      · rw [fu_n _ _ (by omega), h27]
        exact nI_le (by omega) (by omega)
    | succ m ih =>
      intro i hi w2 f p c sp v o6 o7 g2' o2 wf2 hd hc hp hall
      -- it can't be read
      have no : dec r e fv (i + 1) = none → ∀ (w3 : qk_W) (y : Int32) (f3 : Nat → Int32), (∀ v, v ≠ 25 → v ≠ mA 31 → w3 v = w v) → moO w3 (fu s 25 y) l → wi w3 (mA 31) 32768 f3 → Q (.inl (some (.int 0))) w3 nc ns := by
        intro hno w3 y f3 g3 o3 wf3
        refine hq0 ?_ w3 y f3 g3 o3 wf3
        rintro ⟨st, h1, _⟩
        rw [show n - 1 = i + 1 + m by omega] at h1
        obtain ⟨s', hs'⟩ := dec_some m st h1
        rw [hno] at hs'
        cases hs'
      have hdec : dec r e fv (i + 1) = dstep r e (i + 1) (p, wd c, sp, v) := by
        rw [dec, hd]
        rfl
      -- behind the head
      have aft : ∀ (w3 : qk_W) (p3 c3 : Nat) (o6 : Option Value), dhd r e (i + 1) p (wd c) = some (p3, wd c3) → c3 ≤ 9 → p3 ≤ e → (∀ v, v ≠ 25 → v ≠ mA 31 → w3 v = w v) → moO w3 (fu s 25 (nI p3)) l → wi w3 (mA 31) 32768 f → p3 + wd c3 ≤ e →
          Ev (d + 1) m_Mo_isRead 82 [some (.ref 25), some (.int fv), some (.int (nI e)), some (.int sp), some (.int (nI (wd c3))), some (.int (nI (i + 1))), o6, o7] [] w3 nc ns Q := by
        intro w3 p3 c3 o6 hhd hc3 hp3 g3 o3 wf3 hfit
        have hwd := wd_le c3
        refine t_Mo_isRead_82 o3 (Nat.le_of_ble_eq_true rfl) (c_mget (R := R) (j := j) o3 (by rw [fu_n _ _ (by omega)]; exact h24) (fu_s _ _ _) (arR_f ha (g3 _ (mA_25 (by omega)) (mA_ne (by omega)))) hj hwd (by omega) (fun w4 g4 o4 => ?_))
        rw [hr, fu_fu] at *
        have hl := getN_lt r p3 (wd c3)
        have hl2 : getN r p3 (wd c3) < 2 ^ 32 := Nat.lt_of_lt_of_le hl (Nat.pow_le_pow_right (by omega) hwd)
        have f4 : ∀ v, v ≠ 25 → v ≠ mA 31 → w4 v = w v := fun v v1 v2 => by rw [g4 v v1]; exact g3 v v1 v2
        have wf4 := wi_f wf3 (g4 _ (mA_25 (by omega)))
        have hnew : dec r e fv (i + 1) = some (p3 + wd c3, wd c3, sp + sgn (getN r p3 (wd c3)) (wd c3), v + (sp + sgn (getN r p3 (wd c3)) (wd c3))) := by
          rw [hdec]
          unfold dstep
          show (dhd r e (i + 1) p (wd c)).bind (fun q => dst r e q sp v) = _
          rw [hhd]
          show dst r e (p3, wd c3) sp v = _
          unfold dst
          exact if_pos hfit
        -- the difference is there
        have put : ∀ (D : Int64) (o7 : Option Value), Int64.toInt32 D = sgn (getN r p3 (wd c3)) (wd c3) →
            (¬ nI (i + 1) = (1 : Int32) → Ev (d + 1) m_Mo_isRead 133 [some (.ref 25), some (.int fv), some (.int (nI e)), some (.int sp), some (.int (nI (wd c3))), some (.int (nI (i + 1))), some (.long D), none] [] w4 nc ns Q) ∧ (nI (i + 1) = (1 : Int32) → Ev (d + 1) m_Mo_isRead 127 [some (.ref 25), some (.int fv), some (.int (nI e)), some (.int sp), some (.int (nI (wd c3))), some (.int (nI (i + 1))), some (.long D), none] [] w4 nc ns Q) := by
          intro D o7 hD
          obtain ⟨stp, hst1, hst2⟩ := hall i (by omega)
          rw [hd] at hst1
          cases hst1
          have hst2 : f i = v := hst2
          have i1 : nI (i + 1) - 1 = nI i := nI_pred i
          have nx : ∀ (w5 : qk_W), w5 (mA 31) = some (.inl (.int, 32768, .inl (upd f (i + 1) (v + (sp + sgn (getN r p3 (wd c3)) (wd c3)))))) → (∀ v, v ≠ mA 31 → w5 v = w4 v) → ∀ o6 o7, Ev (d + 1) m_Mo_isRead 157 [some (.ref 25), some (.int fv), some (.int (nI e)), some (.int (sp + sgn (getN r p3 (wd c3)) (wd c3))), some (.int (nI (wd c3))), some (.int (nI (i + 1))), o6, o7] [] w5 nc ns Q := by
            intro w5 e5 g5 o6 o7
            refine t_Mo_isRead_157 rfl ?_
            rw [nI_1]
            refine ih (i + 1) (by omega) w5 _ (p3 + wd c3) c3 _ _ _ _ (fun v v1 v2 => by rw [g5 v v2]; exact f4 v v1 v2) (moO_f o4 (g5 25 (Ne.symm (mA_25 (by omega))))) e5 hnew hc3 hfit (fun q hq => ?_)
            by_cases eq : q = i + 1
            · rw [eq, pk_us]
              exact ⟨_, hnew, rfl⟩
            · rw [pk_un eq]
              exact hall q (by omega)
          constructor
          · intro _
            refine t_Mo_isRead_133 rfl o4 rfl wf4 (by rw [i1]; exact vp_in_nI (by omega) (by omega)) (vp_in_nI (by omega) (by omega)) (mA_16 _) (es_w (fun w5 e5 g5 => ?_))
            rw [i1, nI_clamp (by omega), nI_clamp (by omega), hD, hst2] at e5
            rw [hD]
            exact nx w5 e5 g5 _ _
          · intro g1'
            have hi0 : i = 0 := by
              have := (nI_eq (b := 1) (by omega) (by omega)).mp g1'
              omega
            have hsp : sp = 0 := by
              subst hi0
              have hd' : dec r e fv 0 = some (160, 0, 0, fv) := rfl
              rw [hd'] at hd
              exact (congrArg (fun q : Dst => q.2.2.1) (Option.some.inj hd)).symm
            refine t_Mo_isRead_127 rfl o4 rfl wf4 (by rw [i1]; exact vp_in_nI (by omega) (by omega)) (vp_in_nI (by omega) (by omega)) (mA_16 _) (es_w (fun w5 e5 g5 => ?_))
            rw [i1, nI_clamp (by omega), nI_clamp (by omega), hD, hst2] at e5
            rw [hD]
            have e0 : sgn (getN r p3 (wd c3)) (wd c3) = sp + sgn (getN r p3 (wd c3)) (wd c3) := by rw [hsp, Int32.zero_add]
            have := nx w5 (by rw [e5, ← e0]) g5 (some (.long D)) none
            rwa [← e0] at this
        refine t_Mo_isRead_88 rfl (fun g => ?_) (fun g => ?_)
        · have h0 : wd c3 = 0 := Nat.le_zero.mp ((nI_leI (b := 0) (by omega) (by omega)).mp g)
          have hD : Int64.toInt32 (lN (getN r p3 (wd c3))) = sgn (getN r p3 (wd c3)) (wd c3) := by
            rw [lN_i, h0]
            rfl
          have := put (lN (getN r p3 (wd c3))) none hD
          exact t_Mo_isRead_117 rfl this.1 this.2
        · have h0 : 0 < wd c3 := Nat.lt_of_not_le (fun z => g (nI_le (b := 0) z (by omega)))
          have hp1 : 2 ^ (wd c3 - 1) < 2 ^ 63 := Nat.pow_lt_pow_right (by omega) (by omega)
          have es : ql_shl 1 (nI (wd c3) - 1) = lN (2 ^ (wd c3 - 1)) := by
            rw [sub1 h0]
            exact shl1_tab _ (by omega)
          refine t_Mo_isRead_95 (fun g2 => ?_) (fun g2 => ?_)
          · rw [es] at g2
            have hlt := (lgc_lt (by omega) hp1).mp g2
            have hD : Int64.toInt32 (lN (getN r p3 (wd c3))) = sgn (getN r p3 (wd c3)) (wd c3) := by
              rw [lN_i, sgn_lo h0 hwd hlt]
            have := put (lN (getN r p3 (wd c3))) none hD
            exact t_Mo_isRead_117 rfl this.1 this.2
          · rw [es] at g2
            have hge : 2 ^ (wd c3 - 1) ≤ getN r p3 (wd c3) := Nat.le_of_not_lt (fun z => g2 ((lgc_lt (by omega) hp1).mpr z))
            have hD : Int64.toInt32 (lN (getN r p3 (wd c3)) - ql_shl 1 (nI (wd c3))) = sgn (getN r p3 (wd c3)) (wd c3) := by
              rw [shl1_tab _ hwd, Int64.toInt32_sub, lN_i, lN_i, sgn_hi h0 hwd hge hl]
            have := put (lN (getN r p3 (wd c3)) - ql_shl 1 (nI (wd c3))) none hD
            exact t_Mo_isRead_107 rfl this.1 this.2
      have tl : ∀ (w3 : qk_W) (p3 c3 : Nat), dhd r e (i + 1) p (wd c) = some (p3, wd c3) → ¬ p3 + wd c3 ≤ e → (∀ v, v ≠ 25 → v ≠ mA 31 → w3 v = w v) → moO w3 (fu s 25 (nI p3)) l → wi w3 (mA 31) 32768 f → Q (.inl (some (.int 0))) w3 nc ns := by
        intro w3 p3 c3 hhd hfit g3 o3 wf3
        refine no ?_ w3 _ f g3 o3 wf3
        rw [hdec]
        unfold dstep
        show (dhd r e (i + 1) p (wd c)).bind (fun q => dst r e q sp v) = _
        rw [hhd]
        show dst r e (p3, wd c3) sp v = _
        unfold dst
        exact if_neg hfit
      refine t_Mo_isRead_15 o2 rfl (fun g => ?_) (fun _ => ?_)
      · rw [fu_n _ _ (by omega), h27] at g
        exact absurd ((nI_leI (by omega) (by omega)).mp g) (by omega)
      have erem : qi_rem (nI (i + 1)) 15 = nI ((i + 1) % 15) := rem_nI (b := 15) (by omega) (by omega) (by omega)
      have hwc := wd_le c
      refine t_Mo_isRead_24 (fun g => ?_) (fun g => ?_)
      · rw [erem] at g
        have hne : ¬ (i + 1) % 15 = 1 := fun z => g (by rw [z]; rfl)
        have hhd : dhd r e (i + 1) p (wd c) = some (p, wd c) := by unfold dhd; rw [if_neg hne]
        refine t_Mo_isRead_69 o2 rfl (fun g2 => ?_) (fun g2 => t_Mo_isRead_80 ?_)
        · rw [fu_s, nI_add] at g2
          exact aft w2 p c _ hhd hc hp g2' o2 wf2 ((nI_leI (by omega) (by omega)).mp g2)
        · rw [fu_s, nI_add] at g2
          exact tl w2 p c hhd (fun z => g2 (nI_le z (by omega))) g2' o2 wf2
      · rw [erem] at g
        have heq : (i + 1) % 15 = 1 := (nI_eq (b := 1) (by omega) (by omega)).mp g
        refine t_Mo_isRead_33 o2 rfl (fun g2 => ?_) (fun g2 => t_Mo_isRead_43 ?_)
        · rw [fu_s, show (4 : Int32) = nI 4 from rfl, nI_add] at g2
          have h4 : p + 4 ≤ e := (nI_leI (by omega) (by omega)).mp g2
          refine t_Mo_isRead_45 o2 (Nat.le_of_ble_eq_true rfl) (c_mget (n := 4) (R := R) (j := j) o2 (by rw [fu_n _ _ (by omega)]; exact h24) (fu_s _ _ _) (arR_f ha (g2' _ (mA_25 (by omega)) (mA_ne (by omega)))) hj (by omega) (by omega) (fun w3 g3 o3 => ?_))
          rw [hr, fu_fu] at *
          have hl := getN_lt r p 4
          have f3 : ∀ v, v ≠ 25 → v ≠ mA 31 → w3 v = w v := fun v v1 v2 => by rw [g3 v v1]; exact g2' v v1 v2
          have wf3 := wi_f wf2 (g3 _ (mA_25 (by omega)))
          refine t_Mo_isRead_50 rfl (fun g4 => ?_) (fun g4 => t_Mo_isRead_60 ?_)
          · rw [lN_i] at g4 ⊢
            have h9 : getN r p 4 ≤ 9 := (nI_leI (b := 9) (by omega) (by omega)).mp g4
            have hhd : dhd r e (i + 1) p (wd c) = some (p + 4, wd (getN r p 4)) := by unfold dhd; rw [if_pos heq, if_pos ⟨h4, h9⟩]
            have hwg := wd_le (getN r p 4)
            refine t_Mo_isRead_62 (Nat.le_of_ble_eq_true rfl) (c_widthOf h9 (t_Mo_isRead_67 rfl o3 rfl (fun g5 => ?_) (fun g5 => t_Mo_isRead_80 ?_)))
            · rw [fu_s, nI_add] at g5
              exact aft w3 (p + 4) (getN r p 4) _ hhd h9 (by omega) f3 o3 wf3 ((nI_leI (by omega) (by omega)).mp g5)
            · rw [fu_s, nI_add] at g5
              exact tl w3 (p + 4) (getN r p 4) hhd (fun z => g5 (nI_le z (by omega))) f3 o3 wf3
          · rw [lN_i] at g4
            refine no ?_ w3 _ f f3 o3 wf3
            rw [hdec]
            unfold dstep dhd
            show (if (i + 1) % 15 = 1 then (if p + 4 ≤ e ∧ getN r p 4 ≤ 9 then some (p + 4, wd (getN r p 4)) else none) else some (p, wd c)).bind (fun q => dst r e q sp v) = none
            rw [if_pos heq, if_neg (fun z => g4 (nI_le (b := 9) z.2 (by omega)))]
            rfl
        · rw [fu_s, show (4 : Int32) = nI 4 from rfl, nI_add] at g2
          refine no ?_ w2 _ f g2' o2 wf2
          rw [hdec]
          unfold dstep dhd
          show (if (i + 1) % 15 = 1 then (if p + 4 ≤ e ∧ getN r p 4 ≤ 9 then some (p + 4, wd (getN r p 4)) else none) else some (p, wd c)).bind (fun q => dst r e q sp v) = none
          rw [if_pos heq, if_neg (fun z => g2 (nI_le z.1 (by omega)))]
          rfl
  have es : s = fu s 25 (nI 160) := by
    funext k
    by_cases ek : k = 25
    · rw [ek, fu_s, h25]
    · rw [fu_n _ _ ek]
  have o1 : moO w1 (fu s 25 (nI 160)) l := by rw [← es]; exact moO_f ho (g1 25 (Ne.symm (mA_25 (by omega))))
  refine loop (n - 1) 0 (by omega) w1 _ 160 0 0 fv _ _ (fun v v1 v2 => g1 v v2) o1 e1 rfl (by omega) he1.1 (fun q hq => ?_)
  rw [show q = 0 by omega, pk_us]
  exact ⟨_, rfl, rfl⟩
end Mo18
