/-! ===== the reference: asked numbers, bits that are read ===== -/
def akR (w : qk_W) (X : Nat → Chs) : Prop := ∃ f, wz w (mA 12) 131072 f ∧ ∀ c, c < 4 → ∀ a, a < 32768 → f (32768 * c + a) = b2i (xA (X c) a)
theorem akR_f {w w' : qk_W} {X : Nat → Chs} (h : akR w X) (e : w' (mA 12) = w (mA 12)) : akR w' X := by
  obtain ⟨f, h1, h2⟩ := h
  exact ⟨f, wz_f h1 e, h2⟩
section Mo10
variable {d : Nat} {w : qk_W} {nc ns : Nat} {Q : Option Value ⊕ Nat → qk_W → Nat → Nat → Prop} {s : Nat → Int32} {l : Nat → Int64} {X : Nat → Chs} {R : Nat → Nat → Nat}
theorem c_mleastAsked {c : Nat} (ho : moO w s l) (h : akR w X) (hc : c < 4) (hq : Q (.inl (some (.int (nI (laX (X c)))))) w nc ns) :
    Ev d m_Mo_leastAsked 0 [some (.ref 25), some (.int (nI c)), none] [] w nc ns Q := by
  obtain ⟨f, h1, h2⟩ := h
  refine t_Mo_leastAsked_0 rfl ?_
  have key : ∀ m i, i + m = 32768 → (∀ k, k < i → xA (X c) k = false) → Ev d m_Mo_leastAsked 2 [some (.ref 25), some (.int (nI c)), some (.int (nI i))] [] w nc ns Q := by
    intro m
    induction m with
    | zero =>
      intro i hi hk
      refine t_Mo_leastAsked_2 (fun _ => t_Mo_leastAsked_28 ?_) (fun x => absurd (nI_le (a := 32768) (by omega) (by omega)) x)
      unfold laX at hq
      rw [nxt_eq (n := i) (by omega) (by omega) (fun k _ b => by rw [hk k b]; rfl) (fun e => absurd e (by omega))] at hq
      exact hq
    | succ m ih =>
      intro i hi hk
      refine t_Mo_leastAsked_2 (fun x => absurd ((nI_leI (a := 32768) (by omega) (by omega)).mp x) (by omega)) (fun _ => ?_)
      refine t_Mo_leastAsked_8 ho rfl h1 (by rw [ix_nI]; exact vp_in_nI (by omega) (by omega)) (fun x => t_Mo_leastAsked_28 ?_) (fun x => t_Mo_leastAsked_22 rfl ?_)
      · rw [ix_nI, nI_clamp (by omega), h2 c hc i (by omega)] at x
        have hb : xA (X c) i = true := by
          cases hb : xA (X c) i with
          | true => rfl
          | false => rw [hb] at x; exact absurd rfl x
        unfold laX at hq
        rw [nxt_eq (n := i) (by omega) (by omega) (fun k _ b => by rw [hk k b]; rfl) (fun _ => by rw [hb]; rfl)] at hq
        exact hq
      · rw [ix_nI, nI_clamp (by omega), h2 c hc i (by omega)] at x
        have hb : xA (X c) i = false := by
          cases hb : xA (X c) i with
          | false => rfl
          | true => rw [hb] at x; exact absurd x (by decide)
        rw [nI_1]
        refine ih (i + 1) (by omega) (fun k b => ?_)
        by_cases e : k = i
        · rw [e]; exact hb
        · exact hk k (by omega)
  exact key 32768 0 (by omega) (fun k b => absurd b (by omega))
theorem c_munask {c fm to : Nat} (ho : moO w s l) (h : akR w X) (hc : c < 4) (hft : fm < to) (hto : to ≤ 32768)
    (hq : ∀ w', (∀ v, v ≠ mA 12 → w' v = w v) → akR w' (fu X c (setA (X c) (delR (xA (X c)) fm (to - 1)))) → Q (.inl none) w' nc ns) :
    Ev d m_Mo_unask 0 [some (.ref 25), some (.int (nI c)), some (.int (nI fm)), some (.int (nI to)), none] [] w nc ns Q := by
  obtain ⟨f, h1, h2⟩ := h
  refine t_Mo_unask_0 rfl ?_
  have key : ∀ m i, i + m = to → fm ≤ i → ∀ w1 g, (∀ v, v ≠ mA 12 → w1 v = w v) → wz w1 (mA 12) 131072 g → (∀ q, q < 131072 → g q = if 32768 * c + fm ≤ q ∧ q < 32768 * c + i then 0 else f q) →
      Ev d m_Mo_unask 3 [some (.ref 25), some (.int (nI c)), some (.int (nI fm)), some (.int (nI to)), some (.int (nI i))] [] w1 nc ns Q := by
    intro m
    induction m with
    | zero =>
      intro i hi hfi w1 g g1 z1 hg
      have ei : i = to := by omega
      subst ei
      refine t_Mo_unask_3 (fun _ => t_Mo_unask_28 (hq w1 g1 ⟨g, z1, fun c' hc' a ha => ?_⟩)) (fun x => absurd (nI_le (by omega) (by omega)) x)
      rw [hg _ (by omega)]
      by_cases e : c' = c
      · subst e
        rw [fu_s, h2 c' hc a ha]
        show _ = b2i (delR (xA (X c')) fm (i - 1) a)
        unfold delR
        by_cases e2 : fm ≤ a ∧ a < i
        · rw [if_pos (by omega), decide_eq_true e2.1, decide_eq_true (show a ≤ i - 1 by omega)]
          cases xA (X c') a <;> rfl
        · rw [if_neg (by omega)]
          congr 1
          by_cases e3 : fm ≤ a
          · rw [decide_eq_false (show ¬ a ≤ i - 1 by omega)]; simp
          · rw [decide_eq_false e3]; simp
      · rw [fu_n _ _ e, if_neg (by omega)]
        exact h2 c' hc' a ha
    | succ m ih =>
      intro i hi hfi w1 g g1 z1 hg
      refine t_Mo_unask_3 (fun x => absurd ((nI_leI (by omega) (by omega)).mp x) (by omega)) (fun _ => ?_)
      refine t_Mo_unask_9 (moO_f ho (g1 25 (Ne.symm (mA_25 (by omega))))) rfl z1 (by rw [ix_nI]; exact vp_in_nI (by omega) (by omega)) (es_w (fun w2 e2 g2 => t_Mo_unask_22 rfl ?_))
      rw [ix_nI, nI_clamp (by omega)] at e2
      rw [nI_1]
      refine ih (i + 1) (by omega) (by omega) w2 _ (fun v hv => by rw [g2 v hv]; exact g1 v hv) ⟨mA_16 _, e2⟩ (fun q hq2 => ?_)
      by_cases e : q = 32768 * c + i
      · rw [e, pk_us, if_pos (by omega)]
      · rw [pk_un e, hg q hq2]
        by_cases e2 : 32768 * c + fm ≤ q ∧ q < 32768 * c + i
        · rw [if_pos e2, if_pos (by omega)]
        · rw [if_neg e2, if_neg (by omega)]
  exact key (to - fm) fm (by omega) (Nat.le_refl _) w f (fun _ _ => rfl) h1 (fun q _ => by rw [if_neg (by omega)])
theorem c_mget {j n b : Nat} (ho : moO w s l) (h24 : s 24 = nI j) (h25 : s 25 = nI b) (ha : arR w R) (hj : j < 64) (hn : n ≤ 32) (hb : b + n ≤ 4096)
    (hq : ∀ w', (∀ v, v ≠ 25 → w' v = w v) → moO w' (fu s 25 (nI (b + n))) l → Q (.inl (some (.long (lN (getN (R j) b n))))) w' nc ns) :
    Ev d m_Mo_get 0 [some (.ref 25), some (.int (nI n)), none, none, none] [] w nc ns Q := by
  obtain ⟨f, a1, a2, a3⟩ := ha
  refine t_Mo_get_0 rfl ?_
  have key : ∀ m k, k + m = n → ∀ w1 o3, (∀ v, v ≠ 25 → w1 v = w v) → moO w1 (fu s 25 (nI (b + k))) l →
      Ev d m_Mo_get 5 [some (.ref 25), some (.int (nI n)), some (.long (lN (getN (R j) b k))), o3, some (.int (nI k))] [] w1 nc ns Q := by
    intro m
    induction m with
    | zero =>
      intro k hk w1 o3 g1 o1
      have ek : k = n := by omega
      subst ek
      exact t_Mo_get_5 (fun _ => t_Mo_get_69 (hq w1 g1 o1)) (fun x => absurd (nI_le (by omega) (by omega)) x)
    | succ m ih =>
      intro k hk w1 o3 g1 o1
      refine t_Mo_get_5 (fun x => absurd ((nI_leI (by omega) (by omega)).mp x) (by omega)) (fun _ => ?_)
      have e24 : fu s 25 (nI (b + k)) 24 = nI j := by rw [fu_n _ _ (by omega)]; exact h24
      have e25 : fu s 25 (nI (b + k)) 25 = nI (b + k) := fu_s _ _ _
      have eix : (512 : Int32) * fu s 25 (nI (b + k)) 24 + fu s 25 (nI (b + k)) 25 / 8 = nI (512 * j + (b + k) / 8) := by rw [e24, e25, show nI (b + k) / 8 = nI ((b + k) / 8) from pk_div (d := 8) (by omega) (by omega) (by omega), ix512]
      have erm : (7 : Int32) - qi_rem (fu s 25 (nI (b + k)) 25) 8 = nI (7 - (b + k) % 8) := by rw [e25, show qi_rem (nI (b + k)) 8 = nI ((b + k) % 8) from rem_nI (b := 8) (by omega) (by omega) (by omega), show (7 : Int32) = nI 7 from rfl, pk_sub (by omega)]
      refine t_Mo_get_11 o1 rfl rfl rfl (wb_f a1 (g1 _ (mA_25 (by omega)))) (by rw [eix]; exact vp_in_nI (by omega) (by omega)) rfl (Nat.le_of_ble_eq_true rfl) ?_
      have hbit : (qi_shr (f ((512 : Int32) * fu s 25 (nI (b + k)) 24 + fu s 25 (nI (b + k)) 25 / 8).toNatClampNeg) ((7 : Int32) - qi_rem (fu s 25 (nI (b + k)) 25) 8) &&& 1) = nI (rbit (R j) (b + k)).toNat := by
        rw [eix, erm, nI_clamp (by omega), a2 j hj _ (by omega)]
        apply b_ext
        intro i hi
        rw [b_and, bt_1]
        by_cases e : i = 0
        · subst e
          rw [bt_shr0 _ (by omega), bt_nB _ (by omega), if_pos (by omega)]
          have : (R j ((b + k) / 8)).testBit (7 - (b + k) % 8) = rbit (R j) (b + k) := rfl
          rw [this]
          cases rbit (R j) (b + k) <;> decide
        · rw [decide_eq_false e, Bool.and_false, bt_nI _ hi]
          cases rbit (R j) (b + k)
          · exact (Nat.zero_testBit i).symm
          · show false = (1 : Nat).testBit i
            exact (Bool.eq_false_iff.mpr (fun x => e (Nat.testBit_one_eq_true_iff_self_eq_zero.mp x))).symm
      have hlt := getN_lt (R j) b k
      rw [hbit, nI_l (by have := Bool.toNat_le (rbit (R j) (b + k)); omega), show (2 : Int64) = lN 2 from rfl, lN_mul, lN_add, show 2 * getN (R j) b k + (rbit (R j) (b + k)).toNat = getN (R j) b (k + 1) from rfl]
      refine es_w (fun w2 e2 g2 => t_Mo_get_63 rfl ?_)
      rw [show fu s 25 (nI (b + k)) 25 = nI (b + k) from e25, nI_1, moL_25, fu_fu] at e2
      rw [nI_1]
      exact ih (k + 1) (by omega) w2 _ (fun v hv => by rw [g2 v hv]; exact g1 v hv) ⟨by decide, e2⟩
  refine key n 0 (by omega) w _ (fun _ _ => rfl) ?_
  have : fu s 25 (nI (b + 0)) = s := by
    funext k
    by_cases e : k = 25
    · rw [e, fu_s, h25]
      rfl
    · exact fu_n _ _ e
  rw [this]
  exact ho
end Mo10
