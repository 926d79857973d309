/-! ===== the reference: its air ===== -/
def arR (w : qk_W) (R : Nat → Nat → Nat) : Prop := ∃ f, wb w (mA 14) 32768 f ∧ (∀ j, j < 64 → ∀ k, k < 512 → f (512 * j + k) = nB (R j k)) ∧ ∀ j k, R j k < 256
theorem arR_f {w w' : qk_W} {R : Nat → Nat → Nat} (h : arR w R) (e : w' (mA 14) = w (mA 14)) : arR w' R := by
  obtain ⟨f, h1, h2⟩ := h
  exact ⟨f, wb_f h1 e, h2⟩
theorem and1_eq (x y : Int32) : (x &&& 1) = (y &&& 1) ↔ bt x 0 = bt y 0 := by
  constructor
  · intro h
    have := congrArg (fun z => bt z 0) h
    simp only [b_and, bt_1] at this
    simpa using this
  · intro h
    apply b_ext
    intro i hi
    rw [b_and, b_and, bt_1]
    by_cases e : i = 0
    · subst e; rw [h]
    · simp [e]
theorem bt_shr0 (x : Int32) {k : Nat} (hk : k < 32) : bt (qi_shr x (nI k)) 0 = bt x k := by
  have := b_sshr k hk x (i := 0) (by omega)
  rw [if_pos (by omega)] at this
  exact this
theorem bt_one (x : Int32) {k m i : Nat} (hk : k < 32) (hm : m < 8) (hi : i < 32) : bt (qi_shl ((qi_shr x (nI k)) &&& 1) (nI m)) i = (decide (i = m) && bt x k) := by
  rw [q_shl _ (by omega) hi, b_and, bt_1]
  by_cases e : i = m
  · subst e
    rw [decide_eq_true (Nat.le_refl _), Nat.sub_self, bt_shr0 x hk]
    simp
  · by_cases e2 : m ≤ i
    · rw [decide_eq_false (show ¬ i - m = 0 by omega), decide_eq_false e]; simp
    · rw [decide_eq_false e2, decide_eq_false e]; rfl
theorem moL_25 {s : Nat → Int32} {l : Nat → Int64} {x : Int32} : (moL s l).set 25 (.int x) = moL (fu s 25 x) l := by
  first
    | rfl
    | simp [moL, fu]
theorem moL_24 {s : Nat → Int32} {l : Nat → Int64} {x : Int32} : (moL s l).set 24 (.int x) = moL (fu s 24 x) l := by
  first
    | rfl
    | simp [moL, fu]
theorem moL_17 {s : Nat → Int32} {l : Nat → Int64} {x : Int32} : (moL s l).set 17 (.int x) = moL (fu s 17 x) l := by
  first
    | rfl
    | simp [moL, fu]
theorem moL_0 {s : Nat → Int32} {l : Nat → Int64} {x : Int32} : (moL s l).set 0 (.int x) = moL (fu s 0 x) l := by
  first
    | rfl
    | simp [moL, fu]
section Mo5
variable {d : Nat} {w : qk_W} {nc ns : Nat} {Q : Option Value ⊕ Nat → qk_W → Nat → Nat → Prop} {s : Nat → Int32} {l : Nat → Int64} {R : Nat → Nat → Nat}
theorem ix512 {j k : Nat} : (512 : Int32) * nI j + nI k = nI (512 * j + k) := by
  rw [show (512 : Int32) = nI 512 from rfl, pk_mul, nI_add]
theorem c_mcheck {j n : Nat} (ho : moO w s l) (h : arR w R) (hj : j < 64) (hn : n ≤ 512) (hq : Q (.inl (some (.int (crcV (R j) n)))) w nc ns) :
    Ev d m_Mo_check 0 [some (.ref 25), some (.int (nI j)), some (.int (nI n)), none, none, none, none] [] w nc ns Q := by
  obtain ⟨f, h1, h2, h3⟩ := h
  refine t_Mo_check_0 rfl ?_
  have key : ∀ m k, k + m = n → ∀ o5 o6, Ev d m_Mo_check 5 [some (.ref 25), some (.int (nI j)), some (.int (nI n)), some (.int (crc (R j) k)), some (.int (nI k)), o5, o6] [] w nc ns Q := by
    intro m
    induction m with
    | zero =>
      intro k hk o5 o6
      refine t_Mo_check_5 (fun _ => t_Mo_check_82 ?_) (fun g => absurd (nI_le (by omega) (by omega)) g)
      rw [show k = n by omega]
      exact hq
    | succ m ih =>
      intro k hk o5 o6
      refine t_Mo_check_5 (fun g => absurd ((nI_leI (by omega) (by omega)).mp g) (by omega)) (fun _ => t_Mo_check_11 rfl ?_)
      have inner : ∀ u i, i + u = 8 → ∀ o6, Ev d m_Mo_check 14 [some (.ref 25), some (.int (nI j)), some (.int (nI n)), some (.int (cbyte (crc (R j) k) (R j k) i)), some (.int (nI k)), some (.int (nI i)), o6] [] w nc ns Q := by
        intro u
        induction u with
        | zero =>
          intro i hi o6
          refine t_Mo_check_14 (fun _ => t_Mo_check_76 rfl ?_) (fun g => absurd (nI_le (a := 8) (by omega) (by omega)) g)
          rw [show i = 8 by omega, nI_1]
          exact ih (k + 1) (by omega) _ _
        | succ u ihu =>
          intro i hi o6
          refine t_Mo_check_14 (fun g => absurd ((nI_leI (a := 8) (by omega) (by omega)).mp g) (by omega)) (fun _ => ?_)
          have eb : bt (qi_shr (f ((512 : Int32) * nI j + nI k).toNatClampNeg) (nI i)) 0 = (R j k).testBit i := by
            rw [ix512, nI_clamp (by omega), h2 j hj k (by omega), bt_shr0 _ (by omega), bt_nB _ (by omega), if_pos (by omega)]
          refine t_Mo_check_21 ho rfl h1 (by rw [ix512]; exact vp_in_nI (by omega) (by omega)) (fun g => ?_) (fun g => ?_)
          · rw [and1_eq, eb] at g
            refine t_Mo_check_49 rfl rfl (fun _ => t_Mo_check_68 rfl rfl ?_) (fun g => absurd rfl g)
            have : qi_ushr (cbyte (crc (R j) k) (R j k) i) 1 = cbyte (crc (R j) k) (R j k) (i + 1) := by
              rw [cbyte, cbit, g]
              simp
            rw [nI_1, this]
            exact ihu (i + 1) (by omega) _
          · rw [and1_eq, eb] at g
            refine t_Mo_check_45 rfl rfl (fun g => absurd g (by decide)) (fun _ => t_Mo_check_61 rfl rfl ?_)
            have : qi_ushr (cbyte (crc (R j) k) (R j k) i) 1 ^^^ (-306674912) = cbyte (crc (R j) k) (R j k) (i + 1) := by
              rw [cbyte, cbit, if_pos]
              cases h1 : bt (cbyte (crc (R j) k) (R j k) i) 0 <;> cases h2 : (R j k).testBit i <;> simp [h1, h2] at g ⊢
            rw [nI_1, this]
            exact ihu (i + 1) (by omega) _
      exact inner 8 0 (by omega) _
  exact key n 0 (by omega) _ _
/-- bits are put behind what is there; s 24 is the row, s 25 the place -/
theorem c_mput {j n : Nat} {x : Int32} (w0 : qk_W) (s0 : Nat → Int32) (st0 : Strm) (hj : j < 64) (hn : n ≤ 32) (hb : st0.1 + n ≤ 4096) (hok : sOK st0)
    (hq : ∀ w' R', (∀ v, v ≠ 25 → v ≠ mA 14 → w' v = w0 v) → moO w' (fu s0 25 (nI (st0.1 + n))) l → arR w' R' → (∀ i, i ≠ j → R' i = R i) → (∀ p, p < 4096 → rbit (R' j) p = (app st0 (vN x) n).2 p) → Q (.inl none) w' nc ns)
    (h24 : s0 24 = nI j) :
    ∀ m, m ≤ n → ∀ w1 R1 o4, (∀ v, v ≠ 25 → v ≠ mA 14 → w1 v = w0 v) → moO w1 (fu s0 25 (nI (st0.1 + (n - m)))) l → arR w1 R1 → (∀ i, i ≠ j → R1 i = R i) → (∀ p, p < 4096 → rbit (R1 j) p = (app st0 (vN x / 2 ^ m) (n - m)).2 p) →
    Ev d m_Mo_put 4 [some (.ref 25), some (.int x), some (.int (nI n)), some (.int (nI m + (-1))), o4] [] w1 nc ns Q := by
  intro m
  induction m with
  | zero =>
    intro hm w1 R1 o4 f1 o1 a1 hR hp
    refine t_Mo_put_4 (fun _ => t_Mo_put_74 (hq w1 R1 f1 o1 a1 hR (by simpa using hp))) (fun g => absurd (by decide) g)
  | succ m ih =>
    intro hm w1 R1 o4 f1 o1 a1 hR hp
    rw [pk_m1]
    refine t_Mo_put_4 (fun g => absurd g (nI_pos (by omega))) (fun _ => ?_)
    have a1' := a1
    obtain ⟨f, k1, k2, k3⟩ := a1
    generalize hB : st0.1 + (n - (m + 1)) = B at *
    have e24 : fu s0 25 (nI B) 24 = nI j := by rw [fu_n _ _ (by omega)]; exact h24
    have e25 : fu s0 25 (nI B) 25 = nI B := fu_s _ _ _
    have eix : (512 : Int32) * fu s0 25 (nI B) 24 + fu s0 25 (nI B) 25 / 8 = nI (512 * j + B / 8) := by rw [e24, e25, show nI B / 8 = nI (B / 8) from pk_div (d := 8) (by omega) (by omega) (by omega), ix512]
    have erm : (7 : Int32) - qi_rem (fu s0 25 (nI B) 25) 8 = nI (7 - B % 8) := by rw [e25, show qi_rem (nI B) 8 = nI (B % 8) from rem_nI (b := 8) (by omega) (by omega) (by omega), show (7 : Int32) = nI 7 from rfl, pk_sub (by omega)]
    refine t_Mo_put_8 o1 rfl rfl rfl rfl k1 (by rw [eix]; exact vp_in_nI (by omega) (by omega)) ?_
    rw [eix, erm, nI_clamp (by omega), b8_b8, b8_nB, k2 j hj (B / 8) (by omega)]
    generalize hY : (nB (R1 j (B / 8)) ||| qi_shl (qi_shr x (nI m) &&& 1) (nI (7 - B % 8))) = Y
    refine es_w (fun w2 e2 g2 => ?_)
    have o2 := moO_f o1 (g2 25 (by decide))
    refine t_Mo_put_58 o2 rfl (Nat.le_of_ble_eq_true rfl) (es_w (fun w3 e3 g3 => ?_))
    rw [show fu s0 25 (nI B) 25 = nI B from e25, nI_1, moL_25, fu_fu] at e3
    refine t_Mo_put_68 rfl ?_
    refine ih (by omega) w3 (fu R1 j (fu (R1 j) (B / 8) (vN Y % 256))) _ (fun v h1 h2 => by rw [g3 v h1, g2 v h2]; exact f1 v h1 h2) ⟨by decide, by rw [show st0.1 + (n - m) = B + 1 by omega]; exact e3⟩ ⟨_, ⟨k1.1, (g3 _ (by decide)).trans e2⟩, fun i hi k hk => ?_, fun i k => ?_⟩ (fun i hi => by rw [fu_n _ _ hi]; exact hR i hi) (fun p hp4 => ?_)
    · by_cases e : i = j
      · subst e
        rw [fu_s]
        by_cases e' : k = B / 8
        · subst e'; rw [pk_us, fu_s]
        · rw [pk_un (by omega), fu_n _ _ e']; exact k2 i hi k hk
      · rw [fu_n _ _ e, pk_un (by omega)]; exact k2 i hi k hk
    · by_cases e : i = j
      · subst e
        rw [fu_s]
        by_cases e' : k = B / 8
        · subst e'; rw [fu_s]; exact Nat.mod_lt _ (by omega)
        · rw [fu_n _ _ e']; exact k3 i k
      · rw [fu_n _ _ e]; exact k3 i k
    · rw [fu_s]
      have e1 : rbit (fu (R1 j) (B / 8) (vN Y % 256)) p = if p / 8 = B / 8 then bt Y (7 - p % 8) else rbit (R1 j) p := rbit_upd (R1 j) (B / 8) Y p
      rw [e1]
      have happ := app_app (st := st0) (v := vN x / 2 ^ m) (w1 := n - (m + 1)) (w2 := 1)
      rw [Nat.div_div_eq_div_mul, ← Nat.pow_add, show n - (m + 1) + 1 = n - m by omega] at happ
      rw [← happ]
      have hst1 : (app st0 (vN x / 2 ^ (m + 1)) (n - (m + 1))).1 = B := by rw [← hB]; rfl
      show _ = (if (app st0 (vN x / 2 ^ (m + 1)) (n - (m + 1))).1 ≤ p ∧ p < (app st0 (vN x / 2 ^ (m + 1)) (n - (m + 1))).1 + 1 then (vN x / 2 ^ m).testBit ((app st0 (vN x / 2 ^ (m + 1)) (n - (m + 1))).1 + 1 - 1 - p) else (app st0 (vN x / 2 ^ (m + 1)) (n - (m + 1))).2 p)
      rw [hst1]
      have hold := hp p hp4
      have hokB := app_ok hok (vN x / 2 ^ (m + 1)) (n - (m + 1))
      by_cases e8 : p / 8 = B / 8
      · rw [if_pos e8, ← hY, b_or, bt_nB _ (by omega), if_pos (by omega), bt_one x (by omega) (by omega) (by omega)]
        have hrb : (R1 j (B / 8)).testBit (7 - p % 8) = rbit (R1 j) p := by unfold rbit; rw [e8]
        rw [hrb, hold]
        by_cases ep : p = B
        · subst ep
          rw [if_pos (by omega), hokB p (by rw [hst1]; exact Nat.le_refl _), decide_eq_true rfl, Bool.true_and, Bool.false_or, Nat.testBit_div_two_pow, bt_vN]
          congr 1
          omega
        · rw [if_neg (by omega), decide_eq_false (by omega), Bool.false_and, Bool.or_false]
      · rw [if_neg e8, if_neg (by omega), hold]
end Mo5
