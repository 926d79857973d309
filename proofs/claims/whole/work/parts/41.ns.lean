/-! ===== worlds: what a write changes ===== -/
theorem wo_s {w : qk_W} {a ci : Nat} {fs : List Value} (h : 16 ≤ a) : wo (qk_set w a (.inr (ci, fs))) a ci fs := ⟨h, qk_set_eq _ _ _⟩
theorem wi_s {w : qk_W} {a n : Nat} {f : Nat → Int32} : wi (qk_set w a (.inl (.int, n, .inl f))) a n f := qk_set_eq _ _ _
theorem wb_s {w : qk_W} {a n : Nat} {f : Nat → Int32} (h : 16 ≤ a) : wb (qk_set w a (.inl (.byte, n, .inl f))) a n f := ⟨h, qk_set_eq _ _ _⟩
theorem wz_s {w : qk_W} {a n : Nat} {f : Nat → Int32} (h : 16 ≤ a) : wz (qk_set w a (.inl (.boolean, n, .inl f))) a n f := ⟨h, qk_set_eq _ _ _⟩
theorem wl_s {w : qk_W} {a n : Nat} {f : Nat → Int64} (h : 16 ≤ a) : wl (qk_set w a (.inl (.long, n, .inr (.inl f)))) a n f := ⟨h, qk_set_eq _ _ _⟩
theorem wr_s {C : String} {w : qk_W} {a n : Nat} {f : Nat → Option Nat} (h : 16 ≤ a) : wr C (qk_set w a (.inl (.object C, n, .inr (.inr (.inr (.inr f)))))) a n f := ⟨h, qk_set_eq _ _ _⟩
theorem wo_f {w w' : qk_W} {a ci : Nat} {fs : List Value} (h : wo w a ci fs) (e : w' a = w a) : wo w' a ci fs := ⟨h.1, e.trans h.2⟩
theorem wi_f {w w' : qk_W} {a n : Nat} {f : Nat → Int32} (h : wi w a n f) (e : w' a = w a) : wi w' a n f := e.trans h
theorem wb_f {w w' : qk_W} {a n : Nat} {f : Nat → Int32} (h : wb w a n f) (e : w' a = w a) : wb w' a n f := ⟨h.1, e.trans h.2⟩
theorem wz_f {w w' : qk_W} {a n : Nat} {f : Nat → Int32} (h : wz w a n f) (e : w' a = w a) : wz w' a n f := ⟨h.1, e.trans h.2⟩
theorem wl_f {w w' : qk_W} {a n : Nat} {f : Nat → Int64} (h : wl w a n f) (e : w' a = w a) : wl w' a n f := ⟨h.1, e.trans h.2⟩
theorem wr_f {C : String} {w w' : qk_W} {a n : Nat} {f : Nat → Option Nat} (h : wr C w a n f) (e : w' a = w a) : wr C w' a n f := ⟨h.1, e.trans h.2⟩
theorem wo_n {w : qk_W} {a b ci : Nat} {fs : List Value} {x : qk_C} (h : wo w a ci fs) (e : a ≠ b) : wo (qk_set w b x) a ci fs := wo_f h (qk_set_ne e)
theorem wi_n {w : qk_W} {a b n : Nat} {f : Nat → Int32} {x : qk_C} (h : wi w a n f) (e : a ≠ b) : wi (qk_set w b x) a n f := wi_f h (qk_set_ne e)
theorem wb_n {w : qk_W} {a b n : Nat} {f : Nat → Int32} {x : qk_C} (h : wb w a n f) (e : a ≠ b) : wb (qk_set w b x) a n f := wb_f h (qk_set_ne e)
theorem wz_n {w : qk_W} {a b n : Nat} {f : Nat → Int32} {x : qk_C} (h : wz w a n f) (e : a ≠ b) : wz (qk_set w b x) a n f := wz_f h (qk_set_ne e)
theorem wl_n {w : qk_W} {a b n : Nat} {f : Nat → Int64} {x : qk_C} (h : wl w a n f) (e : a ≠ b) : wl (qk_set w b x) a n f := wl_f h (qk_set_ne e)
theorem wr_n {C : String} {w : qk_W} {a b n : Nat} {f : Nat → Option Nat} {x : qk_C} (h : wr C w a n f) (e : a ≠ b) : wr C (qk_set w b x) a n f := wr_f h (qk_set_ne e)
/-- what a call left as it was: all but the names in l -/
def fr (l : List Nat) (w w' : qk_W) : Prop := ∀ v, v ∉ l → w' v = w v
theorem fr_refl {l : List Nat} {w : qk_W} : fr l w w := fun _ _ => rfl
theorem fr_trans {l : List Nat} {w w1 w2 : qk_W} (h : fr l w w1) (g : fr l w1 w2) : fr l w w2 := fun v hv => (g v hv).trans (h v hv)
theorem fr_set {l : List Nat} {w w1 : qk_W} {a : Nat} {e : qk_C} (h : fr l w w1) (ha : a ∈ l) : fr l w (qk_set w1 a e) := fun v hv => (qk_set_ne (fun x : v = a => hv (x ▸ ha))).trans (h v hv)
def b2i (b : Bool) : Int32 := if b then 1 else 0
theorem b2i_t {b : Bool} (h : b = true) : b2i b = 1 := by rw [h]; rfl
theorem b2i_f {b : Bool} (h : ¬ b = true) : b2i b = 0 := by rw [Bool.eq_false_iff.mpr h]; rfl
/-! ===== the set of numbers ===== -/
def sIn (M : Nat → Bool) (x : Int32) : Bool := decide (¬ x < 0) && decide (x < 32768) && M x.toNatClampNeg
theorem sIn_nI {M : Nat → Bool} {n : Nat} (h : n < 2 ^ 31) : sIn M (nI n) = (decide (n < 32768) && M n) := by
  unfold sIn
  rw [nI_clamp h, decide_eq_true (nI_pos h), show (32768 : Int32) = nI 32768 from rfl, decide_eq_decide.mpr (nI_ltI h (by omega))]
  rfl
def nsR (w : qk_W) (a b : Nat) (M : Nat → Bool) : Prop :=
  ∃ f, wo w a 3 [.ref b, .int (nI (cnt M 32768))] ∧ wi w b 1024 f ∧ 16 ≤ b ∧ a ≠ b ∧ ∀ i, i < 1024 → ∀ j, j < 32 → bt (f i) j = M (32 * i + j)
theorem nsR_f {w w' : qk_W} {a b : Nat} {M : Nat → Bool} (h : nsR w a b M) (ea : w' a = w a) (eb : w' b = w b) : nsR w' a b M := by
  obtain ⟨f, h1, h2, h3, h4, h5⟩ := h
  exact ⟨f, wo_f h1 ea, wi_f h2 eb, h3, h4, h5⟩
theorem nsR_c {w : qk_W} {a b : Nat} {M M' : Nat → Bool} (h : nsR w a b M) (e : ∀ n, n < 32768 → M n = M' n) : nsR w a b M' := by
  obtain ⟨f, h1, h2, h3, h4, h5⟩ := h
  refine ⟨f, by rw [← cnt_congr e]; exact h1, h2, h3, h4, fun i hi j hj => ?_⟩
  rw [h5 i hi j hj, e _ (by omega)]
def nxF (P : Nat → Bool) : Nat → Nat → Nat
  | 0, s => s
  | n + 1, s => if P s then s else nxF P n (s + 1)
def nxt (P : Nat → Bool) (s : Nat) : Nat := nxF P (32768 - s) s
theorem nxF_spec (P : Nat → Bool) : ∀ n s, s ≤ nxF P n s ∧ nxF P n s ≤ s + n ∧ (∀ k, s ≤ k → k < nxF P n s → P k = false) ∧ (nxF P n s < s + n → P (nxF P n s) = true)
  | 0, s => ⟨Nat.le_refl _, Nat.le_refl _, fun k h1 h2 => absurd h2 (by show ¬ k < s; omega), fun h => absurd h (by show ¬ s < s + 0; omega)⟩
  | n + 1, s => by
    unfold nxF
    split
    · rename_i h; exact ⟨Nat.le_refl _, by omega, fun k h1 h2 => absurd h2 (by omega), fun _ => h⟩
    · rename_i h
      obtain ⟨h1, h2, h3, h4⟩ := nxF_spec P n (s + 1)
      refine ⟨by omega, by omega, fun k g1 g2 => ?_, fun g => h4 (by omega)⟩
      rcases Nat.eq_or_lt_of_le g1 with e | e
      · rw [← e]; exact Bool.eq_false_iff.mpr h
      · exact h3 k e g2
theorem nxt_spec (P : Nat → Bool) {s : Nat} (h : s ≤ 32768) : s ≤ nxt P s ∧ nxt P s ≤ 32768 ∧ (∀ k, s ≤ k → k < nxt P s → P k = false) ∧ (nxt P s < 32768 → P (nxt P s) = true) := by
  obtain ⟨h1, h2, h3, h4⟩ := nxF_spec P (32768 - s) s
  exact ⟨h1, by unfold nxt; omega, h3, fun g => h4 (by unfold nxt at g; omega)⟩
theorem nxt_eq {P : Nat → Bool} {s n : Nat} (h1 : s ≤ n) (h2 : n ≤ 32768) (h3 : ∀ k, s ≤ k → k < n → P k = false) (h4 : n < 32768 → P n = true) : nxt P s = n := by
  obtain ⟨g1, g2, g3, g4⟩ := nxt_spec P (show s ≤ 32768 by omega)
  rcases Nat.lt_trichotomy (nxt P s) n with h | h | h
  · have := g4 (by omega)
    rw [h3 _ g1 h] at this
    cases this
  · exact h
  · have := h4 (by omega)
    rw [g3 _ h1 h] at this
    cases this
theorem nxt_congr {P R : Nat → Bool} {s : Nat} (hs : s ≤ 32768) (h : ∀ n, n < 32768 → P n = R n) : nxt P s = nxt R s := by
  obtain ⟨g1, g2, g3, g4⟩ := nxt_spec R hs
  exact nxt_eq g1 g2 (fun k a b => by rw [h k (by omega)]; exact g3 k a b) (fun g => by rw [h _ g]; exact g4 g)
section NsC
variable {d : Nat} {w : qk_W} {nc ns : Nat} {Q : Option Value ⊕ Nat → qk_W → Nat → Nat → Prop} {a b : Nat} {M : Nat → Bool}
theorem c_contains {x : Int32} (h : nsR w a b M) (hq : Q (.inl (some (.int (b2i (sIn M x))))) w nc ns) : Ev d m_Ns_contains 0 [some (.ref a), some (.int x)] [] w nc ns Q := by
  obtain ⟨f, h1, h2, h3, h4, h5⟩ := h
  refine t_Ns_contains_0 (fun h => t_Ns_contains_33 ?_) (fun hx => t_Ns_contains_4 (fun h => t_Ns_contains_33 ?_) (fun h => ?_))
  · rwa [b2i_f (by simp [sIn, h])] at hq
  · rwa [b2i_f (by
      obtain ⟨n, hn, rfl⟩ := nI_of hx
      rw [sIn_nI hn]
      have := (nI_leI (a := 32768) (by omega) hn).mp h
      simp [Nat.not_lt.mpr this])] at hq
  · obtain ⟨n, hn, rfl⟩ := nI_of hx
    have hn2 : n < 32768 := Nat.lt_of_not_le (fun g => h ((nI_leI (a := 32768) (by omega) hn).mpr g))
    rw [sIn_nI hn, decide_eq_true hn2, Bool.true_and] at hq
    have e1 : qi_shr (nI n) 5 = nI (n / 32) := q_shr5 hn
    have e2 : nI n &&& 31 = nI (n % 32) := q_and31 (by omega)
    have hb := h5 (n / 32) (by omega) (n % 32) (Nat.mod_lt _ (by omega))
    rw [show 32 * (n / 32) + n % 32 = n by omega] at hb
    refine t_Ns_contains_10 h1 rfl h2 (by rw [e1]; exact vp_in_nI (by omega) (by omega)) (fun h => t_Ns_contains_33 ?_) (fun h => t_Ns_contains_29 ?_)
    · rw [e1, e2, nI_clamp (by omega), q_bit _ (by omega), hb] at h
      rwa [b2i_f h] at hq
    · rw [e1, e2, nI_clamp (by omega), q_bit _ (by omega), hb] at h
      rwa [b2i_t h] at hq
theorem bt_shlm1 {k j : Nat} (hk : k < 32) (hj : j < 32) : bt (qi_shl (-1) (nI k)) j = decide (k ≤ j) := by
  rw [q_shl _ hk hj, b_m1 _ (by omega)]
  simp
theorem c_next_loop {fl : Bool} {s : Nat} (h : nsR w a b M) (hq : Q (.inl (some (.int (nI (nxt (fun n => M n == fl) s))))) w nc ns) (o1 : Option Value) (x3 : Int32) :
    ∀ m i, i + m = 1024 → s ≤ 32 * i + 31 → (∀ k, s ≤ k → k < 32 * i → (M k == fl) = false) → s ≤ 32768 → ∀ wv, (∀ j, j < 32 → bt wv j = decide (s ≤ 32 * i + j)) → ∀ o6,
    Ev (d + 1) m_Ns_next 19 [some (.ref a), o1, some (.int (b2i fl)), some (.int x3), some (.int wv), some (.int (nI i)), o6] [] w nc ns Q := by
  obtain ⟨f, h1, h2, h3, h4, h5⟩ := h
  intro m
  induction m with
  | zero =>
    intro i hm hsi hk hs wv hwv o6
    refine t_Ns_next_19 h1 rfl h2 rfl (fun h => t_Ns_next_89 ?_) (fun h => absurd (nI_le (a := 1024) (b := i) (by omega) (by omega)) h)
    rwa [nxt_eq hs (Nat.le_refl _) (fun k g1 g2 => hk k g1 (by omega)) (fun g => absurd g (Nat.lt_irrefl _))] at hq
  | succ m ih =>
    intro i hm hsi hk hs wv hwv o6
    have fin : ∀ fd, (∀ j, j < 32 → bt fd j = ((M (32 * i + j) == fl) && decide (s ≤ 32 * i + j))) → (fd = 0 → Ev (d + 1) m_Ns_next 80 [some (.ref a), o1, some (.int (b2i fl)), some (.int x3), some (.int wv), some (.int (nI i)), some (.int fd)] [] w nc ns Q) ∧ (¬ fd = 0 → Ev (d + 1) m_Ns_next 62 [some (.ref a), o1, some (.int (b2i fl)), some (.int x3), some (.int wv), some (.int (nI i)), some (.int fd)] [] w nc ns Q) := by
      intro fd hfd
      constructor
      · intro h0
        refine t_Ns_next_80 rfl ?_
        rw [nI_1]
        refine ih (i + 1) (by omega) (by omega) (fun k g1 g2 => ?_) hs (-1) (fun j hj => by rw [b_m1 j hj]; exact (decide_eq_true (by omega)).symm) _
        by_cases hki : k < 32 * i
        · exact hk k g1 hki
        · have := hfd (k - 32 * i) (by omega)
          rw [h0, b_0, show 32 * i + (k - 32 * i) = k by omega, decide_eq_true g1, Bool.and_true] at this
          exact this.symm
      · intro h0
        obtain ⟨k, hk1, hk2, hk3⟩ := low_ex h0
        refine t_Ns_next_62 (Nat.le_of_ble_eq_true rfl) (c_bitCount ?_)
        show Ev (d + 1) m_Ns_next 78 _ ((some (Value.int (bcf ((fd &&& (-fd)) - 1)))).toList ++ [.int (nI i * 32)]) w nc ns Q
        rw [low_ix hk1 hk2 hk3]
        refine t_Ns_next_78 ?_
        rw [q_mul32, nI_add]
        have e := hfd k hk1
        rw [hk2] at e
        have e1 := (Bool.and_eq_true _ _).mp e.symm
        rwa [nxt_eq (n := i * 32 + k) (by have := of_decide_eq_true e1.2; omega) (by omega) (fun k' g1 g2 => by
          by_cases hki : k' < 32 * i
          · exact hk k' g1 hki
          · have := hfd (k' - 32 * i) (by omega)
            rw [hk3 _ (by omega), show 32 * i + (k' - 32 * i) = k' by omega, decide_eq_true g1, Bool.and_true] at this
            exact this.symm) (fun _ => by rw [show i * 32 + k = 32 * i + k by omega]; exact e1.1)] at hq
    refine t_Ns_next_19 h1 rfl h2 rfl (fun h => absurd ((nI_leI (a := 1024) (b := i) (by omega) (by omega)).mp h) (by omega)) (fun h => ?_)
    cases fl with
    | false =>
      refine t_Ns_next_29 (fun h => ?_) (fun h => absurd rfl h)
      have hf := fin ((f i ^^^ (-1)) &&& wv) (fun j hj => by rw [b_and, bt_not _ hj, h5 i (by omega) j hj, hwv j hj]; cases M (32 * i + j) <;> rfl)
      refine t_Ns_next_43 h1 rfl h2 (vp_in_nI (by omega) (by omega)) ?_ ?_ <;> rw [nI_clamp (by omega)]
      · exact hf.1
      · exact hf.2
    | true =>
      refine t_Ns_next_29 (fun h => absurd h (by decide)) (fun h => ?_)
      have hf := fin (f i &&& wv) (fun j hj => by rw [b_and, h5 i (by omega) j hj, hwv j hj]; cases M (32 * i + j) <;> rfl)
      refine t_Ns_next_33 h1 rfl h2 (vp_in_nI (by omega) (by omega)) ?_ ?_ <;> rw [nI_clamp (by omega)]
      · exact hf.1
      · exact hf.2
theorem c_next {fl : Bool} {s : Nat} (h : nsR w a b M) (hs : s ≤ 32768) (hq : Q (.inl (some (.int (nI (nxt (fun n => M n == fl) s))))) w nc ns) :
    Ev (d + 1) m_Ns_next 0 [some (.ref a), some (.int (nI s)), some (.int (b2i fl)), none, none, none, none] [] w nc ns Q := by
  refine t_Ns_next_0 (Nat.le_of_ble_eq_true rfl) (c_max ?_)
  show Ev (d + 1) m_Ns_next 5 _ ((some (Value.int (imax (nI s) 0))).toList ++ []) w nc ns Q
  rw [show (0 : Int32) = nI 0 from rfl, imax_nI (by omega) (by omega), show max s 0 = s by omega]
  refine t_Ns_next_5 rfl ?_
  rw [q_shr5 (by omega), q_and31 (by omega)]
  by_cases h8 : s < 32768
  · exact c_next_loop h hq _ _ (1024 - s / 32) (s / 32) (by omega) (by omega) (fun k g1 g2 => absurd g2 (by omega)) hs _ (fun j hj => by rw [bt_shlm1 (by omega) hj]; exact decide_eq_decide.mpr (by omega)) _
  · exact c_next_loop h hq _ _ 0 (s / 32) (by omega) (by omega) (fun k g1 g2 => absurd g2 (by omega)) hs _ (fun j hj => by rw [bt_shlm1 (by omega) hj]; exact decide_eq_decide.mpr (by omega)) _
theorem c_bow {i s e : Nat} (hs : s ≤ 32767) (he : e ≤ 32767) (h1 : s / 32 ≤ i) (h2 : i ≤ e / 32) (hq : ∀ W, (∀ j, j < 32 → bt W j = (decide (s ≤ 32 * i + j) && decide (32 * i + j ≤ e))) → Q (.inl (some (.int W))) w nc ns) :
    Ev (d + 1) m_Ns_bitsOfWord 0 [some (.int (nI i)), some (.int (nI s)), some (.int (nI e)), none, none] [] w nc ns Q := by
  refine t_Ns_bitsOfWord_0 (Nat.le_of_ble_eq_true rfl) (c_max ?_)
  show Ev (d + 1) m_Ns_bitsOfWord 10 _ ((some (Value.int (imax (nI s - nI i * 32) 0))).toList ++ []) w nc ns Q
  have e1 : imax (nI s - nI i * 32) 0 = nI (s - 32 * i) := by
    rw [q_mul32]
    by_cases h : i * 32 ≤ s
    · rw [pk_sub h, show (0 : Int32) = nI 0 from rfl, imax_nI (by omega) (by omega)]
      exact congrArg nI (by omega)
    · rw [imax, if_pos (pk_sneg (by omega) (by omega)), show s - 32 * i = 0 by omega]
      rfl
  rw [e1]
  refine t_Ns_bitsOfWord_10 rfl (Nat.le_of_ble_eq_true rfl) (c_min ?_)
  show Ev (d + 1) m_Ns_bitsOfWord 22 _ ((some (Value.int (imin (nI e - nI i * 32) 31))).toList ++ []) w nc ns Q
  rw [q_mul32, pk_sub (by omega), show (31 : Int32) = nI 31 from rfl, imin_nI (by omega) (by omega)]
  refine t_Ns_bitsOfWord_22 rfl (fun h => t_Ns_bitsOfWord_34 (hq _ ?_)) (fun h => t_Ns_bitsOfWord_30 (hq _ ?_))
  · have h3 := (nI_leI (by omega) (by omega)).mp h
    intro j hj
    rw [show (31 : Int32) = nI 31 from rfl, pk_sub (by omega), b_and, bt_shlm1 (by omega) hj, q_ushr _ (by omega)]
    by_cases hj2 : j ≤ min (e - i * 32) 31
    · rw [b_m1 _ (by omega), decide_eq_true (show 32 * i + j ≤ e by omega)]
      congr 1
      exact decide_eq_decide.mpr (by omega)
    · rw [b_big (by omega), decide_eq_false (show ¬ 32 * i + j ≤ e by omega)]
      simp
  · intro j hj
    have h3 : ¬ (s - 32 * i ≤ min (e - i * 32) 31) := fun g => h ((nI_leI (by omega) (by omega)).mpr g)
    rw [b_0]
    by_cases g : s ≤ 32 * i + j
    · rw [decide_eq_false (show ¬ 32 * i + j ≤ e by omega)]; simp
    · rw [decide_eq_false g]; rfl
end NsC
theorem cnt_block {M M' : Nat → Bool} {i : Nat} (hi : i < 1024) (h : ∀ n, n < 32768 → n / 32 ≠ i → M' n = M n) :
    cnt M' 32768 + cnt (fun j => M (32 * i + j)) 32 = cnt M 32768 + cnt (fun j => M' (32 * i + j)) 32 := by
  have e : ∀ R : Nat → Bool, cnt R 32768 = cnt R (32 * i) + (cnt (fun j => R (32 * i + j)) 32 + cnt (fun j => R (32 * i + (32 + j))) (32736 - 32 * i)) := by
    intro R
    rw [show 32768 = 32 * i + (32 + (32736 - 32 * i)) by omega, cnt_add, cnt_add]
  rw [e M, e M', cnt_congr (P := M') (R := M) (n := 32 * i) (fun n hn => h n (by omega) (by omega)), cnt_congr (P := fun j => M' (32 * i + (32 + j))) (R := fun j => M (32 * i + (32 + j))) (fun n hn => h _ (by omega) (by omega))]
  omega
theorem cnt_or {P R S : Nat → Bool} {n : Nat} (h : ∀ i, i < n → S i = (P i || R i)) (hd : ∀ i, i < n → (P i && R i) = false) : cnt S n = cnt P n + cnt R n := by
  induction n with
  | zero => rfl
  | succ n ih =>
    rw [cnt, cnt, cnt, ih (fun i hi => h i (by omega)) (fun i hi => hd i (by omega)), h n (by omega)]
    have := hd n (by omega)
    cases hp : P n <;> cases hr : R n <;> simp [hp, hr] at this ⊢ <;> omega
def insR (M : Nat → Bool) (s e : Nat) : Nat → Bool := fun n => M n || (decide (s ≤ n) && decide (n ≤ e))
def delR (M : Nat → Bool) (s e : Nat) : Nat → Bool := fun n => M n && !(decide (s ≤ n) && decide (n ≤ e))
section NsD
variable {d : Nat} {nc ns : Nat} {Q : Option Value ⊕ Nat → qk_W → Nat → Nat → Prop} {a b : Nat} {M : Nat → Bool}
theorem c_inc_loop {w0 : qk_W} {s e : Nat} (hs : s ≤ 32767) (he : e ≤ 32767) (z : Int32) (hq : ∀ w', fr [a, b] w0 w' → nsR w' a b (insR M s e) → Q (.inl (some (.int (nI (cnt (insR M s e) 32768) - z)))) w' nc ns) (o1 o2 : Option Value) :
    ∀ m i, i + m = e / 32 + 1 → s / 32 ≤ i → ∀ w, fr [a, b] w0 w → nsR w a b (fun n => M n || (decide (s ≤ n) && decide (n ≤ e) && decide (n < 32 * i))) → ∀ o7,
    Ev (d + 2) m_Ns_include 27 [some (.ref a), o1, o2, some (.int z), some (.int (nI e)), some (.int (nI s)), some (.int (nI i)), o7] [] w nc ns Q := by
  have e5 : qi_shr (nI e) 5 = nI (e / 32) := q_shr5 (by omega)
  intro m
  induction m with
  | zero =>
    intro i hm hsi w hf hR o7
    have hR' : nsR w a b (insR M s e) := nsR_c hR (fun n hn => by
      unfold insR
      by_cases h : n ≤ e
      · rw [decide_eq_true (show n < 32 * i by omega), Bool.and_true]
      · rw [decide_eq_false h]; simp)
    refine t_Ns_include_27 (fun h => ?_) (fun h => absurd (by rw [e5]; exact nI_lt (by omega) (by omega)) h)
    have hR2 := hR'
    obtain ⟨f, h1, _⟩ := hR'
    exact t_Ns_include_89 h1 rfl (hq w hf hR2)
  | succ m ih =>
    intro i hm hsi w hf hR o7
    obtain ⟨f, h1, h2, h3, h4, h5⟩ := hR
    simp only at h5
    refine t_Ns_include_27 (fun h => absurd (by rw [e5] at h; exact (nI_ltI (by omega) (by omega)).mp h) (by omega)) (fun _ => ?_)
    refine t_Ns_include_36 (Nat.le_of_ble_eq_true rfl) (c_bow hs he hsi (by omega) (fun W hW => ?_))
    show Ev (d + 2) m_Ns_include 45 _ ((some (Value.int W)).toList ++ []) w nc ns Q
    refine t_Ns_include_45 h1 rfl h2 (vp_in_nI (by omega) (by omega)) h3 ?_
    rw [nI_clamp (by omega)]
    refine t_Ns_include_69 (wo_n h1 h4) rfl (Nat.le_of_ble_eq_true rfl) (c_bitCount ?_)
    show Ev (d + 2) m_Ns_include 79 _ ((some (Value.int (bcf _))).toList ++ _) _ nc ns Q
    rw [bcf_cnt]
    refine t_Ns_include_79 (wo_n h1 h4) (Nat.le_of_ble_eq_true rfl) ?_
    refine t_Ns_include_83 rfl ?_
    rw [nI_1, nI_add]
    have hfr : ∀ j, j < 32 → bt (W &&& (f i ^^^ (-1))) j = (decide (s ≤ 32 * i + j) && decide (32 * i + j ≤ e) && !M (32 * i + j)) := by
      intro j hj
      rw [b_and, bt_not _ hj, hW j hj, h5 i (by omega) j hj, decide_eq_false (show ¬ 32 * i + j < 32 * i by omega)]
      simp
    have hnew : ∀ j, j < 32 → bt (f i ||| (W &&& (f i ^^^ (-1)))) j = (M (32 * i + j) || (decide (s ≤ 32 * i + j) && decide (32 * i + j ≤ e))) := by
      intro j hj
      rw [b_or, hfr j hj, h5 i (by omega) j hj, decide_eq_false (show ¬ 32 * i + j < 32 * i by omega)]
      cases M (32 * i + j) <;> simp
    refine ih (i + 1) (by omega) (by omega) _ (fr_set (fr_set hf (by simp)) (by simp)) ⟨upd f i (f i ||| (W &&& (f i ^^^ (-1)))), ?_, wi_n wi_s (Ne.symm h4), h3, h4, fun i' hi' j hj => ?_⟩ _
    · have := cnt_block (M := fun n => M n || (decide (s ≤ n) && decide (n ≤ e) && decide (n < 32 * i))) (M' := fun n => M n || (decide (s ≤ n) && decide (n ≤ e) && decide (n < 32 * (i + 1)))) (i := i) (by omega) (fun n hn hne => by
        show (M n || _) = (M n || _)
        by_cases h : n < 32 * i
        · rw [decide_eq_true h, decide_eq_true (show n < 32 * (i + 1) by omega)]
        · rw [decide_eq_false h, decide_eq_false (show ¬ n < 32 * (i + 1) by omega)])
      have e2 := cnt_or (n := 32) (P := fun j => M (32 * i + j) || (decide (s ≤ 32 * i + j) && decide (32 * i + j ≤ e) && decide (32 * i + j < 32 * i))) (R := bt (W &&& (f i ^^^ (-1)))) (S := fun j => M (32 * i + j) || (decide (s ≤ 32 * i + j) && decide (32 * i + j ≤ e) && decide (32 * i + j < 32 * (i + 1)))) (fun j hj => by
        show (M (32 * i + j) || _) = (M (32 * i + j) || _ || _)
        rw [hfr j hj, decide_eq_false (show ¬ 32 * i + j < 32 * i by omega), decide_eq_true (show 32 * i + j < 32 * (i + 1) by omega)]
        cases M (32 * i + j) <;> simp) (fun j hj => by
        show ((M (32 * i + j) || _) && _) = false
        rw [hfr j hj, decide_eq_false (show ¬ 32 * i + j < 32 * i by omega)]
        cases M (32 * i + j) <;> simp)
      rw [show cnt (fun n => M n || (decide (s ≤ n) && decide (n ≤ e) && decide (n < 32 * (i + 1)))) 32768 = cnt (fun n => M n || (decide (s ≤ n) && decide (n ≤ e) && decide (n < 32 * i))) 32768 + cnt (bt (W &&& (f i ^^^ (-1)))) 32 by omega]
      exact wo_s h1.1
    · by_cases hii : i' = i
      · subst hii
        show _ = (M (32 * i' + j) || (decide (s ≤ 32 * i' + j) && decide (32 * i' + j ≤ e) && decide (32 * i' + j < 32 * (i' + 1))))
        rw [pk_us, hnew j hj, decide_eq_true (show 32 * i' + j < 32 * (i' + 1) by omega), Bool.and_true]
      · rw [pk_un hii, h5 i' hi' j hj]
        congr 2
        exact decide_eq_decide.mpr (by omega)
theorem c_include {w : qk_W} {s e : Nat} (h : nsR w a b M) (hs : s ≤ 32767) (he : e ≤ 32767) (hq : ∀ w', fr [a, b] w w' → nsR w' a b (insR M s e) → Q (.inl (some (.int (nI (cnt (insR M s e) 32768 - cnt M 32768))))) w' nc ns) :
    Ev (d + 2) m_Ns_include 0 [some (.ref a), some (.int (nI s)), some (.int (nI e)), none, none, none, none, none] [] w nc ns Q := by
  have h0 := h
  obtain ⟨f, h1, h2, h3, h4, h5⟩ := h
  have hle : cnt M 32768 ≤ cnt (insR M s e) 32768 := by
    have := cnt_or (n := 32768) (P := M) (R := fun n => (decide (s ≤ n) && decide (n ≤ e)) && !M n) (S := insR M s e) (fun i hi => by unfold insR; cases M i <;> simp) (fun i hi => by cases M i <;> simp)
    omega
  refine t_Ns_include_0 h1 rfl rfl (Nat.le_of_ble_eq_true rfl) (c_min ?_)
  show Ev (d + 2) m_Ns_include 12 _ ((some (Value.int (imin (nI e) 32767))).toList ++ []) w nc ns Q
  rw [show (32767 : Int32) = nI 32767 from rfl, imin_nI (by omega) (by omega), Nat.min_eq_left he]
  refine t_Ns_include_12 rfl (Nat.le_of_ble_eq_true rfl) (c_max ?_)
  show Ev (d + 2) m_Ns_include 19 _ ((some (Value.int (imax (nI s) 0))).toList ++ []) w nc ns Q
  rw [show (0 : Int32) = nI 0 from rfl, imax_nI (by omega) (by omega), show max s 0 = s by omega]
  refine t_Ns_include_19 rfl ?_
  rw [q_shr5 (by omega)]
  by_cases hse : s / 32 ≤ e / 32
  · refine c_inc_loop hs he _ (fun w' g1 g2 => by rw [pk_sub hle]; exact hq w' g1 g2) _ _ (e / 32 + 1 - s / 32) (s / 32) (by omega) (Nat.le_refl _) w fr_refl (nsR_c h0 (fun n hn => ?_)) _
    by_cases h : s ≤ n
    · rw [decide_eq_false (show ¬ n < 32 * (s / 32) by omega)]; simp
    · rw [decide_eq_false h]; simp
  · have hsame : nsR w a b (insR M s e) := nsR_c h0 (fun n hn => by
      unfold insR
      by_cases h : s ≤ n
      · rw [decide_eq_false (show ¬ n ≤ e by omega)]; simp
      · rw [decide_eq_false h]; simp)
    have hsame2 := hsame
    obtain ⟨f', g1, _⟩ := hsame
    refine t_Ns_include_27 (fun h => t_Ns_include_89 g1 rfl (by rw [pk_sub hle]; exact hq w fr_refl hsame2)) (fun h => absurd (by rw [q_shr5 (by omega)]; exact nI_lt (by omega) (by omega)) h)
theorem c_exc_loop {w0 : qk_W} {s e : Nat} (hs : s ≤ 32767) (he : e ≤ 32767) (hq : ∀ w', fr [a, b] w0 w' → nsR w' a b (delR M s e) → Q (.inl none) w' nc ns) (o1 o2 : Option Value) :
    ∀ m i, i + m = e / 32 + 1 → s / 32 ≤ i → ∀ w, fr [a, b] w0 w → nsR w a b (fun n => M n && !(decide (s ≤ n) && decide (n ≤ e) && decide (n < 32 * i))) → ∀ o6,
    Ev (d + 2) m_Ns_exclude 21 [some (.ref a), o1, o2, some (.int (nI e)), some (.int (nI s)), some (.int (nI i)), o6] [] w nc ns Q := by
  have e5 : qi_shr (nI e) 5 = nI (e / 32) := q_shr5 (by omega)
  intro m
  induction m with
  | zero =>
    intro i hm hsi w hf hR o6
    refine t_Ns_exclude_21 (fun h => t_Ns_exclude_81 (hq w hf (nsR_c hR (fun n hn => ?_)))) (fun h => absurd (by rw [e5]; exact nI_lt (by omega) (by omega)) h)
    unfold delR
    by_cases h : n ≤ e
    · rw [decide_eq_true (show n < 32 * i by omega), Bool.and_true]
    · rw [decide_eq_false h]; simp
  | succ m ih =>
    intro i hm hsi w hf hR o6
    obtain ⟨f, h1, h2, h3, h4, h5⟩ := hR
    simp only at h5
    refine t_Ns_exclude_21 (fun h => absurd (by rw [e5] at h; exact (nI_ltI (by omega) (by omega)).mp h) (by omega)) (fun _ => ?_)
    refine t_Ns_exclude_29 (Nat.le_of_ble_eq_true rfl) (c_bow hs he hsi (by omega) (fun W hW => ?_))
    show Ev (d + 2) m_Ns_exclude 37 _ ((some (Value.int W)).toList ++ []) w nc ns Q
    refine t_Ns_exclude_37 h1 rfl h2 (vp_in_nI (by omega) (by omega)) h3 ?_
    rw [nI_clamp (by omega)]
    refine t_Ns_exclude_61 (wo_n h1 h4) rfl (Nat.le_of_ble_eq_true rfl) (c_bitCount ?_)
    show Ev (d + 2) m_Ns_exclude 71 _ ((some (Value.int (bcf _))).toList ++ _) _ nc ns Q
    rw [bcf_cnt]
    refine t_Ns_exclude_71 (wo_n h1 h4) (Nat.le_of_ble_eq_true rfl) ?_
    refine t_Ns_exclude_75 rfl ?_
    rw [nI_1]
    have hfr : ∀ j, j < 32 → bt (W &&& f i) j = (decide (s ≤ 32 * i + j) && decide (32 * i + j ≤ e) && M (32 * i + j)) := by
      intro j hj
      rw [b_and, hW j hj, h5 i (by omega) j hj, decide_eq_false (show ¬ 32 * i + j < 32 * i by omega)]
      simp
    have hnew : ∀ j, j < 32 → bt (f i &&& ((W &&& f i) ^^^ (-1))) j = (M (32 * i + j) && !(decide (s ≤ 32 * i + j) && decide (32 * i + j ≤ e))) := by
      intro j hj
      rw [b_and, bt_not _ hj, hfr j hj, h5 i (by omega) j hj, decide_eq_false (show ¬ 32 * i + j < 32 * i by omega)]
      cases M (32 * i + j) <;> simp
    have := cnt_block (M := fun n => M n && !(decide (s ≤ n) && decide (n ≤ e) && decide (n < 32 * i))) (M' := fun n => M n && !(decide (s ≤ n) && decide (n ≤ e) && decide (n < 32 * (i + 1)))) (i := i) (by omega) (fun n hn hne => by
      show (M n && _) = (M n && _)
      by_cases h : n < 32 * i
      · rw [decide_eq_true h, decide_eq_true (show n < 32 * (i + 1) by omega)]
      · rw [decide_eq_false h, decide_eq_false (show ¬ n < 32 * (i + 1) by omega)])
    have e2 := cnt_or (n := 32) (S := fun j => M (32 * i + j) && !(decide (s ≤ 32 * i + j) && decide (32 * i + j ≤ e) && decide (32 * i + j < 32 * i))) (R := bt (W &&& f i)) (P := fun j => M (32 * i + j) && !(decide (s ≤ 32 * i + j) && decide (32 * i + j ≤ e) && decide (32 * i + j < 32 * (i + 1)))) (fun j hj => by
      show (M (32 * i + j) && _) = ((M (32 * i + j) && _) || _)
      rw [hfr j hj, decide_eq_false (show ¬ 32 * i + j < 32 * i by omega), decide_eq_true (show 32 * i + j < 32 * (i + 1) by omega)]
      cases M (32 * i + j) <;> cases decide (s ≤ 32 * i + j) <;> cases decide (32 * i + j ≤ e) <;> rfl) (fun j hj => by
      show ((M (32 * i + j) && _) && _) = false
      rw [hfr j hj, decide_eq_true (show 32 * i + j < 32 * (i + 1) by omega)]
      cases M (32 * i + j) <;> cases decide (s ≤ 32 * i + j) <;> cases decide (32 * i + j ≤ e) <;> rfl)
    rw [pk_sub (show cnt (bt (W &&& f i)) 32 ≤ cnt (fun n => M n && !(decide (s ≤ n) && decide (n ≤ e) && decide (n < 32 * i))) 32768 by omega)]
    refine ih (i + 1) (by omega) (by omega) _ (fr_set (fr_set hf (by simp)) (by simp)) ⟨upd f i (f i &&& ((W &&& f i) ^^^ (-1))), ?_, wi_n wi_s (Ne.symm h4), h3, h4, fun i' hi' j hj => ?_⟩ _
    · rw [show cnt (fun n => M n && !(decide (s ≤ n) && decide (n ≤ e) && decide (n < 32 * (i + 1)))) 32768 = cnt (fun n => M n && !(decide (s ≤ n) && decide (n ≤ e) && decide (n < 32 * i))) 32768 - cnt (bt (W &&& f i)) 32 by omega]
      exact wo_s h1.1
    · by_cases hii : i' = i
      · subst hii
        show _ = (M (32 * i' + j) && !(decide (s ≤ 32 * i' + j) && decide (32 * i' + j ≤ e) && decide (32 * i' + j < 32 * (i' + 1))))
        rw [pk_us, hnew j hj, decide_eq_true (show 32 * i' + j < 32 * (i' + 1) by omega), Bool.and_true]
      · rw [pk_un hii, h5 i' hi' j hj]
        show _ = (M (32 * i' + j) && !(decide (s ≤ 32 * i' + j) && decide (32 * i' + j ≤ e) && decide (32 * i' + j < 32 * (i + 1))))
        rw [decide_eq_decide.mpr (show 32 * i' + j < 32 * i ↔ 32 * i' + j < 32 * (i + 1) by omega)]
theorem c_exclude {w : qk_W} {s e : Nat} (h : nsR w a b M) (hs : s ≤ e) (he : e ≤ 32767) (hq : ∀ w', fr [a, b] w w' → nsR w' a b (delR M s e) → Q (.inl none) w' nc ns) :
    Ev (d + 2) m_Ns_exclude 0 [some (.ref a), some (.int (nI s)), some (.int (nI e)), none, none, none, none] [] w nc ns Q := by
  refine t_Ns_exclude_0 (Nat.le_of_ble_eq_true rfl) (c_min ?_)
  show Ev (d + 2) m_Ns_exclude 7 _ ((some (Value.int (imin (nI e) 32767))).toList ++ []) w nc ns Q
  rw [show (32767 : Int32) = nI 32767 from rfl, imin_nI (by omega) (by omega), Nat.min_eq_left he]
  refine t_Ns_exclude_7 rfl (Nat.le_of_ble_eq_true rfl) (c_max ?_)
  show Ev (d + 2) m_Ns_exclude 13 _ ((some (Value.int (imax (nI s) 0))).toList ++ []) w nc ns Q
  rw [show (0 : Int32) = nI 0 from rfl, imax_nI (by omega) (by omega), show max s 0 = s by omega]
  refine t_Ns_exclude_13 rfl ?_
  rw [q_shr5 (by omega)]
  refine c_exc_loop (by omega) he hq _ _ (e / 32 + 1 - s / 32) (s / 32) (by omega) (Nat.le_refl _) w fr_refl (nsR_c h (fun n hn => ?_)) _
  by_cases h : s ≤ n
  · rw [decide_eq_false (show ¬ n < 32 * (s / 32) by omega)]; simp
  · rw [decide_eq_false h]; simp
theorem cnt_0 (n : Nat) : cnt (fun _ => false) n = 0 := by
  induction n with
  | zero => rfl
  | succ n ih => rw [cnt, ih]; rfl
theorem c_Ns_init {w : qk_W} {v0 : Value} (b : Nat) (h : wo w a 3 [v0, .int 0]) (hb : 16 ≤ b) (hn : w b = none) (hq : ∀ w', fr [a, b] w w' → nsR w' a b (fun _ => false) → Q (.inl none) w' (nc + 1) (ns + 1024)) :
    Ev (d + 1) m_Ns_init 0 [some (.ref a)] [] w nc ns Q := by
  have hne : a ≠ b := fun e => by rw [e] at h; rw [h.2] at hn; cases hn
  refine t_Ns_init_0 (Nat.le_of_ble_eq_true rfl) ?_
  refine t_Ns_init_4 rfl b hb hn ?_
  refine t_Ns_init_10 rfl (wo_n h hne) (Nat.le_of_ble_eq_true rfl) (qk_fitA _ _) ?_
  refine t_Ns_init_13 (hq _ (fr_set (fr_set fr_refl (by simp)) (by simp)) ⟨fun _ => 0, ?_, wi_n wi_s (Ne.symm hne), hb, hne, fun i _ j _ => b_0 j⟩)
  rw [cnt_0]
  exact wo_s h.1
end NsD
