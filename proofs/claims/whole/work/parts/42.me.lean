/-! ===== bytes and bits of rows ===== -/
def nB (n : Nat) : Int32 := (nI n).toInt8.toInt32
theorem bt_b8 (x : Int32) {i : Nat} (hi : i < 32) : bt x.toInt8.toInt32 i = if i < 8 then bt x i else bt x 7 := by
  show (x.toInt8.toInt32).toBitVec.getLsbD i = _
  rw [Int8.toBitVec_toInt32, Int32.toBitVec_toInt8, BitVec.getLsbD_signExtend, BitVec.msb_eq_getLsbD_last, BitVec.getLsbD_signExtend, BitVec.getLsbD_signExtend]
  by_cases h : i < 8
  · simp [hi, h, bt]
  · simp [hi, h, bt]
def vN (x : Int32) : Nat := x.toBitVec.toNat
theorem vN_lt (x : Int32) : vN x < 2 ^ 32 := x.toBitVec.isLt
theorem vN_nI {n : Nat} (h : n < 2 ^ 32) : vN (nI n) = n := pk_tn h
theorem nI_vN (x : Int32) : nI (vN x) = x := Int32.toBitVec_inj.mp (by show BitVec.ofNat 32 x.toBitVec.toNat = x.toBitVec; simp)
theorem bt_vN (x : Int32) (i : Nat) : bt x i = (vN x).testBit i := rfl
theorem bt_nB (n : Nat) {i : Nat} (hi : i < 32) : bt (nB n) i = if i < 8 then n.testBit i else n.testBit 7 := by
  unfold nB
  rw [bt_b8 _ hi]
  split
  · rw [bt_nI _ hi]
  · rw [bt_nI _ (by omega)]
theorem b8_nB (x : Int32) : x.toInt8.toInt32 = nB (vN x % 256) := by
  apply b_ext
  intro i hi
  rw [bt_b8 _ hi, bt_nB _ hi, show (256 : Nat) = 2 ^ 8 from rfl, Nat.testBit_mod_two_pow, Nat.testBit_mod_two_pow]
  split
  · rename_i h; simp [h, bt_vN]
  · simp [bt_vN]
theorem b8_b8 (x : Int32) : (x.toInt8.toInt32).toInt8.toInt32 = x.toInt8.toInt32 := by
  apply b_ext
  intro i hi
  rw [bt_b8 _ hi, bt_b8 _ hi]
  split
  · rfl
  · rw [bt_b8 _ (by omega)]; rfl
theorem nB_255 {n : Nat} (h : n < 256) : nB n &&& 255 = nI n := by
  apply b_ext
  intro i hi
  rw [b_and, b_255, bt_nB _ hi, bt_nI _ hi]
  split
  · simp [*]
  · rename_i h8
    rw [Nat.testBit_lt_two_pow (Nat.lt_of_lt_of_le h (show 2 ^ 8 ≤ 2 ^ i from Nat.pow_le_pow_right (by omega) (by omega)))]
    simp [h8]
theorem nB_inj {a b : Nat} (ha : a < 256) (hb : b < 256) (h : nB a = nB b) : a = b := by
  have := congrArg (fun z => z &&& 255) h
  simp only [nB_255 ha, nB_255 hb] at this
  exact (nI_eq (by omega) (by omega)).mp this
def rbit (r : Nat → Nat) (p : Nat) : Bool := (r (p / 8)).testBit (7 - p % 8)
def getN (r : Nat → Nat) (p : Nat) : Nat → Nat
  | 0 => 0
  | n + 1 => 2 * getN r p n + (rbit r (p + n)).toNat
theorem getN_add (r : Nat → Nat) (p a b : Nat) : getN r p (a + b) = getN r p a * 2 ^ b + getN r (p + a) b := by
  induction b with
  | zero => simp [getN]
  | succ b ih => rw [← Nat.add_assoc, getN, getN, ih, Nat.pow_succ, show p + (a + b) = p + a + b by omega]; generalize getN r (p + a) b = x; generalize (rbit r (p + a + b)).toNat = y; rw [Nat.mul_add, show 2 * (getN r p a * 2 ^ b) = getN r p a * (2 ^ b * 2) by rw [Nat.mul_comm 2, Nat.mul_assoc]]; omega
theorem getN_lt (r : Nat → Nat) (p n : Nat) : getN r p n < 2 ^ n := by
  induction n with
  | zero => simp [getN]
  | succ n ih => rw [getN, Nat.pow_succ]; have := Bool.toNat_le (rbit r (p + n)); omega
theorem getN_congr {r r' : Nat → Nat} {p n : Nat} (h : ∀ q, p ≤ q → q < p + n → rbit r q = rbit r' q) : getN r p n = getN r' p n := by
  induction n with
  | zero => rfl
  | succ n ih => rw [getN, getN, ih (fun q a b => h q a (by omega)), h _ (by omega) (by omega)]
theorem byte_bits : ∀ x, x < 256 → 2 * (2 * (2 * (2 * (2 * (2 * (2 * (2 * 0 + (x.testBit 7).toNat) + (x.testBit 6).toNat) + (x.testBit 5).toNat) + (x.testBit 4).toNat) + (x.testBit 3).toNat) + (x.testBit 2).toNat) + (x.testBit 1).toNat) + (x.testBit 0).toNat = x := by decide +kernel
theorem rbit8 (r : Nat → Nat) (k : Nat) {i : Nat} (hi : i < 8) : rbit r (8 * k + i) = (r k).testBit (7 - i) := by
  unfold rbit
  rw [show (8 * k + i) / 8 = k by omega, show (8 * k + i) % 8 = i by omega]
theorem getN_8 {r : Nat → Nat} {k : Nat} (h : r k < 256) : getN r (8 * k) 8 = r k := by
  simp only [getN]
  rw [rbit8 r k (i := 0) (by omega), rbit8 r k (i := 1) (by omega), rbit8 r k (i := 2) (by omega), rbit8 r k (i := 3) (by omega), rbit8 r k (i := 4) (by omega), rbit8 r k (i := 5) (by omega), rbit8 r k (i := 6) (by omega), rbit8 r k (i := 7) (by omega)]
  exact byte_bits _ h
theorem row_ext {r r' : Nat → Nat} (h : ∀ k, r k < 256) (h' : ∀ k, r' k < 256) {k : Nat} (e : ∀ i, i < 8 → rbit r (8 * k + i) = rbit r' (8 * k + i)) : r k = r' k := by
  rw [← getN_8 (h k), ← getN_8 (h' k)]
  exact getN_congr (fun q a b => by have := e (q - 8 * k) (by omega); rwa [show 8 * k + (q - 8 * k) = q by omega] at this)
def putR (r : Nat → Nat) (at' n v : Nat) : Nat → Nat := fun k => if at' ≤ k ∧ k < at' + n then v / 2 ^ (8 * (at' + n - 1 - k)) % 256 else r k
theorem putR_lt {r : Nat → Nat} (h : ∀ k, r k < 256) (a n v k : Nat) : putR r a n v k < 256 := by
  unfold putR
  split
  · exact Nat.mod_lt _ (by omega)
  · exact h k
theorem rbit_putR (r : Nat → Nat) (a n v p : Nat) : rbit (putR r a n v) p = if 8 * a ≤ p ∧ p < 8 * (a + n) then v.testBit (8 * (a + n) - 1 - p) else rbit r p := by
  unfold rbit putR
  by_cases h : 8 * a ≤ p ∧ p < 8 * (a + n)
  · rw [if_pos h, if_pos (by omega), show (256 : Nat) = 2 ^ 8 from rfl, Nat.testBit_mod_two_pow, Nat.testBit_div_two_pow, decide_eq_true (by omega), Bool.true_and]
    congr 1
    omega
  · rw [if_neg h, if_neg (by omega)]
def rowR (w : qk_W) (c : Nat) (r : Nat → Nat) : Prop := ∃ f, wb w c 512 f ∧ (∀ k, k < 512 → f k = nB (r k)) ∧ ∀ k, r k < 256
def meR (w : qk_W) (a c : Nat) (r : Nat → Nat) (z : Nat) : Prop := wo w a 8 [.ref c, .int (nI z)] ∧ rowR w c r ∧ a ≠ c
theorem rowR_f {w w' : qk_W} {c : Nat} {r : Nat → Nat} (h : rowR w c r) (e : w' c = w c) : rowR w' c r := by
  obtain ⟨f, h1, h2⟩ := h
  exact ⟨f, wb_f h1 e, h2⟩
theorem meR_f {w w' : qk_W} {a c : Nat} {r : Nat → Nat} {z : Nat} (h : meR w a c r z) (ea : w' a = w a) (ec : w' c = w c) : meR w' a c r z := ⟨wo_f h.1 ea, rowR_f h.2.1 ec, h.2.2⟩
/-! the check -/
def cst (x : Int32) : Int32 := qi_ushr x 1 ^^^ (if bt x 0 then (-306674912) else 0)
def cbit (v : Int32) (b : Bool) : Int32 := qi_ushr v 1 ^^^ (if (bt v 0 ^^ b) then (-306674912) else 0)
def cbyte (v : Int32) (b : Nat) : Nat → Int32
  | 0 => v
  | n + 1 => cbit (cbyte v b n) (b.testBit n)
def crc (r : Nat → Nat) : Nat → Int32
  | 0 => -1
  | n + 1 => cbyte (crc r n) (r n) 8
def crcV (r : Nat → Nat) (n : Nat) : Int32 := crc r n ^^^ (-1)
theorem crc_congr {r r' : Nat → Nat} {n : Nat} (h : ∀ k, k < n → r k = r' k) : crc r n = crc r' n := by
  induction n with
  | zero => rfl
  | succ n ih => rw [crc, crc, ih (fun k hk => h k (by omega)), h n (by omega)]
theorem bt_ushr1 (x : Int32) (i : Nat) : bt (qi_ushr x 1) i = bt x (1 + i) := q_ushr x (n := 1) (by omega) i
theorem bt_pol (b : Bool) (i : Nat) : bt (if b then (-306674912) else 0) i = (b && bt (-306674912) i) := by cases b <;> simp [b_0]
theorem cst_xor (x y : Int32) : cst (x ^^^ y) = cst x ^^^ cst y := by
  apply b_ext
  intro i hi
  unfold cst
  simp only [b_xor, bt_ushr1, bt_pol]
  cases bt x 0 <;> cases bt y 0 <;> cases bt x (1 + i) <;> cases bt y (1 + i) <;> cases bt (-306674912) i <;> rfl
theorem cst_hi {x : Int32} (h : bt x 0 = false) : cst x = qi_ushr x 1 := by
  apply b_ext
  intro i hi
  unfold cst
  rw [b_xor, bt_pol, h]
  simp
theorem cst_cbit (v c : Int32) : cst (v ^^^ c) = cbit v (bt c 0) ^^^ qi_ushr c 1 := by
  apply b_ext
  intro i hi
  unfold cst cbit
  simp only [b_xor, bt_ushr1, bt_pol]
  cases bt v 0 <;> cases bt c 0 <;> cases bt v (1 + i) <;> cases bt c (1 + i) <;> cases bt (-306674912) i <;> rfl
def cstN (x : Int32) : Nat → Int32
  | 0 => x
  | n + 1 => cst (cstN x n)
theorem cstN_add (x : Int32) (a b : Nat) : cstN x (a + b) = cstN (cstN x a) b := by
  induction b with
  | zero => rfl
  | succ b ih => rw [← Nat.add_assoc, cstN, cstN, ih]
theorem cstN_xor (x y : Int32) (n : Nat) : cstN (x ^^^ y) n = cstN x n ^^^ cstN y n := by
  induction n with
  | zero => rfl
  | succ n ih => rw [cstN, cstN, cstN, ih, cst_xor]
theorem cbyte_eq (v : Int32) (b : Nat) : ∀ n, n < 32 → cstN (v ^^^ nI b) n = cbyte v b n ^^^ qi_ushr (nI b) (nI n) := by
  intro n
  induction n with
  | zero =>
    intro _
    apply b_ext
    intro i hi
    rw [cstN, cbyte, b_xor, b_xor, q_ushr _ (by omega)]
    simp
  | succ n ih =>
    intro h
    rw [cstN, cbyte, ih (by omega), cst_cbit]
    have e1 : bt (qi_ushr (nI b) (nI n)) 0 = b.testBit n := by rw [q_ushr _ (by omega), bt_nI _ (by omega)]; rfl
    rw [e1]
    congr 1
    apply b_ext
    intro i hi
    rw [bt_ushr1, q_ushr _ (by omega), q_ushr _ (by omega)]
    congr 1
    omega
theorem cbyte_8 (v : Int32) {b : Nat} (hb : b < 256) : cbyte v b 8 = cstN (v ^^^ nI b) 8 := by
  rw [cbyte_eq v b 8 (by omega)]
  have : qi_ushr (nI b) (nI 8) = 0 := by
    apply b_ext
    intro i hi
    rw [q_ushr _ (by omega), b_0]
    by_cases h : 8 + i < 32
    · rw [bt_nI _ h]
      exact Nat.testBit_lt_two_pow (Nat.lt_of_lt_of_le hb (show 2 ^ 8 ≤ 2 ^ (8 + i) from Nat.pow_le_pow_right (by omega) (by omega)))
    · exact b_big (by omega)
  rw [this]
  apply b_ext
  intro i hi
  rw [b_xor, b_0]
  simp
theorem cst_lo : ∀ j, j < 16 → cstN (nI j) 4 = qk_chk.getD j 0 := by decide +kernel
theorem bt_15 (i : Nat) : bt 15 i = decide (i < 4) := by
  rcases Nat.lt_or_ge i 32 with h | h
  · exact (by decide +kernel : ∀ i, i < 32 → bt 15 i = decide (i < 4)) i h
  · rw [b_big h, decide_eq_false (by omega)]
theorem cst_4 (x : Int32) : ∃ j, j < 16 ∧ x &&& 15 = nI j ∧ cstN x 4 = qi_ushr x 4 ^^^ qk_chk.getD j 0 := by
  obtain ⟨j, hj, he⟩ := pk_andE x (m := 15) 4 (by decide)
  refine ⟨j, hj, he, ?_⟩
  have hx : x = (x ^^^ nI j) ^^^ nI j := by
    apply b_ext
    intro i hi
    rw [b_xor, b_xor]
    cases bt x i <;> cases bt (nI j) i <;> rfl
  have hl : ∀ i, i < 4 → bt (x ^^^ nI j) i = false := by
    intro i hi
    rw [← he, b_xor, b_and, bt_15, decide_eq_true hi]
    cases bt x i <;> rfl
  have e1 : ∀ n, n ≤ 4 → cstN (x ^^^ nI j) n = qi_ushr (x ^^^ nI j) (nI n) := by
    intro n
    induction n with
    | zero =>
      intro _
      apply b_ext
      intro i hi
      rw [cstN, q_ushr _ (by omega), Nat.zero_add]
    | succ n ih =>
      intro h
      rw [cstN, ih (by omega), cst_hi (by rw [q_ushr _ (by omega)]; exact hl n (by omega))]
      apply b_ext
      intro i hi
      rw [bt_ushr1, q_ushr _ (by omega), q_ushr _ (by omega)]
      congr 1
      omega
  have e2 := cstN_xor (x ^^^ nI j) (nI j) 4
  rw [← hx, e1 4 (by omega), cst_lo j hj] at e2
  rw [e2]
  congr 1
  apply b_ext
  intro i hi
  rw [q_ushr _ (by omega), show qi_ushr x 4 = qi_ushr x (nI 4) from rfl, q_ushr _ (by omega), b_xor, ← he, b_and, bt_15, decide_eq_false (by omega)]
  simp
/-- what the world always holds: the two tables -/
def wk (w : qk_W) : Prop := wi w 1 10 (fun j => qk_wid.getD j 0) ∧ wi w 2 16 (fun j => qk_chk.getD j 0)
theorem wk_f {w w' : qk_W} (h : wk w) (e : ∀ v, v < 16 → w' v = w v) : wk w' := ⟨wi_f h.1 (e 1 (by omega)), wi_f h.2 (e 2 (by omega))⟩
section MeC
variable {d : Nat} {w : qk_W} {nc ns : Nat} {Q : Option Value ⊕ Nat → qk_W → Nat → Nat → Prop} {a c z : Nat} {r : Nat → Nat}
theorem c_put_loop {n at' : Nat} {x : Int32} (w0 : qk_W) (hat : at' + n ≤ 512) (hn : n ≤ 4) (hq : ∀ w', fr [c] w0 w' → meR w' a c (putR r at' n (vN x)) z → Q (.inl none) w' nc ns) :
    ∀ m k, k + m = n → ∀ w, fr [c] w0 w → meR w a c (fun j => if at' ≤ j ∧ j < at' + k then vN x / 2 ^ (8 * (at' + n - 1 - j)) % 256 else r j) z →
    Ev d m_Me_put 3 [some (.ref a), some (.int (nI at')), some (.int (nI n)), some (.int x), some (.int (nI k))] [] w nc ns Q := by
  intro m
  induction m with
  | zero =>
    intro k hk w hf h
    refine t_Me_put_3 (fun _ => t_Me_put_36 (hq w hf ?_)) (fun g => absurd (nI_le (by omega) (by omega)) g)
    have : n = k := by omega
    subst this
    exact h
  | succ m ih =>
    intro k hk w hf h
    obtain ⟨h1, ⟨f, h2, h3, h4⟩, h5⟩ := h
    simp only at h3 h4
    refine t_Me_put_3 (fun g => absurd ((nI_leI (by omega) (by omega)).mp g) (by omega)) (fun _ => ?_)
    refine t_Me_put_9 h1 rfl h2 (by rw [nI_add]; exact vp_in_nI (by omega) (by omega)) ?_
    rw [nI_add, nI_clamp (by omega)]
    refine t_Me_put_30 rfl ?_
    rw [nI_1]
    refine ih (k + 1) (by omega) _ (fr_set hf (by simp)) ⟨wo_n h1 h5, ⟨_, wb_s h2.1, fun j hj => ?_, fun j => ?_⟩, h5⟩
    · show upd f (at' + k) _ j = nB (if at' ≤ j ∧ j < at' + (k + 1) then vN x / 2 ^ (8 * (at' + n - 1 - j)) % 256 else r j)
      by_cases hj2 : j = at' + k
      · subst hj2
        rw [pk_us, if_pos (by omega), b8_b8, b8_nB]
        congr 2
        rw [show (1 : Int32) = nI 1 from rfl, pk_sub (by omega), pk_sub (by omega), show (8 : Int32) = nI 8 from rfl, pk_mul]
        conv => lhs; rw [← nI_vN x]
        rw [show qi_ushr (nI (vN x)) (nI (8 * (n - 1 - k))) = nI (vN x / 2 ^ (8 * (n - 1 - k))) from pk_ushrN (vN_lt x) _ _ (s_u _ (by omega)), vN_nI (Nat.lt_of_le_of_lt (Nat.div_le_self _ _) (vN_lt x))]
        congr 3
        omega
      · rw [pk_un hj2, h3 j hj]
        congr 1
        by_cases g : at' ≤ j ∧ j < at' + k
        · rw [if_pos g, if_pos (by omega)]
        · rw [if_neg g, if_neg (by omega)]
    · show (if at' ≤ j ∧ j < at' + (k + 1) then vN x / 2 ^ (8 * (at' + n - 1 - j)) % 256 else r j) < 256
      split
      · exact Nat.mod_lt _ (by omega)
      · have := h4 j
        rwa [if_neg (by omega)] at this
theorem c_put {n at' : Nat} {x : Int32} (h : meR w a c r z) (hat : at' + n ≤ 512) (hn : n ≤ 4) (hq : ∀ w', fr [c] w w' → meR w' a c (putR r at' n (vN x)) z → Q (.inl none) w' nc ns) :
    Ev d m_Me_put 0 [some (.ref a), some (.int (nI at')), some (.int (nI n)), some (.int x), none] [] w nc ns Q := by
  refine t_Me_put_0 rfl ?_
  refine c_put_loop w hat hn hq n 0 (by omega) w fr_refl ?_
  have : (fun j => if at' ≤ j ∧ j < at' + 0 then vN x / 2 ^ (8 * (at' + n - 1 - j)) % 256 else r j) = r := by
    funext j
    rw [if_neg (by omega)]
  rw [this]
  exact h
theorem lN_bv (n : Nat) : (lN n).toBitVec = BitVec.ofNat 64 n := rfl
theorem lN_shl8 {n : Nat} (h : n * 256 < 2 ^ 64) : ql_shl (lN n) 8 = lN (n * 256) := by
  apply Int64.toBitVec_inj.mp
  unfold ql_shl
  rw [Int64.toBitVec_shiftLeft]
  show (lN n).toBitVec <<< (BitVec.toNat (((8 : Int32).toInt64 &&& 63).toBitVec.smod 64)) = _
  rw [show BitVec.toNat (((8 : Int32).toInt64 &&& 63).toBitVec.smod 64) = 8 by decide]
  apply BitVec.eq_of_toNat_eq
  rw [BitVec.toNat_shiftLeft, lN_bv, lN_bv, BitVec.toNat_ofNat, BitVec.toNat_ofNat, Nat.shiftLeft_eq]
  omega
theorem lN_or {x y : Nat} : lN x ||| lN y = lN (x ||| y) := by
  apply Int64.toBitVec_inj.mp
  apply BitVec.eq_of_getLsbD_eq
  intro i hi
  rw [Int64.toBitVec_or, BitVec.getLsbD_or, lN_bv, lN_bv, lN_bv]
  simp [hi]
theorem or_256 {x y : Nat} (h : y < 256) : x * 256 ||| y = x * 256 + y := by
  rw [Nat.mul_comm, show (256 : Nat) = 2 ^ 8 from rfl, Nat.two_pow_add_eq_or_of_lt h]
theorem c_num_loop {n at' : Nat} (h : meR w a c r z) (hat : at' + n ≤ 512) (hn : n ≤ 4) (hq : Q (.inl (some (.long (lN (getN r (8 * at') (8 * n)))))) w nc ns) (o4 : Option Value) :
    ∀ m k, k + m = n → ∀ o4, Ev d m_Me_number 5 [some (.ref a), some (.int (nI at')), some (.int (nI n)), some (.long (lN (getN r (8 * at') (8 * k)))), o4, some (.int (nI k))] [] w nc ns Q := by
  obtain ⟨h1, ⟨f, h2, h3, h4⟩, h5⟩ := h
  intro m
  induction m with
  | zero =>
    intro k hk o4
    have : k = n := by omega
    subst this
    exact t_Me_number_5 (fun _ => t_Me_number_37 hq) (fun g => absurd (nI_le (by omega) (by omega)) g)
  | succ m ih =>
    intro k hk o4
    refine t_Me_number_5 (fun g => absurd ((nI_leI (by omega) (by omega)).mp g) (by omega)) (fun _ => ?_)
    refine t_Me_number_11 h1 rfl h2 (by rw [nI_add]; exact vp_in_nI (by omega) (by omega)) rfl ?_
    have hlt := getN_lt r (8 * at') (8 * k)
    have h24 : getN r (8 * at') (8 * k) < 2 ^ 24 := Nat.lt_of_lt_of_le hlt (Nat.pow_le_pow_right (by omega) (by omega))
    rw [nI_add, nI_clamp (by omega), h3 _ (by omega), nB_255 (h4 _), nI_l (by have := h4 (at' + k); omega), lN_shl8 (by omega), lN_or, or_256 (h4 _), nI_1]
    have e := getN_add r (8 * at') (8 * k) 8
    rw [show 8 * at' + 8 * k = 8 * (at' + k) by omega, getN_8 (h4 _), show 8 * k + 8 = 8 * (k + 1) by omega] at e
    rw [show getN r (8 * at') (8 * k) * 256 + r (at' + k) = getN r (8 * at') (8 * (k + 1)) from e.symm]
    exact ih (k + 1) (by omega) _
theorem c_number {n at' : Nat} (h : meR w a c r z) (hat : at' + n ≤ 512) (hn : n ≤ 4) (hq : Q (.inl (some (.long (lN (getN r (8 * at') (8 * n)))))) w nc ns) :
    Ev d m_Me_number 0 [some (.ref a), some (.int (nI at')), some (.int (nI n)), none, none, none] [] w nc ns Q :=
  t_Me_number_0 rfl (c_num_loop h hat hn hq none n 0 (by omega) none)
theorem c_value {at' : Nat} (h : meR w a c r z) (hat : at' + 4 ≤ 512) (hq : Q (.inl (some (.int (nI (getN r (8 * at') 32))))) w nc ns) :
    Ev (d + 1) m_Me_value 0 [some (.ref a), some (.int (nI at'))] [] w nc ns Q := by
  refine t_Me_value_0 h.1 (Nat.le_of_ble_eq_true rfl) (c_number (n := 4) h hat (by omega) ?_)
  refine t_Me_value_6 ?_
  rw [lN_i]
  exact hq
theorem c_check (hw : wk w) (h : meR w a c r z) (hz : 4 ≤ z) (hz2 : z ≤ 512) (hq : Q (.inl (some (.int (crcV r (z - 4))))) w nc ns) :
    Ev d m_Me_check 0 [some (.ref a), none, none] [] w nc ns Q := by
  obtain ⟨h1, ⟨f, h2, h3, h4⟩, h5⟩ := h
  have key : ∀ m k, k + m = z - 4 → Ev d m_Me_check 4 [some (.ref a), some (.int (crc r k)), some (.int (nI k))] [] w nc ns Q := by
    intro m
    induction m with
    | zero =>
      intro k hk
      refine t_Me_check_4 h1 rfl (fun _ => t_Me_check_59 ?_) (fun g => absurd ?_ g)
      · rw [show k = z - 4 by omega]; exact hq
      · rw [show (4 : Int32) = nI 4 from rfl, pk_sub hz]; exact nI_le (by omega) (by omega)
    | succ m ih =>
      intro k hk
      refine t_Me_check_4 h1 rfl (fun g => absurd (by rw [show (4 : Int32) = nI 4 from rfl, pk_sub hz] at g; exact (nI_leI (by omega) (by omega)).mp g) (by omega)) (fun _ => ?_)
      obtain ⟨j1, hj1, e1, e1'⟩ := cst_4 (crc r k ^^^ nI (r k))
      obtain ⟨j2, hj2, e2, e2'⟩ := cst_4 (cstN (crc r k ^^^ nI (r k)) 4)
      have ea : f (nI k).toNatClampNeg &&& 255 = nI (r k) := by rw [nI_clamp (by omega), h3 k (by omega), nB_255 (h4 k)]
      have ec : ∀ j, j < 16 → (nI j).toNatClampNeg = j := fun j hj => nI_clamp (by omega)
      have eb : qi_ushr (crc r k ^^^ nI (r k)) 4 ^^^ (fun j => qk_chk.getD j 0) ((crc r k ^^^ nI (r k)) &&& 15).toNatClampNeg = cstN (crc r k ^^^ nI (r k)) 4 := by
        rw [e1', e1, ec j1 hj1]
      refine t_Me_check_14 h1 rfl h2 (vp_in_nI (by omega) (by omega)) (by rw [hw.2]; exact fun x => by cases x) hw.2 ?_ ?_ ?_
      · rw [ea, e1]; exact vp_in_nI (by omega) (by omega)
      · rw [ea, eb, e2]; exact vp_in_nI (by omega) (by omega)
      · rw [ea, eb, nI_1]
        have : qi_ushr (cstN (crc r k ^^^ nI (r k)) 4) 4 ^^^ (fun j => qk_chk.getD j 0) (cstN (crc r k ^^^ nI (r k)) 4 &&& 15).toNatClampNeg = crc r (k + 1) := by
          rw [crc, cbyte_8 _ (h4 k), show 8 = 4 + 4 from rfl, cstN_add, e2', e2, ec j2 hj2]
        rw [this]
        exact ih (k + 1) (by omega)
  exact t_Me_check_0 rfl (key (z - 4) 0 (by omega))
theorem c_seal (hw : wk w) (h : meR w a c r z) (hz : 4 ≤ z) (hz2 : z ≤ 512) (hq : ∀ w', fr [c] w w' → meR w' a c (putR r (z - 4) 4 (vN (crcV r (z - 4)))) z → Q (.inl none) w' nc ns) :
    Ev (d + 1) m_Me_seal 0 [some (.ref a)] [] w nc ns Q := by
  refine t_Me_seal_0 h.1 rfl (Nat.le_of_ble_eq_true rfl) (c_check hw h hz hz2 ?_)
  refine t_Me_seal_12 h.1 (Nat.le_of_ble_eq_true rfl) ?_
  rw [show (4 : Int32) = nI 4 from rfl, pk_sub hz]
  exact c_put h (by omega) (by omega) (fun w' hf hm => t_Me_seal_15 (hq w' hf hm))
theorem c_isSealed (hw : wk w) (h : meR w a c r z) (hz : 4 ≤ z) (hz2 : z ≤ 512) (hq : Q (.inl (some (.int (b2i (decide (nI (getN r (8 * (z - 4)) 32) = crcV r (z - 4))))))) w nc ns) :
    Ev (d + 2) m_Me_isSealed 0 [some (.ref a)] [] w nc ns Q := by
  refine t_Me_isSealed_0 h.1 rfl (Nat.le_of_ble_eq_true rfl) ?_
  rw [show (4 : Int32) = nI 4 from rfl, pk_sub hz]
  refine c_value h (by omega) ?_
  refine t_Me_isSealed_10 h.1 (Nat.le_of_ble_eq_true rfl) (c_check hw h hz hz2 ?_)
  refine t_Me_isSealed_14 (fun g => t_Me_isSealed_21 ?_) (fun g => t_Me_isSealed_17 ?_)
  · rwa [decide_eq_false g] at hq
  · rwa [decide_eq_true g] at hq
theorem c_copy {a2 c2 z2 : Nat} {r2 : Nat → Nat} (h : meR w a c r z) (h2 : meR w a2 c2 r2 z2) (hz : z2 ≤ 512) (hne : a2 ≠ c) (hq : ∀ w', fr [c] w w' → meR w' a c (fun k => if k < z2 then r2 k else r k) z → Q (.inl none) w' nc ns) :
    Ev (d + 1) m_Me_copy 0 [some (.ref a), some (.ref a2)] [] w nc ns Q := by
  obtain ⟨h1, ⟨f, k2, k3, k4⟩, h5⟩ := h
  obtain ⟨g1, ⟨g, j2, j3, j4⟩, g5⟩ := h2
  have e0 : (0 : Int32).toNatClampNeg = 0 := rfl
  refine t_Me_copy_0 g1 rfl h1 rfl rfl j2 k2 (by decide) (by decide) (nI_pos (by omega)) (by rw [nI_clamp (by omega), e0]; omega) (by rw [nI_clamp (by omega), e0]; omega) (fun i hi => ?_) (Nat.le_of_ble_eq_true rfl) ?_
  · rw [nI_clamp (by omega)] at hi
    rw [e0, j3 _ (by omega)]
    exact pk_fb _
  · refine t_Me_copy_17 (hq _ (fr_set fr_refl (by simp)) ⟨wo_n h1 h5, ⟨_, wb_s k2.1, fun k hk => ?_, fun k => ?_⟩, h5⟩)
    · show _ = nB (if k < z2 then r2 k else r k)
      rw [nI_clamp (by omega), e0]
      by_cases hkz : k < z2
      · rw [pk_cpy_in (by omega) (by omega), if_pos hkz, show 0 + (k - 0) = k by omega, j3 k hk]
      · rw [pk_cpy_out (by omega), if_neg hkz, k3 k hk]
    · show (if k < z2 then r2 k else r k) < 256
      split
      · exact j4 k
      · exact k4 k
theorem c_Me_init {v0 : Value} (c : Nat) (h : wo w a 8 [v0, .int 0]) (hb : 16 ≤ c) (hn : w c = none) (hq : ∀ w', fr [a, c] w w' → meR w' a c (fun _ => 0) 0 → Q (.inl none) w' (nc + 1) (ns + 512)) :
    Ev (d + 1) m_Me_init 0 [some (.ref a)] [] w nc ns Q := by
  have hne : a ≠ c := fun e => by rw [e] at h; rw [h.2] at hn; cases hn
  refine t_Me_init_0 (Nat.le_of_ble_eq_true rfl) ?_
  refine t_Me_init_4 rfl c hb hn ?_
  refine t_Me_init_10 rfl (wo_n h hne) (Nat.le_of_ble_eq_true rfl) (qk_fitA _ _) ?_
  exact t_Me_init_13 (hq _ (fr_set (fr_set fr_refl (by simp)) (by simp)) ⟨wo_s h.1, ⟨fun _ => 0, wb_n (wb_s hb) (Ne.symm hne), fun k _ => (by decide : (0 : Int32) = nB 0), fun _ => (by decide : 0 < 256)⟩, hne⟩)
end MeC
