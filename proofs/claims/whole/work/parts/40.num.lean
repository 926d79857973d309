/-! ===== numbers: Int32 by bits and by naturals (the bt family is the kit's BITS text) ===== -/
def bt (x : Int32) (i : Nat) : Bool := x.toBitVec.getLsbD i
theorem b_ext {x y : Int32} (h : ∀ i, i < 32 → bt x i = bt y i) : x = y := Int32.toBitVec_inj.mp (BitVec.eq_of_getLsbD_eq (fun i hi => h i hi))
theorem b_or (x y : Int32) (i : Nat) : bt (x ||| y) i = (bt x i || bt y i) := by unfold bt; rw [Int32.toBitVec_or, BitVec.getLsbD_or]
theorem b_and (x y : Int32) (i : Nat) : bt (x &&& y) i = (bt x i && bt y i) := by unfold bt; rw [Int32.toBitVec_and, BitVec.getLsbD_and]
theorem b_xor (x y : Int32) (i : Nat) : bt (x ^^^ y) i = (bt x i ^^ bt y i) := by unfold bt; rw [Int32.toBitVec_xor, BitVec.getLsbD_xor]
theorem b_big {x : Int32} {i : Nat} (h : 32 ≤ i) : bt x i = false := BitVec.getLsbD_of_ge _ _ h
theorem b_255 (i : Nat) : bt 255 i = decide (i < 8) := by
  rcases Nat.lt_or_ge i 32 with h | h
  · exact (by decide +kernel : ∀ i, i < 32 → bt 255 i = decide (i < 8)) i h
  · rw [b_big h, decide_eq_false (by omega)]
theorem b_65535 (i : Nat) : bt 65535 i = decide (i < 16) := by
  rcases Nat.lt_or_ge i 32 with h | h
  · exact (by decide +kernel : ∀ i, i < 32 → bt 65535 i = decide (i < 16)) i h
  · rw [b_big h, decide_eq_false (by omega)]
theorem b_m1 : ∀ i, i < 32 → bt (-1) i = true := by decide +kernel
theorem b_0 (i : Nat) : bt 0 i = false := BitVec.getLsbD_zero
theorem s_l : ∀ n, n < 32 → ((nI n &&& 31).toBitVec.smod 32).toNat = n := by decide +kernel
theorem s_u : ∀ n, n < 32 → (((nI n).toUInt32 &&& Int32.toUInt32 31).toBitVec % 32).toNat = n := by decide +kernel
theorem b_shl (n : Nat) (hn : n < 32) (x : Int32) {i : Nat} (hi : i < 32) : bt (x <<< (nI n &&& 31)) i = (decide (n ≤ i) && bt x (i - n)) := by
  unfold bt
  rw [Int32.toBitVec_shiftLeft]
  show (x.toBitVec <<< ((nI n &&& 31).toBitVec.smod 32).toNat).getLsbD i = _
  rw [s_l n hn, BitVec.getLsbD_shiftLeft]
  rcases Nat.lt_or_ge i n with h | h
  · simp [h, Nat.not_le.mpr h]
  · simp [hi, h, Nat.not_lt.mpr h]
theorem b_ushr (n : Nat) (hn : n < 32) (x : Int32) (i : Nat) : bt ((x.toUInt32 >>> ((nI n).toUInt32 &&& Int32.toUInt32 31)).toInt32) i = bt x (n + i) := by
  show (x.toUInt32 >>> ((nI n).toUInt32 &&& Int32.toUInt32 31)).toBitVec.getLsbD i = x.toUInt32.toBitVec.getLsbD (n + i)
  rw [UInt32.toBitVec_shiftRight]
  show (x.toUInt32.toBitVec >>> (((nI n).toUInt32 &&& Int32.toUInt32 31).toBitVec % 32).toNat).getLsbD i = _
  rw [s_u n hn, BitVec.getLsbD_ushiftRight]
theorem b_sshr (n : Nat) (hn : n < 32) (x : Int32) {i : Nat} (hi : i < 32) : bt (x >>> (nI n &&& 31)) i = if n + i < 32 then bt x (n + i) else bt x 31 := by
  unfold bt
  rw [Int32.toBitVec_shiftRight]
  show (x.toBitVec.sshiftRight ((nI n &&& 31).toBitVec.smod 32).toNat).getLsbD i = _
  rw [s_l n hn, BitVec.getLsbD_sshiftRight, BitVec.msb_eq_getLsbD_last]
  simp [hi]
theorem b_shl8 (x : Int32) {i : Nat} (hi : i < 32) : bt (x <<< ((8 : Int32) &&& 31)) i = (decide (8 ≤ i) && bt x (i - 8)) := b_shl 8 (by omega) x hi
theorem b_shl16 (x : Int32) {i : Nat} (hi : i < 32) : bt (x <<< ((16 : Int32) &&& 31)) i = (decide (16 ≤ i) && bt x (i - 16)) := b_shl 16 (by omega) x hi
theorem b_shl24 (x : Int32) {i : Nat} (hi : i < 32) : bt (x <<< ((24 : Int32) &&& 31)) i = (decide (24 ≤ i) && bt x (i - 24)) := b_shl 24 (by omega) x hi
theorem b_sshr8 (x : Int32) {i : Nat} (hi : i < 32) : bt (x >>> ((8 : Int32) &&& 31)) i = if 8 + i < 32 then bt x (8 + i) else bt x 31 := b_sshr 8 (by omega) x hi
theorem nx_and (a b : Nat) : nI a &&& nI b = nI (a &&& b) := by
  apply Int32.toBitVec_inj.1
  show BitVec.ofNat 32 a &&& BitVec.ofNat 32 b = BitVec.ofNat 32 (a &&& b)
  apply BitVec.eq_of_getLsbD_eq
  intro i hi
  simp [hi]
theorem nx_xor (a b : Nat) : nI a ^^^ nI b = nI (a ^^^ b) := by
  apply Int32.toBitVec_inj.1
  show BitVec.ofNat 32 a ^^^ BitVec.ofNat 32 b = BitVec.ofNat 32 (a ^^^ b)
  apply BitVec.eq_of_getLsbD_eq
  intro i hi
  simp [hi]
theorem wb_of32 (x : Int32) : ∃ n, n < 2 ^ 32 ∧ x = nI n := ⟨x.toBitVec.toNat, x.toBitVec.isLt, Int32.toBitVec_inj.mp (by show x.toBitVec = BitVec.ofNat 32 x.toBitVec.toNat; simp)⟩
theorem bt_nI (n : Nat) {i : Nat} (hi : i < 32) : bt (nI n) i = n.testBit i := by
  show (BitVec.ofNat 32 n).getLsbD i = _
  rw [BitVec.getLsbD_ofNat]
  simp [hi]
theorem bt_1 (i : Nat) : bt 1 i = decide (i = 0) := by
  rcases Nat.lt_or_ge i 32 with h | h
  · exact (by decide +kernel : ∀ i, i < 32 → bt 1 i = decide (i = 0)) i h
  · rw [b_big h, decide_eq_false (by omega)]
theorem bt_not (x : Int32) {i : Nat} (hi : i < 32) : bt (x ^^^ (-1)) i = !bt x i := by rw [b_xor, b_m1 i hi]; simp
theorem q_ushr (x : Int32) {n : Nat} (hn : n < 32) (i : Nat) : bt (qi_ushr x (nI n)) i = bt x (n + i) := b_ushr n hn x i
theorem q_shl (x : Int32) {n : Nat} (hn : n < 32) {i : Nat} (hi : i < 32) : bt (qi_shl x (nI n)) i = (decide (n ≤ i) && bt x (i - n)) := b_shl n hn x hi
theorem q_and1 (x : Int32) : (x &&& 1) = 1 ↔ bt x 0 = true := by
  constructor
  · intro h
    have h1 := congrArg (fun z => bt z 0) h
    simp only [b_and, bt_1] at h1
    simpa using h1
  · intro h
    apply b_ext
    intro i hi
    rw [b_and, bt_1]
    by_cases h0 : i = 0
    · subst h0; simp [h]
    · simp [h0]
theorem q_bit (x : Int32) {k : Nat} (hk : k < 32) : (qi_ushr x (nI k) &&& 1) = 1 ↔ bt x k = true := by
  rw [q_and1, q_ushr x hk]
  rfl
theorem q_shr5 {n : Nat} (h : n < 2 ^ 31) : qi_shr (nI n) 5 = nI (n / 32) := pk_shrN h _ 5 (by decide)
theorem q_and31 {n : Nat} (h : n < 2 ^ 32) : nI n &&& 31 = nI (n % 32) := pk_andN h 5 (by decide)
theorem q_mul32 (n : Nat) : nI n * 32 = nI (n * 32) := pk_mul n 32
/-- small constants as nI -/
theorem nI_lit (n : Nat) : nI n = Int32.ofNat n := rfl
/-! population count -/
theorem and2 {a h m k : Nat} (ha : a < 256) (hm : m < 256) : (a + 256 * h) &&& (m + 256 * k) = (a &&& m) + 256 * (h &&& k) := by
  have e1 : a + 256 * h = 2 ^ 8 * h + a := by omega
  have e2 : m + 256 * k = 2 ^ 8 * k + m := by omega
  have e3 : (a &&& m) + 256 * (h &&& k) = 2 ^ 8 * (h &&& k) + (a &&& m) := by omega
  have hlt : (a &&& m) < 2 ^ 8 := Nat.and_lt_two_pow _ (by omega)
  rw [e1, e2, e3]
  apply Nat.eq_of_testBit_eq
  intro i
  rw [Nat.testBit_and, Nat.testBit_two_pow_mul_add _ (by omega), Nat.testBit_two_pow_mul_add _ (by omega), Nat.testBit_two_pow_mul_add _ hlt]
  split <;> simp [Nat.testBit_and]
theorem and4 {a0 a1 a2 a3 m0 m1 m2 m3 : Nat} (h0 : a0 < 256) (h1 : a1 < 256) (h2 : a2 < 256) (g0 : m0 < 256) (g1 : m1 < 256) (g2 : m2 < 256) :
    (a0 + 256 * (a1 + 256 * (a2 + 256 * a3))) &&& (m0 + 256 * (m1 + 256 * (m2 + 256 * m3))) = (a0 &&& m0) + 256 * ((a1 &&& m1) + 256 * ((a2 &&& m2) + 256 * (a3 &&& m3))) := by
  rw [and2 h0 g0, and2 h1 g1, and2 h2 g2]
def pcb (b : Nat) : Nat := (List.range 8).foldl (fun s i => s + (b / 2 ^ i) % 2) 0
theorem pc_a : ∀ b, b < 256 → ∀ c, c < 2 → (b / 2 + 128 * c) &&& 85 = (b / 2) &&& 85 ∧ (b / 2) &&& 85 ≤ b := by decide +kernel
theorem pc_b : ∀ b, b < 256 → ∀ c, c < 4 → (b / 4 + 64 * c) &&& 51 = (b / 4) &&& 51 := by decide +kernel
theorem pc_c : ∀ b, b < 256 → (((b - ((b / 2) &&& 85)) &&& 51) + (((b - ((b / 2) &&& 85)) / 4) &&& 51)) % 16 ≤ 4 ∧ (((b - ((b / 2) &&& 85)) &&& 51) + (((b - ((b / 2) &&& 85)) / 4) &&& 51)) ≤ 68 := by decide +kernel
theorem pc_d : ∀ b, b ≤ 68 → ∀ c, c < 5 → b % 16 ≤ 4 → (b + b / 16 + 16 * c) &&& 15 = b % 16 + b / 16 := by decide +kernel
theorem pc_e : ∀ b, b < 256 → (fun z => z % 16 + z / 16) (((b - ((b / 2) &&& 85)) &&& 51) + (((b - ((b / 2) &&& 85)) / 4) &&& 51)) = pcb b := by decide +kernel
theorem pcb_le : ∀ b, b < 256 → pcb b ≤ 8 := by decide +kernel
theorem pc_1 {b0 b1 b2 b3 : Nat} (h0 : b0 < 256) (h1 : b1 < 256) (h2 : b2 < 256) (h3 : b3 < 256) :
    (b0 + 256 * (b1 + 256 * (b2 + 256 * b3))) - (((b0 + 256 * (b1 + 256 * (b2 + 256 * b3))) / 2) &&& 1431655765) = (b0 - ((b0 / 2) &&& 85)) + 256 * ((b1 - ((b1 / 2) &&& 85)) + 256 * ((b2 - ((b2 / 2) &&& 85)) + 256 * (b3 - ((b3 / 2) &&& 85)))) := by
  have e1 : (b0 + 256 * (b1 + 256 * (b2 + 256 * b3))) / 2 = (b0 / 2 + 128 * (b1 % 2)) + 256 * ((b1 / 2 + 128 * (b2 % 2)) + 256 * ((b2 / 2 + 128 * (b3 % 2)) + 256 * (b3 / 2 + 128 * 0))) := by omega
  have e2 : (1431655765 : Nat) = 85 + 256 * (85 + 256 * (85 + 256 * 85)) := by decide
  rw [e1, e2, and4 (by omega) (by omega) (by omega) (by omega) (by omega) (by omega), (pc_a b0 h0 _ (Nat.mod_lt _ (by omega))).1, (pc_a b1 h1 _ (Nat.mod_lt _ (by omega))).1, (pc_a b2 h2 _ (Nat.mod_lt _ (by omega))).1, (pc_a b3 h3 0 (by omega)).1]
  have g0 := (pc_a b0 h0 0 (by omega)).2
  have g1 := (pc_a b1 h1 0 (by omega)).2
  have g2 := (pc_a b2 h2 0 (by omega)).2
  have g3 := (pc_a b3 h3 0 (by omega)).2
  generalize (b0 / 2) &&& 85 = y0 at *
  generalize (b1 / 2) &&& 85 = y1 at *
  generalize (b2 / 2) &&& 85 = y2 at *
  generalize (b3 / 2) &&& 85 = y3 at *
  omega
theorem pc_2 {b0 b1 b2 b3 : Nat} (h0 : b0 < 256) (h1 : b1 < 256) (h2 : b2 < 256) (h3 : b3 < 256) :
    ((b0 + 256 * (b1 + 256 * (b2 + 256 * b3))) &&& 858993459) + (((b0 + 256 * (b1 + 256 * (b2 + 256 * b3))) / 4) &&& 858993459) = ((b0 &&& 51) + ((b0 / 4) &&& 51)) + 256 * (((b1 &&& 51) + ((b1 / 4) &&& 51)) + 256 * (((b2 &&& 51) + ((b2 / 4) &&& 51)) + 256 * ((b3 &&& 51) + ((b3 / 4) &&& 51)))) := by
  have e1 : (b0 + 256 * (b1 + 256 * (b2 + 256 * b3))) / 4 = (b0 / 4 + 64 * (b1 % 4)) + 256 * ((b1 / 4 + 64 * (b2 % 4)) + 256 * ((b2 / 4 + 64 * (b3 % 4)) + 256 * (b3 / 4 + 64 * 0))) := by omega
  have e2 : (858993459 : Nat) = 51 + 256 * (51 + 256 * (51 + 256 * 51)) := by decide
  rw [e1, e2, and4 (by omega) (by omega) (by omega) (by omega) (by omega) (by omega), and4 (by omega) (by omega) (by omega) (by omega) (by omega) (by omega), pc_b b0 h0 _ (Nat.mod_lt _ (by omega)), pc_b b1 h1 _ (Nat.mod_lt _ (by omega)), pc_b b2 h2 _ (Nat.mod_lt _ (by omega)), pc_b b3 h3 0 (by omega)]
  omega
theorem pc_3 {b0 b1 b2 b3 : Nat} (h0 : b0 ≤ 68) (h1 : b1 ≤ 68) (h2 : b2 ≤ 68) (h3 : b3 ≤ 68) (g0 : b0 % 16 ≤ 4) (g1 : b1 % 16 ≤ 4) (g2 : b2 % 16 ≤ 4) (g3 : b3 % 16 ≤ 4) :
    (((b0 + 256 * (b1 + 256 * (b2 + 256 * b3))) + (b0 + 256 * (b1 + 256 * (b2 + 256 * b3))) / 16) &&& 252645135) = (b0 % 16 + b0 / 16) + 256 * ((b1 % 16 + b1 / 16) + 256 * ((b2 % 16 + b2 / 16) + 256 * (b3 % 16 + b3 / 16))) := by
  have e1 : (b0 + 256 * (b1 + 256 * (b2 + 256 * b3))) + (b0 + 256 * (b1 + 256 * (b2 + 256 * b3))) / 16 = (b0 + b0 / 16 + 16 * (b1 % 16)) + 256 * ((b1 + b1 / 16 + 16 * (b2 % 16)) + 256 * ((b2 + b2 / 16 + 16 * (b3 % 16)) + 256 * (b3 + b3 / 16 + 16 * 0))) := by omega
  have e2 : (252645135 : Nat) = 15 + 256 * (15 + 256 * (15 + 256 * 15)) := by decide
  rw [e1, e2, and4 (by omega) (by omega) (by omega) (by omega) (by omega) (by omega), pc_d b0 h0 _ (by omega) g0, pc_d b1 h1 _ (by omega) g1, pc_d b2 h2 _ (by omega) g2, pc_d b3 h3 0 (by omega) g3]
theorem pc_fin {p0 p1 p2 p3 n3 : Nat} (h0 : p0 ≤ 8) (h1 : p1 ≤ 8) (h2 : p2 ≤ 8) (h3 : p3 ≤ 8) (h : n3 = p0 + 256 * (p1 + 256 * (p2 + 256 * p3))) : (n3 + n3 / 256 + (n3 + n3 / 256) / 65536) % 64 = p0 + p1 + p2 + p3 := by
  have e1 : n3 / 256 = p1 + 256 * (p2 + 256 * p3) := by omega
  have e2 : (n3 + n3 / 256) / 65536 = (p2 + p3) + 256 * p3 := by omega
  rw [e2, e1, h]
  omega
def pcN (n : Nat) : Nat := pcb (n % 256) + pcb (n / 256 % 256) + pcb (n / 65536 % 256) + pcb (n / 16777216 % 256)
def bcf (x0 : Int32) : Int32 := ((((((((x0 - ((qi_ushr x0 1) &&& 1431655765)) &&& 858993459) + ((qi_ushr (x0 - ((qi_ushr x0 1) &&& 1431655765)) 2) &&& 858993459)) + (qi_ushr (((x0 - ((qi_ushr x0 1) &&& 1431655765)) &&& 858993459) + ((qi_ushr (x0 - ((qi_ushr x0 1) &&& 1431655765)) 2) &&& 858993459)) 4)) &&& 252645135) + (qi_ushr (((((x0 - ((qi_ushr x0 1) &&& 1431655765)) &&& 858993459) + ((qi_ushr (x0 - ((qi_ushr x0 1) &&& 1431655765)) 2) &&& 858993459)) + (qi_ushr (((x0 - ((qi_ushr x0 1) &&& 1431655765)) &&& 858993459) + ((qi_ushr (x0 - ((qi_ushr x0 1) &&& 1431655765)) 2) &&& 858993459)) 4)) &&& 252645135) 8)) + (qi_ushr ((((((x0 - ((qi_ushr x0 1) &&& 1431655765)) &&& 858993459) + ((qi_ushr (x0 - ((qi_ushr x0 1) &&& 1431655765)) 2) &&& 858993459)) + (qi_ushr (((x0 - ((qi_ushr x0 1) &&& 1431655765)) &&& 858993459) + ((qi_ushr (x0 - ((qi_ushr x0 1) &&& 1431655765)) 2) &&& 858993459)) 4)) &&& 252645135) + (qi_ushr (((((x0 - ((qi_ushr x0 1) &&& 1431655765)) &&& 858993459) + ((qi_ushr (x0 - ((qi_ushr x0 1) &&& 1431655765)) 2) &&& 858993459)) + (qi_ushr (((x0 - ((qi_ushr x0 1) &&& 1431655765)) &&& 858993459) + ((qi_ushr (x0 - ((qi_ushr x0 1) &&& 1431655765)) 2) &&& 858993459)) 4)) &&& 252645135) 8)) 16)) &&& 63)
theorem bcf_nI {n : Nat} (hn : n < 2 ^ 32) : bcf (nI n) = nI (pcN n) := by
  have us : ∀ (m k : Nat) (s : Int32), m < 2 ^ 32 → ((s.toUInt32 &&& Int32.toUInt32 31).toBitVec % 32).toNat = k → qi_ushr (nI m) s = nI (m / 2 ^ k) := fun m k s h hs => pk_ushrN h s k hs
  have an : ∀ (m k : Nat), nI m &&& nI k = nI (m &&& k) := nx_and
  have h0 : n % 256 < 256 := by omega
  have h1 : n / 256 % 256 < 256 := by omega
  have h2 : n / 65536 % 256 < 256 := by omega
  have h3 : n / 16777216 % 256 < 256 := by omega
  have hN : n = n % 256 + 256 * (n / 256 % 256 + 256 * (n / 65536 % 256 + 256 * (n / 16777216 % 256))) := by omega
  unfold pcN
  generalize n % 256 = b0 at *
  generalize n / 256 % 256 = b1 at *
  generalize n / 65536 % 256 = b2 at *
  generalize n / 16777216 % 256 = b3 at *
  have c1 := pc_1 h0 h1 h2 h3
  rw [← hN] at c1
  have hle : (n / 2) &&& 1431655765 ≤ n := Nat.le_trans Nat.and_le_left (by omega)
  have s1 : nI n - (qi_ushr (nI n) 1 &&& 1431655765) = nI (n - ((n / 2) &&& 1431655765)) := by
    rw [us n 1 1 hn (by decide), show (1431655765 : Int32) = nI 1431655765 from rfl, an, pk_sub (by simpa using hle)]
  have l0 := pc_c b0 h0
  have l1 := pc_c b1 h1
  have l2 := pc_c b2 h2
  have l3 := pc_c b3 h3
  have d0 := pc_e b0 h0
  have d1 := pc_e b1 h1
  have d2 := pc_e b2 h2
  have d3 := pc_e b3 h3
  have p0 := pcb_le b0 h0
  have p1 := pcb_le b1 h1
  have p2 := pcb_le b2 h2
  have p3 := pcb_le b3 h3
  have q0 : b0 - ((b0 / 2) &&& 85) < 256 := by omega
  have q1 : b1 - ((b1 / 2) &&& 85) < 256 := by omega
  have q2 : b2 - ((b2 / 2) &&& 85) < 256 := by omega
  have q3 : b3 - ((b3 / 2) &&& 85) < 256 := by omega
  generalize b0 - ((b0 / 2) &&& 85) = e0 at *
  generalize b1 - ((b1 / 2) &&& 85) = e1 at *
  generalize b2 - ((b2 / 2) &&& 85) = e2 at *
  generalize b3 - ((b3 / 2) &&& 85) = e3 at *
  generalize n - ((n / 2) &&& 1431655765) = n1 at *
  have c2 := pc_2 q0 q1 q2 q3
  rw [← c1] at c2
  have s2 : (nI n1 &&& 858993459) + (qi_ushr (nI n1) 2 &&& 858993459) = nI ((n1 &&& 858993459) + ((n1 / 4) &&& 858993459)) := by
    rw [us n1 2 2 (by omega) (by decide), show (858993459 : Int32) = nI 858993459 from rfl, an, an, nI_add]
  generalize (e0 &&& 51) + ((e0 / 4) &&& 51) = f0 at *
  generalize (e1 &&& 51) + ((e1 / 4) &&& 51) = f1 at *
  generalize (e2 &&& 51) + ((e2 / 4) &&& 51) = f2 at *
  generalize (e3 &&& 51) + ((e3 / 4) &&& 51) = f3 at *
  generalize (n1 &&& 858993459) + ((n1 / 4) &&& 858993459) = n2 at *
  have c3 := pc_3 l0.2 l1.2 l2.2 l3.2 l0.1 l1.1 l2.1 l3.1
  rw [← c2] at c3
  have s3 : (nI n2 + qi_ushr (nI n2) 4) &&& 252645135 = nI ((n2 + n2 / 16) &&& 252645135) := by
    rw [us n2 4 4 (by omega) (by decide), show (252645135 : Int32) = nI 252645135 from rfl, nI_add, an]
  simp only at d0 d1 d2 d3
  rw [d0, d1, d2, d3] at c3
  generalize (n2 + n2 / 16) &&& 252645135 = n3 at *
  unfold bcf
  rw [s1, s2, s3, us n3 8 8 (by omega) (by decide), nI_add]
  have e4 : n3 + n3 / 2 ^ 8 < 2 ^ 32 := by omega
  rw [us _ 16 16 e4 (by decide), nI_add, show (63 : Int32) = nI 63 from rfl, an]
  have e5 : ((n3 + n3 / 2 ^ 8 + (n3 + n3 / 2 ^ 8) / 2 ^ 16) &&& 63) = (n3 + n3 / 2 ^ 8 + (n3 + n3 / 2 ^ 8) / 2 ^ 16) % 64 := Nat.and_two_pow_sub_one_eq_mod _ 6
  rw [e5]
  exact congrArg nI (pc_fin p0 p1 p2 p3 c3)
/-! counting -/
def cnt (P : Nat → Bool) : Nat → Nat
  | 0 => 0
  | n + 1 => cnt P n + (if P n then 1 else 0)
theorem cnt_add (P : Nat → Bool) (a b : Nat) : cnt P (a + b) = cnt P a + cnt (fun i => P (a + i)) b := by
  induction b with
  | zero => rfl
  | succ b ih => rw [← Nat.add_assoc, cnt, cnt, ih]; omega
theorem cnt_congr {P R : Nat → Bool} {n : Nat} (h : ∀ i, i < n → P i = R i) : cnt P n = cnt R n := by
  induction n with
  | zero => rfl
  | succ n ih => rw [cnt, cnt, ih (fun i hi => h i (by omega)), h n (by omega)]
theorem cnt_le (P : Nat → Bool) (n : Nat) : cnt P n ≤ n := by
  induction n with
  | zero => exact Nat.le_refl _
  | succ n ih => rw [cnt]; split <;> omega
theorem pcb_cnt : ∀ b, b < 256 → pcb b = cnt (fun i => b.testBit i) 8 := by decide +kernel
theorem tb_byte (n j i : Nat) (hi : i < 8) : (n / 2 ^ (8 * j) % 256).testBit i = n.testBit (8 * j + i) := by
  rw [show (256 : Nat) = 2 ^ 8 from rfl, Nat.testBit_mod_two_pow, Nat.testBit_div_two_pow]
  simp [hi, Nat.add_comm]
theorem pcN_cnt {n : Nat} : pcN n = cnt (fun i => n.testBit i) 32 := by
  have h : ∀ j, pcb (n / 2 ^ (8 * j) % 256) = cnt (fun i => n.testBit (8 * j + i)) 8 := by
    intro j
    rw [pcb_cnt _ (Nat.mod_lt _ (by omega))]
    exact cnt_congr (fun i hi => tb_byte n j i hi)
  have e0 := h 0
  have e1 := h 1
  have e2 := h 2
  have e3 := h 3
  simp only [Nat.mul_zero, Nat.pow_zero, Nat.div_one, Nat.zero_add] at e0
  unfold pcN
  rw [e0, show n / 256 = n / 2 ^ (8 * 1) from rfl, show n / 65536 = n / 2 ^ (8 * 2) from rfl, show n / 16777216 = n / 2 ^ (8 * 3) from rfl, e1, e2, e3]
  rw [show (32 : Nat) = 8 + (8 + (8 + 8)) from rfl, cnt_add, cnt_add, cnt_add]
  simp only [Nat.add_assoc]
  rfl
theorem bcf_cnt (x : Int32) : bcf x = nI (cnt (bt x) 32) := by
  obtain ⟨n, hn, rfl⟩ := wb_of32 x
  rw [bcf_nI hn, pcN_cnt, cnt_congr (fun i hi => (bt_nI n hi).symm)]
/-! the lowest bit -/
theorem low_bit {x : Int32} {k : Nat} (hk : k < 32) (h1 : bt x k = true) (h0 : ∀ j, j < k → bt x j = false) {i : Nat} (hi : i < 32) : bt (x &&& -x) i = decide (i = k) := by
  have hneg : bt (-x) i = (bt x i ^^ decide (∃ j < i, bt x j = true)) := by
    show (-x).toBitVec.getLsbD i = _
    rw [Int32.toBitVec_neg, BitVec.getLsbD_neg]
    simp only [hi, decide_true, Bool.true_and, bt]
    congr 1
  rw [b_and, hneg]
  rcases Nat.lt_trichotomy i k with h | h | h
  · simp [h0 i h, show ¬ i = k by omega]
  · subst h
    have : ¬ ∃ j < i, bt x j = true := fun ⟨j, hj, hb⟩ => by rw [h0 j hj] at hb; cases hb
    simp [h1, this]
  · have : ∃ j < i, bt x j = true := ⟨k, h, h1⟩
    rw [decide_eq_false (show ¬ i = k by omega)]
    simp [this]
theorem low_tab : ∀ k, k < 32 → ∀ i, i < 32 → bt (Int32.ofBitVec (BitVec.twoPow 32 k)) i = decide (i = k) := by decide +kernel
theorem low_cnt : ∀ k, k < 32 → bcf (Int32.ofBitVec (BitVec.twoPow 32 k) - 1) = nI k := by decide +kernel
theorem low_ix {x : Int32} {k : Nat} (hk : k < 32) (h1 : bt x k = true) (h0 : ∀ j, j < k → bt x j = false) : bcf ((x &&& (-x)) - 1) = nI k := by
  have : x &&& (-x) = Int32.ofBitVec (BitVec.twoPow 32 k) := b_ext (fun i hi => by rw [low_bit hk h1 h0 hi, low_tab k hk i hi])
  rw [this, low_cnt k hk]
theorem low_ex {x : Int32} (h : ¬ x = 0) : ∃ k, k < 32 ∧ bt x k = true ∧ ∀ j, j < k → bt x j = false := by
  have h1 : ∃ k, k < 32 ∧ bt x k = true := by
    apply Classical.byContradiction
    intro hn
    apply h
    apply b_ext
    intro i hi
    rw [b_0]
    cases hb : bt x i with
    | false => rfl
    | true => exact absurd ⟨i, hi, hb⟩ hn
  obtain ⟨k, ⟨hk, hb⟩, hmin⟩ := pk_least (fun k => k < 32 ∧ bt x k = true) h1
  refine ⟨k, hk, hb, fun j hj => ?_⟩
  cases hx : bt x j with
  | false => rfl
  | true => exact absurd ⟨by omega, hx⟩ (hmin j hj)
/-! Math -/
def imin (x y : Int32) : Int32 := if y < x then y else x
def imax (x y : Int32) : Int32 := if x < y then y else x
section MathC
variable {d : Nat} {w : qk_W} {nc ns : Nat} {Q : Option Value ⊕ Nat → qk_W → Nat → Nat → Prop}
theorem c_min {x y : Int32} (hq : Q (.inl (some (.int (imin x y)))) w nc ns) : Ev d m_Math_min_III 0 [some (.int x), some (.int y)] [] w nc ns Q := by
  refine t_Math_min_III_0 (fun h => t_Math_min_III_9 ?_) (fun h => t_Math_min_III_5 ?_)
  · rwa [imin, if_pos h] at hq
  · rwa [imin, if_neg h] at hq
theorem c_max {x y : Int32} (hq : Q (.inl (some (.int (imax x y)))) w nc ns) : Ev d m_Math_max 0 [some (.int x), some (.int y)] [] w nc ns Q := by
  refine t_Math_max_0 (fun h => t_Math_max_9 ?_) (fun h => t_Math_max_5 ?_)
  · rwa [imax, if_pos h] at hq
  · rwa [imax, if_neg h] at hq
theorem c_bitCount {x : Int32} (hq : Q (.inl (some (.int (bcf x)))) w nc ns) : Ev d m_Int_bitCount 0 [some (.int x)] [] w nc ns Q := t_Int_bitCount_0 hq
theorem c_minJ {x y : Int64} (hq : Q (.inl (some (.long (if y < x then y else x)))) w nc ns) : Ev d m_Math_min_JJJ 0 [some (.long x), none, some (.long y), none] [] w nc ns Q := by
  have h0 : (0 : Int32) < lg_cmp x y ↔ y < x := by
    unfold lg_cmp
    split
    · rename_i h; exact ⟨fun _ => h, fun _ => by decide⟩
    · rename_i h
      split
      · exact ⟨fun h1 => absurd h1 (by decide), fun h1 => absurd h1 h⟩
      · exact ⟨fun h1 => absurd h1 (by decide), fun h1 => absurd h1 h⟩
  refine t_Math_min_JJJ_0 (fun h => t_Math_min_JJJ_10 ?_) (fun h => t_Math_min_JJJ_6 ?_)
  · rwa [if_pos (h0.mp h)] at hq
  · rwa [if_neg (fun h1 => h (h0.mpr h1))] at hq
end MathC
theorem imin_nI {a b : Nat} (ha : a < 2 ^ 31) (hb : b < 2 ^ 31) : imin (nI a) (nI b) = nI (min a b) := by
  unfold imin
  by_cases h : b < a
  · rw [if_pos ((nI_ltI hb ha).mpr h), Nat.min_eq_right (by omega)]
  · rw [if_neg (fun g => h ((nI_ltI hb ha).mp g)), Nat.min_eq_left (by omega)]
theorem imax_nI {a b : Nat} (ha : a < 2 ^ 31) (hb : b < 2 ^ 31) : imax (nI a) (nI b) = nI (max a b) := by
  unfold imax
  by_cases h : a < b
  · rw [if_pos ((nI_ltI ha hb).mpr h), Nat.max_eq_right (by omega)]
  · rw [if_neg (fun g => h ((nI_ltI ha hb).mp g)), Nat.max_eq_left (by omega)]
